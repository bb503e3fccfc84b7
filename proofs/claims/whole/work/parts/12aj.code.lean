/-! ShutterTownModel.town()I at (26,) -/
def f_X8_town_156 (F : Nat)  (g : am_G) : Option (Int32 × am_G) :=
  some ((am_u (am_u (am_u (am_u g 32 (Int32.toNatClampNeg (12 : Int32)) (0 : Int32)) 26 17 (0 : Int32)) 41 (Int32.toNatClampNeg (0 : Int32)) (vp_nar .boolean (0 : Int32))) 41 (Int32.toNatClampNeg (1 : Int32)) (vp_nar .boolean (0 : Int32))) 26 0, am_u (am_u (am_u (am_u g 32 (Int32.toNatClampNeg (12 : Int32)) (0 : Int32)) 26 17 (0 : Int32)) 41 (Int32.toNatClampNeg (0 : Int32)) (vp_nar .boolean (0 : Int32))) 41 (Int32.toNatClampNeg (1 : Int32)) (vp_nar .boolean (0 : Int32)))
set_option maxRecDepth 20000 in
theorem B_X8_town_156 (x : am_X) (C0 : am_Cm x 8 cX8_town 2 (some .int)) (hR : am_R x = rm_X8_town) (w : am_J) (F : Nat) (R : Int32 × am_G)   (g : am_G) (hf : f_X8_town_156 F g = some R) : am_Ev x 2 (0, 0) (am_Q x (0, 0) (some (.int R.1)) am_YY (R.2) w) 156 [some (.ref 26), none] [] am_YY g w := by
  unfold f_X8_town_156 at hf
  refine am_b1 C0 am_YYk (pc := 156) (pc2 := 187) [(.aload_n 0, 0, 0, .null), (.getfield 25, 8, 7, .null), (.bipush 12, 0, 0, .int 12), (.iconst 0, 0, 0, .int 0), (.iastore, 0, 0, .null), (.aload_n 0, 0, 0, .null), (.iconst 0, 0, 0, .int 0), (.putfield 114, 8, 17, .null), (.aload_n 0, 0, 0, .null), (.getfield 53, 8, 29, .null), (.iconst 0, 0, 0, .int 0), (.iconst 0, 0, 0, .int 0), (.bastore, 0, 0, .null), (.aload_n 0, 0, 0, .null), (.getfield 53, 8, 29, .null), (.iconst 1, 0, 0, .int 1), (.iconst 0, 0, 0, .int 0), (.bastore, 0, 0, .null), (.aload_n 0, 0, 0, .null), (.getfield 111, 8, 0, .null)] (L := [some (.ref 26), none]) (st := []) (L' := [some (.ref 26), none]) (st' := [.int ((am_u (am_u (am_u (am_u g 32 (Int32.toNatClampNeg (12 : Int32)) (0 : Int32)) 26 17 (0 : Int32)) 41 (Int32.toNatClampNeg (0 : Int32)) (vp_nar .boolean (0 : Int32))) 41 (Int32.toNatClampNeg (1 : Int32)) (vp_nar .boolean (0 : Int32))) 26 0)]) (g' := am_u (am_u (am_u (am_u g 32 (Int32.toNatClampNeg (12 : Int32)) (0 : Int32)) 26 17 (0 : Int32)) 41 (Int32.toNatClampNeg (0 : Int32)) (vp_nar .boolean (0 : Int32))) 41 (Int32.toNatClampNeg (1 : Int32)) (vp_nar .boolean (0 : Int32))) (w' := w) (cl := [am_in (12 : Int32) 26, am_in (0 : Int32) 2, am_in (1 : Int32) 2]) (by decide +kernel) rfl ⟨by decide, by decide, by decide, trivial⟩ ?_
  cases hf
  exact am_iret C0 (by decide +kernel)
def f_X8_town_123 (F : Nat) (k55 : Int32 → am_G → Option (Int32 × am_G)) (k156 : am_G → Option (Int32 × am_G)) (l1 : Int32) (g : am_G) : Option (Int32 × am_G) :=
  if am_in (((5 : Int32) * l1) + (3 : Int32)) 30 then
    if am_in l1 26 then
      if am_in ((6 : Int32) + l1) 26 then
        k55 (l1 + (1 : Int32)) (am_u (am_u g 32 (Int32.toNatClampNeg l1) (g 34 (Int32.toNatClampNeg (((5 : Int32) * l1) + (3 : Int32))))) 32 (Int32.toNatClampNeg ((6 : Int32) + l1)) (-9 : Int32))
      else none
    else none
  else none
set_option maxRecDepth 20000 in
theorem B_X8_town_123 (x : am_X) (C0 : am_Cm x 8 cX8_town 2 (some .int)) (hR : am_R x = rm_X8_town) (w : am_J) (F : Nat) (R : Int32 × am_G) (k55 : Int32 → am_G → Option (Int32 × am_G)) (k156 : am_G → Option (Int32 × am_G)) (hk55 : ∀ (l1 : Int32) (g : am_G), k55 l1 g = some R → am_Ev x 2 (0, 0) (am_Q x (0, 0) (some (.int R.1)) am_YY (R.2) w) 55 [some (.ref 26), some (.int (l1))] [] am_YY g w) (hk156 : ∀ (g : am_G), k156 g = some R → am_Ev x 2 (0, 0) (am_Q x (0, 0) (some (.int R.1)) am_YY (R.2) w) 156 [some (.ref 26), none] [] am_YY g w) (l1 : Int32) (g : am_G) (hf : f_X8_town_123 F k55 k156 l1 g = some R) : am_Ev x 2 (0, 0) (am_Q x (0, 0) (some (.int R.1)) am_YY (R.2) w) 123 [some (.ref 26), some (.int (l1))] [] am_YY g w := by
  unfold f_X8_town_123 at hf
  obtain ⟨hg1, hf⟩ := am_g hf
  obtain ⟨hg2, hf⟩ := am_g hf
  obtain ⟨hg3, hf⟩ := am_g hf
  refine am_b1 C0 am_YYk (pc := 123) (pc2 := 153) [(.aload_n 0, 0, 0, .null), (.getfield 25, 8, 7, .null), (.iload_n 1, 0, 0, .null), (.aload_n 0, 0, 0, .null), (.getfield 31, 8, 9, .null), (.iconst 5, 0, 0, .int 5), (.iload_n 1, 0, 0, .null), (.imul, 0, 0, .null), (.iconst 3, 0, 0, .int 3), (.iadd, 0, 0, .null), (.iaload, 0, 0, .null), (.iastore, 0, 0, .null), (.aload_n 0, 0, 0, .null), (.getfield 25, 8, 7, .null), (.bipush 6, 0, 0, .int 6), (.iload_n 1, 0, 0, .null), (.iadd, 0, 0, .null), (.bipush (-9), 0, 0, .int (-9)), (.iastore, 0, 0, .null), (.iinc 1 1, 0, 0, .int 1)] (L := [some (.ref 26), some (.int (l1))]) (st := []) (L' := [some (.ref 26), some (.int (l1 + (1 : Int32)))]) (st' := []) (g' := am_u (am_u g 32 (Int32.toNatClampNeg l1) (g 34 (Int32.toNatClampNeg (((5 : Int32) * l1) + (3 : Int32))))) 32 (Int32.toNatClampNeg ((6 : Int32) + l1)) (-9 : Int32)) (w' := w) (cl := [am_in (((5 : Int32) * l1) + (3 : Int32)) 30, am_in l1 26, am_in ((6 : Int32) + l1) 26]) (by decide +kernel) rfl ⟨hg1, hg2, hg3, trivial⟩ ?_
  refine am_goto C0 (off := (-98)) (tgt := 55) (by decide +kernel) ?_
  exact hk55 (l1 + (1 : Int32)) (am_u (am_u g 32 (Int32.toNatClampNeg l1) (g 34 (Int32.toNatClampNeg (((5 : Int32) * l1) + (3 : Int32))))) 32 (Int32.toNatClampNeg ((6 : Int32) + l1)) (-9 : Int32)) hf
def f_X8_town_91 (F : Nat) (k55 : Int32 → am_G → Option (Int32 × am_G)) (k156 : am_G → Option (Int32 × am_G)) (l1 : Int32) (g : am_G) : Option (Int32 × am_G) :=
  if am_in (((5 : Int32) * l1) + (2 : Int32)) 30 then
    if am_in l1 6 then
      if am_in (((5 : Int32) * l1) + (4 : Int32)) 30 then
        if am_in l1 6 then
          f_X8_town_123 F k55 k156 (l1) (am_u (am_u g 30 (Int32.toNatClampNeg l1) (g 34 (Int32.toNatClampNeg (((5 : Int32) * l1) + (2 : Int32))))) 31 (Int32.toNatClampNeg l1) ((am_u g 30 (Int32.toNatClampNeg l1) (g 34 (Int32.toNatClampNeg (((5 : Int32) * l1) + (2 : Int32))))) 34 (Int32.toNatClampNeg (((5 : Int32) * l1) + (4 : Int32)))))
        else none
      else none
    else none
  else none
set_option maxRecDepth 20000 in
theorem B_X8_town_91 (x : am_X) (C0 : am_Cm x 8 cX8_town 2 (some .int)) (hR : am_R x = rm_X8_town) (w : am_J) (F : Nat) (R : Int32 × am_G) (k55 : Int32 → am_G → Option (Int32 × am_G)) (k156 : am_G → Option (Int32 × am_G)) (hk55 : ∀ (l1 : Int32) (g : am_G), k55 l1 g = some R → am_Ev x 2 (0, 0) (am_Q x (0, 0) (some (.int R.1)) am_YY (R.2) w) 55 [some (.ref 26), some (.int (l1))] [] am_YY g w) (hk156 : ∀ (g : am_G), k156 g = some R → am_Ev x 2 (0, 0) (am_Q x (0, 0) (some (.int R.1)) am_YY (R.2) w) 156 [some (.ref 26), none] [] am_YY g w) (l1 : Int32) (g : am_G) (hf : f_X8_town_91 F k55 k156 l1 g = some R) : am_Ev x 2 (0, 0) (am_Q x (0, 0) (some (.int R.1)) am_YY (R.2) w) 91 [some (.ref 26), some (.int (l1))] [] am_YY g w := by
  unfold f_X8_town_91 at hf
  obtain ⟨hg4, hf⟩ := am_g hf
  obtain ⟨hg5, hf⟩ := am_g hf
  obtain ⟨hg6, hf⟩ := am_g hf
  obtain ⟨hg7, hf⟩ := am_g hf
  refine am_b1 C0 am_YYk (pc := 91) (pc2 := 123) [(.aload_n 0, 0, 0, .null), (.getfield 19, 8, 5, .null), (.iload_n 1, 0, 0, .null), (.aload_n 0, 0, 0, .null), (.getfield 31, 8, 9, .null), (.iconst 5, 0, 0, .int 5), (.iload_n 1, 0, 0, .null), (.imul, 0, 0, .null), (.iconst 2, 0, 0, .int 2), (.iadd, 0, 0, .null), (.iaload, 0, 0, .null), (.iastore, 0, 0, .null), (.aload_n 0, 0, 0, .null), (.getfield 22, 8, 6, .null), (.iload_n 1, 0, 0, .null), (.aload_n 0, 0, 0, .null), (.getfield 31, 8, 9, .null), (.iconst 5, 0, 0, .int 5), (.iload_n 1, 0, 0, .null), (.imul, 0, 0, .null), (.iconst 4, 0, 0, .int 4), (.iadd, 0, 0, .null), (.iaload, 0, 0, .null), (.iastore, 0, 0, .null)] (L := [some (.ref 26), some (.int (l1))]) (st := []) (L' := [some (.ref 26), some (.int (l1))]) (st' := []) (g' := am_u (am_u g 30 (Int32.toNatClampNeg l1) (g 34 (Int32.toNatClampNeg (((5 : Int32) * l1) + (2 : Int32))))) 31 (Int32.toNatClampNeg l1) ((am_u g 30 (Int32.toNatClampNeg l1) (g 34 (Int32.toNatClampNeg (((5 : Int32) * l1) + (2 : Int32))))) 34 (Int32.toNatClampNeg (((5 : Int32) * l1) + (4 : Int32))))) (w' := w) (cl := [am_in (((5 : Int32) * l1) + (2 : Int32)) 30, am_in l1 6, am_in (((5 : Int32) * l1) + (4 : Int32)) 30, am_in l1 6]) (by decide +kernel) rfl ⟨hg4, hg5, hg6, hg7, trivial⟩ ?_
  exact B_X8_town_123 x C0 hR w F R _ _ hk55 hk156 (l1) (am_u (am_u g 30 (Int32.toNatClampNeg l1) (g 34 (Int32.toNatClampNeg (((5 : Int32) * l1) + (2 : Int32))))) 31 (Int32.toNatClampNeg l1) ((am_u g 30 (Int32.toNatClampNeg l1) (g 34 (Int32.toNatClampNeg (((5 : Int32) * l1) + (2 : Int32))))) 34 (Int32.toNatClampNeg (((5 : Int32) * l1) + (4 : Int32))))) hf
def f_X8_town_55 (F : Nat) (k156 : am_G → Option (Int32 × am_G)) : Nat → Int32 → am_G → Option (Int32 × am_G)
  | 0, _, _ => none
  | n + 1, l1, g =>
    if (6 : Int32) ≤ l1 then
      k156 (g)
    else
      if am_in ((5 : Int32) * l1) 30 then
        if am_in l1 6 then
          if am_in (((5 : Int32) * l1) + (1 : Int32)) 30 then
            if am_in l1 6 then
              f_X8_town_91 F (fun l1 g => f_X8_town_55 F k156 n l1 g) k156 (l1) (am_u (am_u g 28 (Int32.toNatClampNeg l1) (g 34 (Int32.toNatClampNeg ((5 : Int32) * l1)))) 29 (Int32.toNatClampNeg l1) ((am_u g 28 (Int32.toNatClampNeg l1) (g 34 (Int32.toNatClampNeg ((5 : Int32) * l1)))) 34 (Int32.toNatClampNeg (((5 : Int32) * l1) + (1 : Int32)))))
            else none
          else none
        else none
      else none
set_option maxRecDepth 20000 in
theorem B_X8_town_55 (x : am_X) (C0 : am_Cm x 8 cX8_town 2 (some .int)) (hR : am_R x = rm_X8_town) (w : am_J) (F : Nat) (R : Int32 × am_G) (k156 : am_G → Option (Int32 × am_G)) (hk156 : ∀ (g : am_G), k156 g = some R → am_Ev x 2 (0, 0) (am_Q x (0, 0) (some (.int R.1)) am_YY (R.2) w) 156 [some (.ref 26), none] [] am_YY g w) : ∀ (n : Nat) (l1 : Int32) (g : am_G), f_X8_town_55 F k156 n l1 g = some R → am_Ev x 2 (0, 0) (am_Q x (0, 0) (some (.int R.1)) am_YY (R.2) w) 55 [some (.ref 26), some (.int (l1))] [] am_YY g w := by
  intro n
  induction n with
  | zero => intro l1 g hf; cases hf
  | succ n ih =>
    intro l1 g hf
    rw [f_X8_town_55.eq_2] at hf
    refine am_b1 C0 am_YYk (pc := 55) (pc2 := 58) [(.iload_n 1, 0, 0, .null), (.bipush 6, 0, 0, .int 6)] (L := [some (.ref 26), some (.int (l1))]) (st := []) (L' := [some (.ref 26), some (.int (l1))]) (st' := [.int ((6 : Int32)), .int (l1)]) (g' := g) (w' := w) (cl := []) (by decide +kernel) rfl trivial ?_
    refine am_icmp_ge C0 (off := 98) (tgt := 156) (by decide +kernel) (fun hc12 => ?_) (fun hc12 => ?_)
    · rw [if_pos hc12] at hf
      refine am_wk [some (.ref 26), none] ⟨rfl, trivial⟩ rfl ?_
      exact hk156 (g) hf
    · rw [if_neg hc12] at hf
      obtain ⟨hg8, hf⟩ := am_g hf
      obtain ⟨hg9, hf⟩ := am_g hf
      obtain ⟨hg10, hf⟩ := am_g hf
      obtain ⟨hg11, hf⟩ := am_g hf
      refine am_b1 C0 am_YYk (pc := 61) (pc2 := 91) [(.aload_n 0, 0, 0, .null), (.getfield 13, 8, 3, .null), (.iload_n 1, 0, 0, .null), (.aload_n 0, 0, 0, .null), (.getfield 31, 8, 9, .null), (.iconst 5, 0, 0, .int 5), (.iload_n 1, 0, 0, .null), (.imul, 0, 0, .null), (.iaload, 0, 0, .null), (.iastore, 0, 0, .null), (.aload_n 0, 0, 0, .null), (.getfield 16, 8, 4, .null), (.iload_n 1, 0, 0, .null), (.aload_n 0, 0, 0, .null), (.getfield 31, 8, 9, .null), (.iconst 5, 0, 0, .int 5), (.iload_n 1, 0, 0, .null), (.imul, 0, 0, .null), (.iconst 1, 0, 0, .int 1), (.iadd, 0, 0, .null), (.iaload, 0, 0, .null), (.iastore, 0, 0, .null)] (L := [some (.ref 26), some (.int (l1))]) (st := []) (L' := [some (.ref 26), some (.int (l1))]) (st' := []) (g' := am_u (am_u g 28 (Int32.toNatClampNeg l1) (g 34 (Int32.toNatClampNeg ((5 : Int32) * l1)))) 29 (Int32.toNatClampNeg l1) ((am_u g 28 (Int32.toNatClampNeg l1) (g 34 (Int32.toNatClampNeg ((5 : Int32) * l1)))) 34 (Int32.toNatClampNeg (((5 : Int32) * l1) + (1 : Int32))))) (w' := w) (cl := [am_in ((5 : Int32) * l1) 30, am_in l1 6, am_in (((5 : Int32) * l1) + (1 : Int32)) 30, am_in l1 6]) (by decide +kernel) rfl ⟨hg8, hg9, hg10, hg11, trivial⟩ ?_
      exact B_X8_town_91 x C0 hR w F R _ _ (fun l1 g hf => ih l1 g hf) hk156 (l1) (am_u (am_u g 28 (Int32.toNatClampNeg l1) (g 34 (Int32.toNatClampNeg ((5 : Int32) * l1)))) 29 (Int32.toNatClampNeg l1) ((am_u g 28 (Int32.toNatClampNeg l1) (g 34 (Int32.toNatClampNeg ((5 : Int32) * l1)))) 34 (Int32.toNatClampNeg (((5 : Int32) * l1) + (1 : Int32))))) hf
def f_X8_town_53 (F : Nat)  (g : am_G) : Option (Int32 × am_G) :=
  f_X8_town_55 F (fun g => f_X8_town_156 F (g)) F ((0 : Int32)) (g)
set_option maxRecDepth 20000 in
theorem B_X8_town_53 (x : am_X) (C0 : am_Cm x 8 cX8_town 2 (some .int)) (hR : am_R x = rm_X8_town) (w : am_J) (F : Nat) (R : Int32 × am_G)   (g : am_G) (hf : f_X8_town_53 F g = some R) : am_Ev x 2 (0, 0) (am_Q x (0, 0) (some (.int R.1)) am_YY (R.2) w) 53 [some (.ref 26), none] [] am_YY g w := by
  unfold f_X8_town_53 at hf
  refine am_b1 C0 am_YYk (pc := 53) (pc2 := 55) [(.iconst 0, 0, 0, .int 0), (.istore_n 1, 0, 0, .null)] (L := [some (.ref 26), none]) (st := []) (L' := [some (.ref 26), some (.int ((0 : Int32)))]) (st' := []) (g' := g) (w' := w) (cl := []) (by decide +kernel) rfl trivial ?_
  refine B_X8_town_55 x C0 hR w F R _ ?_ F ((0 : Int32)) (g) hf
  · intro g hf
    exact B_X8_town_156 x C0 hR w F R  (g) hf
def f_X8_town_30 (F : Nat) (k53 : am_G → Option (Int32 × am_G)) : Nat → Int32 → am_G → Option (Int32 × am_G)
  | 0, _, _ => none
  | n + 1, l1, g =>
    if (4 : Int32) ≤ l1 then
      k53 (g)
    else
      if am_in l1 4 then
        if am_in l1 4 then
          f_X8_town_30 F k53 n (l1 + (1 : Int32)) (am_u g 27 (Int32.toNatClampNeg l1) (g 33 (Int32.toNatClampNeg l1)))
        else none
      else none
set_option maxRecDepth 20000 in
theorem B_X8_town_30 (x : am_X) (C0 : am_Cm x 8 cX8_town 2 (some .int)) (hR : am_R x = rm_X8_town) (w : am_J) (F : Nat) (R : Int32 × am_G) (k53 : am_G → Option (Int32 × am_G)) (hk53 : ∀ (g : am_G), k53 g = some R → am_Ev x 2 (0, 0) (am_Q x (0, 0) (some (.int R.1)) am_YY (R.2) w) 53 [some (.ref 26), none] [] am_YY g w) : ∀ (n : Nat) (l1 : Int32) (g : am_G), f_X8_town_30 F k53 n l1 g = some R → am_Ev x 2 (0, 0) (am_Q x (0, 0) (some (.int R.1)) am_YY (R.2) w) 30 [some (.ref 26), some (.int (l1))] [] am_YY g w := by
  intro n
  induction n with
  | zero => intro l1 g hf; cases hf
  | succ n ih =>
    intro l1 g hf
    rw [f_X8_town_30.eq_2] at hf
    refine am_b1 C0 am_YYk (pc := 30) (pc2 := 32) [(.iload_n 1, 0, 0, .null), (.iconst 4, 0, 0, .int 4)] (L := [some (.ref 26), some (.int (l1))]) (st := []) (L' := [some (.ref 26), some (.int (l1))]) (st' := [.int ((4 : Int32)), .int (l1)]) (g' := g) (w' := w) (cl := []) (by decide +kernel) rfl trivial ?_
    refine am_icmp_ge C0 (off := 21) (tgt := 53) (by decide +kernel) (fun hc15 => ?_) (fun hc15 => ?_)
    · rw [if_pos hc15] at hf
      refine am_wk [some (.ref 26), none] ⟨rfl, trivial⟩ rfl ?_
      exact hk53 (g) hf
    · rw [if_neg hc15] at hf
      obtain ⟨hg13, hf⟩ := am_g hf
      obtain ⟨hg14, hf⟩ := am_g hf
      refine am_b1 C0 am_YYk (pc := 35) (pc2 := 50) [(.aload_n 0, 0, 0, .null), (.getfield 7, 8, 2, .null), (.iload_n 1, 0, 0, .null), (.aload_n 0, 0, 0, .null), (.getfield 28, 8, 8, .null), (.iload_n 1, 0, 0, .null), (.iaload, 0, 0, .null), (.iastore, 0, 0, .null), (.iinc 1 1, 0, 0, .int 1)] (L := [some (.ref 26), some (.int (l1))]) (st := []) (L' := [some (.ref 26), some (.int (l1 + (1 : Int32)))]) (st' := []) (g' := am_u g 27 (Int32.toNatClampNeg l1) (g 33 (Int32.toNatClampNeg l1))) (w' := w) (cl := [am_in l1 4, am_in l1 4]) (by decide +kernel) rfl ⟨hg13, hg14, trivial⟩ ?_
      refine am_goto C0 (off := (-20)) (tgt := 30) (by decide +kernel) ?_
      exact ih (l1 + (1 : Int32)) (am_u g 27 (Int32.toNatClampNeg l1) (g 33 (Int32.toNatClampNeg l1))) hf
def f_X8_town (F : Nat) (g : am_G) : Option (Int32 × am_G) :=
  (f_X8_readText F g).bind fun q16 =>
    if q16.1 = (-9 : Int32) then
      f_X8_town_30 F (fun g => f_X8_town_53 F (g)) F ((0 : Int32)) (am_u (am_u q16.2 26 0 (q16.2 26 11)) 26 1 ((am_u q16.2 26 0 (q16.2 26 11)) 26 10))
    else
      some ((-3 : Int32), q16.2)
set_option maxRecDepth 20000 in
theorem M_X8_town (l : Launch) (F : Nat) (g : am_G) (w : am_J)  (R : Int32 × am_G) (hf : f_X8_town F g = some R) : am_Met l mi_X8_town rm_X8_town [.ref 26] am_YY g w (some (.int R.1)) am_YY (R.2) w := by
  refine am_met (own := 8) [some (.ref 26), none] (by decide) rfl rfl (by first | decide | exact Nat.le_of_ble_eq_true rfl) (fun x C0 hR hl hnm => ?_)
  unfold f_X8_town at hf
  refine am_b1 C0 am_YYk (pc := 0) (pc2 := 1) [(.aload_n 0, 0, 0, .null)] (L := [some (.ref 26), none]) (st := []) (L' := [some (.ref 26), none]) (st' := [.ref 26]) (g' := g) (w' := w) (cl := []) (by decide +kernel) rfl trivial ?_
  obtain ⟨q16, hq16, hf⟩ := Option.bind_eq_some_iff.mp hf
  refine am_callV (mi := mi_X8_readText) (rm := rm_X8_readText) [] C0.1 am_YYl cv_8_108 (M_X8_readText _ F g w _ hq16) (ci := 8) rfl (by decide) rfl (by rw [hR]; rfl) rfl rfl (Nat.le_of_ble_eq_true rfl) (by decide +kernel) ?_
  refine am_b1 C0 am_YYk (pc := 4) (pc2 := 6) [(.bipush (-9), 0, 0, .int (-9))] (L := [some (.ref 26), none]) (st := [.int (q16.1)]) (L' := [some (.ref 26), none]) (st' := [.int ((-9 : Int32)), .int (q16.1)]) (g' := q16.2) (w' := w) (cl := []) (by decide +kernel) rfl trivial ?_
  refine am_icmp_eq C0 (off := 6) (tgt := 12) (by decide +kernel) (fun hc17 => ?_) (fun hc17 => ?_)
  · rw [if_pos hc17] at hf
    refine am_b1 C0 am_YYk (pc := 12) (pc2 := 30) [(.aload_n 0, 0, 0, .null), (.aload_n 0, 0, 0, .null), (.getfield 84, 8, 11, .null), (.putfield 111, 8, 0, .null), (.aload_n 0, 0, 0, .null), (.aload_n 0, 0, 0, .null), (.getfield 94, 8, 10, .null), (.putfield 59, 8, 1, .null), (.iconst 0, 0, 0, .int 0), (.istore_n 1, 0, 0, .null)] (L := [some (.ref 26), none]) (st := []) (L' := [some (.ref 26), some (.int ((0 : Int32)))]) (st' := []) (g' := am_u (am_u q16.2 26 0 (q16.2 26 11)) 26 1 ((am_u q16.2 26 0 (q16.2 26 11)) 26 10)) (w' := w) (cl := []) (by decide +kernel) rfl trivial ?_
    refine B_X8_town_30 x C0 hR w F R _ ?_ F ((0 : Int32)) (am_u (am_u q16.2 26 0 (q16.2 26 11)) 26 1 ((am_u q16.2 26 0 (q16.2 26 11)) 26 10)) hf
    · intro g hf
      exact B_X8_town_53 x C0 hR w F R  (g) hf
  · rw [if_neg hc17] at hf
    refine am_b1 C0 am_YYk (pc := 9) (pc2 := 11) [(.bipush (-3), 0, 0, .int (-3))] (L := [some (.ref 26), none]) (st := []) (L' := [some (.ref 26), none]) (st' := [.int ((-3 : Int32))]) (g' := q16.2) (w' := w) (cl := []) (by decide +kernel) rfl trivial ?_
    cases hf
    exact am_iret C0 (by decide +kernel)
/-! ShutterTownModel.isWindow(I)Z at (26,) -/
def f_X8_isWindow (g : am_G) (p1 : Int32) : Option (Int32) :=
  (f_X8_in (Int32.toInt64 p1) (0 : Int64) (Int32.toInt64 ((g 26 0) - (1 : Int32)))).bind fun q1 =>
    if q1 = 0 ∨ q1 = 1 then
      some (q1)
    else none
set_option maxRecDepth 20000 in
theorem M_X8_isWindow (l : Launch) (g : am_G) (w : am_J) (p1 : Int32) (R : Int32) (hf : f_X8_isWindow g p1 = some R) : am_Met l mi_X8_isWindow rm_X8_isWindow [.ref 26, .int p1] am_YY g w (some (.int R)) am_YY g w := by
  refine am_met (own := 8) [some (.ref 26), some (.int (p1))] (by decide) rfl rfl (by first | decide | exact Nat.le_of_ble_eq_true rfl) (fun x C0 hR hl hnm => ?_)
  unfold f_X8_isWindow at hf
  refine am_b1 C0 am_YYk (pc := 0) (pc2 := 10) [(.iload_n 1, 0, 0, .null), (.i2l, 0, 0, .null), (.lconst 0, 0, 0, .long 0), (.aload_n 0, 0, 0, .null), (.getfield 111, 8, 0, .null), (.iconst 1, 0, 0, .int 1), (.isub, 0, 0, .null), (.i2l, 0, 0, .null)] (L := [some (.ref 26), some (.int (p1))]) (st := []) (L' := [some (.ref 26), some (.int (p1))]) (st' := [.long (Int32.toInt64 ((g 26 0) - (1 : Int32))), .long ((0 : Int64)), .long (Int32.toInt64 p1)]) (g' := g) (w' := w) (cl := []) (by decide +kernel) rfl trivial ?_
  obtain ⟨q1, hq1, hf⟩ := Option.bind_eq_some_iff.mp hf
  refine am_callS (mi := mi_X8_in) (rm := rm_X8_in) [.long (Int32.toInt64 p1), .long ((0 : Int64)), .long (Int32.toInt64 ((g 26 0) - (1 : Int32)))] C0.1 cv_8_65 (M_X8_in _ g w (Int32.toInt64 p1) (0 : Int64) (Int32.toInt64 ((g 26 0) - (1 : Int32))) _ hq1) (by rw [hR]; rfl) rfl rfl (Nat.le_of_ble_eq_true rfl) (by decide +kernel) ?_
  obtain ⟨hz2, hf⟩ := am_g hf
  cases hf
  exact am_zret C0 (by decide +kernel) hz2
/-! ShutterTownModel.wordOf(II)I at (26,) -/
def f_X8_wordOf (g : am_G) (p1 : Int32) (p2 : Int32) : Option (Int32) :=
  if am_in (((13 : Int32) * p1) + p2) 26 then
    if am_in (g 32 (Int32.toNatClampNeg (((13 : Int32) * p1) + p2))) 4 then
      some (g 27 (Int32.toNatClampNeg (g 32 (Int32.toNatClampNeg (((13 : Int32) * p1) + p2)))))
    else none
  else none
set_option maxRecDepth 20000 in
theorem M_X8_wordOf (l : Launch) (g : am_G) (w : am_J) (p1 : Int32) (p2 : Int32) (R : Int32) (hf : f_X8_wordOf g p1 p2 = some R) : am_Met l mi_X8_wordOf rm_X8_wordOf [.ref 26, .int p1, .int p2] am_YY g w (some (.int R)) am_YY g w := by
  refine am_met (own := 8) [some (.ref 26), some (.int (p1)), some (.int (p2))] (by decide) rfl rfl (by first | decide | exact Nat.le_of_ble_eq_true rfl) (fun x C0 hR hl hnm => ?_)
  unfold f_X8_wordOf at hf
  obtain ⟨hg1, hf⟩ := am_g hf
  obtain ⟨hg2, hf⟩ := am_g hf
  refine am_b1 C0 am_YYk (pc := 0) (pc2 := 16) [(.aload_n 0, 0, 0, .null), (.getfield 7, 8, 2, .null), (.aload_n 0, 0, 0, .null), (.getfield 25, 8, 7, .null), (.bipush 13, 0, 0, .int 13), (.iload_n 1, 0, 0, .null), (.imul, 0, 0, .null), (.iload_n 2, 0, 0, .null), (.iadd, 0, 0, .null), (.iaload, 0, 0, .null), (.iaload, 0, 0, .null)] (L := [some (.ref 26), some (.int (p1)), some (.int (p2))]) (st := []) (L' := [some (.ref 26), some (.int (p1)), some (.int (p2))]) (st' := [.int (g 27 (Int32.toNatClampNeg (g 32 (Int32.toNatClampNeg (((13 : Int32) * p1) + p2)))))]) (g' := g) (w' := w) (cl := [am_in (((13 : Int32) * p1) + p2) 26, am_in (g 32 (Int32.toNatClampNeg (((13 : Int32) * p1) + p2))) 4]) (by decide +kernel) rfl ⟨hg1, hg2, trivial⟩ ?_
  cases hf
  exact am_iret C0 (by decide +kernel)
/-! ShutterTownModel.sees(II)Z at (26,) -/
def f_X8_sees (g : am_G) (p1 : Int32) (p2 : Int32) : Option (Int32) :=
  if am_in p1 6 then
    if am_in p2 6 then
      if (g 29 (Int32.toNatClampNeg p1)) = (g 29 (Int32.toNatClampNeg p2)) then
        some ((0 : Int32))
      else
        if am_in p1 6 then
          if am_in p2 6 then
            (f_X8_in (Int32.toInt64 ((g 28 (Int32.toNatClampNeg p1)) - (g 28 (Int32.toNatClampNeg p2)))) (Int32.toInt64 (-(g 26 1))) (Int32.toInt64 (g 26 1))).bind fun q5 =>
              if q5 = 0 then
                some ((0 : Int32))
              else
                if am_in p1 6 then
                  if am_in p2 6 then
                    (f_X8_in (Int32.toInt64 ((g 30 (Int32.toNatClampNeg p1)) - (g 30 (Int32.toNatClampNeg p2)))) (-1 : Int64) (1 : Int64)).bind fun q8 =>
                      if q8 = 0 then
                        some ((0 : Int32))
                      else
                        some ((1 : Int32))
                  else none
                else none
          else none
        else none
    else none
  else none
set_option maxRecDepth 20000 in
theorem M_X8_sees (l : Launch) (g : am_G) (w : am_J) (p1 : Int32) (p2 : Int32) (R : Int32) (hf : f_X8_sees g p1 p2 = some R) : am_Met l mi_X8_sees rm_X8_sees [.ref 26, .int p1, .int p2] am_YY g w (some (.int R)) am_YY g w := by
  refine am_met (own := 8) [some (.ref 26), some (.int (p1)), some (.int (p2))] (by decide) rfl rfl (by first | decide | exact Nat.le_of_ble_eq_true rfl) (fun x C0 hR hl hnm => ?_)
  unfold f_X8_sees at hf
  obtain ⟨hg1, hf⟩ := am_g hf
  obtain ⟨hg2, hf⟩ := am_g hf
  refine am_b1 C0 am_YYk (pc := 0) (pc2 := 12) [(.aload_n 0, 0, 0, .null), (.getfield 16, 8, 4, .null), (.iload_n 1, 0, 0, .null), (.iaload, 0, 0, .null), (.aload_n 0, 0, 0, .null), (.getfield 16, 8, 4, .null), (.iload_n 2, 0, 0, .null), (.iaload, 0, 0, .null)] (L := [some (.ref 26), some (.int (p1)), some (.int (p2))]) (st := []) (L' := [some (.ref 26), some (.int (p1)), some (.int (p2))]) (st' := [.int (g 29 (Int32.toNatClampNeg p2)), .int (g 29 (Int32.toNatClampNeg p1))]) (g' := g) (w' := w) (cl := [am_in p1 6, am_in p2 6]) (by decide +kernel) rfl ⟨hg1, hg2, trivial⟩ ?_
  refine am_icmp_eq C0 (off := 62) (tgt := 74) (by decide +kernel) (fun hc11 => ?_) (fun hc11 => ?_)
  · rw [if_pos hc11] at hf
    refine am_b1 C0 am_YYk (pc := 74) (pc2 := 75) [(.iconst 0, 0, 0, .int 0)] (L := [some (.ref 26), some (.int (p1)), some (.int (p2))]) (st := []) (L' := [some (.ref 26), some (.int (p1)), some (.int (p2))]) (st' := [.int ((0 : Int32))]) (g' := g) (w' := w) (cl := []) (by decide +kernel) rfl trivial ?_
    cases hf
    exact am_zret C0 (by decide +kernel) (Or.inl rfl)
  · rw [if_neg hc11] at hf
    obtain ⟨hg3, hf⟩ := am_g hf
    obtain ⟨hg4, hf⟩ := am_g hf
    refine am_b1 C0 am_YYk (pc := 15) (pc2 := 40) [(.aload_n 0, 0, 0, .null), (.getfield 13, 8, 3, .null), (.iload_n 1, 0, 0, .null), (.iaload, 0, 0, .null), (.aload_n 0, 0, 0, .null), (.getfield 13, 8, 3, .null), (.iload_n 2, 0, 0, .null), (.iaload, 0, 0, .null), (.isub, 0, 0, .null), (.i2l, 0, 0, .null), (.aload_n 0, 0, 0, .null), (.getfield 59, 8, 1, .null), (.ineg, 0, 0, .null), (.i2l, 0, 0, .null), (.aload_n 0, 0, 0, .null), (.getfield 59, 8, 1, .null), (.i2l, 0, 0, .null)] (L := [some (.ref 26), some (.int (p1)), some (.int (p2))]) (st := []) (L' := [some (.ref 26), some (.int (p1)), some (.int (p2))]) (st' := [.long (Int32.toInt64 (g 26 1)), .long (Int32.toInt64 (-(g 26 1))), .long (Int32.toInt64 ((g 28 (Int32.toNatClampNeg p1)) - (g 28 (Int32.toNatClampNeg p2))))]) (g' := g) (w' := w) (cl := [am_in p1 6, am_in p2 6]) (by decide +kernel) rfl ⟨hg3, hg4, trivial⟩ ?_
    obtain ⟨q5, hq5, hf⟩ := Option.bind_eq_some_iff.mp hf
    refine am_callS (mi := mi_X8_in) (rm := rm_X8_in) [.long (Int32.toInt64 ((g 28 (Int32.toNatClampNeg p1)) - (g 28 (Int32.toNatClampNeg p2)))), .long (Int32.toInt64 (-(g 26 1))), .long (Int32.toInt64 (g 26 1))] C0.1 cv_8_65 (M_X8_in _ g w (Int32.toInt64 ((g 28 (Int32.toNatClampNeg p1)) - (g 28 (Int32.toNatClampNeg p2)))) (Int32.toInt64 (-(g 26 1))) (Int32.toInt64 (g 26 1)) _ hq5) (by rw [hR]; rfl) rfl rfl (Nat.le_of_ble_eq_true rfl) (by decide +kernel) ?_
    refine am_if_eq C0 (off := 31) (tgt := 74) (by decide +kernel) (fun hc10 => ?_) (fun hc10 => ?_)
    · rw [if_pos hc10] at hf
      refine am_b1 C0 am_YYk (pc := 74) (pc2 := 75) [(.iconst 0, 0, 0, .int 0)] (L := [some (.ref 26), some (.int (p1)), some (.int (p2))]) (st := []) (L' := [some (.ref 26), some (.int (p1)), some (.int (p2))]) (st' := [.int ((0 : Int32))]) (g' := g) (w' := w) (cl := []) (by decide +kernel) rfl trivial ?_
      cases hf
      exact am_zret C0 (by decide +kernel) (Or.inl rfl)
    · rw [if_neg hc10] at hf
      obtain ⟨hg6, hf⟩ := am_g hf
      obtain ⟨hg7, hf⟩ := am_g hf
      refine am_b1 C0 am_YYk (pc := 46) (pc2 := 64) [(.aload_n 0, 0, 0, .null), (.getfield 19, 8, 5, .null), (.iload_n 1, 0, 0, .null), (.iaload, 0, 0, .null), (.aload_n 0, 0, 0, .null), (.getfield 19, 8, 5, .null), (.iload_n 2, 0, 0, .null), (.iaload, 0, 0, .null), (.isub, 0, 0, .null), (.i2l, 0, 0, .null), (.ldc2_w 117, 0, 0, .long (-1)), (.lconst 1, 0, 0, .long 1)] (L := [some (.ref 26), some (.int (p1)), some (.int (p2))]) (st := []) (L' := [some (.ref 26), some (.int (p1)), some (.int (p2))]) (st' := [.long ((1 : Int64)), .long ((-1 : Int64)), .long (Int32.toInt64 ((g 30 (Int32.toNatClampNeg p1)) - (g 30 (Int32.toNatClampNeg p2))))]) (g' := g) (w' := w) (cl := [am_in p1 6, am_in p2 6]) (by decide +kernel) rfl ⟨hg6, hg7, trivial⟩ ?_
      obtain ⟨q8, hq8, hf⟩ := Option.bind_eq_some_iff.mp hf
      refine am_callS (mi := mi_X8_in) (rm := rm_X8_in) [.long (Int32.toInt64 ((g 30 (Int32.toNatClampNeg p1)) - (g 30 (Int32.toNatClampNeg p2)))), .long ((-1 : Int64)), .long ((1 : Int64))] C0.1 cv_8_65 (M_X8_in _ g w (Int32.toInt64 ((g 30 (Int32.toNatClampNeg p1)) - (g 30 (Int32.toNatClampNeg p2)))) (-1 : Int64) (1 : Int64) _ hq8) (by rw [hR]; rfl) rfl rfl (Nat.le_of_ble_eq_true rfl) (by decide +kernel) ?_
      refine am_if_eq C0 (off := 7) (tgt := 74) (by decide +kernel) (fun hc9 => ?_) (fun hc9 => ?_)
      · rw [if_pos hc9] at hf
        refine am_b1 C0 am_YYk (pc := 74) (pc2 := 75) [(.iconst 0, 0, 0, .int 0)] (L := [some (.ref 26), some (.int (p1)), some (.int (p2))]) (st := []) (L' := [some (.ref 26), some (.int (p1)), some (.int (p2))]) (st' := [.int ((0 : Int32))]) (g' := g) (w' := w) (cl := []) (by decide +kernel) rfl trivial ?_
        cases hf
        exact am_zret C0 (by decide +kernel) (Or.inl rfl)
      · rw [if_neg hc9] at hf
        refine am_b1 C0 am_YYk (pc := 70) (pc2 := 71) [(.iconst 1, 0, 0, .int 1)] (L := [some (.ref 26), some (.int (p1)), some (.int (p2))]) (st := []) (L' := [some (.ref 26), some (.int (p1)), some (.int (p2))]) (st' := [.int ((1 : Int32))]) (g' := g) (w' := w) (cl := []) (by decide +kernel) rfl trivial ?_
        refine am_goto C0 (off := 4) (tgt := 75) (by decide +kernel) ?_
        cases hf
        exact am_zret C0 (by decide +kernel) (Or.inr rfl)
/-! ShutterTownModel.seen(I)I at (26,) -/
def f_X8_seen_29 (F : Nat) (g : am_G) (p1 : Int32) (k4 : Int32 → Int32 → Option (Int32)) (l3 : Int32) (s0 : Int32) (s1 : Int32) : Option (Int32) :=
  k4 (s0 ||| s1) (l3 + (1 : Int32))
set_option maxRecDepth 20000 in
theorem B_X8_seen_29 (x : am_X) (C0 : am_Cm x 8 cX8_seen 4 (some .int)) (hR : am_R x = rm_X8_seen) (w : am_J) (F : Nat) (g : am_G) (p1 : Int32) (R : Int32) (k4 : Int32 → Int32 → Option (Int32)) (hk4 : ∀ (l2 : Int32) (l3 : Int32), k4 l2 l3 = some R → am_Ev x 4 (0, 0) (am_Q x (0, 0) (some (.int R)) am_YY g w) 4 [some (.ref 26), some (.int (p1)), some (.int (l2)), some (.int (l3))] [] am_YY g w) (l3 : Int32) (s0 : Int32) (s1 : Int32) (hf : f_X8_seen_29 F g p1 k4 l3 s0 s1 = some R) : am_Ev x 4 (0, 0) (am_Q x (0, 0) (some (.int R)) am_YY g w) 29 [some (.ref 26), some (.int (p1)), none, some (.int (l3))] [.int (s1), .int (s0)] am_YY g w := by
  unfold f_X8_seen_29 at hf
  refine am_b1 C0 am_YYk (pc := 29) (pc2 := 34) [(.ior, 0, 0, .null), (.istore_n 2, 0, 0, .null), (.iinc 3 1, 0, 0, .int 1)] (L := [some (.ref 26), some (.int (p1)), none, some (.int (l3))]) (st := [.int (s1), .int (s0)]) (L' := [some (.ref 26), some (.int (p1)), some (.int (s0 ||| s1)), some (.int (l3 + (1 : Int32)))]) (st' := []) (g' := g) (w' := w) (cl := []) (by decide +kernel) rfl trivial ?_
  refine am_goto C0 (off := (-30)) (tgt := 4) (by decide +kernel) ?_
  exact hk4 (s0 ||| s1) (l3 + (1 : Int32)) hf
def f_X8_seen_4 (F : Nat) (g : am_G) (p1 : Int32)  : Nat → Int32 → Int32 → Option (Int32)
  | 0, _, _ => none
  | n + 1, l2, l3 =>
    if (g 26 0) ≤ l3 then
      some (l2)
    else
      (f_X8_sees g p1 l3).bind fun q1 =>
        if q1 = 0 then
          f_X8_seen_29 F g p1 (fun l2 l3 => f_X8_seen_4 F g p1 n l2 l3) (l3) (l2) ((0 : Int32))
        else
          f_X8_seen_29 F g p1 (fun l2 l3 => f_X8_seen_4 F g p1 n l2 l3) (l3) (l2) ((1 : Int32) <<< (l3 &&& 31))
set_option maxRecDepth 20000 in
theorem B_X8_seen_4 (x : am_X) (C0 : am_Cm x 8 cX8_seen 4 (some .int)) (hR : am_R x = rm_X8_seen) (w : am_J) (F : Nat) (g : am_G) (p1 : Int32) (R : Int32)   : ∀ (n : Nat) (l2 : Int32) (l3 : Int32), f_X8_seen_4 F g p1 n l2 l3 = some R → am_Ev x 4 (0, 0) (am_Q x (0, 0) (some (.int R)) am_YY g w) 4 [some (.ref 26), some (.int (p1)), some (.int (l2)), some (.int (l3))] [] am_YY g w := by
  intro n
  induction n with
  | zero => intro l2 l3 hf; cases hf
  | succ n ih =>
    intro l2 l3 hf
    rw [f_X8_seen_4.eq_2] at hf
    refine am_b1 C0 am_YYk (pc := 4) (pc2 := 9) [(.iload_n 3, 0, 0, .null), (.aload_n 0, 0, 0, .null), (.getfield 111, 8, 0, .null)] (L := [some (.ref 26), some (.int (p1)), some (.int (l2)), some (.int (l3))]) (st := []) (L' := [some (.ref 26), some (.int (p1)), some (.int (l2)), some (.int (l3))]) (st' := [.int (g 26 0), .int (l3)]) (g' := g) (w' := w) (cl := []) (by decide +kernel) rfl trivial ?_
    refine am_icmp_ge C0 (off := 28) (tgt := 37) (by decide +kernel) (fun hc3 => ?_) (fun hc3 => ?_)
    · rw [if_pos hc3] at hf
      refine am_b1 C0 am_YYk (pc := 37) (pc2 := 38) [(.iload_n 2, 0, 0, .null)] (L := [some (.ref 26), some (.int (p1)), some (.int (l2)), some (.int (l3))]) (st := []) (L' := [some (.ref 26), some (.int (p1)), some (.int (l2)), some (.int (l3))]) (st' := [.int (l2)]) (g' := g) (w' := w) (cl := []) (by decide +kernel) rfl trivial ?_
      cases hf
      exact am_iret C0 (by decide +kernel)
    · rw [if_neg hc3] at hf
      refine am_b1 C0 am_YYk (pc := 12) (pc2 := 16) [(.iload_n 2, 0, 0, .null), (.aload_n 0, 0, 0, .null), (.iload_n 1, 0, 0, .null), (.iload_n 3, 0, 0, .null)] (L := [some (.ref 26), some (.int (p1)), some (.int (l2)), some (.int (l3))]) (st := []) (L' := [some (.ref 26), some (.int (p1)), some (.int (l2)), some (.int (l3))]) (st' := [.int (l3), .int (p1), .ref 26, .int (l2)]) (g' := g) (w' := w) (cl := []) (by decide +kernel) rfl trivial ?_
      obtain ⟨q1, hq1, hf⟩ := Option.bind_eq_some_iff.mp hf
      refine am_callV (mi := mi_X8_sees) (rm := rm_X8_sees) [.int (p1), .int (l3)] C0.1 am_YYl cv_8_119 (M_X8_sees _ g w p1 l3 _ hq1) (ci := 8) rfl (by decide) rfl (by rw [hR]; rfl) rfl rfl (Nat.le_of_ble_eq_true rfl) (by decide +kernel) ?_
      refine am_if_eq C0 (off := 9) (tgt := 28) (by decide +kernel) (fun hc2 => ?_) (fun hc2 => ?_)
      · rw [if_pos hc2] at hf
        refine am_b1 C0 am_YYk (pc := 28) (pc2 := 29) [(.iconst 0, 0, 0, .int 0)] (L := [some (.ref 26), some (.int (p1)), some (.int (l2)), some (.int (l3))]) (st := [.int (l2)]) (L' := [some (.ref 26), some (.int (p1)), some (.int (l2)), some (.int (l3))]) (st' := [.int ((0 : Int32)), .int (l2)]) (g' := g) (w' := w) (cl := []) (by decide +kernel) rfl trivial ?_
        refine am_wk [some (.ref 26), some (.int (p1)), none, some (.int (l3))] ⟨rfl, rfl, rfl, trivial⟩ rfl ?_
        exact B_X8_seen_29 x C0 hR w F g p1 R _ (fun l2 l3 hf => ih l2 l3 hf) (l3) (l2) ((0 : Int32)) hf
      · rw [if_neg hc2] at hf
        refine am_b1 C0 am_YYk (pc := 22) (pc2 := 25) [(.iconst 1, 0, 0, .int 1), (.iload_n 3, 0, 0, .null), (.ishl, 0, 0, .null)] (L := [some (.ref 26), some (.int (p1)), some (.int (l2)), some (.int (l3))]) (st := [.int (l2)]) (L' := [some (.ref 26), some (.int (p1)), some (.int (l2)), some (.int (l3))]) (st' := [.int ((1 : Int32) <<< (l3 &&& 31)), .int (l2)]) (g' := g) (w' := w) (cl := []) (by decide +kernel) rfl trivial ?_
        refine am_goto C0 (off := 4) (tgt := 29) (by decide +kernel) ?_
        refine am_wk [some (.ref 26), some (.int (p1)), none, some (.int (l3))] ⟨rfl, rfl, rfl, trivial⟩ rfl ?_
        exact B_X8_seen_29 x C0 hR w F g p1 R _ (fun l2 l3 hf => ih l2 l3 hf) (l3) (l2) ((1 : Int32) <<< (l3 &&& 31)) hf
def f_X8_seen (F : Nat) (g : am_G) (p1 : Int32) : Option (Int32) :=
  f_X8_seen_4 F g p1 F ((0 : Int32)) ((0 : Int32))
set_option maxRecDepth 20000 in
theorem M_X8_seen (l : Launch) (F : Nat) (g : am_G) (w : am_J) (p1 : Int32) (R : Int32) (hf : f_X8_seen F g p1 = some R) : am_Met l mi_X8_seen rm_X8_seen [.ref 26, .int p1] am_YY g w (some (.int R)) am_YY g w := by
  refine am_met (own := 8) [some (.ref 26), some (.int (p1)), none, none] (by decide) rfl rfl (by first | decide | exact Nat.le_of_ble_eq_true rfl) (fun x C0 hR hl hnm => ?_)
  unfold f_X8_seen at hf
  refine am_b1 C0 am_YYk (pc := 0) (pc2 := 4) [(.iconst 0, 0, 0, .int 0), (.istore_n 2, 0, 0, .null), (.iconst 0, 0, 0, .int 0), (.istore_n 3, 0, 0, .null)] (L := [some (.ref 26), some (.int (p1)), none, none]) (st := []) (L' := [some (.ref 26), some (.int (p1)), some (.int ((0 : Int32))), some (.int ((0 : Int32)))]) (st' := []) (g' := g) (w' := w) (cl := []) (by decide +kernel) rfl trivial ?_
  refine B_X8_seen_4 x C0 hR w F g p1 R   F ((0 : Int32)) ((0 : Int32)) hf
/-! ShutterTownModel.window(II)I at (26,) -/
def f_X8_window (F : Nat) (g : am_G) (p1 : Int32) (p2 : Int32) : Option (Int32) :=
  (f_X8_isWindow g p1).bind fun q1 =>
    if q1 = 0 then
      some ((-1 : Int32))
    else
      if p2 = (0 : Int32) then
        if am_in p1 6 then
          some (g 28 (Int32.toNatClampNeg p1))
        else none
      else
      if p2 = (1 : Int32) then
        if am_in p1 6 then
          some (g 29 (Int32.toNatClampNeg p1))
        else none
      else
      if p2 = (2 : Int32) then
        if am_in p1 6 then
          some (g 30 (Int32.toNatClampNeg p1))
        else none
      else
      if p2 = (3 : Int32) then
        if am_in p1 26 then
          some (g 32 (Int32.toNatClampNeg p1))
        else none
      else
      if p2 = (4 : Int32) then
        if am_in p1 6 then
          some (g 31 (Int32.toNatClampNeg p1))
        else none
      else
      if p2 = (5 : Int32) then
        (f_X8_wordOf g (0 : Int32) p1).bind fun q7 =>
          some (q7)
      else
      if p2 = (6 : Int32) then
        (f_X8_seen F g p1).bind fun q8 =>
          some (q8)
      else
      if p2 = (7 : Int32) then
        if am_in ((6 : Int32) + p1) 26 then
          some (g 32 (Int32.toNatClampNeg ((6 : Int32) + p1)))
        else none
      else
      some ((-2 : Int32))
set_option maxRecDepth 20000 in
theorem M_X8_window (l : Launch) (F : Nat) (g : am_G) (w : am_J) (p1 : Int32) (p2 : Int32) (R : Int32) (hf : f_X8_window F g p1 p2 = some R) : am_Met l mi_X8_window rm_X8_window [.ref 26, .int p1, .int p2] am_YY g w (some (.int R)) am_YY g w := by
  refine am_met (own := 8) [some (.ref 26), some (.int (p1)), some (.int (p2))] (by decide) rfl rfl (by first | decide | exact Nat.le_of_ble_eq_true rfl) (fun x C0 hR hl hnm => ?_)
  unfold f_X8_window at hf
  refine am_b1 C0 am_YYk (pc := 0) (pc2 := 2) [(.aload_n 0, 0, 0, .null), (.iload_n 1, 0, 0, .null)] (L := [some (.ref 26), some (.int (p1)), some (.int (p2))]) (st := []) (L' := [some (.ref 26), some (.int (p1)), some (.int (p2))]) (st' := [.int (p1), .ref 26]) (g' := g) (w' := w) (cl := []) (by decide +kernel) rfl trivial ?_
  obtain ⟨q1, hq1, hf⟩ := Option.bind_eq_some_iff.mp hf
  refine am_callV (mi := mi_X8_isWindow) (rm := rm_X8_isWindow) [.int (p1)] C0.1 am_YYl cv_8_125 (M_X8_isWindow _ g w p1 _ hq1) (ci := 8) rfl (by decide) rfl (by rw [hR]; rfl) rfl rfl (Nat.le_of_ble_eq_true rfl) (by decide +kernel) ?_
  refine am_if_ne C0 (off := 5) (tgt := 10) (by decide +kernel) (fun hc18 => ?_) (fun hc18 => ?_)
  · rw [if_neg hc18] at hf
    refine am_b1 C0 am_YYk (pc := 10) (pc2 := 11) [(.iload_n 2, 0, 0, .null)] (L := [some (.ref 26), some (.int (p1)), some (.int (p2))]) (st := []) (L' := [some (.ref 26), some (.int (p1)), some (.int (p2))]) (st' := [.int (p2)]) (g' := g) (w' := w) (cl := []) (by decide +kernel) rfl trivial ?_
    by_cases hs10 : p2 = (0 : Int32)
    · rw [if_pos hs10] at hf
      refine am_swIn C0 (n := 45) (dflt := 103) (lo := 0) (hi := 7) (offs := #[45, 52, 59, 66, 73, 80, 87, 93]) (by decide +kernel) (off := 45) (tgt := 56) (by rw [hs10]; decide) (by rw [hs10]; decide) (by rw [hs10]; rfl) (by decide) ?_
      obtain ⟨hg2, hf⟩ := am_g hf
      refine am_b1 C0 am_YYk (pc := 56) (pc2 := 62) [(.aload_n 0, 0, 0, .null), (.getfield 13, 8, 3, .null), (.iload_n 1, 0, 0, .null), (.iaload, 0, 0, .null)] (L := [some (.ref 26), some (.int (p1)), some (.int (p2))]) (st := []) (L' := [some (.ref 26), some (.int (p1)), some (.int (p2))]) (st' := [.int (g 28 (Int32.toNatClampNeg p1))]) (g' := g) (w' := w) (cl := [am_in p1 6]) (by decide +kernel) rfl ⟨hg2, trivial⟩ ?_
      cases hf
      exact am_iret C0 (by decide +kernel)
    rw [if_neg hs10] at hf
    by_cases hs11 : p2 = (1 : Int32)
    · rw [if_pos hs11] at hf
      refine am_swIn C0 (n := 45) (dflt := 103) (lo := 0) (hi := 7) (offs := #[45, 52, 59, 66, 73, 80, 87, 93]) (by decide +kernel) (off := 52) (tgt := 63) (by rw [hs11]; decide) (by rw [hs11]; decide) (by rw [hs11]; rfl) (by decide) ?_
      obtain ⟨hg3, hf⟩ := am_g hf
      refine am_b1 C0 am_YYk (pc := 63) (pc2 := 69) [(.aload_n 0, 0, 0, .null), (.getfield 16, 8, 4, .null), (.iload_n 1, 0, 0, .null), (.iaload, 0, 0, .null)] (L := [some (.ref 26), some (.int (p1)), some (.int (p2))]) (st := []) (L' := [some (.ref 26), some (.int (p1)), some (.int (p2))]) (st' := [.int (g 29 (Int32.toNatClampNeg p1))]) (g' := g) (w' := w) (cl := [am_in p1 6]) (by decide +kernel) rfl ⟨hg3, trivial⟩ ?_
      cases hf
      exact am_iret C0 (by decide +kernel)
    rw [if_neg hs11] at hf
    by_cases hs12 : p2 = (2 : Int32)
    · rw [if_pos hs12] at hf
      refine am_swIn C0 (n := 45) (dflt := 103) (lo := 0) (hi := 7) (offs := #[45, 52, 59, 66, 73, 80, 87, 93]) (by decide +kernel) (off := 59) (tgt := 70) (by rw [hs12]; decide) (by rw [hs12]; decide) (by rw [hs12]; rfl) (by decide) ?_
      obtain ⟨hg4, hf⟩ := am_g hf
      refine am_b1 C0 am_YYk (pc := 70) (pc2 := 76) [(.aload_n 0, 0, 0, .null), (.getfield 19, 8, 5, .null), (.iload_n 1, 0, 0, .null), (.iaload, 0, 0, .null)] (L := [some (.ref 26), some (.int (p1)), some (.int (p2))]) (st := []) (L' := [some (.ref 26), some (.int (p1)), some (.int (p2))]) (st' := [.int (g 30 (Int32.toNatClampNeg p1))]) (g' := g) (w' := w) (cl := [am_in p1 6]) (by decide +kernel) rfl ⟨hg4, trivial⟩ ?_
      cases hf
      exact am_iret C0 (by decide +kernel)
    rw [if_neg hs12] at hf
    by_cases hs13 : p2 = (3 : Int32)
    · rw [if_pos hs13] at hf
      refine am_swIn C0 (n := 45) (dflt := 103) (lo := 0) (hi := 7) (offs := #[45, 52, 59, 66, 73, 80, 87, 93]) (by decide +kernel) (off := 66) (tgt := 77) (by rw [hs13]; decide) (by rw [hs13]; decide) (by rw [hs13]; rfl) (by decide) ?_
      obtain ⟨hg5, hf⟩ := am_g hf
      refine am_b1 C0 am_YYk (pc := 77) (pc2 := 83) [(.aload_n 0, 0, 0, .null), (.getfield 25, 8, 7, .null), (.iload_n 1, 0, 0, .null), (.iaload, 0, 0, .null)] (L := [some (.ref 26), some (.int (p1)), some (.int (p2))]) (st := []) (L' := [some (.ref 26), some (.int (p1)), some (.int (p2))]) (st' := [.int (g 32 (Int32.toNatClampNeg p1))]) (g' := g) (w' := w) (cl := [am_in p1 26]) (by decide +kernel) rfl ⟨hg5, trivial⟩ ?_
      cases hf
      exact am_iret C0 (by decide +kernel)
    rw [if_neg hs13] at hf
    by_cases hs14 : p2 = (4 : Int32)
    · rw [if_pos hs14] at hf
      refine am_swIn C0 (n := 45) (dflt := 103) (lo := 0) (hi := 7) (offs := #[45, 52, 59, 66, 73, 80, 87, 93]) (by decide +kernel) (off := 73) (tgt := 84) (by rw [hs14]; decide) (by rw [hs14]; decide) (by rw [hs14]; rfl) (by decide) ?_
      obtain ⟨hg6, hf⟩ := am_g hf
      refine am_b1 C0 am_YYk (pc := 84) (pc2 := 90) [(.aload_n 0, 0, 0, .null), (.getfield 22, 8, 6, .null), (.iload_n 1, 0, 0, .null), (.iaload, 0, 0, .null)] (L := [some (.ref 26), some (.int (p1)), some (.int (p2))]) (st := []) (L' := [some (.ref 26), some (.int (p1)), some (.int (p2))]) (st' := [.int (g 31 (Int32.toNatClampNeg p1))]) (g' := g) (w' := w) (cl := [am_in p1 6]) (by decide +kernel) rfl ⟨hg6, trivial⟩ ?_
      cases hf
      exact am_iret C0 (by decide +kernel)
    rw [if_neg hs14] at hf
    by_cases hs15 : p2 = (5 : Int32)
    · rw [if_pos hs15] at hf
      refine am_swIn C0 (n := 45) (dflt := 103) (lo := 0) (hi := 7) (offs := #[45, 52, 59, 66, 73, 80, 87, 93]) (by decide +kernel) (off := 80) (tgt := 91) (by rw [hs15]; decide) (by rw [hs15]; decide) (by rw [hs15]; rfl) (by decide) ?_
      refine am_b1 C0 am_YYk (pc := 91) (pc2 := 94) [(.aload_n 0, 0, 0, .null), (.iconst 0, 0, 0, .int 0), (.iload_n 1, 0, 0, .null)] (L := [some (.ref 26), some (.int (p1)), some (.int (p2))]) (st := []) (L' := [some (.ref 26), some (.int (p1)), some (.int (p2))]) (st' := [.int (p1), .int ((0 : Int32)), .ref 26]) (g' := g) (w' := w) (cl := []) (by decide +kernel) rfl trivial ?_
      obtain ⟨q7, hq7, hf⟩ := Option.bind_eq_some_iff.mp hf
      refine am_callV (mi := mi_X8_wordOf) (rm := rm_X8_wordOf) [.int ((0 : Int32)), .int (p1)] C0.1 am_YYl cv_8_122 (M_X8_wordOf _ g w (0 : Int32) p1 _ hq7) (ci := 8) rfl (by decide) rfl (by rw [hR]; rfl) rfl rfl (Nat.le_of_ble_eq_true rfl) (by decide +kernel) ?_
      cases hf
      exact am_iret C0 (by decide +kernel)
    rw [if_neg hs15] at hf
    by_cases hs16 : p2 = (6 : Int32)
    · rw [if_pos hs16] at hf
      refine am_swIn C0 (n := 45) (dflt := 103) (lo := 0) (hi := 7) (offs := #[45, 52, 59, 66, 73, 80, 87, 93]) (by decide +kernel) (off := 87) (tgt := 98) (by rw [hs16]; decide) (by rw [hs16]; decide) (by rw [hs16]; rfl) (by decide) ?_
      refine am_b1 C0 am_YYk (pc := 98) (pc2 := 100) [(.aload_n 0, 0, 0, .null), (.iload_n 1, 0, 0, .null)] (L := [some (.ref 26), some (.int (p1)), some (.int (p2))]) (st := []) (L' := [some (.ref 26), some (.int (p1)), some (.int (p2))]) (st' := [.int (p1), .ref 26]) (g' := g) (w' := w) (cl := []) (by decide +kernel) rfl trivial ?_
      obtain ⟨q8, hq8, hf⟩ := Option.bind_eq_some_iff.mp hf
      refine am_callV (mi := mi_X8_seen) (rm := rm_X8_seen) [.int (p1)] C0.1 am_YYl cv_8_129 (M_X8_seen _ F g w p1 _ hq8) (ci := 8) rfl (by decide) rfl (by rw [hR]; rfl) rfl rfl (Nat.le_of_ble_eq_true rfl) (by decide +kernel) ?_
      cases hf
      exact am_iret C0 (by decide +kernel)
    rw [if_neg hs16] at hf
    by_cases hs17 : p2 = (7 : Int32)
    · rw [if_pos hs17] at hf
      refine am_swIn C0 (n := 45) (dflt := 103) (lo := 0) (hi := 7) (offs := #[45, 52, 59, 66, 73, 80, 87, 93]) (by decide +kernel) (off := 93) (tgt := 104) (by rw [hs17]; decide) (by rw [hs17]; decide) (by rw [hs17]; rfl) (by decide) ?_
      obtain ⟨hg9, hf⟩ := am_g hf
      refine am_b1 C0 am_YYk (pc := 104) (pc2 := 113) [(.aload_n 0, 0, 0, .null), (.getfield 25, 8, 7, .null), (.bipush 6, 0, 0, .int 6), (.iload_n 1, 0, 0, .null), (.iadd, 0, 0, .null), (.iaload, 0, 0, .null)] (L := [some (.ref 26), some (.int (p1)), some (.int (p2))]) (st := []) (L' := [some (.ref 26), some (.int (p1)), some (.int (p2))]) (st' := [.int (g 32 (Int32.toNatClampNeg ((6 : Int32) + p1)))]) (g' := g) (w' := w) (cl := [am_in ((6 : Int32) + p1) 26]) (by decide +kernel) rfl ⟨hg9, trivial⟩ ?_
      cases hf
      exact am_iret C0 (by decide +kernel)
    rw [if_neg hs17] at hf
    refine am_swOut C0 (n := 45) (dflt := 103) (lo := 0) (hi := 7) (offs := #[45, 52, 59, 66, 73, 80, 87, 93]) (by decide +kernel) (tgt := 114) (am_sw7 hs10 hs11 hs12 hs13 hs14 hs15 hs16 hs17) (by decide) ?_
    refine am_b1 C0 am_YYk (pc := 114) (pc2 := 116) [(.bipush (-2), 0, 0, .int (-2))] (L := [some (.ref 26), some (.int (p1)), some (.int (p2))]) (st := []) (L' := [some (.ref 26), some (.int (p1)), some (.int (p2))]) (st' := [.int ((-2 : Int32))]) (g' := g) (w' := w) (cl := []) (by decide +kernel) rfl trivial ?_
    cases hf
    exact am_iret C0 (by decide +kernel)
  · rw [if_pos hc18] at hf
    refine am_b1 C0 am_YYk (pc := 8) (pc2 := 9) [(.iconst (-1), 0, 0, .int (-1))] (L := [some (.ref 26), some (.int (p1)), some (.int (p2))]) (st := []) (L' := [some (.ref 26), some (.int (p1)), some (.int (p2))]) (st' := [.int ((-1 : Int32))]) (g' := g) (w' := w) (cl := []) (by decide +kernel) rfl trivial ?_
    cases hf
    exact am_iret C0 (by decide +kernel)
/-! ShutterTownModel.keepAct()V at (26,) -/
def f_X8_keepAct_34 (F : Nat)  (g : am_G) : Option (am_G) :=
  if (14 : Int32) ≤ ((am_u g 26 18 (((g 26 18) + (1 : Int32)) - ((g 26 18) + (1 : Int32)) / (14 : Int32) * (14 : Int32))) 26 17) then
    some (am_u (am_u g 26 18 (((g 26 18) + (1 : Int32)) - ((g 26 18) + (1 : Int32)) / (14 : Int32) * (14 : Int32))) 26 17 (14 : Int32))
  else
    some (am_u (am_u g 26 18 (((g 26 18) + (1 : Int32)) - ((g 26 18) + (1 : Int32)) / (14 : Int32) * (14 : Int32))) 26 17 (((am_u g 26 18 (((g 26 18) + (1 : Int32)) - ((g 26 18) + (1 : Int32)) / (14 : Int32) * (14 : Int32))) 26 17) + (1 : Int32)))
set_option maxRecDepth 20000 in
theorem B_X8_keepAct_34 (x : am_X) (C0 : am_Cm x 8 cX8_keepAct 2 none) (hR : am_R x = rm_X8_keepAct) (w : am_J) (F : Nat) (R : am_G)   (g : am_G) (hf : f_X8_keepAct_34 F g = some R) : am_Ev x 2 (0, 0) (am_Q x (0, 0) none am_YY R w) 34 [some (.ref 26), none] [] am_YY g w := by
  unfold f_X8_keepAct_34 at hf
  refine am_b1 C0 am_YYk (pc := 34) (pc2 := 54) [(.aload_n 0, 0, 0, .null), (.aload_n 0, 0, 0, .null), (.getfield 132, 8, 18, .null), (.iconst 1, 0, 0, .int 1), (.iadd, 0, 0, .null), (.bipush 14, 0, 0, .int 14), (.irem, 0, 0, .null), (.putfield 132, 8, 18, .null), (.aload_n 0, 0, 0, .null), (.aload_n 0, 0, 0, .null), (.getfield 114, 8, 17, .null), (.bipush 14, 0, 0, .int 14)] (L := [some (.ref 26), none]) (st := []) (L' := [some (.ref 26), none]) (st' := [.int ((14 : Int32)), .int ((am_u g 26 18 (((g 26 18) + (1 : Int32)) - ((g 26 18) + (1 : Int32)) / (14 : Int32) * (14 : Int32))) 26 17), .ref 26]) (g' := am_u g 26 18 (((g 26 18) + (1 : Int32)) - ((g 26 18) + (1 : Int32)) / (14 : Int32) * (14 : Int32))) (w' := w) (cl := [¬ (14 : Int32) = 0]) (by decide +kernel) rfl ⟨by decide, trivial⟩ ?_
  refine am_icmp_ge C0 (off := 12) (tgt := 66) (by decide +kernel) (fun hc1 => ?_) (fun hc1 => ?_)
  · rw [if_pos hc1] at hf
    refine am_b1 C0 am_YYk (pc := 66) (pc2 := 71) [(.bipush 14, 0, 0, .int 14), (.putfield 114, 8, 17, .null)] (L := [some (.ref 26), none]) (st := [.ref 26]) (L' := [some (.ref 26), none]) (st' := []) (g' := am_u (am_u g 26 18 (((g 26 18) + (1 : Int32)) - ((g 26 18) + (1 : Int32)) / (14 : Int32) * (14 : Int32))) 26 17 (14 : Int32)) (w' := w) (cl := []) (by decide +kernel) rfl trivial ?_
    cases hf
    exact am_vret C0 (by decide +kernel)
  · rw [if_neg hc1] at hf
    refine am_b1 C0 am_YYk (pc := 57) (pc2 := 63) [(.aload_n 0, 0, 0, .null), (.getfield 114, 8, 17, .null), (.iconst 1, 0, 0, .int 1), (.iadd, 0, 0, .null)] (L := [some (.ref 26), none]) (st := [.ref 26]) (L' := [some (.ref 26), none]) (st' := [.int (((am_u g 26 18 (((g 26 18) + (1 : Int32)) - ((g 26 18) + (1 : Int32)) / (14 : Int32) * (14 : Int32))) 26 17) + (1 : Int32)), .ref 26]) (g' := am_u g 26 18 (((g 26 18) + (1 : Int32)) - ((g 26 18) + (1 : Int32)) / (14 : Int32) * (14 : Int32))) (w' := w) (cl := []) (by decide +kernel) rfl trivial ?_
    refine am_goto C0 (off := 5) (tgt := 68) (by decide +kernel) ?_
    refine am_b1 C0 am_YYk (pc := 68) (pc2 := 71) [(.putfield 114, 8, 17, .null)] (L := [some (.ref 26), none]) (st := [.int (((am_u g 26 18 (((g 26 18) + (1 : Int32)) - ((g 26 18) + (1 : Int32)) / (14 : Int32) * (14 : Int32))) 26 17) + (1 : Int32)), .ref 26]) (L' := [some (.ref 26), none]) (st' := []) (g' := am_u (am_u g 26 18 (((g 26 18) + (1 : Int32)) - ((g 26 18) + (1 : Int32)) / (14 : Int32) * (14 : Int32))) 26 17 (((am_u g 26 18 (((g 26 18) + (1 : Int32)) - ((g 26 18) + (1 : Int32)) / (14 : Int32) * (14 : Int32))) 26 17) + (1 : Int32))) (w' := w) (cl := []) (by decide +kernel) rfl trivial ?_
    cases hf
    exact am_vret C0 (by decide +kernel)
def f_X8_keepAct_2 (F : Nat) (k34 : am_G → Option (am_G)) : Nat → Int32 → am_G → Option (am_G)
  | 0, _, _ => none
  | n + 1, l1, g =>
    if (13 : Int32) ≤ l1 then
      k34 (g)
    else
      if am_in l1 26 then
        if am_in (((13 : Int32) * (g 26 18)) + l1) 182 then
          f_X8_keepAct_2 F k34 n (l1 + (1 : Int32)) (am_u g 36 (Int32.toNatClampNeg (((13 : Int32) * (g 26 18)) + l1)) (g 32 (Int32.toNatClampNeg l1)))
        else none
      else none
set_option maxRecDepth 20000 in
theorem B_X8_keepAct_2 (x : am_X) (C0 : am_Cm x 8 cX8_keepAct 2 none) (hR : am_R x = rm_X8_keepAct) (w : am_J) (F : Nat) (R : am_G) (k34 : am_G → Option (am_G)) (hk34 : ∀ (g : am_G), k34 g = some R → am_Ev x 2 (0, 0) (am_Q x (0, 0) none am_YY R w) 34 [some (.ref 26), none] [] am_YY g w) : ∀ (n : Nat) (l1 : Int32) (g : am_G), f_X8_keepAct_2 F k34 n l1 g = some R → am_Ev x 2 (0, 0) (am_Q x (0, 0) none am_YY R w) 2 [some (.ref 26), some (.int (l1))] [] am_YY g w := by
  intro n
  induction n with
  | zero => intro l1 g hf; cases hf
  | succ n ih =>
    intro l1 g hf
    rw [f_X8_keepAct_2.eq_2] at hf
    refine am_b1 C0 am_YYk (pc := 2) (pc2 := 5) [(.iload_n 1, 0, 0, .null), (.bipush 13, 0, 0, .int 13)] (L := [some (.ref 26), some (.int (l1))]) (st := []) (L' := [some (.ref 26), some (.int (l1))]) (st' := [.int ((13 : Int32)), .int (l1)]) (g' := g) (w' := w) (cl := []) (by decide +kernel) rfl trivial ?_
    refine am_icmp_ge C0 (off := 29) (tgt := 34) (by decide +kernel) (fun hc4 => ?_) (fun hc4 => ?_)
    · rw [if_pos hc4] at hf
      refine am_wk [some (.ref 26), none] ⟨rfl, trivial⟩ rfl ?_
      exact hk34 (g) hf
    · rw [if_neg hc4] at hf
      obtain ⟨hg2, hf⟩ := am_g hf
      obtain ⟨hg3, hf⟩ := am_g hf
      refine am_b1 C0 am_YYk (pc := 8) (pc2 := 31) [(.aload_n 0, 0, 0, .null), (.getfield 37, 8, 19, .null), (.bipush 13, 0, 0, .int 13), (.aload_n 0, 0, 0, .null), (.getfield 132, 8, 18, .null), (.imul, 0, 0, .null), (.iload_n 1, 0, 0, .null), (.iadd, 0, 0, .null), (.aload_n 0, 0, 0, .null), (.getfield 25, 8, 7, .null), (.iload_n 1, 0, 0, .null), (.iaload, 0, 0, .null), (.iastore, 0, 0, .null), (.iinc 1 1, 0, 0, .int 1)] (L := [some (.ref 26), some (.int (l1))]) (st := []) (L' := [some (.ref 26), some (.int (l1 + (1 : Int32)))]) (st' := []) (g' := am_u g 36 (Int32.toNatClampNeg (((13 : Int32) * (g 26 18)) + l1)) (g 32 (Int32.toNatClampNeg l1))) (w' := w) (cl := [am_in l1 26, am_in (((13 : Int32) * (g 26 18)) + l1) 182]) (by decide +kernel) rfl ⟨hg2, hg3, trivial⟩ ?_
      refine am_goto C0 (off := (-29)) (tgt := 2) (by decide +kernel) ?_
      exact ih (l1 + (1 : Int32)) (am_u g 36 (Int32.toNatClampNeg (((13 : Int32) * (g 26 18)) + l1)) (g 32 (Int32.toNatClampNeg l1))) hf
def f_X8_keepAct (F : Nat) (g : am_G) : Option (am_G) :=
  f_X8_keepAct_2 F (fun g => f_X8_keepAct_34 F (g)) F ((0 : Int32)) (g)
set_option maxRecDepth 20000 in
theorem M_X8_keepAct (l : Launch) (F : Nat) (g : am_G) (w : am_J)  (R : am_G) (hf : f_X8_keepAct F g = some R) : am_Met l mi_X8_keepAct rm_X8_keepAct [.ref 26] am_YY g w none am_YY R w := by
  refine am_met (own := 8) [some (.ref 26), none] (by decide) rfl rfl (by first | decide | exact Nat.le_of_ble_eq_true rfl) (fun x C0 hR hl hnm => ?_)
  unfold f_X8_keepAct at hf
  refine am_b1 C0 am_YYk (pc := 0) (pc2 := 2) [(.iconst 0, 0, 0, .int 0), (.istore_n 1, 0, 0, .null)] (L := [some (.ref 26), none]) (st := []) (L' := [some (.ref 26), some (.int ((0 : Int32)))]) (st' := []) (g' := g) (w' := w) (cl := []) (by decide +kernel) rfl trivial ?_
  refine B_X8_keepAct_2 x C0 hR w F R _ ?_ F ((0 : Int32)) (g) hf
  · intro g hf
    exact B_X8_keepAct_34 x C0 hR w F R  (g) hf
/-! ShutterTownModel.move(II)I at (26,) -/
def f_X8_move (F : Nat) (g : am_G) (p1 : Int32) (p2 : Int32) : Option (Int32 × am_G) :=
  (f_X8_isWindow g p1).bind fun q1 =>
    if q1 = 0 then
      some ((-1 : Int32), g)
    else
      (f_X8_in (Int32.toInt64 p2) (0 : Int64) (3 : Int64)).bind fun q2 =>
        if q2 = 0 then
          some ((-2 : Int32), g)
        else
          if am_in p1 26 then
            if (g 32 (Int32.toNatClampNeg p1)) = p2 then
              some ((-3 : Int32), g)
            else
              if am_in p1 6 then
                if (g 31 (Int32.toNatClampNeg p1)) = (3 : Int32) then
                  some ((-3 : Int32), g)
                else
                  (f_X8_keepAct F g).bind fun q5 =>
                    if am_in p1 26 then
                      (f_X8_wordOf (am_u q5 32 (Int32.toNatClampNeg p1) p2) (0 : Int32) p1).bind fun q7 =>
                        some (q7, am_u q5 32 (Int32.toNatClampNeg p1) p2)
                    else none
              else none
          else none
set_option maxRecDepth 20000 in
theorem M_X8_move (l : Launch) (F : Nat) (g : am_G) (w : am_J) (p1 : Int32) (p2 : Int32) (R : Int32 × am_G) (hf : f_X8_move F g p1 p2 = some R) : am_Met l mi_X8_move rm_X8_move [.ref 26, .int p1, .int p2] am_YY g w (some (.int R.1)) am_YY (R.2) w := by
  refine am_met (own := 8) [some (.ref 26), some (.int (p1)), some (.int (p2))] (by decide) rfl rfl (by first | decide | exact Nat.le_of_ble_eq_true rfl) (fun x C0 hR hl hnm => ?_)
  unfold f_X8_move at hf
  refine am_b1 C0 am_YYk (pc := 0) (pc2 := 2) [(.aload_n 0, 0, 0, .null), (.iload_n 1, 0, 0, .null)] (L := [some (.ref 26), some (.int (p1)), some (.int (p2))]) (st := []) (L' := [some (.ref 26), some (.int (p1)), some (.int (p2))]) (st' := [.int (p1), .ref 26]) (g' := g) (w' := w) (cl := []) (by decide +kernel) rfl trivial ?_
  obtain ⟨q1, hq1, hf⟩ := Option.bind_eq_some_iff.mp hf
  refine am_callV (mi := mi_X8_isWindow) (rm := rm_X8_isWindow) [.int (p1)] C0.1 am_YYl cv_8_125 (M_X8_isWindow _ g w p1 _ hq1) (ci := 8) rfl (by decide) rfl (by rw [hR]; rfl) rfl rfl (Nat.le_of_ble_eq_true rfl) (by decide +kernel) ?_
  refine am_if_ne C0 (off := 5) (tgt := 10) (by decide +kernel) (fun hc11 => ?_) (fun hc11 => ?_)
  · rw [if_neg hc11] at hf
    refine am_b1 C0 am_YYk (pc := 10) (pc2 := 16) [(.iload_n 2, 0, 0, .null), (.i2l, 0, 0, .null), (.lconst 0, 0, 0, .long 0), (.ldc2_w 135, 0, 0, .long 3)] (L := [some (.ref 26), some (.int (p1)), some (.int (p2))]) (st := []) (L' := [some (.ref 26), some (.int (p1)), some (.int (p2))]) (st' := [.long ((3 : Int64)), .long ((0 : Int64)), .long (Int32.toInt64 p2)]) (g' := g) (w' := w) (cl := []) (by decide +kernel) rfl trivial ?_
    obtain ⟨q2, hq2, hf⟩ := Option.bind_eq_some_iff.mp hf
    refine am_callS (mi := mi_X8_in) (rm := rm_X8_in) [.long (Int32.toInt64 p2), .long ((0 : Int64)), .long ((3 : Int64))] C0.1 cv_8_65 (M_X8_in _ g w (Int32.toInt64 p2) (0 : Int64) (3 : Int64) _ hq2) (by rw [hR]; rfl) rfl rfl (Nat.le_of_ble_eq_true rfl) (by decide +kernel) ?_
    refine am_if_ne C0 (off := 6) (tgt := 25) (by decide +kernel) (fun hc10 => ?_) (fun hc10 => ?_)
    · rw [if_neg hc10] at hf
      obtain ⟨hg3, hf⟩ := am_g hf
      refine am_b1 C0 am_YYk (pc := 25) (pc2 := 32) [(.aload_n 0, 0, 0, .null), (.getfield 25, 8, 7, .null), (.iload_n 1, 0, 0, .null), (.iaload, 0, 0, .null), (.iload_n 2, 0, 0, .null)] (L := [some (.ref 26), some (.int (p1)), some (.int (p2))]) (st := []) (L' := [some (.ref 26), some (.int (p1)), some (.int (p2))]) (st' := [.int (p2), .int (g 32 (Int32.toNatClampNeg p1))]) (g' := g) (w' := w) (cl := [am_in p1 26]) (by decide +kernel) rfl ⟨hg3, trivial⟩ ?_
      refine am_icmp_eq C0 (off := 13) (tgt := 45) (by decide +kernel) (fun hc9 => ?_) (fun hc9 => ?_)
      · rw [if_pos hc9] at hf
        refine am_b1 C0 am_YYk (pc := 45) (pc2 := 47) [(.bipush (-3), 0, 0, .int (-3))] (L := [some (.ref 26), some (.int (p1)), some (.int (p2))]) (st := []) (L' := [some (.ref 26), some (.int (p1)), some (.int (p2))]) (st' := [.int ((-3 : Int32))]) (g' := g) (w' := w) (cl := []) (by decide +kernel) rfl trivial ?_
        cases hf
        exact am_iret C0 (by decide +kernel)
      · rw [if_neg hc9] at hf
        obtain ⟨hg4, hf⟩ := am_g hf
        refine am_b1 C0 am_YYk (pc := 35) (pc2 := 42) [(.aload_n 0, 0, 0, .null), (.getfield 22, 8, 6, .null), (.iload_n 1, 0, 0, .null), (.iaload, 0, 0, .null), (.iconst 3, 0, 0, .int 3)] (L := [some (.ref 26), some (.int (p1)), some (.int (p2))]) (st := []) (L' := [some (.ref 26), some (.int (p1)), some (.int (p2))]) (st' := [.int ((3 : Int32)), .int (g 31 (Int32.toNatClampNeg p1))]) (g' := g) (w' := w) (cl := [am_in p1 6]) (by decide +kernel) rfl ⟨hg4, trivial⟩ ?_
        refine am_icmp_ne C0 (off := 6) (tgt := 48) (by decide +kernel) (fun hc8 => ?_) (fun hc8 => ?_)
        · rw [if_neg hc8] at hf
          refine am_b1 C0 am_YYk (pc := 48) (pc2 := 49) [(.aload_n 0, 0, 0, .null)] (L := [some (.ref 26), some (.int (p1)), some (.int (p2))]) (st := []) (L' := [some (.ref 26), some (.int (p1)), some (.int (p2))]) (st' := [.ref 26]) (g' := g) (w' := w) (cl := []) (by decide +kernel) rfl trivial ?_
          obtain ⟨q5, hq5, hf⟩ := Option.bind_eq_some_iff.mp hf
          refine am_callV (mi := mi_X8_keepAct) (rm := rm_X8_keepAct) [] C0.1 am_YYl cv_8_137 (M_X8_keepAct _ F g w _ hq5) (ci := 8) rfl (by decide) rfl (by rw [hR]; rfl) rfl rfl (Nat.le_of_ble_eq_true rfl) (by decide +kernel) ?_
          obtain ⟨hg6, hf⟩ := am_g hf
          refine am_b1 C0 am_YYk (pc := 52) (pc2 := 62) [(.aload_n 0, 0, 0, .null), (.getfield 25, 8, 7, .null), (.iload_n 1, 0, 0, .null), (.iload_n 2, 0, 0, .null), (.iastore, 0, 0, .null), (.aload_n 0, 0, 0, .null), (.iconst 0, 0, 0, .int 0), (.iload_n 1, 0, 0, .null)] (L := [some (.ref 26), some (.int (p1)), some (.int (p2))]) (st := []) (L' := [some (.ref 26), some (.int (p1)), some (.int (p2))]) (st' := [.int (p1), .int ((0 : Int32)), .ref 26]) (g' := am_u q5 32 (Int32.toNatClampNeg p1) p2) (w' := w) (cl := [am_in p1 26]) (by decide +kernel) rfl ⟨hg6, trivial⟩ ?_
          obtain ⟨q7, hq7, hf⟩ := Option.bind_eq_some_iff.mp hf
          refine am_callV (mi := mi_X8_wordOf) (rm := rm_X8_wordOf) [.int ((0 : Int32)), .int (p1)] C0.1 am_YYl cv_8_122 (M_X8_wordOf _ (am_u q5 32 (Int32.toNatClampNeg p1) p2) w (0 : Int32) p1 _ hq7) (ci := 8) rfl (by decide) rfl (by rw [hR]; rfl) rfl rfl (Nat.le_of_ble_eq_true rfl) (by decide +kernel) ?_
          cases hf
          exact am_iret C0 (by decide +kernel)
        · rw [if_pos hc8] at hf
          refine am_b1 C0 am_YYk (pc := 45) (pc2 := 47) [(.bipush (-3), 0, 0, .int (-3))] (L := [some (.ref 26), some (.int (p1)), some (.int (p2))]) (st := []) (L' := [some (.ref 26), some (.int (p1)), some (.int (p2))]) (st' := [.int ((-3 : Int32))]) (g' := g) (w' := w) (cl := []) (by decide +kernel) rfl trivial ?_
          cases hf
          exact am_iret C0 (by decide +kernel)
    · rw [if_pos hc10] at hf
      refine am_b1 C0 am_YYk (pc := 22) (pc2 := 24) [(.bipush (-2), 0, 0, .int (-2))] (L := [some (.ref 26), some (.int (p1)), some (.int (p2))]) (st := []) (L' := [some (.ref 26), some (.int (p1)), some (.int (p2))]) (st' := [.int ((-2 : Int32))]) (g' := g) (w' := w) (cl := []) (by decide +kernel) rfl trivial ?_
      cases hf
      exact am_iret C0 (by decide +kernel)
  · rw [if_pos hc11] at hf
    refine am_b1 C0 am_YYk (pc := 8) (pc2 := 9) [(.iconst (-1), 0, 0, .int (-1))] (L := [some (.ref 26), some (.int (p1)), some (.int (p2))]) (st := []) (L' := [some (.ref 26), some (.int (p1)), some (.int (p2))]) (st' := [.int ((-1 : Int32))]) (g' := g) (w' := w) (cl := []) (by decide +kernel) rfl trivial ?_
    cases hf
    exact am_iret C0 (by decide +kernel)
/-! ShutterTownModel.windOn(I)I at (26,) -/
def f_X8_windOn_43 (F : Nat) (p1 : Int32) (k4 : Int32 → Int32 → am_G → Option (Int32 × am_G)) (l2 : Int32) (l3 : Int32) (g : am_G) : Option (Int32 × am_G) :=
  k4 (l2) (l3 + (1 : Int32)) (g)
set_option maxRecDepth 20000 in
theorem B_X8_windOn_43 (x : am_X) (C0 : am_Cm x 8 cX8_windOn 4 (some .int)) (hR : am_R x = rm_X8_windOn) (w : am_J) (F : Nat) (p1 : Int32) (R : Int32 × am_G) (k4 : Int32 → Int32 → am_G → Option (Int32 × am_G)) (hk4 : ∀ (l2 : Int32) (l3 : Int32) (g : am_G), k4 l2 l3 g = some R → am_Ev x 4 (0, 0) (am_Q x (0, 0) (some (.int R.1)) am_YY (R.2) w) 4 [some (.ref 26), some (.int (p1)), some (.int (l2)), some (.int (l3))] [] am_YY g w) (l2 : Int32) (l3 : Int32) (g : am_G) (hf : f_X8_windOn_43 F p1 k4 l2 l3 g = some R) : am_Ev x 4 (0, 0) (am_Q x (0, 0) (some (.int R.1)) am_YY (R.2) w) 43 [some (.ref 26), some (.int (p1)), some (.int (l2)), some (.int (l3))] [] am_YY g w := by
  unfold f_X8_windOn_43 at hf
  refine am_b1 C0 am_YYk (pc := 43) (pc2 := 46) [(.iinc 3 1, 0, 0, .int 1)] (L := [some (.ref 26), some (.int (p1)), some (.int (l2)), some (.int (l3))]) (st := []) (L' := [some (.ref 26), some (.int (p1)), some (.int (l2)), some (.int (l3 + (1 : Int32)))]) (st' := []) (g' := g) (w' := w) (cl := []) (by decide +kernel) rfl trivial ?_
  refine am_goto C0 (off := (-42)) (tgt := 4) (by decide +kernel) ?_
  exact hk4 (l2) (l3 + (1 : Int32)) (g) hf
def f_X8_windOn_4 (F : Nat) (p1 : Int32)  : Nat → Int32 → Int32 → am_G → Option (Int32 × am_G)
  | 0, _, _, _ => none
  | n + 1, l2, l3, g =>
    if (g 26 0) ≤ l3 then
      some (l2, g)
    else
      if am_in l3 6 then
        if (g 31 (Int32.toNatClampNeg l3)) = (2 : Int32) then
          if am_in (((13 : Int32) * p1) + l3) 26 then
            if am_in (((13 : Int32) * p1) + l3) 26 then
              f_X8_windOn_43 F p1 (fun l2 l3 g => f_X8_windOn_4 F p1 n l2 l3 g) (l2 ||| ((1 : Int32) <<< (l3 &&& 31))) (l3) (am_u g 32 (Int32.toNatClampNeg (((13 : Int32) * p1) + l3)) ((g 32 (Int32.toNatClampNeg (((13 : Int32) * p1) + l3))) ^^^ (1 : Int32)))
            else none
          else none
        else
          f_X8_windOn_43 F p1 (fun l2 l3 g => f_X8_windOn_4 F p1 n l2 l3 g) (l2) (l3) (g)
      else none
set_option maxRecDepth 20000 in
theorem B_X8_windOn_4 (x : am_X) (C0 : am_Cm x 8 cX8_windOn 4 (some .int)) (hR : am_R x = rm_X8_windOn) (w : am_J) (F : Nat) (p1 : Int32) (R : Int32 × am_G)   : ∀ (n : Nat) (l2 : Int32) (l3 : Int32) (g : am_G), f_X8_windOn_4 F p1 n l2 l3 g = some R → am_Ev x 4 (0, 0) (am_Q x (0, 0) (some (.int R.1)) am_YY (R.2) w) 4 [some (.ref 26), some (.int (p1)), some (.int (l2)), some (.int (l3))] [] am_YY g w := by
  intro n
  induction n with
  | zero => intro l2 l3 g hf; cases hf
  | succ n ih =>
    intro l2 l3 g hf
    rw [f_X8_windOn_4.eq_2] at hf
    refine am_b1 C0 am_YYk (pc := 4) (pc2 := 9) [(.iload_n 3, 0, 0, .null), (.aload_n 0, 0, 0, .null), (.getfield 111, 8, 0, .null)] (L := [some (.ref 26), some (.int (p1)), some (.int (l2)), some (.int (l3))]) (st := []) (L' := [some (.ref 26), some (.int (p1)), some (.int (l2)), some (.int (l3))]) (st' := [.int (g 26 0), .int (l3)]) (g' := g) (w' := w) (cl := []) (by decide +kernel) rfl trivial ?_
    refine am_icmp_ge C0 (off := 40) (tgt := 49) (by decide +kernel) (fun hc5 => ?_) (fun hc5 => ?_)
    · rw [if_pos hc5] at hf
      refine am_b1 C0 am_YYk (pc := 49) (pc2 := 50) [(.iload_n 2, 0, 0, .null)] (L := [some (.ref 26), some (.int (p1)), some (.int (l2)), some (.int (l3))]) (st := []) (L' := [some (.ref 26), some (.int (p1)), some (.int (l2)), some (.int (l3))]) (st' := [.int (l2)]) (g' := g) (w' := w) (cl := []) (by decide +kernel) rfl trivial ?_
      cases hf
      exact am_iret C0 (by decide +kernel)
    · rw [if_neg hc5] at hf
      obtain ⟨hg1, hf⟩ := am_g hf
      refine am_b1 C0 am_YYk (pc := 12) (pc2 := 19) [(.aload_n 0, 0, 0, .null), (.getfield 22, 8, 6, .null), (.iload_n 3, 0, 0, .null), (.iaload, 0, 0, .null), (.iconst 2, 0, 0, .int 2)] (L := [some (.ref 26), some (.int (p1)), some (.int (l2)), some (.int (l3))]) (st := []) (L' := [some (.ref 26), some (.int (p1)), some (.int (l2)), some (.int (l3))]) (st' := [.int ((2 : Int32)), .int (g 31 (Int32.toNatClampNeg l3))]) (g' := g) (w' := w) (cl := [am_in l3 6]) (by decide +kernel) rfl ⟨hg1, trivial⟩ ?_
      refine am_icmp_ne C0 (off := 24) (tgt := 43) (by decide +kernel) (fun hc4 => ?_) (fun hc4 => ?_)
      · rw [if_neg hc4] at hf
        exact B_X8_windOn_43 x C0 hR w F p1 R _ (fun l2 l3 g hf => ih l2 l3 g hf) (l2) (l3) (g) hf
      · rw [if_pos hc4] at hf
        obtain ⟨hg2, hf⟩ := am_g hf
        obtain ⟨hg3, hf⟩ := am_g hf
        refine am_b1 C0 am_YYk (pc := 22) (pc2 := 43) [(.aload_n 0, 0, 0, .null), (.getfield 25, 8, 7, .null), (.bipush 13, 0, 0, .int 13), (.iload_n 1, 0, 0, .null), (.imul, 0, 0, .null), (.iload_n 3, 0, 0, .null), (.iadd, 0, 0, .null), (.dup2, 0, 0, .null), (.iaload, 0, 0, .null), (.iconst 1, 0, 0, .int 1), (.ixor, 0, 0, .null), (.iastore, 0, 0, .null), (.iload_n 2, 0, 0, .null), (.iconst 1, 0, 0, .int 1), (.iload_n 3, 0, 0, .null), (.ishl, 0, 0, .null), (.ior, 0, 0, .null), (.istore_n 2, 0, 0, .null)] (L := [some (.ref 26), some (.int (p1)), some (.int (l2)), some (.int (l3))]) (st := []) (L' := [some (.ref 26), some (.int (p1)), some (.int (l2 ||| ((1 : Int32) <<< (l3 &&& 31)))), some (.int (l3))]) (st' := []) (g' := am_u g 32 (Int32.toNatClampNeg (((13 : Int32) * p1) + l3)) ((g 32 (Int32.toNatClampNeg (((13 : Int32) * p1) + l3))) ^^^ (1 : Int32))) (w' := w) (cl := [am_in (((13 : Int32) * p1) + l3) 26, am_in (((13 : Int32) * p1) + l3) 26]) (by decide +kernel) rfl ⟨hg2, hg3, trivial⟩ ?_
        exact B_X8_windOn_43 x C0 hR w F p1 R _ (fun l2 l3 g hf => ih l2 l3 g hf) (l2 ||| ((1 : Int32) <<< (l3 &&& 31))) (l3) (am_u g 32 (Int32.toNatClampNeg (((13 : Int32) * p1) + l3)) ((g 32 (Int32.toNatClampNeg (((13 : Int32) * p1) + l3))) ^^^ (1 : Int32))) hf
def f_X8_windOn (F : Nat) (g : am_G) (p1 : Int32) : Option (Int32 × am_G) :=
  f_X8_windOn_4 F p1 F ((0 : Int32)) ((0 : Int32)) (g)
set_option maxRecDepth 20000 in
theorem M_X8_windOn (l : Launch) (F : Nat) (g : am_G) (w : am_J) (p1 : Int32) (R : Int32 × am_G) (hf : f_X8_windOn F g p1 = some R) : am_Met l mi_X8_windOn rm_X8_windOn [.ref 26, .int p1] am_YY g w (some (.int R.1)) am_YY (R.2) w := by
  refine am_met (own := 8) [some (.ref 26), some (.int (p1)), none, none] (by decide) rfl rfl (by first | decide | exact Nat.le_of_ble_eq_true rfl) (fun x C0 hR hl hnm => ?_)
  unfold f_X8_windOn at hf
  refine am_b1 C0 am_YYk (pc := 0) (pc2 := 4) [(.iconst 0, 0, 0, .int 0), (.istore_n 2, 0, 0, .null), (.iconst 0, 0, 0, .int 0), (.istore_n 3, 0, 0, .null)] (L := [some (.ref 26), some (.int (p1)), none, none]) (st := []) (L' := [some (.ref 26), some (.int (p1)), some (.int ((0 : Int32))), some (.int ((0 : Int32)))]) (st' := []) (g' := g) (w' := w) (cl := []) (by decide +kernel) rfl trivial ?_
  refine B_X8_windOn_4 x C0 hR w F p1 R   F ((0 : Int32)) ((0 : Int32)) (g) hf
/-! ShutterTownModel.wind()I at (26,) -/
def f_X8_wind (F : Nat) (g : am_G) : Option (Int32 × am_G) :=
  (f_X8_keepAct F g).bind fun q1 =>
    (f_X8_windOn F q1 (0 : Int32)).bind fun q2 =>
      some (q2.1, q2.2)
set_option maxRecDepth 20000 in
theorem M_X8_wind (l : Launch) (F : Nat) (g : am_G) (w : am_J)  (R : Int32 × am_G) (hf : f_X8_wind F g = some R) : am_Met l mi_X8_wind rm_X8_wind [.ref 26] am_YY g w (some (.int R.1)) am_YY (R.2) w := by
  refine am_met (own := 8) [some (.ref 26)] (by decide) rfl rfl (by first | decide | exact Nat.le_of_ble_eq_true rfl) (fun x C0 hR hl hnm => ?_)
  unfold f_X8_wind at hf
  refine am_b1 C0 am_YYk (pc := 0) (pc2 := 1) [(.aload_n 0, 0, 0, .null)] (L := [some (.ref 26)]) (st := []) (L' := [some (.ref 26)]) (st' := [.ref 26]) (g' := g) (w' := w) (cl := []) (by decide +kernel) rfl trivial ?_
  obtain ⟨q1, hq1, hf⟩ := Option.bind_eq_some_iff.mp hf
  refine am_callV (mi := mi_X8_keepAct) (rm := rm_X8_keepAct) [] C0.1 am_YYl cv_8_137 (M_X8_keepAct _ F g w _ hq1) (ci := 8) rfl (by decide) rfl (by rw [hR]; rfl) rfl rfl (Nat.le_of_ble_eq_true rfl) (by decide +kernel) ?_
  refine am_b1 C0 am_YYk (pc := 4) (pc2 := 6) [(.aload_n 0, 0, 0, .null), (.iconst 0, 0, 0, .int 0)] (L := [some (.ref 26)]) (st := []) (L' := [some (.ref 26)]) (st' := [.int ((0 : Int32)), .ref 26]) (g' := q1) (w' := w) (cl := []) (by decide +kernel) rfl trivial ?_
  obtain ⟨q2, hq2, hf⟩ := Option.bind_eq_some_iff.mp hf
  refine am_callV (mi := mi_X8_windOn) (rm := rm_X8_windOn) [.int ((0 : Int32))] C0.1 am_YYl cv_8_140 (M_X8_windOn _ F q1 w (0 : Int32) _ hq2) (ci := 8) rfl (by decide) rfl (by rw [hR]; rfl) rfl rfl (Nat.le_of_ble_eq_true rfl) (by decide +kernel) ?_
  cases hf
  exact am_iret C0 (by decide +kernel)
