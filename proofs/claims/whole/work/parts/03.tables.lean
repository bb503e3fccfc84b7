/-! tables, by program: classes by number, links of fields, constants, each with its place among the words -/
def am_Rc (n : Nat) : String := match n with
  | 0 => RX0
  | 1 => RX1
  | 2 => RX2
  | 3 => RX3
  | 4 => RX4
  | 5 => RX5
  | 6 => RX6
  | 7 => RX7
  | _ => RX8
def am_Tc (n : Nat) : u_T := match n with
  | 0 => TX0
  | 1 => TX1
  | 2 => TX2
  | 3 => TX3
  | 4 => TX4
  | 5 => TX5
  | 6 => TX6
  | 7 => TX7
  | _ => TX8
def am_yc (n : Nat) : Nat → FieldType := match n with
  | 0 => tyX0
  | 1 => tyX1
  | 2 => tyX2
  | 3 => tyX3
  | 4 => tyX4
  | 5 => tyX5
  | 6 => tyX6
  | 7 => tyX7
  | _ => tyX8
def am_Nc (n : Nat) : Nat := match n with
  | 0 => 2
  | 1 => 2
  | 2 => 8
  | 3 => 2
  | 4 => 4
  | 5 => 2
  | 6 => 2
  | 7 => 11
  | _ => 31
theorem am_nine {P : Nat → Prop} (h0 : P 0) (h1 : P 1) (h2 : P 2) (h3 : P 3) (h4 : P 4) (h5 : P 5) (h6 : P 6) (h7 : P 7) (h8 : P 8) : ∀ ci, ci < 9 → P ci := by
  intro ci h
  match ci, h with
  | 0, _ => exact h0
  | 1, _ => exact h1
  | 2, _ => exact h2
  | 3, _ => exact h3
  | 4, _ => exact h4
  | 5, _ => exact h5
  | 6, _ => exact h6
  | 7, _ => exact h7
  | 8, _ => exact h8
theorem am_clc : ∀ ci, ci < 9 → vwCl[ci]? = some (am_Rc ci, am_Tc ci, am_Nc ci) := am_nine rfl rfl rfl rfl rfl rfl rfl rfl rfl
theorem am_nmc : ∀ ci, ci < 9 → ∀ a, a < am_Nc ci → ∀ b, b < am_Nc ci → a ≠ b → (am_Tc ci a).2.1 ≠ (am_Tc ci b).2.1 := am_nine nmX0 nmX1 nmX2 nmX3 nmX4 nmX5 nmX6 nmX7 nmX8
theorem am_tyc : ∀ ci, ci < 9 → ∀ k, k < am_Nc ci → parseFieldDescriptor (am_Tc ci k).2.2.1 = some (am_yc ci k) := am_nine tyX0_ok tyX1_ok tyX2_ok tyX3_ok tyX4_ok tyX5_ok tyX6_ok tyX7_ok tyX8_ok
set_option maxRecDepth 100000 in
theorem am_wi0 : ∀ w ∈ u_ws RX0 TX0 2, w ∈ am_tbl := by
  have h : (u_ws RX0 TX0 2) = ([132, 134] : List Nat).filterMap (fun i => lw_tbl[i]?) := by decide +kernel
  intro w hw
  have hw0 := hw
  rw [h] at hw
  obtain ⟨i, -, hi⟩ := List.mem_filterMap.mp hw
  exact am_tbl_in (List.mem_of_getElem? hi) (List.all_eq_true.mp (show ((u_ws RX0 TX0 2).all goodWord) = true by decide +kernel) w hw0)
set_option maxRecDepth 100000 in
theorem am_wi1 : ∀ w ∈ u_ws RX1 TX1 2, w ∈ am_tbl := by
  have h : (u_ws RX1 TX1 2) = ([172, 174] : List Nat).filterMap (fun i => lw_tbl[i]?) := by decide +kernel
  intro w hw
  have hw0 := hw
  rw [h] at hw
  obtain ⟨i, -, hi⟩ := List.mem_filterMap.mp hw
  exact am_tbl_in (List.mem_of_getElem? hi) (List.all_eq_true.mp (show ((u_ws RX1 TX1 2).all goodWord) = true by decide +kernel) w hw0)
set_option maxRecDepth 100000 in
theorem am_wi2 : ∀ w ∈ u_ws RX2 TX2 8, w ∈ am_tbl := by
  have h : (u_ws RX2 TX2 8) = ([88, 90, 92, 94, 96, 98, 100, 102] : List Nat).filterMap (fun i => lw_tbl[i]?) := by decide +kernel
  intro w hw
  have hw0 := hw
  rw [h] at hw
  obtain ⟨i, -, hi⟩ := List.mem_filterMap.mp hw
  exact am_tbl_in (List.mem_of_getElem? hi) (List.all_eq_true.mp (show ((u_ws RX2 TX2 8).all goodWord) = true by decide +kernel) w hw0)
set_option maxRecDepth 100000 in
theorem am_wi3 : ∀ w ∈ u_ws RX3 TX3 2, w ∈ am_tbl := by
  have h : (u_ws RX3 TX3 2) = ([68, 70] : List Nat).filterMap (fun i => lw_tbl[i]?) := by decide +kernel
  intro w hw
  have hw0 := hw
  rw [h] at hw
  obtain ⟨i, -, hi⟩ := List.mem_filterMap.mp hw
  exact am_tbl_in (List.mem_of_getElem? hi) (List.all_eq_true.mp (show ((u_ws RX3 TX3 2).all goodWord) = true by decide +kernel) w hw0)
set_option maxRecDepth 100000 in
theorem am_wi4 : ∀ w ∈ u_ws RX4 TX4 4, w ∈ am_tbl := by
  have h : (u_ws RX4 TX4 4) = ([115, 117, 119, 121] : List Nat).filterMap (fun i => lw_tbl[i]?) := by decide +kernel
  intro w hw
  have hw0 := hw
  rw [h] at hw
  obtain ⟨i, -, hi⟩ := List.mem_filterMap.mp hw
  exact am_tbl_in (List.mem_of_getElem? hi) (List.all_eq_true.mp (show ((u_ws RX4 TX4 4).all goodWord) = true by decide +kernel) w hw0)
set_option maxRecDepth 100000 in
theorem am_wi5 : ∀ w ∈ u_ws RX5 TX5 2, w ∈ am_tbl := by
  have h : (u_ws RX5 TX5 2) = ([145, 147] : List Nat).filterMap (fun i => lw_tbl[i]?) := by decide +kernel
  intro w hw
  have hw0 := hw
  rw [h] at hw
  obtain ⟨i, -, hi⟩ := List.mem_filterMap.mp hw
  exact am_tbl_in (List.mem_of_getElem? hi) (List.all_eq_true.mp (show ((u_ws RX5 TX5 2).all goodWord) = true by decide +kernel) w hw0)
set_option maxRecDepth 100000 in
theorem am_wi6 : ∀ w ∈ u_ws RX6 TX6 2, w ∈ am_tbl := by
  have h : (u_ws RX6 TX6 2) = ([158, 160] : List Nat).filterMap (fun i => lw_tbl[i]?) := by decide +kernel
  intro w hw
  have hw0 := hw
  rw [h] at hw
  obtain ⟨i, -, hi⟩ := List.mem_filterMap.mp hw
  exact am_tbl_in (List.mem_of_getElem? hi) (List.all_eq_true.mp (show ((u_ws RX6 TX6 2).all goodWord) = true by decide +kernel) w hw0)
set_option maxRecDepth 100000 in
theorem am_wi7 : ∀ w ∈ u_ws RX7 TX7 11, w ∈ am_tbl := by
  have h : (u_ws RX7 TX7 11) = ([188, 190, 192, 194, 196, 198, 200, 202, 204, 206, 208] : List Nat).filterMap (fun i => lw_tbl[i]?) := by decide +kernel
  intro w hw
  have hw0 := hw
  rw [h] at hw
  obtain ⟨i, -, hi⟩ := List.mem_filterMap.mp hw
  exact am_tbl_in (List.mem_of_getElem? hi) (List.all_eq_true.mp (show ((u_ws RX7 TX7 11).all goodWord) = true by decide +kernel) w hw0)
set_option maxRecDepth 100000 in
theorem am_wi8 : ∀ w ∈ u_ws RX8 TX8 31, w ∈ am_tbl := by
  have h : (u_ws RX8 TX8 31) = ([735, 737, 739, 741, 743, 745, 747, 749, 751, 753, 755, 757, 759, 761, 763, 765, 767, 769, 771, 773, 775, 777, 779, 781, 783, 785, 787, 789, 791, 793, 795] : List Nat).filterMap (fun i => lw_tbl[i]?) := by decide +kernel
  intro w hw
  have hw0 := hw
  rw [h] at hw
  obtain ⟨i, -, hi⟩ := List.mem_filterMap.mp hw
  exact am_tbl_in (List.mem_of_getElem? hi) (List.all_eq_true.mp (show ((u_ws RX8 TX8 31).all goodWord) = true by decide +kernel) w hw0)
theorem am_wic : ∀ ci, ci < 9 → ∀ w ∈ u_ws (am_Rc ci) (am_Tc ci) (am_Nc ci), w ∈ am_tbl := am_nine am_wi0 am_wi1 am_wi2 am_wi3 am_wi4 am_wi5 am_wi6 am_wi7 am_wi8
def am_fl : List (Nat × Nat × Nat × Nat × Nat) := [(3, 9, 3, 0, 66), (3, 15, 3, 1, 67), (2, 9, 2, 0, 80), (2, 15, 2, 1, 81), (2, 18, 2, 2, 82), (2, 21, 2, 3, 83), (2, 24, 2, 4, 84), (2, 27, 2, 5, 85), (2, 30, 2, 6, 86), (2, 53, 2, 7, 87), (4, 18, 4, 0, 111), (4, 9, 4, 1, 112), (4, 15, 4, 2, 113), (4, 40, 4, 3, 114), (0, 9, 0, 0, 130), (0, 15, 0, 1, 131), (5, 9, 5, 0, 143), (5, 19, 5, 1, 144), (6, 15, 6, 0, 156), (6, 11, 6, 1, 157), (1, 11, 1, 0, 170), (1, 15, 1, 1, 171), (7, 12, 7, 0, 177), (7, 19, 7, 1, 178), (7, 28, 7, 2, 179), (7, 32, 7, 3, 180), (7, 38, 7, 4, 181), (7, 45, 7, 5, 182), (7, 52, 7, 6, 183), (7, 59, 7, 7, 184), (7, 63, 7, 8, 185), (7, 67, 7, 9, 186), (7, 233, 7, 10, 187), (8, 111, 8, 0, 704), (8, 59, 8, 1, 705), (8, 7, 8, 2, 706), (8, 13, 8, 3, 707), (8, 16, 8, 4, 708), (8, 19, 8, 5, 709), (8, 22, 8, 6, 710), (8, 25, 8, 7, 711), (8, 28, 8, 8, 712), (8, 31, 8, 9, 713), (8, 94, 8, 10, 714), (8, 84, 8, 11, 715), (8, 87, 8, 12, 716), (8, 34, 8, 13, 717), (8, 69, 8, 14, 718), (8, 75, 8, 15, 719), (8, 72, 8, 16, 720), (8, 114, 8, 17, 721), (8, 132, 8, 18, 722), (8, 37, 8, 19, 723), (8, 156, 8, 20, 724), (8, 163, 8, 21, 725), (8, 166, 8, 22, 726), (8, 198, 8, 23, 727), (8, 40, 8, 24, 728), (8, 43, 8, 25, 729), (8, 46, 8, 26, 730), (8, 50, 8, 27, 731), (8, 233, 8, 28, 732), (8, 53, 8, 29, 733), (8, 56, 8, 30, 734)]
set_option maxRecDepth 100000 in
theorem am_fl_all : (am_fl.all fun q => decide (q.2.2.1 < 9) && (decide (q.2.2.2.1 < am_Nc q.2.2.1) && decide (lw_tbl[q.2.2.2.2]? = some (Cond.fieldLink (am_cn q.1) q.2.1 (am_Tc q.2.2.1 q.2.2.2.1).1 (am_Tc q.2.2.1 q.2.2.2.1).2.1 (am_Tc q.2.2.1 q.2.2.2.1).2.2.1)))) = true := by decide +kernel
def am_flb (own idx ci k : Nat) : Bool := am_fl.any fun q => q.1 == own && (q.2.1 == idx && (q.2.2.1 == ci && q.2.2.2.1 == k))
theorem am_flb_ok {own idx ci k : Nat} (h : am_flb own idx ci k = true) : ci < 9 ∧ k < am_Nc ci ∧ Cond.fieldLink (am_cn own) idx (am_Tc ci k).1 (am_Tc ci k).2.1 (am_Tc ci k).2.2.1 ∈ am_tbl := by
  obtain ⟨q, hq, h2⟩ := List.any_eq_true.mp h
  simp only [Bool.and_eq_true, beq_iff_eq] at h2
  obtain ⟨rfl, rfl, rfl, rfl⟩ := h2
  have h3 := List.all_eq_true.mp am_fl_all q hq
  simp only [Bool.and_eq_true, decide_eq_true_eq] at h3
  exact ⟨h3.1, h3.2.1, am_tbl_in (List.mem_of_getElem? h3.2.2) rfl⟩
def am_kc : List (Nat × Nat × Int32 × Nat) := [(9, 265, 1431655765, 515), (9, 266, 858993459, 516), (9, 267, 252645135, 517), (9, 264, 65536, 585)]
def am_kl : List (Nat × Nat × Int64 × Nat) := [(6, 19, 1000000000, 459), (6, 51, 10000000, 473), (6, 69, 10, 475), (7, 187, 100, 529), (7, 237, 6364136223846793005, 647), (7, 239, 1442695040888963407, 648), (7, 241, 32, 649), (8, 63, 255, 803), (8, 78, 9, 835), (8, 117, (-1), 863), (8, 135, 3, 868), (8, 181, 5, 942), (8, 179, 10, 946), (8, 190, 100, 951), (8, 237, 30, 1035), (8, 239, 6364136223846793005, 1036), (8, 241, 1442695040888963407, 1037), (8, 243, 32, 1038), (13, 73, 4294967295, 1051)]
set_option maxRecDepth 100000 in
theorem am_kc_all : (am_kc.all fun q => decide (lw_tbl[q.2.2.2]? = some (Cond.constant (am_cn q.1) q.2.1 q.2.2.1))) = true := by decide +kernel
set_option maxRecDepth 100000 in
theorem am_kl_all : (am_kl.all fun q => decide (lw_tbl[q.2.2.2]? = some (Cond.constantLong (am_cn q.1) q.2.1 q.2.2.1))) = true := by decide +kernel
def am_kcb (own idx : Nat) (v : Value) : Bool := match v with
  | .int z => am_kc.any fun q => q.1 == own && (q.2.1 == idx && decide (q.2.2.1 = z))
  | _ => false
def am_klb (own idx : Nat) (v : Value) : Bool := match v with
  | .long z => am_kl.any fun q => q.1 == own && (q.2.1 == idx && decide (q.2.2.1 = z))
  | _ => false
theorem am_kcb_ok {own idx : Nat} {v : Value} (h : am_kcb own idx v = true) : ∃ z, v = .int z ∧ Cond.constant (am_cn own) idx z ∈ am_tbl := by
  unfold am_kcb at h
  split at h
  · obtain ⟨q, hq, h2⟩ := List.any_eq_true.mp h
    simp only [Bool.and_eq_true, beq_iff_eq, decide_eq_true_eq] at h2
    obtain ⟨rfl, rfl, rfl⟩ := h2
    have h3 := List.all_eq_true.mp am_kc_all q hq
    simp only [decide_eq_true_eq] at h3
    exact ⟨_, rfl, am_tbl_in (List.mem_of_getElem? h3) rfl⟩
  · cases h
theorem am_klb_ok {own idx : Nat} {v : Value} (h : am_klb own idx v = true) : ∃ z, v = .long z ∧ Cond.constantLong (am_cn own) idx z ∈ am_tbl := by
  unfold am_klb at h
  split at h
  · obtain ⟨q, hq, h2⟩ := List.any_eq_true.mp h
    simp only [Bool.and_eq_true, beq_iff_eq, decide_eq_true_eq] at h2
    obtain ⟨rfl, rfl, rfl⟩ := h2
    have h3 := List.all_eq_true.mp am_kl_all q hq
    simp only [decide_eq_true_eq] at h3
    exact ⟨_, rfl, am_tbl_in (List.mem_of_getElem? h3) rfl⟩
  · cases h
/-- links to private members of nest mates -/
def am_nst : List (Nat × Nat × MethodName × Nat) := [(7, 11, yX3_init, 62), (7, 18, yX2_init, 76), (7, 37, yX0_init, 126), (7, 44, yX5_init, 139), (7, 58, yX1_init, 166), (2, 69, yX7_isState, 349), (4, 54, yX7_isState, 369), (1, 25, yX7_isState, 554), (1, 29, yX7_isWord, 555)]
set_option maxRecDepth 100000 in
theorem am_nst_all : (am_nst.all fun q => decide (lw_tbl[q.2.2.2]? = some (Cond.methodLinkNest (am_cn q.1) q.2.1 q.2.2.1 RX7))) = true := by decide +kernel
def am_N (U : State) : Prop := ∀ q ∈ am_nst, va_Nw (.methodLinkNest (am_cn q.1) q.2.1 q.2.2.1 RX7) U
theorem am_N.warm {s U : State} (hW : s.WarmedH U.vm) (h : am_N s) : am_N U := fun q hq => va_Nw.warmM hW (h q hq)
theorem am_N.of {A : Array Value} {U : State} (h : ∀ w ∈ lw_tbl, w.before A U = true) : am_N U := fun q hq => va_Nw.of rfl (h _ (List.mem_of_getElem? (of_decide_eq_true (List.all_eq_true.mp am_nst_all q hq))))
