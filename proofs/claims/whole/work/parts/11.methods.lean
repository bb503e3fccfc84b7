/-! by program: the layout, the methods, their rooms, the words of their calls -/
def am_YY : am_Y := [.inr (7, [.inr (some 1), .inr (some 3), .inr (some 10), .inr (some 13), .inr (some 16), .inr (some 18), .inr (some 20), .inr (some 22), .inr (some 24), .inr (some 25), .inl 1]), .inr (3, [.inr (some 2), .inl 0]), .inl (0, 48), .inr (2, [.inr (some 4), .inr (some 5), .inr (some 6), .inr (some 7), .inr (some 8), .inr (some 9), .inl 0, .inl 0]), .inl (0, 4), .inl (0, 6), .inl (0, 6), .inl (0, 6), .inl (0, 6), .inl (0, 6), .inr (4, [.inr (some 3), .inr (some 11), .inr (some 12), .inl 0]), .inl (0, 6), .inl (0, 6), .inr (4, [.inr (some 3), .inr (some 14), .inr (some 15), .inl 0]), .inl (0, 6), .inl (0, 6), .inr (0, [.inr (some 17), .inl 0]), .inl (0, 182), .inr (5, [.inr (some 19), .inl 0]), .inl (0, 26), .inr (6, [.inr (some 3), .inr (some 21)]), .inl (2, 6), .inr (1, [.inr (some 23), .inl 0]), .inl (0, 4), .inl (0, 6), .inl (0, 6), .inr (8, [.inl 0, .inl 0, .inr (some 27), .inr (some 28), .inr (some 29), .inr (some 30), .inr (some 31), .inr (some 32), .inr (some 33), .inr (some 34), .inl 0, .inl 0, .inl 0, .inr (some 35), .inl 0, .inl 0, .inl 0, .inl 0, .inl 0, .inr (some 36), .inl 0, .inl 0, .inl 0, .inl 0, .inr (some 37), .inr (some 38), .inr (some 39), .inr (some 40), .inl 1, .inr (some 41), .inr (some 42)]), .inl (0, 4), .inl (0, 6), .inl (0, 6), .inl (0, 6), .inl (0, 6), .inl (0, 26), .inl (0, 4), .inl (0, 30), .inl (0, 48), .inl (0, 182), .inl (0, 6), .inl (0, 6), .inl (1, 6), .inl (0, 12), .inl (1, 2), .inl (0, 26)]
theorem am_YYk : am_yk am_YY = true := by decide +kernel
theorem am_YYl : am_YY.length ≤ 98 := by decide
theorem am_g {α : Type} {c : Prop} [Decidable c] {a : Option α} {r : α} (h : (if c then a else none) = some r) : c ∧ a = some r := by
  split at h
  · exact ⟨by assumption, h⟩
  · cases h
theorem am_sw2 {a : Int32} (h0 : ¬ a = 0) (h1 : ¬ a = 1) (h2 : ¬ a = 2) : a.toInt < 0 ∨ 2 < a.toInt := by
  have e0 : a.toInt ≠ 0 := fun q => h0 (Int32.toInt_inj.mp (by rw [q]; rfl))
  have e1 : a.toInt ≠ 1 := fun q => h1 (Int32.toInt_inj.mp (by rw [q]; rfl))
  have e2 : a.toInt ≠ 2 := fun q => h2 (Int32.toInt_inj.mp (by rw [q]; rfl))
  omega
theorem am_sw7 {a : Int32} (h0 : ¬ a = 0) (h1 : ¬ a = 1) (h2 : ¬ a = 2) (h3 : ¬ a = 3) (h4 : ¬ a = 4) (h5 : ¬ a = 5) (h6 : ¬ a = 6) (h7 : ¬ a = 7) : a.toInt < 0 ∨ 7 < a.toInt := by
  have e0 : a.toInt ≠ 0 := fun q => h0 (Int32.toInt_inj.mp (by rw [q]; rfl))
  have e1 : a.toInt ≠ 1 := fun q => h1 (Int32.toInt_inj.mp (by rw [q]; rfl))
  have e2 : a.toInt ≠ 2 := fun q => h2 (Int32.toInt_inj.mp (by rw [q]; rfl))
  have e3 : a.toInt ≠ 3 := fun q => h3 (Int32.toInt_inj.mp (by rw [q]; rfl))
  have e4 : a.toInt ≠ 4 := fun q => h4 (Int32.toInt_inj.mp (by rw [q]; rfl))
  have e5 : a.toInt ≠ 5 := fun q => h5 (Int32.toInt_inj.mp (by rw [q]; rfl))
  have e6 : a.toInt ≠ 6 := fun q => h6 (Int32.toInt_inj.mp (by rw [q]; rfl))
  have e7 : a.toInt ≠ 7 := fun q => h7 (Int32.toInt_inj.mp (by rw [q]; rfl))
  omega
theorem am_sw8 {a : Int32} (h0 : ¬ a = 0) (h1 : ¬ a = 1) (h2 : ¬ a = 2) (h3 : ¬ a = 3) (h4 : ¬ a = 4) (h5 : ¬ a = 5) (h6 : ¬ a = 6) (h7 : ¬ a = 7) (h8 : ¬ a = 8) : a.toInt < 0 ∨ 8 < a.toInt := by
  have e0 : a.toInt ≠ 0 := fun q => h0 (Int32.toInt_inj.mp (by rw [q]; rfl))
  have e1 : a.toInt ≠ 1 := fun q => h1 (Int32.toInt_inj.mp (by rw [q]; rfl))
  have e2 : a.toInt ≠ 2 := fun q => h2 (Int32.toInt_inj.mp (by rw [q]; rfl))
  have e3 : a.toInt ≠ 3 := fun q => h3 (Int32.toInt_inj.mp (by rw [q]; rfl))
  have e4 : a.toInt ≠ 4 := fun q => h4 (Int32.toInt_inj.mp (by rw [q]; rfl))
  have e5 : a.toInt ≠ 5 := fun q => h5 (Int32.toInt_inj.mp (by rw [q]; rfl))
  have e6 : a.toInt ≠ 6 := fun q => h6 (Int32.toInt_inj.mp (by rw [q]; rfl))
  have e7 : a.toInt ≠ 7 := fun q => h7 (Int32.toInt_inj.mp (by rw [q]; rfl))
  have e8 : a.toInt ≠ 8 := fun q => h8 (Int32.toInt_inj.mp (by rw [q]; rfl))
  omega
theorem am_acw_0 : Cond.methodLink (am_cn 0) 31 arraycopyName ∈ am_tbl ∧ Cond.native arraycopyName ∈ am_tbl ∧ Cond.static arraycopyName ∈ am_tbl ∧ Cond.initialized "java/lang/System" ∈ am_tbl := ⟨am_at 379 (by decide +kernel) rfl, am_at 381 (by decide +kernel) rfl, am_at 380 (by decide +kernel) rfl, am_at 50 (by decide +kernel) rfl⟩
theorem am_acw_4 : Cond.methodLink (am_cn 4) 77 arraycopyName ∈ am_tbl ∧ Cond.native arraycopyName ∈ am_tbl ∧ Cond.static arraycopyName ∈ am_tbl ∧ Cond.initialized "java/lang/System" ∈ am_tbl := ⟨am_at 386 (by decide +kernel) rfl, am_at 381 (by decide +kernel) rfl, am_at 380 (by decide +kernel) rfl, am_at 50 (by decide +kernel) rfl⟩
abbrev mi_X3_add : am_MI := (yX3_add, cX3_add, 2, (some .boolean))
abbrev rm_X3_add : Room := { frames := 0, cells := 0, slots := 0, locals := 0 }
abbrev mi_X3_size : am_MI := (yX3_size, cX3_size, 1, (some .int))
abbrev rm_X3_size : Room := { frames := 0, cells := 0, slots := 0, locals := 0 }
abbrev mi_X7_write : am_MI := (yX7_write, cX7_write, 2, (some .int))
abbrev rm_X7_write : Room := { frames := 1, cells := 0, slots := 0, locals := 21 }
abbrev mi_X3_clear : am_MI := (yX3_clear, cX3_clear, 1, none)
abbrev rm_X3_clear : Room := { frames := 0, cells := 0, slots := 0, locals := 0 }
abbrev mi_X7_wipe : am_MI := (yX7_wipe, cX7_wipe, 2, (some .int))
abbrev rm_X7_wipe : Room := { frames := 1, cells := 0, slots := 0, locals := 20 }
abbrev mi_X3_isLetter : am_MI := (yX3_isLetter, cX3_isLetter, 3, (some .boolean))
abbrev rm_X3_isLetter : Room := { frames := 0, cells := 0, slots := 0, locals := 0 }
abbrev mi_X3_figure : am_MI := (yX3_figure, cX3_figure, 2, (some .int))
abbrev rm_X3_figure : Room := { frames := 0, cells := 0, slots := 0, locals := 0 }
abbrev mi_X3_isFigure : am_MI := (yX3_isFigure, cX3_isFigure, 5, (some .boolean))
abbrev rm_X3_isFigure : Room := { frames := 1, cells := 0, slots := 0, locals := 21 }
abbrev mi_X3_fitsHead : am_MI := (yX3_fitsHead, cX3_fitsHead, 2, (some .boolean))
abbrev rm_X3_fitsHead : Room := { frames := 2, cells := 0, slots := 0, locals := 45 }
abbrev mi_X3_isTaken : am_MI := (yX3_isTaken, cX3_isTaken, 4, (some .boolean))
abbrev rm_X3_isTaken : Room := { frames := 1, cells := 0, slots := 0, locals := 21 }
abbrev mi_X3_fitsWindow : am_MI := (yX3_fitsWindow, cX3_fitsWindow, 2, (some .boolean))
abbrev rm_X3_fitsWindow : Room := { frames := 2, cells := 0, slots := 0, locals := 45 }
abbrev mi_X3_firstFault : am_MI := (yX3_firstFault, cX3_firstFault, 3, (some .int))
abbrev rm_X3_firstFault : Room := { frames := 3, cells := 0, slots := 0, locals := 66 }
abbrev mi_X7_fault : am_MI := (yX7_fault, cX7_fault, 1, (some .int))
abbrev rm_X7_fault : Room := { frames := 4, cells := 0, slots := 0, locals := 88 }
abbrev mi_X2_has : am_MI := (yX2_has, cX2_has, 2, (some .boolean))
abbrev rm_X2_has : Room := { frames := 0, cells := 0, slots := 0, locals := 0 }
abbrev mi_X2_side : am_MI := (yX2_side, cX2_side, 2, (some .int))
abbrev rm_X2_side : Room := { frames := 1, cells := 0, slots := 0, locals := 21 }
abbrev mi_X2_place : am_MI := (yX2_place, cX2_place, 2, (some .int))
abbrev rm_X2_place : Room := { frames := 1, cells := 0, slots := 0, locals := 21 }
abbrev mi_X2_floor : am_MI := (yX2_floor, cX2_floor, 2, (some .int))
abbrev rm_X2_floor : Room := { frames := 1, cells := 0, slots := 0, locals := 21 }
abbrev mi_X2_facing : am_MI := (yX2_facing, cX2_facing, 7, (some .int))
abbrev rm_X2_facing : Room := { frames := 2, cells := 0, slots := 0, locals := 42 }
abbrev mi_X2_build : am_MI := (yX2_build, cX2_build, 4, none)
abbrev rm_X2_build : Room := { frames := 3, cells := 0, slots := 0, locals := 68 }
abbrev mi_X2_windows : am_MI := (yX2_windows, cX2_windows, 1, (some .int))
abbrev rm_X2_windows : Room := { frames := 0, cells := 0, slots := 0, locals := 0 }
abbrev mi_J7_fill_53178 : am_MI := (yJ7_fill_53178, cJ7_fill_53178, 4, none)
abbrev rm_J7_fill_53178 : Room := { frames := 0, cells := 0, slots := 0, locals := 0 }
abbrev mi_X4_begin : am_MI := (yX4_begin, cX4_begin, 3, none)
abbrev rm_X4_begin : Room := { frames := 1, cells := 0, slots := 0, locals := 23 }
abbrev mi_X0_clear : am_MI := (yX0_clear, cX0_clear, 1, none)
abbrev rm_X0_clear : Room := { frames := 0, cells := 0, slots := 0, locals := 0 }
abbrev mi_X5_clear : am_MI := (yX5_clear, cX5_clear, 1, none)
abbrev rm_X5_clear : Room := { frames := 0, cells := 0, slots := 0, locals := 0 }
abbrev mi_X7_town : am_MI := (yX7_town, cX7_town, 1, (some .int))
abbrev rm_X7_town : Room := { frames := 4, cells := 0, slots := 0, locals := 91 }
abbrev mi_X4_state : am_MI := (yX4_state, cX4_state, 2, (some .int))
abbrev rm_X4_state : Room := { frames := 1, cells := 0, slots := 0, locals := 21 }
abbrev mi_X2_kind : am_MI := (yX2_kind, cX2_kind, 2, (some .int))
abbrev rm_X2_kind : Room := { frames := 1, cells := 0, slots := 0, locals := 21 }
abbrev mi_X7_isState : am_MI := (yX7_isState, cX7_isState, 1, (some .boolean))
abbrev rm_X7_isState : Room := { frames := 0, cells := 0, slots := 0, locals := 0 }
abbrev mi_X2_wordOf : am_MI := (yX2_wordOf, cX2_wordOf, 2, (some .int))
abbrev rm_X2_wordOf : Room := { frames := 1, cells := 0, slots := 0, locals := 20 }
abbrev mi_X4_word : am_MI := (yX4_word, cX4_word, 2, (some .int))
abbrev rm_X4_word : Room := { frames := 2, cells := 0, slots := 0, locals := 42 }
abbrev mi_X2_sees : am_MI := (yX2_sees, cX2_sees, 2, (some .int))
abbrev rm_X2_sees : Room := { frames := 1, cells := 0, slots := 0, locals := 21 }
abbrev mi_X4_due : am_MI := (yX4_due, cX4_due, 2, (some .int))
abbrev rm_X4_due : Room := { frames := 1, cells := 0, slots := 0, locals := 21 }
abbrev mi_X7_window : am_MI := (yX7_window, cX7_window, 3, (some .int))
abbrev rm_X7_window : Room := { frames := 3, cells := 0, slots := 0, locals := 63 }
abbrev mi_X4_canShift : am_MI := (yX4_canShift, cX4_canShift, 3, (some .boolean))
abbrev rm_X4_canShift : Room := { frames := 2, cells := 0, slots := 0, locals := 42 }
abbrev mi_X0_forgetFirst : am_MI := (yX0_forgetFirst, cX0_forgetFirst, 1, none)
abbrev rm_X0_forgetFirst : Room := { frames := 1, cells := 0, slots := 0, locals := 60 }
abbrev mi_X4_store : am_MI := (yX4_store, cX4_store, 3, none)
abbrev rm_X4_store : Room := { frames := 1, cells := 0, slots := 0, locals := 60 }
abbrev mi_X0_remember : am_MI := (yX0_remember, cX0_remember, 2, none)
abbrev rm_X0_remember : Room := { frames := 2, cells := 0, slots := 0, locals := 82 }
abbrev mi_X4_shift : am_MI := (yX4_shift, cX4_shift, 3, none)
abbrev rm_X4_shift : Room := { frames := 1, cells := 0, slots := 0, locals := 21 }
abbrev mi_X7_move : am_MI := (yX7_move, cX7_move, 3, (some .int))
abbrev rm_X7_move : Room := { frames := 3, cells := 0, slots := 0, locals := 103 }
abbrev mi_X2_ofKind : am_MI := (yX2_ofKind, cX2_ofKind, 4, (some .int))
abbrev rm_X2_ofKind : Room := { frames := 2, cells := 0, slots := 0, locals := 42 }
abbrev mi_X4_blow : am_MI := (yX4_blow, cX4_blow, 3, (some .int))
abbrev rm_X4_blow : Room := { frames := 3, cells := 0, slots := 0, locals := 65 }
abbrev mi_X7_wind : am_MI := (yX7_wind, cX7_wind, 1, (some .int))
abbrev rm_X7_wind : Room := { frames := 4, cells := 0, slots := 0, locals := 103 }
abbrev mi_X2_areFacing : am_MI := (yX2_areFacing, cX2_areFacing, 3, (some .boolean))
abbrev rm_X2_areFacing : Room := { frames := 2, cells := 0, slots := 0, locals := 42 }
abbrev mi_X2_leastStateFor : am_MI := (yX2_leastStateFor, cX2_leastStateFor, 3, (some .int))
abbrev rm_X2_leastStateFor : Room := { frames := 0, cells := 0, slots := 0, locals := 0 }
abbrev mi_X4_takeUp : am_MI := (yX4_takeUp, cX4_takeUp, 3, none)
abbrev rm_X4_takeUp : Room := { frames := 2, cells := 0, slots := 0, locals := 43 }
abbrev mi_X7_pass : am_MI := (yX7_pass, cX7_pass, 4, (some .int))
abbrev rm_X7_pass : Room := { frames := 3, cells := 0, slots := 0, locals := 103 }
abbrev mi_X4_strike : am_MI := (yX4_strike, cX4_strike, 3, (some .int))
abbrev rm_X4_strike : Room := { frames := 3, cells := 0, slots := 0, locals := 63 }
abbrev mi_X7_hour : am_MI := (yX7_hour, cX7_hour, 1, (some .int))
abbrev rm_X7_hour : Room := { frames := 4, cells := 0, slots := 0, locals := 103 }
abbrev mi_X0_size : am_MI := (yX0_size, cX0_size, 1, (some .int))
abbrev rm_X0_size : Room := { frames := 0, cells := 0, slots := 0, locals := 0 }
abbrev mi_X4_restore : am_MI := (yX4_restore, cX4_restore, 3, none)
abbrev rm_X4_restore : Room := { frames := 1, cells := 0, slots := 0, locals := 60 }
abbrev mi_X0_giveBack : am_MI := (yX0_giveBack, cX0_giveBack, 2, none)
abbrev rm_X0_giveBack : Room := { frames := 2, cells := 0, slots := 0, locals := 82 }
abbrev mi_X7_undo : am_MI := (yX7_undo, cX7_undo, 1, (some .int))
abbrev rm_X7_undo : Room := { frames := 3, cells := 0, slots := 0, locals := 103 }
abbrev mi_X7_refusalOfTwo : am_MI := (yX7_refusalOfTwo, cX7_refusalOfTwo, 3, (some .int))
abbrev rm_X7_refusalOfTwo : Room := { frames := 1, cells := 0, slots := 0, locals := 21 }
abbrev mi_J7_fill_d0a16 : am_MI := (yJ7_fill_d0a16, cJ7_fill_d0a16, 5, none)
abbrev rm_J7_fill_d0a16 : Room := { frames := 0, cells := 0, slots := 0, locals := 0 }
abbrev mi_X6_comesTo : am_MI := (yX6_comesTo, cX6_comesTo, 2, (some .boolean))
abbrev rm_X6_comesTo : Room := { frames := 1, cells := 0, slots := 0, locals := 21 }
abbrev mi_X6_goOn : am_MI := (yX6_goOn, cX6_goOn, 8, none)
abbrev rm_X6_goOn : Room := { frames := 3, cells := 0, slots := 0, locals := 64 }
abbrev mi_X6_hoursAt : am_MI := (yX6_hoursAt, cX6_hoursAt, 2, (some .int))
abbrev rm_X6_hoursAt : Room := { frames := 2, cells := 0, slots := 0, locals := 42 }
abbrev mi_X6_measure : am_MI := (yX6_measure, cX6_measure, 5, none)
abbrev rm_X6_measure : Room := { frames := 4, cells := 0, slots := 0, locals := 91 }
abbrev mi_X6_wayTo : am_MI := (yX6_wayTo, cX6_wayTo, 2, (some .int))
abbrev rm_X6_wayTo : Room := { frames := 2, cells := 0, slots := 0, locals := 42 }
abbrev mi_X6_hoursTo : am_MI := (yX6_hoursTo, cX6_hoursTo, 2, (some .int))
abbrev rm_X6_hoursTo : Room := { frames := 2, cells := 0, slots := 0, locals := 42 }
abbrev mi_X7_soonest : am_MI := (yX7_soonest, cX7_soonest, 5, (some .int))
abbrev rm_X7_soonest : Room := { frames := 5, cells := 0, slots := 0, locals := 115 }
abbrev mi_X7_knows : am_MI := (yX7_knows, cX7_knows, 5, (some .int))
abbrev rm_X7_knows : Room := { frames := 5, cells := 0, slots := 0, locals := 115 }
abbrev mi_X2_sets : am_MI := (yX2_sets, cX2_sets, 1, (some .int))
abbrev rm_X2_sets : Room := { frames := 0, cells := 0, slots := 0, locals := 0 }
abbrev mi_X2_reachedBy : am_MI := (yX2_reachedBy, cX2_reachedBy, 4, (some .int))
abbrev rm_X2_reachedBy : Room := { frames := 2, cells := 0, slots := 0, locals := 42 }
abbrev mi_J6_bitCount_0f7a4 : am_MI := (yJ6_bitCount_0f7a4, cJ6_bitCount_0f7a4, 1, (some .int))
abbrev rm_J6_bitCount_0f7a4 : Room := { frames := 0, cells := 0, slots := 0, locals := 0 }
abbrev mi_X7_isFewer : am_MI := (yX7_isFewer, cX7_isFewer, 2, (some .boolean))
abbrev rm_X7_isFewer : Room := { frames := 1, cells := 0, slots := 0, locals := 20 }
abbrev mi_X7_toTell : am_MI := (yX7_toTell, cX7_toTell, 4, (some .int))
abbrev rm_X7_toTell : Room := { frames := 3, cells := 0, slots := 0, locals := 65 }
abbrev mi_X7_cut : am_MI := (yX7_cut, cX7_cut, 7, (some .int))
abbrev rm_X7_cut : Room := { frames := 5, cells := 0, slots := 0, locals := 115 }
abbrev mi_X7_withoutLast : am_MI := (yX7_withoutLast, cX7_withoutLast, 6, (some .long))
abbrev rm_X7_withoutLast : Room := { frames := 0, cells := 0, slots := 0, locals := 0 }
abbrev mi_X4_copy : am_MI := (yX4_copy, cX4_copy, 2, none)
abbrev rm_X4_copy : Room := { frames := 1, cells := 0, slots := 0, locals := 60 }
abbrev mi_X7_happens : am_MI := (yX7_happens, cX7_happens, 3, (some .boolean))
abbrev rm_X7_happens : Room := { frames := 4, cells := 0, slots := 0, locals := 87 }
abbrev mi_X4_pairsAlike : am_MI := (yX4_pairsAlike, cX4_pairsAlike, 4, (some .int))
abbrev rm_X4_pairsAlike : Room := { frames := 3, cells := 0, slots := 0, locals := 64 }
abbrev mi_X7_judge : am_MI := (yX7_judge, cX7_judge, 6, (some .int))
abbrev rm_X7_judge : Room := { frames := 5, cells := 0, slots := 0, locals := 109 }
abbrev mi_X7_isWord : am_MI := (yX7_isWord, cX7_isWord, 1, (some .boolean))
abbrev rm_X7_isWord : Room := { frames := 0, cells := 0, slots := 0, locals := 0 }
abbrev mi_X1_add : am_MI := (yX1_add, cX1_add, 5, (some .boolean))
abbrev rm_X1_add : Room := { frames := 1, cells := 0, slots := 0, locals := 20 }
abbrev mi_X1_size : am_MI := (yX1_size, cX1_size, 1, (some .int))
abbrev rm_X1_size : Room := { frames := 0, cells := 0, slots := 0, locals := 0 }
abbrev mi_X7_follow : am_MI := (yX7_follow, cX7_follow, 4, (some .int))
abbrev rm_X7_follow : Room := { frames := 2, cells := 0, slots := 0, locals := 44 }
abbrev mi_X1_clear : am_MI := (yX1_clear, cX1_clear, 1, none)
abbrev rm_X1_clear : Room := { frames := 1, cells := 0, slots := 0, locals := 23 }
abbrev mi_X7_unfollow : am_MI := (yX7_unfollow, cX7_unfollow, 2, (some .int))
abbrev rm_X7_unfollow : Room := { frames := 2, cells := 0, slots := 0, locals := 43 }
abbrev mi_X1_codesLeft : am_MI := (yX1_codesLeft, cX1_codesLeft, 3, (some .int))
abbrev rm_X1_codesLeft : Room := { frames := 1, cells := 0, slots := 0, locals := 20 }
abbrev mi_J6_numberOfTrailingZeros_0f7a4 : am_MI := (yJ6_numberOfTrailingZeros_0f7a4, cJ6_numberOfTrailingZeros_0f7a4, 2, (some .int))
abbrev rm_J6_numberOfTrailingZeros_0f7a4 : Room := { frames := 0, cells := 0, slots := 0, locals := 0 }
abbrev mi_X1_firstCode : am_MI := (yX1_firstCode, cX1_firstCode, 3, (some .int))
abbrev rm_X1_firstCode : Room := { frames := 2, cells := 0, slots := 0, locals := 42 }
abbrev mi_X7_codes : am_MI := (yX7_codes, cX7_codes, 2, (some .int))
abbrev rm_X7_codes : Room := { frames := 3, cells := 0, slots := 0, locals := 64 }
abbrev mi_X1_bestState : am_MI := (yX1_bestState, cX1_bestState, 3, (some .int))
abbrev rm_X1_bestState : Room := { frames := 2, cells := 0, slots := 0, locals := 42 }
abbrev mi_X7_look : am_MI := (yX7_look, cX7_look, 1, (some .int))
abbrev rm_X7_look : Room := { frames := 3, cells := 0, slots := 0, locals := 64 }
abbrev mi_X7_will : am_MI := (yX7_will, cX7_will, 5, (some .int))
abbrev rm_X7_will : Room := { frames := 2, cells := 0, slots := 0, locals := 42 }
abbrev mi_X6_hoursBetween : am_MI := (yX6_hoursBetween, cX6_hoursBetween, 8, none)
abbrev rm_X6_hoursBetween : Room := { frames := 5, cells := 0, slots := 0, locals := 115 }
abbrev mi_X7_cross : am_MI := (yX7_cross, cX7_cross, 7, (some .int))
abbrev rm_X7_cross : Room := { frames := 6, cells := 0, slots := 0, locals := 142 }
abbrev mi_X2_gain : am_MI := (yX2_gain, cX2_gain, 3, (some .int))
abbrev rm_X2_gain : Room := { frames := 2, cells := 0, slots := 0, locals := 42 }
abbrev mi_X2_isBestAgainst : am_MI := (yX2_isBestAgainst, cX2_isBestAgainst, 4, (some .boolean))
abbrev rm_X2_isBestAgainst : Room := { frames := 3, cells := 0, slots := 0, locals := 64 }
abbrev mi_X7_rests : am_MI := (yX7_rests, cX7_rests, 6, (some .int))
abbrev rm_X7_rests : Room := { frames := 4, cells := 0, slots := 0, locals := 87 }
abbrev mi_X7_weightOf : am_MI := (yX7_weightOf, cX7_weightOf, 5, (some .int))
abbrev rm_X7_weightOf : Room := { frames := 0, cells := 0, slots := 0, locals := 0 }
abbrev mi_X4_isRead : am_MI := (yX4_isRead, cX4_isRead, 6, (some .boolean))
abbrev rm_X4_isRead : Room := { frames := 3, cells := 0, slots := 0, locals := 64 }
abbrev mi_X7_commonDivisor : am_MI := (yX7_commonDivisor, cX7_commonDivisor, 6, (some .int))
abbrev rm_X7_commonDivisor : Room := { frames := 0, cells := 0, slots := 0, locals := 0 }
abbrev mi_X7_slams : am_MI := (yX7_slams, cX7_slams, 10, (some .int))
abbrev rm_X7_slams : Room := { frames := 4, cells := 0, slots := 0, locals := 89 }
abbrev mi_X7_seed : am_MI := (yX7_seed, cX7_seed, 5, (some .long))
abbrev rm_X7_seed : Room := { frames := 0, cells := 0, slots := 0, locals := 0 }
abbrev mi_X7_afternoons : am_MI := (yX7_afternoons, cX7_afternoons, 4, (some .int))
abbrev rm_X7_afternoons : Room := { frames := 4, cells := 0, slots := 0, locals := 87 }
abbrev mi_X5_has : am_MI := (yX5_has, cX5_has, 2, (some .boolean))
abbrev rm_X5_has : Room := { frames := 0, cells := 0, slots := 0, locals := 0 }
abbrev mi_X5_put : am_MI := (yX5_put, cX5_put, 3, none)
abbrev rm_X5_put : Room := { frames := 2, cells := 0, slots := 0, locals := 82 }
abbrev mi_X4_theHour : am_MI := (yX4_theHour, cX4_theHour, 1, (some .int))
abbrev rm_X4_theHour : Room := { frames := 0, cells := 0, slots := 0, locals := 0 }
abbrev mi_X7_keep : am_MI := (yX7_keep, cX7_keep, 2, (some .int))
abbrev rm_X7_keep : Room := { frames := 3, cells := 0, slots := 0, locals := 104 }
abbrev mi_X5_isKept : am_MI := (yX5_isKept, cX5_isKept, 2, (some .boolean))
abbrev rm_X5_isKept : Room := { frames := 1, cells := 0, slots := 0, locals := 21 }
abbrev mi_X5_giveBack : am_MI := (yX5_giveBack, cX5_giveBack, 3, none)
abbrev rm_X5_giveBack : Room := { frames := 2, cells := 0, slots := 0, locals := 82 }
abbrev mi_X7_again : am_MI := (yX7_again, cX7_again, 2, (some .int))
abbrev rm_X7_again : Room := { frames := 3, cells := 0, slots := 0, locals := 104 }
abbrev mi_X2_sight : am_MI := (yX2_sight, cX2_sight, 1, (some .int))
abbrev rm_X2_sight : Room := { frames := 0, cells := 0, slots := 0, locals := 0 }
abbrev mi_X2_wordsAsFigures : am_MI := (yX2_wordsAsFigures, cX2_wordsAsFigures, 3, (some .int))
abbrev rm_X2_wordsAsFigures : Room := { frames := 0, cells := 0, slots := 0, locals := 0 }
abbrev mi_X4_dueCount : am_MI := (yX4_dueCount, cX4_dueCount, 3, (some .int))
abbrev rm_X4_dueCount : Room := { frames := 1, cells := 0, slots := 0, locals := 20 }
abbrev mi_X7_count : am_MI := (yX7_count, cX7_count, 2, (some .int))
abbrev rm_X7_count : Room := { frames := 4, cells := 0, slots := 0, locals := 87 }
abbrev mi_X8_in : am_MI := (yX8_in, cX8_in, 6, (some .boolean))
abbrev rm_X8_in : Room := { frames := 0, cells := 0, slots := 0, locals := 0 }
abbrev mi_X8_write : am_MI := (yX8_write, cX8_write, 2, (some .int))
abbrev rm_X8_write : Room := { frames := 1, cells := 0, slots := 0, locals := 25 }
abbrev mi_X8_wipe : am_MI := (yX8_wipe, cX8_wipe, 2, (some .int))
abbrev rm_X8_wipe : Room := { frames := 0, cells := 0, slots := 0, locals := 0 }
abbrev mi_X8_figure : am_MI := (yX8_figure, cX8_figure, 4, (some .int))
abbrev rm_X8_figure : Room := { frames := 1, cells := 0, slots := 0, locals := 25 }
abbrev mi_X8_placesLeft : am_MI := (yX8_placesLeft, cX8_placesLeft, 3, (some .int))
abbrev rm_X8_placesLeft : Room := { frames := 0, cells := 0, slots := 0, locals := 0 }
abbrev mi_X8_has : am_MI := (yX8_has, cX8_has, 2, (some .boolean))
abbrev rm_X8_has : Room := { frames := 0, cells := 0, slots := 0, locals := 0 }
abbrev mi_X8_figureOf : am_MI := (yX8_figureOf, cX8_figureOf, 3, (some .int))
abbrev rm_X8_figureOf : Room := { frames := 1, cells := 0, slots := 0, locals := 25 }
abbrev mi_X8_readWindow : am_MI := (yX8_readWindow, cX8_readWindow, 2, none)
abbrev rm_X8_readWindow : Room := { frames := 2, cells := 0, slots := 0, locals := 48 }
abbrev mi_X8_readText : am_MI := (yX8_readText, cX8_readText, 2, (some .int))
abbrev rm_X8_readText : Room := { frames := 3, cells := 0, slots := 0, locals := 69 }
abbrev mi_X8_fault : am_MI := (yX8_fault, cX8_fault, 1, (some .int))
abbrev rm_X8_fault : Room := { frames := 4, cells := 0, slots := 0, locals := 90 }
abbrev mi_X8_town : am_MI := (yX8_town, cX8_town, 2, (some .int))
abbrev rm_X8_town : Room := { frames := 4, cells := 0, slots := 0, locals := 90 }
abbrev mi_X8_isWindow : am_MI := (yX8_isWindow, cX8_isWindow, 2, (some .boolean))
abbrev rm_X8_isWindow : Room := { frames := 1, cells := 0, slots := 0, locals := 25 }
abbrev mi_X8_wordOf : am_MI := (yX8_wordOf, cX8_wordOf, 3, (some .int))
abbrev rm_X8_wordOf : Room := { frames := 0, cells := 0, slots := 0, locals := 0 }
abbrev mi_X8_sees : am_MI := (yX8_sees, cX8_sees, 3, (some .boolean))
abbrev rm_X8_sees : Room := { frames := 1, cells := 0, slots := 0, locals := 25 }
abbrev mi_X8_seen : am_MI := (yX8_seen, cX8_seen, 4, (some .int))
abbrev rm_X8_seen : Room := { frames := 2, cells := 0, slots := 0, locals := 47 }
abbrev mi_X8_window : am_MI := (yX8_window, cX8_window, 3, (some .int))
abbrev rm_X8_window : Room := { frames := 3, cells := 0, slots := 0, locals := 70 }
abbrev mi_X8_keepAct : am_MI := (yX8_keepAct, cX8_keepAct, 2, none)
abbrev rm_X8_keepAct : Room := { frames := 0, cells := 0, slots := 0, locals := 0 }
abbrev mi_X8_move : am_MI := (yX8_move, cX8_move, 3, (some .int))
abbrev rm_X8_move : Room := { frames := 2, cells := 0, slots := 0, locals := 46 }
abbrev mi_X8_windOn : am_MI := (yX8_windOn, cX8_windOn, 4, (some .int))
abbrev rm_X8_windOn : Room := { frames := 0, cells := 0, slots := 0, locals := 0 }
abbrev mi_X8_wind : am_MI := (yX8_wind, cX8_wind, 1, (some .int))
abbrev rm_X8_wind : Room := { frames := 1, cells := 0, slots := 0, locals := 23 }
abbrev mi_X8_leastState : am_MI := (yX8_leastState, cX8_leastState, 3, (some .int))
abbrev rm_X8_leastState : Room := { frames := 0, cells := 0, slots := 0, locals := 0 }
abbrev mi_X8_pass : am_MI := (yX8_pass, cX8_pass, 4, (some .int))
abbrev rm_X8_pass : Room := { frames := 2, cells := 0, slots := 0, locals := 47 }
abbrev mi_X8_hourOn : am_MI := (yX8_hourOn, cX8_hourOn, 6, (some .int))
abbrev rm_X8_hourOn : Room := { frames := 1, cells := 0, slots := 0, locals := 22 }
abbrev mi_X8_hour : am_MI := (yX8_hour, cX8_hour, 1, (some .int))
abbrev rm_X8_hour : Room := { frames := 2, cells := 0, slots := 0, locals := 47 }
abbrev mi_X8_undo : am_MI := (yX8_undo, cX8_undo, 2, (some .int))
abbrev rm_X8_undo : Room := { frames := 0, cells := 0, slots := 0, locals := 0 }
abbrev mi_X8_sixes : am_MI := (yX8_sixes, cX8_sixes, 3, (some .int))
abbrev rm_X8_sixes : Room := { frames := 0, cells := 0, slots := 0, locals := 0 }
abbrev mi_X8_between : am_MI := (yX8_between, cX8_between, 3, (some .int))
abbrev rm_X8_between : Room := { frames := 1, cells := 0, slots := 0, locals := 22 }
abbrev mi_X8_hoursBy : am_MI := (yX8_hoursBy, cX8_hoursBy, 11, (some .int))
abbrev rm_X8_hoursBy : Room := { frames := 2, cells := 0, slots := 0, locals := 47 }
abbrev mi_X8_layWays : am_MI := (yX8_layWays, cX8_layWays, 7, none)
abbrev rm_X8_layWays : Room := { frames := 3, cells := 0, slots := 0, locals := 77 }
abbrev mi_X8_soonest : am_MI := (yX8_soonest, cX8_soonest, 6, (some .int))
abbrev rm_X8_soonest : Room := { frames := 4, cells := 0, slots := 0, locals := 103 }
abbrev mi_X8_knows : am_MI := (yX8_knows, cX8_knows, 5, (some .int))
abbrev rm_X8_knows : Room := { frames := 4, cells := 0, slots := 0, locals := 103 }
abbrev mi_X8_ones : am_MI := (yX8_ones, cX8_ones, 3, (some .int))
abbrev rm_X8_ones : Room := { frames := 0, cells := 0, slots := 0, locals := 0 }
abbrev mi_X8_isTold : am_MI := (yX8_isTold, cX8_isTold, 3, (some .boolean))
abbrev rm_X8_isTold : Room := { frames := 3, cells := 0, slots := 0, locals := 70 }
abbrev mi_X8_toTell : am_MI := (yX8_toTell, cX8_toTell, 6, (some .int))
abbrev rm_X8_toTell : Room := { frames := 4, cells := 0, slots := 0, locals := 92 }
abbrev mi_X8_cut : am_MI := (yX8_cut, cX8_cut, 6, (some .int))
abbrev rm_X8_cut : Room := { frames := 4, cells := 0, slots := 0, locals := 103 }
abbrev mi_X8_tenTo : am_MI := (yX8_tenTo, cX8_tenTo, 4, (some .long))
abbrev rm_X8_tenTo : Room := { frames := 0, cells := 0, slots := 0, locals := 0 }
abbrev mi_X8_layTrial : am_MI := (yX8_layTrial, cX8_layTrial, 2, none)
abbrev rm_X8_layTrial : Room := { frames := 0, cells := 0, slots := 0, locals := 0 }
abbrev mi_X8_tryMove : am_MI := (yX8_tryMove, cX8_tryMove, 4, (some .boolean))
abbrev rm_X8_tryMove : Room := { frames := 2, cells := 0, slots := 0, locals := 46 }
abbrev mi_X8_alike : am_MI := (yX8_alike, cX8_alike, 5, (some .int))
abbrev rm_X8_alike : Room := { frames := 2, cells := 0, slots := 0, locals := 47 }
abbrev mi_X8_judge : am_MI := (yX8_judge, cX8_judge, 7, (some .int))
abbrev rm_X8_judge : Room := { frames := 3, cells := 0, slots := 0, locals := 71 }
abbrev mi_X8_follow : am_MI := (yX8_follow, cX8_follow, 4, (some .int))
abbrev rm_X8_follow : Room := { frames := 1, cells := 0, slots := 0, locals := 25 }
abbrev mi_X8_unfollow : am_MI := (yX8_unfollow, cX8_unfollow, 2, (some .int))
abbrev rm_X8_unfollow : Room := { frames := 0, cells := 0, slots := 0, locals := 0 }
abbrev mi_X8_wordBy : am_MI := (yX8_wordBy, cX8_wordBy, 2, (some .int))
abbrev rm_X8_wordBy : Room := { frames := 0, cells := 0, slots := 0, locals := 0 }
abbrev mi_X8_isCode : am_MI := (yX8_isCode, cX8_isCode, 5, (some .boolean))
abbrev rm_X8_isCode : Room := { frames := 1, cells := 0, slots := 0, locals := 21 }
abbrev mi_X8_codes : am_MI := (yX8_codes, cX8_codes, 5, (some .int))
abbrev rm_X8_codes : Room := { frames := 2, cells := 0, slots := 0, locals := 45 }
abbrev mi_X8_greatestPart : am_MI := (yX8_greatestPart, cX8_greatestPart, 6, (some .int))
abbrev rm_X8_greatestPart : Room := { frames := 2, cells := 0, slots := 0, locals := 45 }
abbrev mi_X8_look : am_MI := (yX8_look, cX8_look, 3, (some .int))
abbrev rm_X8_look : Room := { frames := 3, cells := 0, slots := 0, locals := 70 }
abbrev mi_X8_will : am_MI := (yX8_will, cX8_will, 4, (some .int))
abbrev rm_X8_will : Room := { frames := 2, cells := 0, slots := 0, locals := 46 }
abbrev mi_X8_layHours : am_MI := (yX8_layHours, cX8_layHours, 7, none)
abbrev rm_X8_layHours : Room := { frames := 4, cells := 0, slots := 0, locals := 103 }
abbrev mi_X8_cross : am_MI := (yX8_cross, cX8_cross, 6, (some .int))
abbrev rm_X8_cross : Room := { frames := 5, cells := 0, slots := 0, locals := 129 }
abbrev mi_X8_lets : am_MI := (yX8_lets, cX8_lets, 3, (some .int))
abbrev rm_X8_lets : Room := { frames := 3, cells := 0, slots := 0, locals := 70 }
abbrev mi_X8_isRest : am_MI := (yX8_isRest, cX8_isRest, 5, (some .boolean))
abbrev rm_X8_isRest : Room := { frames := 4, cells := 0, slots := 0, locals := 92 }
abbrev mi_X8_rests : am_MI := (yX8_rests, cX8_rests, 6, (some .int))
abbrev rm_X8_rests : Room := { frames := 5, cells := 0, slots := 0, locals := 116 }
abbrev mi_X8_loose : am_MI := (yX8_loose, cX8_loose, 3, (some .int))
abbrev rm_X8_loose : Room := { frames := 0, cells := 0, slots := 0, locals := 0 }
abbrev mi_X8_reads : am_MI := (yX8_reads, cX8_reads, 6, (some .boolean))
abbrev rm_X8_reads : Room := { frames := 2, cells := 0, slots := 0, locals := 47 }
abbrev mi_X8_common : am_MI := (yX8_common, cX8_common, 5, (some .int))
abbrev rm_X8_common : Room := { frames := 0, cells := 0, slots := 0, locals := 0 }
abbrev mi_X8_slams : am_MI := (yX8_slams, cX8_slams, 10, (some .int))
abbrev rm_X8_slams : Room := { frames := 3, cells := 0, slots := 0, locals := 72 }
abbrev mi_X8_seed : am_MI := (yX8_seed, cX8_seed, 5, (some .long))
abbrev rm_X8_seed : Room := { frames := 0, cells := 0, slots := 0, locals := 0 }
abbrev mi_X8_afternoons : am_MI := (yX8_afternoons, cX8_afternoons, 4, (some .int))
abbrev rm_X8_afternoons : Room := { frames := 3, cells := 0, slots := 0, locals := 71 }
abbrev mi_X8_keep : am_MI := (yX8_keep, cX8_keep, 3, (some .int))
abbrev rm_X8_keep : Room := { frames := 1, cells := 0, slots := 0, locals := 25 }
abbrev mi_X8_again : am_MI := (yX8_again, cX8_again, 3, (some .int))
abbrev rm_X8_again : Room := { frames := 1, cells := 0, slots := 0, locals := 25 }
abbrev mi_X8_count : am_MI := (yX8_count, cX8_count, 4, (some .int))
abbrev rm_X8_count : Room := { frames := 3, cells := 0, slots := 0, locals := 71 }
theorem cv_7_70 : am_wV 7 70 mi_X3_add 1 := am_wV.mk 215 216 217 40 218 (by decide +kernel) (by decide +kernel)
theorem cv_7_74 : am_wV 7 74 mi_X3_size 0 := am_wV.mk 219 220 221 40 222 (by decide +kernel) (by decide +kernel)
theorem cv_7_78 : am_wV 7 78 mi_X3_clear 0 := am_wV.mk 227 228 229 40 230 (by decide +kernel) (by decide +kernel)
theorem cv_3_26 : am_wV 3 26 mi_X3_figure 1 := am_wV.mk 251 252 253 40 254 (by decide +kernel) (by decide +kernel)
theorem cv_3_30 : am_wV 3 30 mi_X3_isLetter 2 := am_wV.mk 243 245 1 40 246 (by decide +kernel) (by decide +kernel)
theorem cv_3_34 : am_wV 3 34 mi_X3_isFigure 3 := am_wV.mk 247 249 2 40 250 (by decide +kernel) (by decide +kernel)
theorem cv_3_38 : am_wV 3 38 mi_X3_isTaken 2 := am_wV.mk 259 261 4 40 262 (by decide +kernel) (by decide +kernel)
theorem cv_3_19 : am_wV 3 19 mi_X3_fitsHead 1 := am_wV.mk 239 241 0 40 242 (by decide +kernel) (by decide +kernel)
theorem cv_3_23 : am_wV 3 23 mi_X3_fitsWindow 1 := am_wV.mk 255 257 3 40 258 (by decide +kernel) (by decide +kernel)
theorem cv_7_81 : am_wV 7 81 mi_X3_firstFault 0 := am_wV.mk 235 236 237 40 238 (by decide +kernel) (by decide +kernel)
theorem cv_2_59 : am_wV 2 59 mi_X2_has 1 := am_wV.mk 287 288 289 41 290 (by decide +kernel) (by decide +kernel)
theorem cv_2_80 : am_wV 2 80 mi_X2_side 1 := am_wV.mk 283 284 285 41 286 (by decide +kernel) (by decide +kernel)
theorem cv_2_83 : am_wV 2 83 mi_X2_place 1 := am_wV.mk 291 292 293 41 294 (by decide +kernel) (by decide +kernel)
theorem mw_2_86 : am_wM 2 86 Lib.Math.abs.name Lib.Math.abs.code 1 (some .int) := am_wM.mk 295 296 48 297 (by decide +kernel)
theorem cv_2_89 : am_wV 2 89 mi_X2_floor 1 := am_wV.mk 298 299 300 41 301 (by decide +kernel) (by decide +kernel)
theorem cv_2_34 : am_wV 2 34 mi_X3_figure 1 := am_wV.mk 271 252 253 40 254 (by decide +kernel) (by decide +kernel)
theorem cv_2_40 : am_wV 2 40 mi_X3_size 0 := am_wV.mk 272 220 221 40 222 (by decide +kernel) (by decide +kernel)
theorem mw_2_44 : am_wM 2 44 Lib.Math.min.name Lib.Math.min.code 2 (some .int) := am_wM.mk 273 274 48 275 (by decide +kernel)
theorem mw_2_50 : am_wM 2 50 Lib.Math.max.name Lib.Math.max.code 2 (some .int) := am_wM.mk 276 277 48 278 (by decide +kernel)
theorem cv_2_56 : am_wV 2 56 mi_X2_facing 1 := am_wV.mk 279 281 5 41 282 (by decide +kernel) (by decide +kernel)
theorem cv_4_22 : am_wV 4 22 mi_X2_windows 0 := am_wV.mk 306 307 308 41 309 (by decide +kernel) (by decide +kernel)
theorem cv_4_28 : am_wV 4 28 mi_X3_figure 1 := am_wV.mk 310 252 253 40 254 (by decide +kernel) (by decide +kernel)
theorem cv_4_34 : am_wS 4 34 mi_J7_fill_53178 2 := am_wS.mk 311 312 49 313 (by decide +kernel) (by decide +kernel)
theorem cv_7_84 : am_wV 7 84 mi_X2_build 1 := am_wV.mk 267 268 269 41 270 (by decide +kernel) (by decide +kernel)
theorem cv_7_88 : am_wV 7 88 mi_X4_begin 1 := am_wV.mk 302 303 304 42 305 (by decide +kernel) (by decide +kernel)
theorem cv_7_91 : am_wV 7 91 mi_X0_clear 0 := am_wV.mk 314 315 316 43 317 (by decide +kernel) (by decide +kernel)
theorem cv_7_92 : am_wV 7 92 mi_X5_clear 0 := am_wV.mk 318 319 320 44 321 (by decide +kernel) (by decide +kernel)
theorem cv_7_93 : am_wV 7 93 mi_X2_windows 0 := am_wV.mk 322 307 308 41 309 (by decide +kernel) (by decide +kernel)
theorem cv_4_44 : am_wV 4 44 mi_X2_has 1 := am_wV.mk 335 288 289 41 290 (by decide +kernel) (by decide +kernel)
theorem cv_2_69 : am_wSN 2 69 mi_X7_isState 1 := am_wSN.mk 349 5 350 39 351 rfl (by decide +kernel) (by decide +kernel)
theorem cv_4_48 : am_wV 4 48 mi_X4_state 1 := am_wV.mk 344 332 333 42 334 (by decide +kernel) (by decide +kernel)
theorem cv_4_51 : am_wV 4 51 mi_X2_wordOf 1 := am_wV.mk 345 346 347 41 348 (by decide +kernel) (by decide +kernel)
theorem cv_7_96 : am_wV 7 96 mi_X2_has 1 := am_wV.mk 327 288 289 41 290 (by decide +kernel) (by decide +kernel)
theorem cv_7_99 : am_wV 7 99 mi_X2_place 1 := am_wV.mk 328 292 293 41 294 (by decide +kernel) (by decide +kernel)
theorem cv_7_103 : am_wV 7 103 mi_X2_side 1 := am_wV.mk 329 284 285 41 286 (by decide +kernel) (by decide +kernel)
theorem cv_7_106 : am_wV 7 106 mi_X2_floor 1 := am_wV.mk 330 299 300 41 301 (by decide +kernel) (by decide +kernel)
theorem cv_7_109 : am_wV 7 109 mi_X4_state 1 := am_wV.mk 331 332 333 42 334 (by decide +kernel) (by decide +kernel)
theorem cv_7_112 : am_wV 7 112 mi_X2_kind 1 := am_wV.mk 336 337 338 41 339 (by decide +kernel) (by decide +kernel)
theorem cv_7_115 : am_wV 7 115 mi_X4_word 1 := am_wV.mk 340 341 342 42 343 (by decide +kernel) (by decide +kernel)
theorem cv_7_118 : am_wV 7 118 mi_X2_sees 1 := am_wV.mk 352 353 354 41 355 (by decide +kernel) (by decide +kernel)
theorem cv_7_121 : am_wV 7 121 mi_X4_due 1 := am_wV.mk 356 357 358 42 359 (by decide +kernel) (by decide +kernel)
theorem cv_4_54 : am_wSN 4 54 mi_X7_isState 1 := am_wSN.mk 369 6 350 39 351 rfl (by decide +kernel) (by decide +kernel)
theorem cv_4_57 : am_wV 4 57 mi_X2_kind 1 := am_wV.mk 370 337 338 41 339 (by decide +kernel) (by decide +kernel)
theorem cv_0_19 : am_wV 0 19 mi_X0_forgetFirst 0 := am_wV.mk 375 377 6 43 378 (by decide +kernel) (by decide +kernel)
theorem cv_0_22 : am_wV 0 22 mi_X4_store 2 := am_wV.mk 382 383 384 42 385 (by decide +kernel) (by decide +kernel)
theorem cv_7_124 : am_wS 7 124 mi_X7_isState 1 := am_wS.mk 364 350 39 351 (by decide +kernel) (by decide +kernel)
theorem cv_7_127 : am_wV 7 127 mi_X4_canShift 2 := am_wV.mk 365 366 367 42 368 (by decide +kernel) (by decide +kernel)
theorem cv_7_131 : am_wV 7 131 mi_X0_remember 1 := am_wV.mk 371 372 373 43 374 (by decide +kernel) (by decide +kernel)
theorem cv_7_135 : am_wV 7 135 mi_X4_shift 2 := am_wV.mk 387 388 389 42 390 (by decide +kernel) (by decide +kernel)
theorem cv_2_66 : am_wV 2 66 mi_X2_kind 1 := am_wV.mk 403 337 338 41 339 (by decide +kernel) (by decide +kernel)
theorem cv_4_60 : am_wV 4 60 mi_X2_ofKind 1 := am_wV.mk 399 400 401 41 402 (by decide +kernel) (by decide +kernel)
theorem cv_7_139 : am_wV 7 139 mi_X4_blow 0 := am_wV.mk 395 396 397 42 398 (by decide +kernel) (by decide +kernel)
theorem cv_2_63 : am_wV 2 63 mi_X2_sees 1 := am_wV.mk 412 353 354 41 355 (by decide +kernel) (by decide +kernel)
theorem cv_4_63 : am_wV 4 63 mi_X2_leastStateFor 1 := am_wV.mk 417 418 419 41 420 (by decide +kernel) (by decide +kernel)
theorem cv_4_66 : am_wV 4 66 mi_X4_shift 2 := am_wV.mk 421 388 389 42 390 (by decide +kernel) (by decide +kernel)
theorem cv_7_142 : am_wV 7 142 mi_X2_areFacing 2 := am_wV.mk 408 409 410 41 411 (by decide +kernel) (by decide +kernel)
theorem cv_7_145 : am_wV 7 145 mi_X4_takeUp 2 := am_wV.mk 413 414 415 42 416 (by decide +kernel) (by decide +kernel)
theorem cv_4_70 : am_wV 4 70 mi_X4_word 1 := am_wV.mk 430 341 342 42 343 (by decide +kernel) (by decide +kernel)
theorem cv_7_148 : am_wV 7 148 mi_X4_strike 0 := am_wV.mk 426 427 428 42 429 (by decide +kernel) (by decide +kernel)
theorem cv_0_28 : am_wV 0 28 mi_X4_restore 2 := am_wV.mk 443 444 445 42 446 (by decide +kernel) (by decide +kernel)
theorem cv_7_151 : am_wV 7 151 mi_X0_size 0 := am_wV.mk 435 436 437 43 438 (by decide +kernel) (by decide +kernel)
theorem cv_7_152 : am_wV 7 152 mi_X0_giveBack 1 := am_wV.mk 439 440 441 43 442 (by decide +kernel) (by decide +kernel)
theorem cv_6_27 : am_wV 6 27 mi_X2_has 1 := am_wV.mk 463 288 289 41 290 (by decide +kernel) (by decide +kernel)
theorem cv_6_48 : am_wV 6 48 mi_X6_comesTo 1 := am_wV.mk 469 470 471 45 472 (by decide +kernel) (by decide +kernel)
theorem cv_6_33 : am_wV 6 33 mi_X2_windows 0 := am_wV.mk 464 307 308 41 309 (by decide +kernel) (by decide +kernel)
theorem cv_6_65 : am_wV 6 65 mi_X2_areFacing 2 := am_wV.mk 474 409 410 41 411 (by decide +kernel) (by decide +kernel)
theorem mw_6_71 : am_wM 6 71 Lib.MathLoose.min_long.x Lib.MathLoose.min_long.code 4 (some .long) := am_wM.mk 476 477 48 478 (by decide +kernel)
theorem cv_6_41 : am_wV 6 41 mi_X2_kind 1 := am_wV.mk 479 337 338 41 339 (by decide +kernel) (by decide +kernel)
theorem cv_6_21 : am_wS 6 21 mi_J7_fill_d0a16 2 := am_wS.mk 460 461 49 462 (by decide +kernel) (by decide +kernel)
theorem cv_6_37 : am_wV 6 37 mi_X6_goOn 2 := am_wV.mk 465 467 8 45 468 (by decide +kernel) (by decide +kernel)
theorem cv_6_45 : am_wV 6 45 mi_X6_hoursAt 1 := am_wV.mk 480 482 9 45 483 (by decide +kernel) (by decide +kernel)
theorem cv_7_155 : am_wV 7 155 mi_X7_refusalOfTwo 2 := am_wV.mk 451 453 7 39 454 (by decide +kernel) (by decide +kernel)
theorem cv_7_159 : am_wV 7 159 mi_X6_measure 2 := am_wV.mk 455 456 457 45 458 (by decide +kernel) (by decide +kernel)
theorem cv_7_162 : am_wV 7 162 mi_X6_wayTo 1 := am_wV.mk 484 485 486 45 487 (by decide +kernel) (by decide +kernel)
theorem cv_7_165 : am_wV 7 165 mi_X6_hoursTo 1 := am_wV.mk 488 489 490 45 491 (by decide +kernel) (by decide +kernel)
theorem cv_7_168 : am_wV 7 168 mi_X6_comesTo 1 := am_wV.mk 496 470 471 45 472 (by decide +kernel) (by decide +kernel)
theorem cv_7_265 : am_wS 7 265 mi_J6_bitCount_0f7a4 1 := am_wS.mk 512 513 51 514 (by decide +kernel) (by decide +kernel)
theorem cv_7_171 : am_wV 7 171 mi_X2_sets 0 := am_wV.mk 501 502 503 41 504 (by decide +kernel) (by decide +kernel)
theorem cv_7_174 : am_wV 7 174 mi_X2_reachedBy 1 := am_wV.mk 505 506 507 41 508 (by decide +kernel) (by decide +kernel)
theorem cv_7_177 : am_wS 7 177 mi_X7_isFewer 2 := am_wS.mk 509 510 39 511 (by decide +kernel) (by decide +kernel)
theorem cv_4_73 : am_wV 4 73 mi_X2_areFacing 2 := am_wV.mk 542 409 410 41 411 (by decide +kernel) (by decide +kernel)
theorem cv_7_180 : am_wS 7 180 mi_X7_withoutLast 2 := am_wS.mk 526 527 39 528 (by decide +kernel) (by decide +kernel)
theorem cv_7_184 : am_wV 7 184 mi_X4_copy 1 := am_wV.mk 530 531 532 42 533 (by decide +kernel) (by decide +kernel)
theorem cv_7_189 : am_wV 7 189 mi_X7_happens 2 := am_wV.mk 534 536 10 39 537 (by decide +kernel) (by decide +kernel)
theorem cv_7_192 : am_wV 7 192 mi_X4_pairsAlike 0 := am_wV.mk 538 539 540 42 541 (by decide +kernel) (by decide +kernel)
theorem cv_1_25 : am_wSN 1 25 mi_X7_isState 1 := am_wSN.mk 554 7 350 39 351 rfl (by decide +kernel) (by decide +kernel)
theorem cv_1_29 : am_wSN 1 29 mi_X7_isWord 1 := am_wSN.mk 555 8 548 39 549 rfl (by decide +kernel) (by decide +kernel)
theorem cv_7_195 : am_wS 7 195 mi_X7_isWord 1 := am_wS.mk 547 548 39 549 (by decide +kernel) (by decide +kernel)
theorem cv_7_198 : am_wV 7 198 mi_X1_add 3 := am_wV.mk 550 551 552 46 553 (by decide +kernel) (by decide +kernel)
theorem cv_7_201 : am_wV 7 201 mi_X1_size 0 := am_wV.mk 556 557 558 46 559 (by decide +kernel) (by decide +kernel)
theorem cv_1_19 : am_wS 1 19 mi_J7_fill_53178 2 := am_wS.mk 568 312 49 313 (by decide +kernel) (by decide +kernel)
theorem cv_7_202 : am_wV 7 202 mi_X1_clear 0 := am_wV.mk 564 565 566 46 567 (by decide +kernel) (by decide +kernel)
theorem cv_1_32 : am_wS 1 32 mi_J6_bitCount_0f7a4 1 := am_wS.mk 581 513 51 514 (by decide +kernel) (by decide +kernel)
theorem cv_1_38 : am_wV 1 38 mi_X1_codesLeft 0 := am_wV.mk 577 578 579 46 580 (by decide +kernel) (by decide +kernel)
theorem cv_1_42 : am_wS 1 42 mi_J6_numberOfTrailingZeros_0f7a4 1 := am_wS.mk 582 583 51 584 (by decide +kernel) (by decide +kernel)
theorem cv_7_203 : am_wV 7 203 mi_X1_firstCode 0 := am_wV.mk 573 574 575 46 576 (by decide +kernel) (by decide +kernel)
theorem cv_7_206 : am_wV 7 206 mi_X1_codesLeft 0 := am_wV.mk 586 578 579 46 580 (by decide +kernel) (by decide +kernel)
theorem cv_7_209 : am_wV 7 209 mi_X1_bestState 0 := am_wV.mk 591 592 593 46 594 (by decide +kernel) (by decide +kernel)
theorem cv_6_53 : am_wS 6 53 mi_J7_fill_53178 2 := am_wS.mk 607 312 49 313 (by decide +kernel) (by decide +kernel)
theorem cv_6_56 : am_wV 6 56 mi_X6_measure 2 := am_wV.mk 608 456 457 45 458 (by decide +kernel) (by decide +kernel)
theorem cv_6_59 : am_wV 6 59 mi_X6_hoursTo 1 := am_wV.mk 609 489 490 45 491 (by decide +kernel) (by decide +kernel)
theorem cv_6_62 : am_wV 6 62 mi_X6_wayTo 1 := am_wV.mk 610 485 486 45 487 (by decide +kernel) (by decide +kernel)
theorem cv_7_212 : am_wV 7 212 mi_X6_hoursBetween 3 := am_wV.mk 603 604 605 45 606 (by decide +kernel) (by decide +kernel)
theorem cv_2_75 : am_wS 2 75 mi_J6_bitCount_0f7a4 1 := am_wS.mk 623 513 51 514 (by decide +kernel) (by decide +kernel)
theorem cv_2_72 : am_wV 2 72 mi_X2_gain 2 := am_wV.mk 619 621 11 41 622 (by decide +kernel) (by decide +kernel)
theorem cv_7_216 : am_wV 7 216 mi_X2_isBestAgainst 2 := am_wV.mk 615 616 617 41 618 (by decide +kernel) (by decide +kernel)
theorem cv_7_219 : am_wV 7 219 mi_X2_ofKind 1 := am_wV.mk 628 400 401 41 402 (by decide +kernel) (by decide +kernel)
theorem cv_7_222 : am_wS 7 222 mi_X7_weightOf 3 := am_wS.mk 629 630 39 631 (by decide +kernel) (by decide +kernel)
theorem cv_7_226 : am_wV 7 226 mi_X4_isRead 3 := am_wV.mk 632 633 634 42 635 (by decide +kernel) (by decide +kernel)
theorem cv_7_230 : am_wS 7 230 mi_X7_commonDivisor 2 := am_wS.mk 636 637 39 638 (by decide +kernel) (by decide +kernel)
theorem cv_5_15 : am_wV 5 15 mi_X5_has 1 := am_wV.mk 662 655 656 44 657 (by decide +kernel) (by decide +kernel)
theorem cv_5_23 : am_wV 5 23 mi_X4_store 2 := am_wV.mk 663 383 384 42 385 (by decide +kernel) (by decide +kernel)
theorem cv_7_243 : am_wV 7 243 mi_X5_has 1 := am_wV.mk 654 655 656 44 657 (by decide +kernel) (by decide +kernel)
theorem cv_7_244 : am_wV 7 244 mi_X5_put 2 := am_wV.mk 658 659 660 44 661 (by decide +kernel) (by decide +kernel)
theorem cv_7_248 : am_wV 7 248 mi_X4_theHour 0 := am_wV.mk 664 665 666 42 667 (by decide +kernel) (by decide +kernel)
theorem cv_5_29 : am_wV 5 29 mi_X5_isKept 1 := am_wV.mk 680 673 674 44 675 (by decide +kernel) (by decide +kernel)
theorem cv_5_32 : am_wV 5 32 mi_X4_restore 2 := am_wV.mk 681 444 445 42 446 (by decide +kernel) (by decide +kernel)
theorem cv_7_251 : am_wV 7 251 mi_X5_isKept 1 := am_wV.mk 672 673 674 44 675 (by decide +kernel) (by decide +kernel)
theorem cv_7_254 : am_wV 7 254 mi_X5_giveBack 2 := am_wV.mk 676 677 678 44 679 (by decide +kernel) (by decide +kernel)
theorem cv_7_256 : am_wV 7 256 mi_X2_sight 0 := am_wV.mk 686 687 688 41 689 (by decide +kernel) (by decide +kernel)
theorem cv_7_259 : am_wV 7 259 mi_X2_wordsAsFigures 0 := am_wV.mk 690 691 692 41 693 (by decide +kernel) (by decide +kernel)
theorem cv_7_262 : am_wV 7 262 mi_X4_dueCount 0 := am_wV.mk 694 695 696 42 697 (by decide +kernel) (by decide +kernel)
theorem cv_8_65 : am_wS 8 65 mi_X8_in 3 := am_wS.mk 804 805 47 806 (by decide +kernel) (by decide +kernel)
theorem cv_8_80 : am_wS 8 80 mi_X8_has 2 := am_wS.mk 836 837 47 838 (by decide +kernel) (by decide +kernel)
theorem cv_8_100 : am_wV 8 100 mi_X8_placesLeft 0 := am_wV.mk 827 829 15 47 830 (by decide +kernel) (by decide +kernel)
theorem cv_8_104 : am_wV 8 104 mi_X8_figureOf 1 := am_wV.mk 831 833 16 47 834 (by decide +kernel) (by decide +kernel)
theorem cv_8_90 : am_wV 8 90 mi_X8_figure 2 := am_wV.mk 819 821 13 47 822 (by decide +kernel) (by decide +kernel)
theorem cv_8_97 : am_wV 8 97 mi_X8_readWindow 0 := am_wV.mk 823 825 14 47 826 (by decide +kernel) (by decide +kernel)
theorem cv_8_108 : am_wV 8 108 mi_X8_readText 0 := am_wV.mk 815 817 12 47 818 (by decide +kernel) (by decide +kernel)
theorem cv_8_119 : am_wV 8 119 mi_X8_sees 2 := am_wV.mk 859 861 20 47 862 (by decide +kernel) (by decide +kernel)
theorem cv_8_125 : am_wV 8 125 mi_X8_isWindow 1 := am_wV.mk 847 849 17 47 850 (by decide +kernel) (by decide +kernel)
theorem cv_8_122 : am_wV 8 122 mi_X8_wordOf 2 := am_wV.mk 851 853 18 47 854 (by decide +kernel) (by decide +kernel)
theorem cv_8_129 : am_wV 8 129 mi_X8_seen 1 := am_wV.mk 855 857 19 47 858 (by decide +kernel) (by decide +kernel)
theorem cv_8_137 : am_wV 8 137 mi_X8_keepAct 0 := am_wV.mk 869 871 21 47 872 (by decide +kernel) (by decide +kernel)
theorem cv_8_140 : am_wV 8 140 mi_X8_windOn 1 := am_wV.mk 877 879 22 47 880 (by decide +kernel) (by decide +kernel)
theorem cv_8_143 : am_wV 8 143 mi_X8_leastState 1 := am_wV.mk 885 887 23 47 888 (by decide +kernel) (by decide +kernel)
theorem cv_8_146 : am_wV 8 146 mi_X8_hourOn 1 := am_wV.mk 893 895 24 47 896 (by decide +kernel) (by decide +kernel)
theorem cv_8_149 : am_wS 8 149 mi_X8_sixes 1 := am_wS.mk 909 910 47 911 (by decide +kernel) (by decide +kernel)
theorem cv_8_152 : am_wS 8 152 mi_X8_between 3 := am_wS.mk 916 917 47 918 (by decide +kernel) (by decide +kernel)
theorem cv_8_159 : am_wV 8 159 mi_X8_hoursBy 5 := am_wV.mk 912 914 26 47 915 (by decide +kernel) (by decide +kernel)
theorem cv_8_169 : am_wV 8 169 mi_X8_layWays 3 := am_wV.mk 905 907 25 47 908 (by decide +kernel) (by decide +kernel)
theorem cv_8_173 : am_wS 8 173 mi_X8_ones 1 := am_wS.mk 927 928 47 929 (by decide +kernel) (by decide +kernel)
theorem cv_8_176 : am_wV 8 176 mi_X8_isTold 2 := am_wV.mk 930 932 27 47 933 (by decide +kernel) (by decide +kernel)
theorem cv_8_183 : am_wS 8 183 mi_X8_tenTo 1 := am_wS.mk 943 944 47 945 (by decide +kernel) (by decide +kernel)
theorem cv_8_187 : am_wV 8 187 mi_X8_layTrial 0 := am_wV.mk 947 949 28 47 950 (by decide +kernel) (by decide +kernel)
theorem cv_8_192 : am_wV 8 192 mi_X8_tryMove 2 := am_wV.mk 952 954 29 47 955 (by decide +kernel) (by decide +kernel)
theorem cv_8_195 : am_wV 8 195 mi_X8_alike 1 := am_wV.mk 956 958 30 47 959 (by decide +kernel) (by decide +kernel)
theorem cv_8_201 : am_wS 8 201 mi_X8_wordBy 2 := am_wS.mk 976 977 47 978 (by decide +kernel) (by decide +kernel)
theorem cv_8_204 : am_wV 8 204 mi_X8_isCode 1 := am_wV.mk 972 974 31 47 975 (by decide +kernel) (by decide +kernel)
theorem cv_8_207 : am_wV 8 207 mi_X8_greatestPart 1 := am_wV.mk 983 985 32 47 986 (by decide +kernel) (by decide +kernel)
theorem cv_8_210 : am_wV 8 210 mi_X8_codes 1 := am_wV.mk 987 969 970 47 971 (by decide +kernel) (by decide +kernel)
theorem cv_8_214 : am_wV 8 214 mi_X8_layHours 3 := am_wV.mk 996 998 33 47 999 (by decide +kernel) (by decide +kernel)
theorem cv_8_217 : am_wV 8 217 mi_X8_lets 2 := am_wV.mk 1008 1010 35 47 1011 (by decide +kernel) (by decide +kernel)
theorem cv_8_220 : am_wV 8 220 mi_X8_isRest 2 := am_wV.mk 1004 1006 34 47 1007 (by decide +kernel) (by decide +kernel)
theorem cv_8_223 : am_wV 8 223 mi_X8_loose 0 := am_wV.mk 1016 1018 36 47 1019 (by decide +kernel) (by decide +kernel)
theorem cv_8_226 : am_wV 8 226 mi_X8_reads 3 := am_wV.mk 1020 1022 37 47 1023 (by decide +kernel) (by decide +kernel)
theorem cv_8_230 : am_wS 8 230 mi_X8_common 2 := am_wS.mk 1024 1025 47 1026 (by decide +kernel) (by decide +kernel)
