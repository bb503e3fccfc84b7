theorem lg_cmp_zero (a : Int64) : lg_cmp a a = 0 := by simp [lg_cmp]
theorem law_start : iv_I am_gi am_w0 := by
  refine ⟨0, 0, 0, 0, 0, ⟨by decide, by decide, by decide, fun k hk => ?_⟩, ⟨by decide, by decide, by decide, by decide, ⟨1, by decide, by decide, by decide⟩, fun s hs => ?_, fun k hk => absurd hk (Nat.not_lt_zero k)⟩, ⟨⟨fun k hk => absurd hk (Nat.not_lt_zero k), by decide⟩, fun k hk => absurd hk (Nat.not_lt_zero k)⟩, ⟨by decide, by decide, by decide, by decide, by decide, fun j hj => absurd hj (Nat.not_lt_zero j)⟩, ⟨by decide, by decide, by decide, fun s hs h => ?_⟩, ⟨by decide, by decide, by decide, fun k hk => absurd hk (Nat.not_lt_zero k), fun s hs => ?_⟩, rfl⟩
  · refine ⟨?_, 0, by decide, ?_⟩
    · simp [am_gi, am_u_at, am_g0]
    · simp [am_gi, am_u_at, am_g0]; rfl
  · match s, hs with
    | 0, _ => exact ⟨by decide, 0, by decide, by decide⟩
    | 1, _ => exact ⟨by decide, 1, by decide, by decide⟩
    | 2, _ => exact ⟨by decide, 2, by decide, by decide⟩
    | 3, _ => exact ⟨by decide, 3, by decide, by decide⟩
  · match s, hs, h with
    | 0, _, h => exact absurd h (by decide)
    | 1, _, h => exact absurd h (by decide)
  · match s, hs with
    | 0, _ => decide
    | 1, _ => decide
    | 2, _ => decide
    | 3, _ => decide
set_option maxHeartbeats 4000000 in
theorem law_loop {F : Nat} (hF : 2000 ≤ F) (xs : Nat → Int32) (Ls : Nat) (hL : Ls ≤ 320) : ∀ (d n i : Nat) (g : am_G) (w : am_J), Ls ≤ i + d → i ≤ Ls + 5 → d + 1 < n → iv_I g w → f_L_law_18 F xs Ls n (nI i) g w = some 1 := by
  intro d
  induction d using Nat.strongRecOn with
  | _ d ihd =>
  intro n i g w hi hi5 hn hI
  obtain ⟨n, rfl⟩ : ∃ m, n = m + 1 := ⟨n - 1, by omega⟩
  rw [f_L_law_18.eq_2]
  by_cases hend : Int32.ofNat Ls - 5 < nI i
  · rw [if_pos hend]
  rw [if_neg hend]
  have hlt : i + 5 ≤ Ls := by
    rcases Nat.lt_or_ge Ls (i + 5) with h | h
    · exfalso
      apply hend
      rcases Nat.lt_or_ge Ls 5 with h5 | h5
      · have : Ls = 0 ∨ Ls = 1 ∨ Ls = 2 ∨ Ls = 3 ∨ Ls = 4 := by omega
        have h0 : ∀ z : Int32, z < 0 → z < nI i := fun z hz => by
          rw [Int32.lt_iff_toInt_lt] at hz ⊢
          rw [nI_toInt (by omega)]
          simp at hz
          omega
        rcases this with rfl | rfl | rfl | rfl | rfl <;> exact h0 _ (by decide)
      · have e : Int32.ofNat Ls - 5 = nI (Ls - 5) := pu_sub (a := Ls) (b := 5) h5
        rw [e]
        exact nI_lt (by omega) (by omega)
    · exact h
  have hi0 : am_in (nI i) Ls := (pu_in (by omega)).mpr (by omega)
  have e1 : nI i + 1 = nI (i + 1) := nI_add i 1
  have e2 : nI i + 2 = nI (i + 2) := nI_add i 2
  have e3 : nI i + 3 = nI (i + 3) := nI_add i 3
  have e4 : nI i + 4 = nI (i + 4) := nI_add i 4
  have e5 : nI i + 5 = nI (i + 5) := nI_add i 5
  have hi1 : am_in (nI (i + 1)) Ls := (pu_in (by omega)).mpr (by omega)
  have hi2 : am_in (nI (i + 2)) Ls := (pu_in (by omega)).mpr (by omega)
  have hi3 : am_in (nI (i + 3)) Ls := (pu_in (by omega)).mpr (by omega)
  have hi4 : am_in (nI (i + 4)) Ls := (pu_in (by omega)).mpr (by omega)
  have ih : ∀ g' w', iv_I g' w' → f_L_law_18 F xs Ls n (nI (i + 5)) g' w' = some 1 := fun g' w' h' => ihd (d - 5) (by omega) n (i + 5) g' w' (by omega) (by omega) (by omega) h'
  rw [if_pos hi0]
  simp only [e1, e2, e3, e4]
  generalize hx1 : xs (Int32.toNatClampNeg (nI (i + 1))) = x1
  generalize hx2 : xs (Int32.toNatClampNeg (nI (i + 2))) = x2
  generalize hx3 : xs (Int32.toNatClampNeg (nI (i + 3))) = x3
  generalize hx4 : xs (Int32.toNatClampNeg (nI (i + 4))) = x4
  generalize hx0 : (xs (Int32.toNatClampNeg (nI i))) &&& (31 : Int32) = x0
  by_cases h0 : x0 = (0 : Int32)
  · rw [if_pos h0]
    obtain ⟨r, g1, g2, c1, c2, hI2⟩ := K_write hF hI x1
    simp only [if_pos hi1, e1, hx1, c1, c2, Option.bind_some, f_L_law_1009, if_true, e5]
    exact ih _ _ hI2
  rw [if_neg h0]
  by_cases h1 : x0 = (1 : Int32)
  · rw [if_pos h1]
    obtain ⟨r, g1, g2, c1, c2, hI2⟩ := K_wipe hF hI 
    simp only [c1, c2, Option.bind_some, f_L_law_1009, if_true, e5]
    exact ih _ _ hI2
  rw [if_neg h1]
  by_cases h2 : x0 = (2 : Int32)
  · rw [if_pos h2]
    obtain ⟨r, g2, c1, c2, hI2⟩ := K_fault hF hI 
    simp only [c1, c2, Option.bind_some, f_L_law_1009, if_true, e5]
    exact ih _ _ hI2
  rw [if_neg h2]
  by_cases h3 : x0 = (3 : Int32)
  · rw [if_pos h3]
    obtain ⟨r, g1, g2, c1, c2, hI2⟩ := K_town hF hI 
    simp only [c1, c2, Option.bind_some, f_L_law_1009, if_true, e5]
    exact ih _ _ hI2
  rw [if_neg h3]
  by_cases h4 : x0 = (4 : Int32)
  · rw [if_pos h4]
    obtain ⟨r, c1, c2⟩ := K_window hF hI x1 x2
    simp only [if_pos hi1, if_pos hi2, e1, e2, hx1, hx2, c1, c2, Option.bind_some, f_L_law_1009, if_true, e5]
    exact ih _ _ hI
  rw [if_neg h4]
  by_cases h5 : x0 = (5 : Int32)
  · rw [if_pos h5]
    obtain ⟨r, g1, g2, c1, c2, hI2⟩ := K_move hF hI x1 x2
    simp only [if_pos hi1, if_pos hi2, e1, e2, hx1, hx2, c1, c2, Option.bind_some, f_L_law_1009, if_true, e5]
    exact ih _ _ hI2
  rw [if_neg h5]
  by_cases h6 : x0 = (6 : Int32)
  · rw [if_pos h6]
    obtain ⟨r, g1, g2, c1, c2, hI2⟩ := K_wind hF hI 
    simp only [c1, c2, Option.bind_some, f_L_law_1009, if_true, e5]
    exact ih _ _ hI2
  rw [if_neg h6]
  by_cases h7 : x0 = (7 : Int32)
  · rw [if_pos h7]
    obtain ⟨r, g1, g2, c1, c2, hI2⟩ := K_pass hF hI x1 x2
    simp only [if_pos hi1, if_pos hi2, e1, e2, hx1, hx2, c1, c2, Option.bind_some, f_L_law_1009, if_true, e5]
    exact ih _ _ hI2
  rw [if_neg h7]
  by_cases h8 : x0 = (8 : Int32)
  · rw [if_pos h8]
    obtain ⟨r, g1, g2, c1, c2, hI2⟩ := K_hour hF hI 
    simp only [c1, c2, Option.bind_some, f_L_law_1009, if_true, e5]
    exact ih _ _ hI2
  rw [if_neg h8]
  by_cases h9 : x0 = (9 : Int32)
  · rw [if_pos h9]
    obtain ⟨r, g1, g2, c1, c2, hI2⟩ := K_undo hF hI 
    simp only [c1, c2, Option.bind_some, f_L_law_1009, if_true, e5]
    exact ih _ _ hI2
  rw [if_neg h9]
  by_cases h10 : x0 = (10 : Int32)
  · rw [if_pos h10]
    by_cases hb : x3 = 0
    · simp only [if_pos hi1, if_pos hi2, if_pos hi3, if_pos hb]
      obtain ⟨r, w1, g2, c1, c2, hI2⟩ := K_soonest hF hI x1 x2 0 (by decide)
      simp only [if_pos hi1, if_pos hi2, if_pos hi3, e1, e2, e3, hx1, hx2, hx3, f_L_law_384, f_L_law_411, c1, c2, Option.bind_some, f_L_law_1009, if_true, e5, hb]
      exact ih _ _ hI2
    · simp only [if_pos hi1, if_pos hi2, if_pos hi3, if_neg hb]
      obtain ⟨r, w1, g2, c1, c2, hI2⟩ := K_soonest hF hI x1 x2 1 (by decide)
      simp only [if_pos hi1, if_pos hi2, if_pos hi3, e1, e2, e3, hx1, hx2, hx3, f_L_law_384, f_L_law_411, c1, c2, Option.bind_some, f_L_law_1009, if_true, e5, if_neg hb]
      exact ih _ _ hI2
  rw [if_neg h10]
  by_cases h11 : x0 = (11 : Int32)
  · rw [if_pos h11]
    obtain ⟨r, w1, g2, c1, c2, hI2⟩ := K_knows hF hI x1 x2
    simp only [if_pos hi1, if_pos hi2, e1, e2, hx1, hx2, c1, c2, Option.bind_some, f_L_law_1009, if_true, e5]
    exact ih _ _ hI2
  rw [if_neg h11]
  by_cases h12 : x0 = (12 : Int32)
  · rw [if_pos h12]
    obtain ⟨r, c1, c2⟩ := K_toTell hF hI x1
    simp only [if_pos hi1, e1, hx1, c1, c2, Option.bind_some, f_L_law_1009, if_true, e5]
    exact ih _ _ hI
  rw [if_neg h12]
  by_cases h13 : x0 = (13 : Int32)
  · rw [if_pos h13]
    obtain ⟨r, w1, g2, c1, c2, hI2⟩ := K_cut hF hI x1 x2
    simp only [if_pos hi1, if_pos hi2, e1, e2, hx1, hx2, c1, c2, Option.bind_some, f_L_law_1009, if_true, e5]
    exact ih _ _ hI2
  rw [if_neg h13]
  by_cases h14 : x0 = (14 : Int32)
  · rw [if_pos h14]
    simp only [if_pos hi1, if_pos hi2, if_pos hi3]
    generalize (am_lshl (Int32.toInt64 x2) (32 : Int32) ||| (Int32.toInt64 x3 &&& (4294967295 : Int64))) = jj
    obtain ⟨r, g1, g2, c1, c2, hI2⟩ := K_judge hF hI x1 jj
    simp only [if_pos hi1, if_pos hi2, if_pos hi3, e1, e2, e3, hx1, hx2, hx3, c1, c2, Option.bind_some, f_L_law_1009, if_true, e5]
    exact ih _ _ hI2
  rw [if_neg h14]
  by_cases h15 : x0 = (15 : Int32)
  · rw [if_pos h15]
    by_cases hb : x3 = 0
    · simp only [if_pos hi1, if_pos hi2, if_pos hi3, if_pos hb]
      obtain ⟨r, g1, g2, c1, c2, hI2⟩ := K_follow hF hI x1 x2 0 (by decide)
      simp only [if_pos hi1, if_pos hi2, if_pos hi3, e1, e2, e3, hx1, hx2, hx3, f_L_law_595, f_L_law_622, c1, c2, Option.bind_some, f_L_law_1009, if_true, e5, hb]
      exact ih _ _ hI2
    · simp only [if_pos hi1, if_pos hi2, if_pos hi3, if_neg hb]
      obtain ⟨r, g1, g2, c1, c2, hI2⟩ := K_follow hF hI x1 x2 1 (by decide)
      simp only [if_pos hi1, if_pos hi2, if_pos hi3, e1, e2, e3, hx1, hx2, hx3, f_L_law_595, f_L_law_622, c1, c2, Option.bind_some, f_L_law_1009, if_true, e5, if_neg hb]
      exact ih _ _ hI2
  rw [if_neg h15]
  by_cases h16 : x0 = (16 : Int32)
  · rw [if_pos h16]
    obtain ⟨r, g1, g2, c1, c2, hI2⟩ := K_unfollow hF hI 
    simp only [c1, c2, Option.bind_some, f_L_law_1009, if_true, e5]
    exact ih _ _ hI2
  rw [if_neg h16]
  by_cases h17 : x0 = (17 : Int32)
  · rw [if_pos h17]
    by_cases hb : x1 = 0
    · simp only [if_pos hi1, if_pos hb]
      obtain ⟨r, c1, c2⟩ := K_codes hF hI 0 (by decide)
      simp only [if_pos hi1, e1, hx1, f_L_law_657, f_L_law_674, c1, c2, Option.bind_some, f_L_law_1009, if_true, e5, hb]
      exact ih _ _ hI
    · simp only [if_pos hi1, if_neg hb]
      obtain ⟨r, c1, c2⟩ := K_codes hF hI 1 (by decide)
      simp only [if_pos hi1, e1, hx1, f_L_law_657, f_L_law_674, c1, c2, Option.bind_some, f_L_law_1009, if_true, e5, if_neg hb]
      exact ih _ _ hI
  rw [if_neg h17]
  by_cases h18 : x0 = (18 : Int32)
  · rw [if_pos h18]
    obtain ⟨r, c1, c2⟩ := K_look hF hI 
    simp only [c1, c2, Option.bind_some, f_L_law_1009, if_true, e5]
    exact ih _ _ hI
  rw [if_neg h18]
  by_cases h19 : x0 = (19 : Int32)
  · rw [if_pos h19]
    obtain ⟨r, c1, c2⟩ := K_will hF hI x1 x2 x3
    simp only [if_pos hi1, if_pos hi2, if_pos hi3, e1, e2, e3, hx1, hx2, hx3, c1, c2, Option.bind_some, f_L_law_1009, if_true, e5]
    exact ih _ _ hI
  rw [if_neg h19]
  by_cases h20 : x0 = (20 : Int32)
  · rw [if_pos h20]
    obtain ⟨r, g1, w1, g2, c1, c2, hI2⟩ := K_cross hF hI x1 x2
    simp only [if_pos hi1, if_pos hi2, e1, e2, hx1, hx2, c1, c2, Option.bind_some, f_L_law_1009, if_true, e5]
    exact ih _ _ hI2
  rw [if_neg h20]
  by_cases h21 : x0 = (21 : Int32)
  · rw [if_pos h21]
    obtain ⟨r, c1, c2⟩ := K_rests hF hI x1
    simp only [if_pos hi1, e1, hx1, c1, c2, Option.bind_some, f_L_law_1009, if_true, e5]
    exact ih _ _ hI
  rw [if_neg h21]
  by_cases h22 : x0 = (22 : Int32)
  · rw [if_pos h22]
    by_cases hb : x4 = 0
    · simp only [if_pos hi1, if_pos hi2, if_pos hi3, if_pos hi4, if_pos hb]
      obtain ⟨r, c1, c2⟩ := K_slams hF hI x1 x2 x3 0 (by decide)
      simp only [if_pos hi1, if_pos hi2, if_pos hi3, if_pos hi4, e1, e2, e3, e4, hx1, hx2, hx3, hx4, f_L_law_823, f_L_law_855, c1, c2, Option.bind_some, f_L_law_1009, if_true, e5, hb]
      exact ih _ _ hI
    · simp only [if_pos hi1, if_pos hi2, if_pos hi3, if_pos hi4, if_neg hb]
      obtain ⟨r, c1, c2⟩ := K_slams hF hI x1 x2 x3 1 (by decide)
      simp only [if_pos hi1, if_pos hi2, if_pos hi3, if_pos hi4, e1, e2, e3, e4, hx1, hx2, hx3, hx4, f_L_law_823, f_L_law_855, c1, c2, Option.bind_some, f_L_law_1009, if_true, e5, if_neg hb]
      exact ih _ _ hI
  rw [if_neg h22]
  by_cases h23 : x0 = (23 : Int32)
  · rw [if_pos h23]
    simp only [if_pos hi1, if_pos hi2]
    generalize (am_lshl (Int32.toInt64 x1) (32 : Int32) ||| (Int32.toInt64 x2 &&& (4294967295 : Int64))) = jj
    obtain ⟨r, w1, w2, c1, c2, hI2⟩ := K_seed hF hI jj
    rw [c1, Option.bind_some]
    show (f_X8_seed w1 jj).bind _ = some 1
    rw [c2, Option.bind_some]
    show (if lg_cmp r r = 0 then f_L_law_1009 F xs Ls _ (nI i) g w2 else some 0) = some 1
    rw [if_pos (lg_cmp_zero r)]
    show f_L_law_18 F xs Ls n (nI i + 5) g w2 = some 1
    rw [e5]
    exact ih _ _ hI2
  rw [if_neg h23]
  by_cases h24 : x0 = (24 : Int32)
  · rw [if_pos h24]
    obtain ⟨r, g1, w1, g2, w2, c1, c2, hI2⟩ := K_afternoons hF hI x1
    simp only [if_pos hi1, e1, hx1, c1, c2, Option.bind_some, f_L_law_1009, if_true, e5]
    exact ih _ _ hI2
  rw [if_neg h24]
  by_cases h25 : x0 = (25 : Int32)
  · rw [if_pos h25]
    obtain ⟨r, g1, g2, c1, c2, hI2⟩ := K_keep hF hI x1
    simp only [if_pos hi1, e1, hx1, c1, c2, Option.bind_some, f_L_law_1009, if_true, e5]
    exact ih _ _ hI2
  rw [if_neg h25]
  by_cases h26 : x0 = (26 : Int32)
  · rw [if_pos h26]
    obtain ⟨r, g1, g2, c1, c2, hI2⟩ := K_again hF hI x1
    simp only [if_pos hi1, e1, hx1, c1, c2, Option.bind_some, f_L_law_1009, if_true, e5]
    exact ih _ _ hI2
  rw [if_neg h26]
  by_cases h27 : x0 = (27 : Int32)
  · rw [if_pos h27]
    obtain ⟨r, c1, c2⟩ := K_count hF hI x1
    simp only [if_pos hi1, e1, hx1, c1, c2, Option.bind_some, f_L_law_1009, if_true, e5]
    exact ih _ _ hI
  rw [if_neg h27]
  simp only [f_L_law_1009, e5]
  exact ih _ _ hI
theorem law_pure (xs : Nat → Int32) (Ls : Nat) (hL : Ls ≤ 320) : ∃ F, f_L_law_18 F xs Ls F 0 am_gi am_w0 = some 1 :=
  ⟨2000, law_loop (F := 2000) (by decide) xs Ls hL Ls 2000 0 am_gi am_w0 (by omega) (by omega) (by omega) law_start⟩
