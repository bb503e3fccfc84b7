/-! WIND -/
def wd_b (g : am_G) (D N : Nat) : am_G := fun a b => if a = D ∧ b < N ∧ g 8 b = 2 then g a b ^^^ 1 else g a b
def wd_w (g : am_G) (off N : Nat) : am_G := fun a b => if a = 32 ∧ off ≤ b ∧ b < off + N ∧ g 31 (b - off) = 2 then g a b ^^^ 1 else g a b
theorem wd_ofKind {F : Nat} (hF : 7 ≤ F) {g : am_G} {N : Nat} (hW : iv_W g N) (c : Int32) : f_X2_ofKind F g c = some (nI (iv_bits (fun k => decide (g 8 k = c)) N)) := by
  have hN := hW.1
  have h37 := hW.2.1
  unfold f_X2_ofKind
  refine bi_loop (fun n a b => f_X2_ofKind_4 F g c n a b) some (fun k => decide (g 8 k = c)) N hN (fun n i s hi => ?_) (fun n s => ?_) F hF
  · show f_X2_ofKind_4 F g c (n + 1) s (nI i) = _
    rw [f_X2_ofKind_4.eq_2, h37, if_neg (by rw [pu_le (by omega) (by omega)]; omega), pb_kind hW hi]
    simp only [Option.bind_some, f_X2_ofKind_29]
    rw [show nI i + (1 : Int32) = nI (i + 1) from nI_add i 1]
    by_cases h : g 8 i = c
    · simp [h]
    · simp [h]
  · show f_X2_ofKind_4 F g c (n + 1) s (nI N) = _
    rw [f_X2_ofKind_4.eq_2, h37, if_pos (Int32.le_refl _)]
theorem wd_xor {x : Int32} (h : iv_b x 4) : iv_b (x ^^^ 1) 4 := by
  obtain ⟨v, hv, rfl⟩ := h
  have : ∀ v, v < 4 → nI v ^^^ 1 = nI (v ^^^ 1) ∧ v ^^^ 1 < 4 := by decide
  exact ⟨v ^^^ 1, (this v hv).2, (this v hv).1⟩
theorem wd_b0 (g : am_G) (D : Nat) : wd_b g D 0 = g := by
  funext a b
  simp [wd_b]
theorem wd_bS (g : am_G) (D i : Nat) (hD : D ≠ 8) (x : Int32) (hx : x = if g 8 i = 2 then 1 else 0) : am_u (wd_b g D i) D i (g D i ^^^ x) = wd_b g D (i + 1) := by
  funext a b
  rw [am_u_at]
  simp only [wd_b]
  by_cases h : a = D ∧ b = i
  · obtain ⟨rfl, rfl⟩ := h
    rw [if_pos ⟨rfl, rfl⟩]
    by_cases h2 : g 8 b = 2
    · rw [if_pos ⟨rfl, by omega, h2⟩, hx, if_pos h2]
    · rw [if_neg (fun q => h2 q.2.2), hx, if_neg h2]
      simp
  · rw [if_neg h]
    by_cases h2 : a = D ∧ b < i ∧ g 8 b = 2
    · rw [if_pos h2, if_pos ⟨h2.1, by omega, h2.2.2⟩]
    · rw [if_neg h2, if_neg]
      rintro ⟨q1, q2, q3⟩
      exact h2 ⟨q1, by have : b ≠ i := fun e => h ⟨q1, e⟩; omega, q3⟩
theorem wd_w0 (g : am_G) (off : Nat) : wd_w g off 0 = g := by
  funext a b
  simp only [wd_w]
  rw [if_neg (by omega)]
theorem wd_wS (g : am_G) (off i : Nat) : (if g 31 i = 2 then am_u (wd_w g off i) 32 (off + i) (g 32 (off + i) ^^^ 1) else wd_w g off i) = wd_w g off (i + 1) := by
  funext a b
  by_cases hk : g 31 i = 2
  · rw [if_pos hk, am_u_at]
    simp only [wd_w]
    by_cases h : a = 32 ∧ b = off + i
    · obtain ⟨rfl, rfl⟩ := h
      rw [if_pos ⟨rfl, rfl⟩, if_pos ⟨rfl, by omega, by omega, by rw [show off + i - off = i by omega]; exact hk⟩]
    · rw [if_neg h]
      by_cases h2 : a = 32 ∧ off ≤ b ∧ b < off + i ∧ g 31 (b - off) = 2
      · rw [if_pos h2, if_pos ⟨h2.1, h2.2.1, by omega, h2.2.2.2⟩]
      · rw [if_neg h2, if_neg]
        rintro ⟨q1, q2, q3, q4⟩
        exact h2 ⟨q1, q2, by have : b ≠ off + i := fun e => h ⟨q1, e⟩; omega, q4⟩
  · rw [if_neg hk]
    simp only [wd_w]
    by_cases h2 : a = 32 ∧ off ≤ b ∧ b < off + i ∧ g 31 (b - off) = 2
    · rw [if_pos h2, if_pos ⟨h2.1, h2.2.1, by omega, h2.2.2.2⟩]
    · rw [if_neg h2, if_neg]
      rintro ⟨q1, q2, q3, q4⟩
      refine h2 ⟨q1, q2, ?_, q4⟩
      have : b ≠ off + i := fun e => hk (by rw [e, show off + i - off = i by omega] at q4; exact q4)
      omega
theorem wd_windOn {F : Nat} (hF : 7 ≤ F) {g : am_G} {N : Nat} (hW : iv_W g N) (lv : Nat) (hlv : lv < 2) : f_X8_windOn F g (nI lv) = some (nI (iv_bits (fun k => decide (g 31 k = 2)) N), wd_w g (13 * lv) N) := by
  have hN := hW.1
  have h260 := hW.2.2.1
  unfold f_X8_windOn
  have key := pu_loop (fun n i (s : Int32 × am_G) => f_X8_windOn_4 F (nI lv) n s.1 (nI i) s.2) (fun s => some (s.1, s.2)) (fun i s => (nI (iv_bits (fun k => decide (g 31 k = 2)) (i + 1)), wd_w g (13 * lv) (i + 1))) N (fun i s => s = (nI (iv_bits (fun k => decide (g 31 k = 2)) i), wd_w g (13 * lv) i)) (fun n i s hi hs => ?_) (fun n s hs => ?_) N 0 (0, g) F (by omega) (by omega) (by rw [wd_w0]; rfl)
  · obtain ⟨e1, e2⟩ := key
    have e3 : f_X8_windOn_4 F (nI lv) F 0 0 g = f_X8_windOn_4 F (nI lv) F (0, g).1 (nI 0) (0, g).2 := rfl
    rw [e3]
    refine e1.trans ?_
    rw [e2]
  · subst hs
    refine ⟨?_, rfl⟩
    have e0 : ∀ j, wd_w g (13 * lv) j 26 0 = nI N := fun j => by simp only [wd_w]; rw [if_neg (by omega), h260]
    have e31 : ∀ j, wd_w g (13 * lv) j 31 i = g 31 i := fun j => by simp only [wd_w]; rw [if_neg (by omega)]
    have e32 : wd_w g (13 * lv) i 32 (13 * lv + i) = g 32 (13 * lv + i) := by simp only [wd_w]; rw [if_neg (by omega)]
    have em : (13 : Int32) * nI lv + nI i = nI (13 * lv + i) := by rw [show (13 : Int32) * nI lv = nI (13 * lv) from pu_mul 13 lv, nI_add]
    have hstep := bi_step (p := fun k => decide (g 31 k = 2)) (i := i) (by omega)
    have hws := wd_wS g (13 * lv) i
    show f_X8_windOn_4 F (nI lv) (n + 1) _ (nI i) _ = f_X8_windOn_4 F (nI lv) n _ (nI (i + 1)) _
    rw [f_X8_windOn_4.eq_2]
    simp only [e0, e31, e32, em, pu_tn (show i < 2147483648 by omega), pu_tn (show 13 * lv + i < 2147483648 by omega), f_X8_windOn_43]
    rw [if_neg (by rw [pu_le (by omega) (by omega)]; omega), if_pos (pb_i6 (by omega)), show nI i + (1 : Int32) = nI (i + 1) from nI_add i 1]
    by_cases h : g 31 i = 2
    · rw [if_pos h, if_pos ((pu_in (by omega)).mpr (by omega)), if_pos ((pu_in (by omega)).mpr (by omega))]
      rw [if_pos h] at hws
      simp only [h, decide_true, if_true] at hstep
      rw [hstep, hws]
    · rw [if_neg h]
      rw [if_neg h] at hws
      simp only [h, decide_false] at hstep
      have : nI (iv_bits (fun k => decide (g 31 k = 2)) i) = nI (iv_bits (fun k => decide (g 31 k = 2)) (i + 1)) := by
        rw [← hstep]; simp
      rw [this, hws]
  · subst hs
    show f_X8_windOn_4 F (nI lv) (n + 1) _ (nI N) _ = _
    have e0 : wd_w g (13 * lv) N 26 0 = nI N := by simp only [wd_w]; rw [if_neg (by omega), h260]
    rw [f_X8_windOn_4.eq_2]
    simp only [e0]
    rw [if_pos (Int32.le_refl _)]
theorem wd_blow_10 {F : Nat} (hF : 7 ≤ F) {g : am_G} {N : Nat} (hW : iv_W g N) : f_X4_blow_10 F g = some (nI (iv_bits (fun k => decide (g 8 k = 2)) N), wd_b g 11 N) := by
  have hN := hW.1
  have h37 := hW.2.1
  unfold f_X4_blow_10
  rw [wd_ofKind hF hW]
  simp only [Option.bind_some]
  obtain ⟨B, hB⟩ : ∃ B, B = iv_bits (fun k => decide (g 8 k = 2)) N := ⟨_, rfl⟩
  rw [← hB]
  have key := pu_loop (fun n i (s : am_G) => f_X4_blow_10_11 F n (nI B) (nI i) s) (fun s => some (nI B, s)) (fun i s => wd_b g 11 (i + 1)) N (fun i s => s = wd_b g 11 i) (fun n i s hi hs => ?_) (fun n s hs => ?_) N 0 g F (by omega) (by omega) (by rw [wd_b0])
  · obtain ⟨e1, e2⟩ := key
    have e3 : f_X4_blow_10_11 F F (nI B) 0 g = f_X4_blow_10_11 F F (nI B) (nI 0) g := rfl
    rw [e3]
    refine e1.trans ?_
    rw [e2]
  · subst hs
    refine ⟨?_, rfl⟩
    have e0 : ∀ j, wd_b g 11 j 3 7 = nI N := fun j => by simp only [wd_b]; rw [if_neg (by omega), h37]
    have e11 : wd_b g 11 i 11 i = g 11 i := by simp only [wd_b]; rw [if_neg (by omega)]
    have hbit : (((nI B >>> (nI i &&& 31)) &&& 1) = 1) ↔ g 8 i = 2 := by
      rw [bi_shr (by rw [hB]; exact bi_lt64 _ hN) (by omega), hB, bi_test]
      simp [hi]
    show f_X4_blow_10_11 F (n + 1) (nI B) (nI i) _ = f_X4_blow_10_11 F n (nI B) (nI (i + 1)) _
    rw [f_X4_blow_10_11.eq_2]
    simp only [f_X2_windows, Option.bind_some, e0, f_X4_blow_10_43, pu_tn (show i < 2147483648 by omega), e11]
    rw [if_neg (by rw [pu_le (by omega) (by omega)]; omega), if_pos (pb_i6 (by omega)), if_pos (pb_i6 (by omega)), if_pos (pb_i6 (by omega)), show nI i + (1 : Int32) = nI (i + 1) from nI_add i 1]
    by_cases h : g 8 i = 2
    · rw [if_pos (hbit.mpr h), wd_bS g 11 i (by decide) 1 (by rw [if_pos h])]
    · rw [if_neg (fun q => h (hbit.mp q)), wd_bS g 11 i (by decide) 0 (by rw [if_neg h])]
  · subst hs
    show f_X4_blow_10_11 F (n + 1) (nI B) (nI N) _ = _
    have e0 : wd_b g 11 N 3 7 = nI N := by simp only [wd_b]; rw [if_neg (by omega), h37]
    rw [f_X4_blow_10_11.eq_2]
    simp only [f_X2_windows, Option.bind_some, e0]
    rw [if_pos (Int32.le_refl _)]
theorem wd_blow_13 {F : Nat} (hF : 7 ≤ F) {g : am_G} {N : Nat} (hW : iv_W g N) : f_X4_blow_13 F g = some (nI (iv_bits (fun k => decide (g 8 k = 2)) N), wd_b g 14 N) := by
  have hN := hW.1
  have h37 := hW.2.1
  unfold f_X4_blow_13
  rw [wd_ofKind hF hW]
  simp only [Option.bind_some]
  obtain ⟨B, hB⟩ : ∃ B, B = iv_bits (fun k => decide (g 8 k = 2)) N := ⟨_, rfl⟩
  rw [← hB]
  have key := pu_loop (fun n i (s : am_G) => f_X4_blow_13_11 F n (nI B) (nI i) s) (fun s => some (nI B, s)) (fun i s => wd_b g 14 (i + 1)) N (fun i s => s = wd_b g 14 i) (fun n i s hi hs => ?_) (fun n s hs => ?_) N 0 g F (by omega) (by omega) (by rw [wd_b0])
  · obtain ⟨e1, e2⟩ := key
    have e3 : f_X4_blow_13_11 F F (nI B) 0 g = f_X4_blow_13_11 F F (nI B) (nI 0) g := rfl
    rw [e3]
    refine e1.trans ?_
    rw [e2]
  · subst hs
    refine ⟨?_, rfl⟩
    have e0 : ∀ j, wd_b g 14 j 3 7 = nI N := fun j => by simp only [wd_b]; rw [if_neg (by omega), h37]
    have e11 : wd_b g 14 i 14 i = g 14 i := by simp only [wd_b]; rw [if_neg (by omega)]
    have hbit : (((nI B >>> (nI i &&& 31)) &&& 1) = 1) ↔ g 8 i = 2 := by
      rw [bi_shr (by rw [hB]; exact bi_lt64 _ hN) (by omega), hB, bi_test]
      simp [hi]
    show f_X4_blow_13_11 F (n + 1) (nI B) (nI i) _ = f_X4_blow_13_11 F n (nI B) (nI (i + 1)) _
    rw [f_X4_blow_13_11.eq_2]
    simp only [f_X2_windows, Option.bind_some, e0, f_X4_blow_13_43, pu_tn (show i < 2147483648 by omega), e11]
    rw [if_neg (by rw [pu_le (by omega) (by omega)]; omega), if_pos (pb_i6 (by omega)), if_pos (pb_i6 (by omega)), if_pos (pb_i6 (by omega)), show nI i + (1 : Int32) = nI (i + 1) from nI_add i 1]
    by_cases h : g 8 i = 2
    · rw [if_pos (hbit.mpr h), wd_bS g 14 i (by decide) 1 (by rw [if_pos h])]
    · rw [if_neg (fun q => h (hbit.mp q)), wd_bS g 14 i (by decide) 0 (by rw [if_neg h])]
  · subst hs
    show f_X4_blow_13_11 F (n + 1) (nI B) (nI N) _ = _
    have e0 : wd_b g 14 N 3 7 = nI N := by simp only [wd_b]; rw [if_neg (by omega), h37]
    rw [f_X4_blow_13_11.eq_2]
    simp only [f_X2_windows, Option.bind_some, e0]
    rw [if_pos (Int32.le_refl _)]
set_option maxHeartbeats 1000000 in
theorem K_wind {F : Nat} (hF : 2000 ≤ F) {g : am_G} {w : am_J} (hI : iv_I g w) : ∃ (r : Int32) (g1 : am_G) (g2 : am_G), f_X7_wind F g = some (r, g1) ∧ f_X8_wind F g1 = some (r, g2) ∧ iv_I g2 w := by
  obtain ⟨len, N, A, nx, fl, hX, hW, hS, hA, hSl, hFo, hw⟩ := hI
  have hN := hW.1
  have hrem := ac_remember hA.1 hA.2.2.1
  have hWr : iv_W (ac_rem g A) N := iv_W.of_eq (iv_rest.of fun a b hab => ac_rem_out (by omega) (by omega)) hW
  obtain ⟨g1, hg1⟩ : ∃ g1, g1 = wd_b (ac_rem g A) 11 N := ⟨_, rfl⟩
  have ev : ∀ a b, (a ≠ 17 ∧ (a ≠ 16 ∨ b ≠ 1) ∧ a ≠ 11) → g1 a b = g a b := fun a b hab => by
    rw [hg1]; simp only [wd_b]; rw [if_neg (by omega), ac_rem_out (by omega) (by omega)]
  have hW1 : iv_W g1 N := iv_W.of_eq (iv_rest.of fun a b hab => ev a b (by omega)) hW
  have hkp : f_X8_keepAct F g1 = some (ac_kp g1 A nx) := ac_keep (F := F) (by omega) hA.1 hA.2.1 (by rw [ev 26 17 (by omega)]; exact hA.2.2.2.1) (by rw [ev 26 18 (by omega)]; exact hA.2.2.2.2.1)
  have ew : ∀ a b, (a ≠ 17 ∧ (a ≠ 16 ∨ b ≠ 1) ∧ a ≠ 11 ∧ a ≠ 36 ∧ (a ≠ 26 ∨ (b ≠ 17 ∧ b ≠ 18))) → ac_kp g1 A nx a b = g a b := fun a b hab => by rw [ac_kp_out (by omega) (by omega), ev a b (by omega)]
  have hWk : iv_W (ac_kp g1 A nx) N := iv_W.of_eq (iv_rest.of fun a b hab => ew a b (by omega)) hW
  obtain ⟨h2, hh2⟩ : ∃ h2, h2 = wd_w (ac_kp g1 A nx) 0 N := ⟨_, rfl⟩
  have e2 : ∀ a b, (a ≠ 17 ∧ (a ≠ 16 ∨ b ≠ 1) ∧ a ≠ 11 ∧ a ≠ 36 ∧ a ≠ 32 ∧ (a ≠ 26 ∨ (b ≠ 17 ∧ b ≠ 18))) → h2 a b = g a b := fun a b hab => by
    rw [hh2]; simp only [wd_w]; rw [if_neg (by omega), ew a b (by omega)]
  have o2 : ∀ a b, a ≠ 32 → h2 a b = ac_kp g1 A nx a b := fun a b hab => by
    rw [hh2]; simp only [wd_w]; rw [if_neg (by omega)]
  have hkk : ∀ k, k < N → g 8 k = g 31 k := fun k hk => (hW.2.2.2.2.2.2 k hk).2.2.2.1.1
  have e11 : ∀ j, j < N → h2 11 j = if g 31 j = 2 then g 11 j ^^^ 1 else g 11 j := fun j hj => by
    rw [o2 11 j (by omega), ac_kp_out (by omega) (by omega), hg1]
    simp only [wd_b]
    rw [ac_rem_out (by omega) (by omega), ac_rem_out (by omega) (by omega), hkk j hj]
    by_cases h : g 31 j = 2
    · rw [if_pos ⟨trivial, hj, h⟩, if_pos h]
    · rw [if_neg (fun q => h q.2.2), if_neg h]
  have e32 : ∀ j, h2 32 j = if j < N ∧ g 31 j = 2 then g 32 j ^^^ 1 else g 32 j := fun j => by
    rw [hh2]
    simp only [wd_w]
    rw [ew 32 j (by omega), Nat.sub_zero, ew 31 j (by omega)]
    by_cases h : j < N ∧ g 31 j = 2
    · rw [if_pos ⟨trivial, by omega, by omega, h.2⟩, if_pos h]
    · rw [if_neg (fun q => h ⟨by omega, q.2.2.2⟩), if_neg h]
  refine ⟨nI (iv_bits (fun k => decide (g 31 k = 2)) N), g1, h2, ?_, ?_, ?_⟩
  · simp only [f_X7_wind, hrem, Option.bind_some, wd_blow_10 (show 7 ≤ F by omega) hWr, ← hg1]
    congr 3
    apply bi_cong
    intro k hk
    rw [ac_rem_out (by omega) (by omega), hkk k hk]
  · have := wd_windOn (show 7 ≤ F by omega) hWk 0 (by decide)
    have e0 : nI 0 = 0 := rfl
    rw [e0, Nat.mul_zero, ← hh2] at this
    simp only [f_X8_wind, hkp, Option.bind_some, this]
    congr 3
    apply bi_cong
    intro k hk
    rw [ew 31 k (by omega)]
  · refine ac_done hX hW hS hA hSl hFo hw (iv_rest.of fun a b hab => e2 a b (by omega)) ?_ ?_ ?_ ?_ ?_ ?_ ?_
    · funext b
      rw [o2 17 b (by omega), ac_kp_out (by omega) (by omega), hg1]
      simp only [wd_b]
      rw [if_neg (by omega)]
    · rw [o2 16 1 (by omega), ac_kp_out (by omega) (by omega), hg1]
      simp only [wd_b]
      rw [if_neg (by omega)]
    · funext b
      rw [o2 36 b (by omega), ac_kp_36, ac_36 (funext fun z => ev 32 z (by omega)) (funext fun z => ev 36 z (by omega))]
    · rw [o2 26 17 (by omega), ac_kp_17]
    · rw [o2 26 18 (by omega), ac_kp_18]
    · refine iv_nowI hN (fun j hj => ?_) ?_
      · obtain ⟨c1, c2⟩ := iv_now hN hj hS.1
        rw [e11 j hj, e32, e32, if_neg (show ¬ (6 + j < N ∧ g 31 (6 + j) = 2) by omega), e2 12 j (by omega), c1, c2]
        refine ⟨?_, rfl⟩
        by_cases h : g 31 j = 2
        · rw [if_pos h, if_pos ⟨hj, h⟩]
        · rw [if_neg h, if_neg (fun q => h q.2)]
      · rw [e32, if_neg (by omega), e2 10 3 (by omega)]
        exact iv_now12 hS.1
    · intro j hj
      rw [e32, e32, if_neg (show ¬ (6 + j < N ∧ g 31 (6 + j) = 2) by omega)]
      refine ⟨?_, (hS.2 j hj).2⟩
      split
      · exact wd_xor (hS.2 j hj).1
      · exact (hS.2 j hj).1
