/-! AN HOUR -/
def hr_p (g : am_G) (D E : Nat) (k : Nat) : Bool := decide (¬ g E k = -9 ∧ ¬ g 27 (g D k).toNatClampNeg = g E k)
def hr_c (g : am_G) (D E i : Nat) : am_G := fun a b => if a = D ∧ b < i ∧ ¬ g E b = -9 then nI (ls_s (g 27) (g E b)) else if a = E ∧ b < i then -9 else g a b
theorem hr_c0 (g : am_G) (D E : Nat) : hr_c g D E 0 = g := by
  funext a b
  simp only [hr_c]
  rw [if_neg (by omega), if_neg (by omega)]
theorem hr_cS (g : am_G) (D E i : Nat) (hDE : D ≠ E) (h : ¬ g E i = -9) : am_u (am_u (hr_c g D E i) D i (nI (ls_s (g 27) (g E i)))) E i (-9) = hr_c g D E (i + 1) := by
  funext a b
  rw [am_u_at, am_u_at]
  simp only [hr_c]
  by_cases h1 : a = E ∧ b = i
  · rw [if_pos h1, if_neg (by omega), if_pos (by omega)]
  · rw [if_neg h1]
    by_cases h2 : a = D ∧ b = i
    · obtain ⟨rfl, rfl⟩ := h2
      rw [if_pos ⟨rfl, rfl⟩, if_pos ⟨rfl, by omega, h⟩]
    · rw [if_neg h2]
      by_cases h3 : a = D ∧ b < i ∧ ¬ g E b = -9
      · rw [if_pos h3, if_pos ⟨h3.1, by omega, h3.2.2⟩]
      · rw [if_neg h3, if_neg (show ¬ (a = D ∧ b < i + 1 ∧ ¬ g E b = -9) from fun z => h3 ⟨z.1, by have : b ≠ i := fun e => h2 ⟨z.1, e⟩; omega, z.2.2⟩)]
        by_cases h4 : a = E ∧ b < i
        · rw [if_pos h4, if_pos (by omega)]
        · rw [if_neg h4, if_neg (show ¬ (a = E ∧ b < i + 1) from fun z => h4 ⟨z.1, by have : b ≠ i := fun e => h1 ⟨z.1, e⟩; omega⟩)]
theorem hr_cN (g : am_G) (D E i : Nat) (h : g E i = -9) : hr_c g D E i = hr_c g D E (i + 1) := by
  funext a b
  simp only [hr_c]
  by_cases h3 : a = D ∧ b < i ∧ ¬ g E b = -9
  · rw [if_pos h3, if_pos ⟨h3.1, by omega, h3.2.2⟩]
  · rw [if_neg h3, if_neg (show ¬ (a = D ∧ b < i + 1 ∧ ¬ g E b = -9) from fun z => h3 ⟨z.1, by have : b ≠ i := fun e => z.2.2 (by rw [e]; exact h); omega, z.2.2⟩)]
    by_cases h4 : a = E ∧ b < i
    · rw [if_pos h4, if_pos (by omega)]
    · rw [if_neg h4]
      by_cases h5 : a = E ∧ b = i
      · rw [if_pos (by omega), h5.1, h5.2, h]
      · rw [if_neg (by omega)]
def hr_r (g : am_G) (off i : Nat) : am_G := fun a b => if a = 32 ∧ off ≤ b ∧ b < off + i ∧ ¬ g 32 (b + 6) = -9 then nI (ls_s (g 27) (g 32 (b + 6))) else if a = 32 ∧ off + 6 ≤ b ∧ b < off + 6 + i then -9 else g a b
theorem hr_r0 (g : am_G) (off : Nat) : hr_r g off 0 = g := by
  funext a b
  simp only [hr_r]
  rw [if_neg (by omega), if_neg (by omega)]
theorem hr_rS (g : am_G) (off i : Nat) (hi : i < 6) (h : ¬ g 32 (off + 6 + i) = -9) : am_u (am_u (hr_r g off i) 32 (off + i) (nI (ls_s (g 27) (g 32 (off + 6 + i))))) 32 (off + 6 + i) (-9) = hr_r g off (i + 1) := by
  funext a b
  rw [am_u_at, am_u_at]
  simp only [hr_r]
  by_cases h1 : a = 32 ∧ b = off + 6 + i
  · rw [if_pos h1, if_neg (by omega), if_pos (by omega)]
  · rw [if_neg h1]
    by_cases h2 : a = 32 ∧ b = off + i
    · obtain ⟨rfl, rfl⟩ := h2
      have e : off + i + 6 = off + 6 + i := by omega
      rw [if_pos ⟨rfl, rfl⟩, e, if_pos ⟨rfl, by omega, by omega, h⟩]
    · rw [if_neg h2]
      by_cases h3 : a = 32 ∧ off ≤ b ∧ b < off + i ∧ ¬ g 32 (b + 6) = -9
      · rw [if_pos h3, if_pos ⟨h3.1, h3.2.1, by omega, h3.2.2.2⟩]
      · rw [if_neg h3, if_neg (show ¬ (a = 32 ∧ off ≤ b ∧ b < off + (i + 1) ∧ ¬ g 32 (b + 6) = -9) from fun z => h3 ⟨z.1, z.2.1, by have : b ≠ off + i := fun e => h2 ⟨z.1, e⟩; omega, z.2.2.2⟩)]
        by_cases h4 : a = 32 ∧ off + 6 ≤ b ∧ b < off + 6 + i
        · rw [if_pos h4, if_pos (by omega)]
        · rw [if_neg h4, if_neg (show ¬ (a = 32 ∧ off + 6 ≤ b ∧ b < off + 6 + (i + 1)) from fun z => h4 ⟨z.1, z.2.1, by have : b ≠ off + 6 + i := fun e => h1 ⟨z.1, e⟩; omega⟩)]
theorem hr_rN (g : am_G) (off i : Nat) (h : g 32 (off + 6 + i) = -9) : hr_r g off i = hr_r g off (i + 1) := by
  funext a b
  simp only [hr_r]
  by_cases h3 : a = 32 ∧ off ≤ b ∧ b < off + i ∧ ¬ g 32 (b + 6) = -9
  · rw [if_pos h3, if_pos ⟨h3.1, h3.2.1, by omega, h3.2.2.2⟩]
  · rw [if_neg h3, if_neg (show ¬ (a = 32 ∧ off ≤ b ∧ b < off + (i + 1) ∧ ¬ g 32 (b + 6) = -9) from fun z => h3 ⟨z.1, z.2.1, by have : b ≠ off + i := fun e => z.2.2.2 (by rw [e, show off + i + 6 = off + 6 + i by omega]; exact h); omega, z.2.2.2⟩)]
    by_cases h4 : a = 32 ∧ off + 6 ≤ b ∧ b < off + 6 + i
    · rw [if_pos h4, if_pos (by omega)]
    · rw [if_neg h4]
      by_cases h5 : a = 32 ∧ b = off + 6 + i
      · rw [if_pos (by omega), h5.1, h5.2, h]
      · rw [if_neg (by omega)]
theorem hr_r_st (g : am_G) {off i j : Nat} (hj : j < i) (hi : i ≤ 6) : hr_r g off i 32 (off + j) = if g 32 (off + 6 + j) = -9 then g 32 (off + j) else nI (ls_s (g 27) (g 32 (off + 6 + j))) := by
  simp only [hr_r, show off + j + 6 = off + 6 + j by omega]
  by_cases h : g 32 (off + 6 + j) = -9
  · rw [if_pos h, if_neg (by intro z; exact z.2.2.2 h), if_neg (by omega)]
  · rw [if_neg h, if_pos ⟨trivial, by omega, by omega, h⟩]
theorem hr_r_du (g : am_G) {off i j : Nat} (hj : j < i) (hi : i ≤ 6) : hr_r g off i 32 (off + 6 + j) = -9 := by
  simp only [hr_r]
  rw [if_neg (by omega), if_pos ⟨trivial, by omega, by omega⟩]
theorem hr_c_st (g : am_G) {D E i j : Nat} (hDE : D ≠ E) (hj : j < i) : hr_c g D E i D j = if g E j = -9 then g D j else nI (ls_s (g 27) (g E j)) := by
  simp only [hr_c]
  by_cases h : g E j = -9
  · rw [if_pos h, if_neg (by intro z; exact z.2.2 h), if_neg (by omega)]
  · rw [if_neg h, if_pos ⟨trivial, by omega, h⟩]
theorem hr_c_du (g : am_G) {D E i j : Nat} (hDE : D ≠ E) (hj : j < i) : hr_c g D E i E j = -9 := by
  simp only [hr_c]
  rw [if_neg (by omega), if_pos ⟨trivial, by omega⟩]
def hr_q (g : am_G) (off : Nat) (k : Nat) : Bool := decide (¬ g 32 (off + 6 + k) = -9 ∧ ¬ g 27 (g 32 (off + k)).toNatClampNeg = g 32 (off + 6 + k))
theorem pb_word8n {g : am_G} {k lv : Nat} (hl : lv < 2) (h : k < 6) (hs : iv_b (g 32 (13 * lv + k)) 4) : f_X8_wordOf g (nI lv) (nI k) = some (g 27 (g 32 (13 * lv + k)).toNatClampNeg) := by
  have e2 : (13 : Int32) * nI lv + nI k = nI (13 * lv + k) := by
    rw [show (13 : Int32) * nI lv = nI (13 * lv) from pu_mul 13 lv, nI_add]
  obtain ⟨v, hv, e⟩ := hs
  simp only [f_X8_wordOf, e2, pu_tn (show 13 * lv + k < 2147483648 by omega), e]
  rw [if_pos ((pu_in (by omega)).mpr (by omega)), if_pos ((pu_in (by omega)).mpr (by omega))]
theorem hr_strike_10 {F : Nat} (hF : 7 ≤ F) {g : am_G} {N : Nat} (hW : iv_W g N) (hst : ∀ k, k < N → iv_b (g 11 k) 4) (hdu : ∀ k, k < N → g 12 k = -9 ∨ ∃ s, s < 4 ∧ g 12 k = g 27 s) : f_X4_strike_10 F g = some (nI (iv_bits (hr_p g 11 12) N), am_u (hr_c g 11 12 N) 10 3 (g 10 3 + 1)) := by
  have hN := hW.1
  unfold f_X4_strike_10
  have key := pu_loop (fun n i (s : Int32 × am_G) => f_X4_strike_10_4 F (fun l1 g => f_X4_strike_10_82 F (l1) (g)) n s.1 (nI i) s.2) (fun s => f_X4_strike_10_82 F s.1 s.2) (fun i s => (nI (iv_bits (hr_p g 11 12) (i + 1)), hr_c g 11 12 (i + 1))) N (fun i s => s = (nI (iv_bits (hr_p g 11 12) i), hr_c g 11 12 i)) (fun n i s hi hs => ?_) (fun n s hs => ?_) N 0 (0, g) F (by omega) (by omega) (by rw [hr_c0]; rfl)
  · obtain ⟨e1, e2⟩ := key
    have e3 : f_X4_strike_10_4 F (fun l1 g => f_X4_strike_10_82 F (l1) (g)) F 0 0 g = f_X4_strike_10_4 F (fun l1 g => f_X4_strike_10_82 F (l1) (g)) F (0, g).1 (nI 0) (0, g).2 := rfl
    rw [e3]
    refine e1.trans ?_
    rw [e2]
    have e4 : hr_c g 11 12 N 10 3 = g 10 3 := by simp only [hr_c]; rw [if_neg (by omega), if_neg (by omega)]
    simp only [f_X4_strike_10_82, e4]
  · subst hs
    refine ⟨?_, rfl⟩
    have eo : ∀ a b, (a ≠ 11 ∧ a ≠ 12) → hr_c g 11 12 i a b = g a b := fun a b hab => by simp only [hr_c]; rw [if_neg (by omega), if_neg (by omega)]
    have hWi : iv_W (hr_c g 11 12 i) N := hW.of2 fun a b hab => eo a b (by omega)
    have eD : hr_c g 11 12 i 11 i = g 11 i := by simp only [hr_c]; rw [if_neg (by omega), if_neg (by omega)]
    have eE : hr_c g 11 12 i 12 i = g 12 i := by simp only [hr_c]; rw [if_neg (by omega), if_neg (by omega)]
    have e37 : hr_c g 11 12 i 3 7 = nI N := by rw [eo 3 7 (by omega)]; exact hW.2.1
    have e27 : hr_c g 11 12 i 27 = g 27 := funext fun b => eo 27 b (by omega)
    have hstep := bi_step (p := hr_p g 11 12) (i := i) (by omega)
    have ti := pu_tn (show i < 2147483648 by omega)
    obtain ⟨tD, -⟩ := (hst i hi).tn (by decide)
    show f_X4_strike_10_4 F _ (n + 1) _ (nI i) _ = f_X4_strike_10_4 F _ n _ (nI (i + 1)) _
    rw [f_X4_strike_10_4.eq_2]
    simp only [f_X2_windows, Option.bind_some, e37, ti, eE, f_X4_strike_10_76, f_X4_strike_10_48]
    rw [if_neg (by rw [pu_le (by omega) (by omega)]; omega), if_pos (pb_i6 (by omega)), show nI i + (1 : Int32) = nI (i + 1) from nI_add i 1]
    by_cases h : g 12 i = -9
    · rw [if_pos h, hr_cN g 11 12 i h]
      have hf : hr_p g 11 12 i = false := by simp [hr_p, h]
      rw [hf] at hstep
      rw [← hstep]
      simp
    · rw [if_neg h, pb_word hWi hi (by rw [eD]; exact hst i hi), eD, eo 4 _ (by omega), (hW.2.2.2.2.2.1 _ tD).1, Option.bind_some]
      have hex : ∃ s, s < 4 ∧ g 12 i = g 27 s := by
        rcases hdu i hi with q | q
        · exact absurd q h
        · exact q
      rw [ls_class (by omega) hWi (by rw [e27]; exact hex), e27]
      simp only [Option.bind_some, sh_10 hWi hi (ls_lt _ _), hr_cS g 11 12 i (by decide) h, if_pos (pb_i6 (show i < 6 by omega))]
      by_cases hq : g 27 (g 11 i).toNatClampNeg = g 12 i
      · have hf : hr_p g 11 12 i = false := by simp [hr_p, hq]
        rw [hf] at hstep
        rw [if_pos hq, ← hstep]
        rfl
      · have hf : hr_p g 11 12 i = true := by simp [hr_p, hq, h]
        rw [hf, if_pos rfl] at hstep
        rw [if_neg hq, ← hstep]
  · subst hs
    show f_X4_strike_10_4 F _ (n + 1) _ (nI N) _ = _
    have e0 : hr_c g 11 12 N 3 7 = nI N := by simp only [hr_c]; rw [if_neg (by omega), if_neg (by omega)]; exact hW.2.1
    rw [f_X4_strike_10_4.eq_2]
    simp only [f_X2_windows, Option.bind_some, e0]
    rw [if_pos (Int32.le_refl _)]
theorem hr_strike_13 {F : Nat} (hF : 7 ≤ F) {g : am_G} {N : Nat} (hW : iv_W g N) (hst : ∀ k, k < N → iv_b (g 14 k) 4) (hdu : ∀ k, k < N → g 15 k = -9 ∨ ∃ s, s < 4 ∧ g 15 k = g 27 s) : f_X4_strike_13 F g = some (nI (iv_bits (hr_p g 14 15) N), am_u (hr_c g 14 15 N) 13 3 (g 13 3 + 1)) := by
  have hN := hW.1
  unfold f_X4_strike_13
  have key := pu_loop (fun n i (s : Int32 × am_G) => f_X4_strike_13_4 F (fun l1 g => f_X4_strike_13_82 F (l1) (g)) n s.1 (nI i) s.2) (fun s => f_X4_strike_13_82 F s.1 s.2) (fun i s => (nI (iv_bits (hr_p g 14 15) (i + 1)), hr_c g 14 15 (i + 1))) N (fun i s => s = (nI (iv_bits (hr_p g 14 15) i), hr_c g 14 15 i)) (fun n i s hi hs => ?_) (fun n s hs => ?_) N 0 (0, g) F (by omega) (by omega) (by rw [hr_c0]; rfl)
  · obtain ⟨e1, e2⟩ := key
    have e3 : f_X4_strike_13_4 F (fun l1 g => f_X4_strike_13_82 F (l1) (g)) F 0 0 g = f_X4_strike_13_4 F (fun l1 g => f_X4_strike_13_82 F (l1) (g)) F (0, g).1 (nI 0) (0, g).2 := rfl
    rw [e3]
    refine e1.trans ?_
    rw [e2]
    have e4 : hr_c g 14 15 N 13 3 = g 13 3 := by simp only [hr_c]; rw [if_neg (by omega), if_neg (by omega)]
    simp only [f_X4_strike_13_82, e4]
  · subst hs
    refine ⟨?_, rfl⟩
    have eo : ∀ a b, (a ≠ 14 ∧ a ≠ 15) → hr_c g 14 15 i a b = g a b := fun a b hab => by simp only [hr_c]; rw [if_neg (by omega), if_neg (by omega)]
    have hWi : iv_W (hr_c g 14 15 i) N := hW.of2 fun a b hab => eo a b (by omega)
    have eD : hr_c g 14 15 i 14 i = g 14 i := by simp only [hr_c]; rw [if_neg (by omega), if_neg (by omega)]
    have eE : hr_c g 14 15 i 15 i = g 15 i := by simp only [hr_c]; rw [if_neg (by omega), if_neg (by omega)]
    have e37 : hr_c g 14 15 i 3 7 = nI N := by rw [eo 3 7 (by omega)]; exact hW.2.1
    have e27 : hr_c g 14 15 i 27 = g 27 := funext fun b => eo 27 b (by omega)
    have hstep := bi_step (p := hr_p g 14 15) (i := i) (by omega)
    have ti := pu_tn (show i < 2147483648 by omega)
    obtain ⟨tD, -⟩ := (hst i hi).tn (by decide)
    show f_X4_strike_13_4 F _ (n + 1) _ (nI i) _ = f_X4_strike_13_4 F _ n _ (nI (i + 1)) _
    rw [f_X4_strike_13_4.eq_2]
    simp only [f_X2_windows, Option.bind_some, e37, ti, eE, f_X4_strike_13_76, f_X4_strike_13_48]
    rw [if_neg (by rw [pu_le (by omega) (by omega)]; omega), if_pos (pb_i6 (by omega)), show nI i + (1 : Int32) = nI (i + 1) from nI_add i 1]
    by_cases h : g 15 i = -9
    · rw [if_pos h, hr_cN g 14 15 i h]
      have hf : hr_p g 14 15 i = false := by simp [hr_p, h]
      rw [hf] at hstep
      rw [← hstep]
      simp
    · rw [if_neg h, pb_word13 hWi hi (by rw [eD]; exact hst i hi), eD, eo 4 _ (by omega), (hW.2.2.2.2.2.1 _ tD).1, Option.bind_some]
      have hex : ∃ s, s < 4 ∧ g 15 i = g 27 s := by
        rcases hdu i hi with q | q
        · exact absurd q h
        · exact q
      rw [ls_class (by omega) hWi (by rw [e27]; exact hex), e27]
      simp only [Option.bind_some, sh_13 hWi hi (ls_lt _ _), hr_cS g 14 15 i (by decide) h, if_pos (pb_i6 (show i < 6 by omega))]
      by_cases hq : g 27 (g 14 i).toNatClampNeg = g 15 i
      · have hf : hr_p g 14 15 i = false := by simp [hr_p, hq]
        rw [hf] at hstep
        rw [if_pos hq, ← hstep]
        rfl
      · have hf : hr_p g 14 15 i = true := by simp [hr_p, hq, h]
        rw [hf, if_pos rfl] at hstep
        rw [if_neg hq, ← hstep]
  · subst hs
    show f_X4_strike_13_4 F _ (n + 1) _ (nI N) _ = _
    have e0 : hr_c g 14 15 N 3 7 = nI N := by simp only [hr_c]; rw [if_neg (by omega), if_neg (by omega)]; exact hW.2.1
    rw [f_X4_strike_13_4.eq_2]
    simp only [f_X2_windows, Option.bind_some, e0]
    rw [if_pos (Int32.le_refl _)]
theorem hr_ref {F : Nat} (hF : 7 ≤ F) {g : am_G} {N : Nat} (hW : iv_W g N) (lv : Nat) (hl : lv < 2) (hst : ∀ k, k < N → iv_b (g 32 (13 * lv + k)) 4) (hdu : ∀ k, k < N → g 32 (13 * lv + 6 + k) = -9 ∨ ∃ s, s < 4 ∧ g 32 (13 * lv + 6 + k) = g 27 s) : f_X8_hourOn F g (nI lv) = some (nI (iv_bits (hr_q g (13 * lv)) N), am_u (hr_r g (13 * lv) N) 32 (13 * lv + 12) (g 32 (13 * lv + 12) + 1)) := by
  have hN := hW.1
  unfold f_X8_hourOn
  obtain ⟨off, hoff⟩ : ∃ off, off = 13 * lv := ⟨_, rfl⟩
  have hoff2 : off ≤ 13 := by omega
  rw [show (13 : Int32) * nI lv = nI (13 * lv) from pu_mul 13 lv]
  rw [← hoff] at hst hdu ⊢
  have key := pu_loop (fun n i (s : Int32 × am_G) => f_X8_hourOn_10 F (nI lv) (fun l2 l3 g => f_X8_hourOn_113 F (nI lv) (l2) (l3) (g)) n (nI off) s.1 (nI i) s.2) (fun s => f_X8_hourOn_113 F (nI lv) (nI off) s.1 s.2) (fun i s => (nI (iv_bits (hr_q g off) (i + 1)), hr_r g off (i + 1))) N (fun i s => s = (nI (iv_bits (hr_q g off) i), hr_r g off i)) (fun n i s hi hs => ?_) (fun n s hs => ?_) N 0 (0, g) F (by omega) (by omega) (by rw [hr_r0]; rfl)
  · obtain ⟨e1, e2⟩ := key
    have e3 : f_X8_hourOn_10 F (nI lv) (fun l2 l3 g => f_X8_hourOn_113 F (nI lv) (l2) (l3) (g)) F (nI off) 0 0 g = f_X8_hourOn_10 F (nI lv) (fun l2 l3 g => f_X8_hourOn_113 F (nI lv) (l2) (l3) (g)) F (nI off) (0, g).1 (nI 0) (0, g).2 := rfl
    rw [e3]
    refine e1.trans ?_
    rw [e2]
    have e4 : hr_r g off N 32 (off + 12) = g 32 (off + 12) := by simp only [hr_r]; rw [if_neg (by omega), if_neg (by omega)]
    have e5 : nI off + (12 : Int32) = nI (off + 12) := nI_add off 12
    simp only [f_X8_hourOn_113, e5, pu_tn (show off + 12 < 2147483648 by omega), e4]
    rw [if_pos ((pu_in (by omega)).mpr (by omega)), if_pos ((pu_in (by omega)).mpr (by omega))]
  · subst hs
    refine ⟨?_, rfl⟩
    have eo : ∀ a b, a ≠ 32 → hr_r g off i a b = g a b := fun a b hab => by simp only [hr_r]; rw [if_neg (by omega), if_neg (by omega)]
    have eD : hr_r g off i 32 (off + i) = g 32 (off + i) := by simp only [hr_r]; rw [if_neg (by omega), if_neg (by omega)]
    have eE : hr_r g off i 32 (off + 6 + i) = g 32 (off + 6 + i) := by simp only [hr_r]; rw [if_neg (by omega), if_neg (by omega)]
    have e260 : hr_r g off i 26 0 = nI N := by rw [eo 26 0 (by omega)]; exact hW.2.2.1
    have e27 : hr_r g off i 27 = g 27 := funext fun b => eo 27 b (by omega)
    have hstep := bi_step (p := hr_q g off) (i := i) (by omega)
    have e6 : nI off + (6 : Int32) + nI i = nI (off + 6 + i) := by rw [show nI off + (6 : Int32) = nI (off + 6) from nI_add off 6, nI_add]
    have e0 : nI off + nI i = nI (off + i) := nI_add off i
    have t1 := pu_tn (show off + 6 + i < 2147483648 by omega)
    have t2 := pu_tn (show off + i < 2147483648 by omega)
    have i1 : am_in (nI (off + 6 + i)) 26 := (pu_in (by omega)).mpr (by omega)
    have i2 : am_in (nI (off + i)) 26 := (pu_in (by omega)).mpr (by omega)
    have hw0 : f_X8_wordOf (hr_r g off i) (nI lv) (nI i) = some (g 27 (g 32 (off + i)).toNatClampNeg) := by
      rw [pb_word8n hl (by omega) (by rw [← hoff, eD]; exact hst i hi), ← hoff, eD, e27]
    show f_X8_hourOn_10 F _ _ (n + 1) _ _ (nI i) _ = f_X8_hourOn_10 F _ _ n _ _ (nI (i + 1)) _
    rw [f_X8_hourOn_10.eq_2]
    simp only [e260, hw0, Option.bind_some, e6, e0, t1, t2, eE, f_X8_hourOn_84, f_X8_hourOn_105]
    rw [if_neg (by rw [pu_le (by omega) (by omega)]; omega), if_pos i1, show nI i + (1 : Int32) = nI (i + 1) from nI_add i 1]
    by_cases h : g 32 (off + 6 + i) = -9
    · rw [if_pos h, if_pos trivial, hr_rN g off i h]
      have hf : hr_q g off i = false := by simp [hr_q, h]
      rw [hf] at hstep
      rw [← hstep]
      rfl
    · have hex : ∃ s, s < 4 ∧ g 32 (off + 6 + i) = g 27 s := by
        rcases hdu i hi with q | q
        · exact absurd q h
        · exact q
      have e32 : hr_r g off (i + 1) 32 (off + i) = nI (ls_s (g 27) (g 32 (off + 6 + i))) := by
        simp only [hr_r]
        rw [show off + i + 6 = off + 6 + i by omega, if_pos ⟨trivial, by omega, by omega, h⟩]
      have f27 : hr_r g off (i + 1) 27 = g 27 := funext fun b => by simp only [hr_r]; rw [if_neg (by omega), if_neg (by omega)]
      have hl4 := ls_lt (g 27) (g 32 (off + 6 + i))
      have hw1 : f_X8_wordOf (hr_r g off (i + 1)) (nI lv) (nI i) = some (g 32 (off + 6 + i)) := by
        rw [pb_word8n hl (by omega) (by rw [← hoff, e32]; exact ⟨_, hl4, rfl⟩), ← hoff, e32, f27, pu_tn (by omega), ls_eq hex]
      rw [if_neg h, if_pos i1, ls_ref (by omega) (by rw [e27]; exact hex), e27]
      simp only [Option.bind_some, if_pos i1, if_pos i2, hr_rS g off i (by omega) h, hw1]
      by_cases hq : g 27 (g 32 (off + i)).toNatClampNeg = g 32 (off + 6 + i)
      · have hf : hr_q g off i = false := by simp [hr_q, hq]
        rw [hf] at hstep
        rw [if_pos hq.symm, ← hstep]
        rfl
      · have hf : hr_q g off i = true := by simp [hr_q, hq, h]
        rw [hf, if_pos rfl] at hstep
        rw [if_neg (fun e => hq e.symm), ← hstep]
  · subst hs
    show f_X8_hourOn_10 F _ _ (n + 1) _ _ (nI N) _ = _
    have e0 : hr_r g off N 26 0 = nI N := by simp only [hr_r]; rw [if_neg (by omega), if_neg (by omega)]; exact hW.2.2.1
    rw [f_X8_hourOn_10.eq_2]
    simp only [e0]
    rw [if_pos (Int32.le_refl _)]
set_option maxHeartbeats 1000000 in
theorem K_hour {F : Nat} (hF : 2000 ≤ F) {g : am_G} {w : am_J} (hI : iv_I g w) : ∃ (r : Int32) (g1 : am_G) (g2 : am_G), f_X7_hour F g = some (r, g1) ∧ f_X8_hour F g1 = some (r, g2) ∧ iv_I g2 w := by
  obtain ⟨len, N, A, nx, fl, hX, hW, hS, hA, hSl, hFo, hw⟩ := hI
  have hN := hW.1
  have hrem := ac_remember hA.1 hA.2.2.1
  have er : ∀ a b, (a ≠ 17 ∧ (a ≠ 16 ∨ b ≠ 1)) → ac_rem g A a b = g a b := fun a b hab => ac_rem_out (by omega) (by omega)
  have hWr : iv_W (ac_rem g A) N := iv_W.of_eq (iv_rest.of fun a b hab => er a b (by omega)) hW
  have r27 : ac_rem g A 27 = g 27 := funext fun b => er 27 b (by omega)
  have hstr := hr_strike_10 (show 7 ≤ F by omega) hWr (fun k hk => by rw [er 11 k (by omega), (iv_now hN hk hS.1).1]; exact (hS.2 k hk).1) (fun k hk => by rw [er 12 k (by omega), (iv_now hN hk hS.1).2, r27]; exact (hS.2 k hk).2)
  obtain ⟨g1, hg1⟩ : ∃ g1, g1 = am_u (hr_c (ac_rem g A) 11 12 N) 10 3 ((ac_rem g A) 10 3 + 1) := ⟨_, rfl⟩
  rw [← hg1] at hstr
  have ev : ∀ a b, (a ≠ 17 ∧ (a ≠ 16 ∨ b ≠ 1) ∧ a ≠ 11 ∧ a ≠ 12 ∧ a ≠ 10) → g1 a b = g a b := fun a b hab => by
    rw [hg1, am_u_at, if_neg (by omega)]; simp only [hr_c]; rw [if_neg (by omega), if_neg (by omega), er a b (by omega)]
  have hW1 : iv_W g1 N := iv_W.of_eq (iv_rest.of fun a b hab => ev a b (by omega)) hW
  have hkp : f_X8_keepAct F g1 = some (ac_kp g1 A nx) := ac_keep (F := F) (by omega) hA.1 hA.2.1 (by rw [ev 26 17 (by omega)]; exact hA.2.2.2.1) (by rw [ev 26 18 (by omega)]; exact hA.2.2.2.2.1)
  have ew : ∀ a b, (a ≠ 17 ∧ (a ≠ 16 ∨ b ≠ 1) ∧ a ≠ 11 ∧ a ≠ 12 ∧ a ≠ 10 ∧ a ≠ 36 ∧ (a ≠ 26 ∨ (b ≠ 17 ∧ b ≠ 18))) → ac_kp g1 A nx a b = g a b := fun a b hab => by rw [ac_kp_out (by omega) (by omega), ev a b (by omega)]
  have hWk : iv_W (ac_kp g1 A nx) N := iv_W.of_eq (iv_rest.of fun a b hab => ew a b (by omega)) hW
  have k27 : ac_kp g1 A nx 27 = g 27 := funext fun b => ew 27 b (by omega)
  have k32 : ac_kp g1 A nx 32 = g 32 := funext fun b => ew 32 b (by omega)
  have hho := hr_ref (show 7 ≤ F by omega) hWk 0 (by decide) (fun k hk => by rw [k32, Nat.mul_zero, Nat.zero_add]; exact (hS.2 k hk).1) (fun k hk => by rw [k32, Nat.mul_zero, Nat.zero_add, k27]; exact (hS.2 k hk).2)
  rw [Nat.mul_zero, Nat.zero_add, k32] at hho
  obtain ⟨h2, hh2⟩ : ∃ h2, h2 = am_u (hr_r (ac_kp g1 A nx) 0 N) 32 12 (g 32 12 + 1) := ⟨_, rfl⟩
  rw [← hh2] at hho
  have o2 : ∀ a b, a ≠ 32 → h2 a b = ac_kp g1 A nx a b := fun a b hab => by
    rw [hh2, am_u_at, if_neg (by omega)]; simp only [hr_r]; rw [if_neg (by omega), if_neg (by omega)]
  have e2 : ∀ a b, (a ≠ 17 ∧ (a ≠ 16 ∨ b ≠ 1) ∧ a ≠ 11 ∧ a ≠ 12 ∧ a ≠ 10 ∧ a ≠ 36 ∧ a ≠ 32 ∧ (a ≠ 26 ∨ (b ≠ 17 ∧ b ≠ 18))) → h2 a b = g a b := fun a b hab => by
    rw [o2 a b (by omega), ew a b (by omega)]
  have o1 : ∀ a b, (a ≠ 36 ∧ (a ≠ 26 ∨ (b ≠ 17 ∧ b ≠ 18)) ∧ a ≠ 32) → h2 a b = g1 a b := fun a b hab => by
    rw [o2 a b (by omega), ac_kp_out (by omega) (by omega)]
  have e32 : ∀ j, j < N → h2 32 j = (if g 32 (6 + j) = -9 then g 32 j else nI (ls_s (g 27) (g 32 (6 + j)))) ∧ h2 32 (6 + j) = -9 := fun j hj => by
    have q1 := hr_r_st (ac_kp g1 A nx) (off := 0) hj hN
    have q2 := hr_r_du (ac_kp g1 A nx) (off := 0) hj hN
    rw [Nat.zero_add, Nat.zero_add, k32, k27] at q1
    rw [Nat.zero_add] at q2
    have z1 : ∀ b, b ≠ 12 → h2 32 b = hr_r (ac_kp g1 A nx) 0 N 32 b := fun b hb => by rw [hh2, am_u_at, if_neg (by omega)]
    exact ⟨(z1 j (by omega)).trans q1, (z1 (6 + j) (by omega)).trans q2⟩
  have e11 : ∀ j, j < N → h2 11 j = (if g 32 (6 + j) = -9 then g 32 j else nI (ls_s (g 27) (g 32 (6 + j)))) ∧ h2 12 j = -9 := fun j hj => by
    obtain ⟨c1, c2⟩ := iv_now hN hj hS.1
    have q1 := hr_c_st (ac_rem g A) (D := 11) (E := 12) (by decide) hj
    have q2 := hr_c_du (ac_rem g A) (D := 11) (E := 12) (by decide) hj
    rw [er 12 j (by omega), er 11 j (by omega), r27, c1, c2] at q1
    have z1 : ∀ a b, a = 11 ∨ a = 12 → h2 a b = hr_c (ac_rem g A) 11 12 N a b := fun a b hb => by rw [o1 a b (by omega), hg1, am_u_at, if_neg (by omega)]
    exact ⟨(z1 11 j (by omega)).trans q1, (z1 12 j (by omega)).trans q2⟩
  refine ⟨nI (iv_bits (hr_q g 0) N), g1, h2, ?_, ?_, ?_⟩
  · simp only [f_X7_hour, hrem, Option.bind_some, hstr]
    congr 3
    apply bi_cong
    intro k hk
    obtain ⟨c1, c2⟩ := iv_now hN hk hS.1
    simp only [hr_p, hr_q, er 12 k (by omega), er 11 k (by omega), r27, c1, c2, Nat.zero_add]
  · have hho2 : f_X8_hourOn F (ac_kp g1 A nx) 0 = _ := hho
    simp only [f_X8_hour, hkp, Option.bind_some, hho2]
    congr 3
    apply bi_cong
    intro k hk
    simp only [hr_q, k32, k27]
  · refine ac_done hX hW hS hA hSl hFo hw (iv_rest.of fun a b hab => e2 a b (by omega)) ?_ ?_ ?_ ?_ ?_ ?_ ?_
    · funext b
      rw [o1 17 b (by omega), hg1, am_u_at, if_neg (by omega)]
      simp only [hr_c]
      rw [if_neg (by omega), if_neg (by omega)]
    · rw [o1 16 1 (by omega), hg1, am_u_at, if_neg (by omega)]
      simp only [hr_c]
      rw [if_neg (by omega), if_neg (by omega)]
    · funext b
      rw [o2 36 b (by omega), ac_kp_36, ac_36 (funext fun z => ev 32 z (by omega)) (funext fun z => ev 36 z (by omega))]
    · rw [o2 26 17 (by omega), ac_kp_17]
    · rw [o2 26 18 (by omega), ac_kp_18]
    · refine iv_nowI hN (fun j hj => ?_) ?_
      · rw [(e11 j hj).1, (e11 j hj).2, (e32 j hj).1, (e32 j hj).2]
        exact ⟨rfl, rfl⟩
      · rw [o1 10 3 (by omega), hg1, am_u_at, if_pos ⟨rfl, rfl⟩, hh2, am_u_at, if_pos ⟨rfl, rfl⟩, er 10 3 (by omega), iv_now12 hS.1]
    · intro j hj
      rw [(e32 j hj).1, (e32 j hj).2]
      refine ⟨?_, Or.inl rfl⟩
      split
      · exact (hS.2 j hj).1
      · exact ⟨_, ls_lt _ _, rfl⟩
