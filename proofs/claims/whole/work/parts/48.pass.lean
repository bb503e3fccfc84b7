/-! PASSED ON -/
def ls_s (f : Nat → Int32) (W : Int32) : Nat := if f 0 = W then 0 else if f 1 = W then 1 else if f 2 = W then 2 else 3
theorem ls_lt (f : Nat → Int32) (W : Int32) : ls_s f W < 4 := by
  unfold ls_s
  split
  · decide
  · split
    · decide
    · split
      · decide
      · decide
theorem ls_eq {f : Nat → Int32} {W : Int32} (h : ∃ s, s < 4 ∧ W = f s) : f (ls_s f W) = W := by
  unfold ls_s
  obtain ⟨s, hs, rfl⟩ := h
  split
  · assumption
  · split
    · assumption
    · split
      · assumption
      · rename_i h0 h1 h2
        have : s ≠ 0 ∧ s ≠ 1 ∧ s ≠ 2 := ⟨fun e => h0 (by rw [e]), fun e => h1 (by rw [e]), fun e => h2 (by rw [e])⟩
        have : s = 3 := by omega
        rw [this]
theorem ls_class {F : Nat} (hF : 5 ≤ F) {g : am_G} {N : Nat} (hW : iv_W g N) {W : Int32} (h : ∃ s, s < 4 ∧ W = g 27 s) : f_X2_leastStateFor F g W = some (nI (ls_s (g 27) W)) := by
  obtain ⟨n, rfl⟩ : ∃ n, F = n + 5 := ⟨F - 5, by omega⟩
  have hw := hW.2.2.2.2.2.1
  have c : ∀ (G i n : Nat), i < 4 → f_X2_leastStateFor_2 G g W (n + 1) (nI i) = if g 27 i = W then some (nI i) else f_X2_leastStateFor_2 G g W n (nI (i + 1)) := fun G i n hi => by
    rw [f_X2_leastStateFor_2.eq_2, if_neg (show ¬ (4 : Int32) ≤ nI i from nI_ge (b := 4) hi (by decide)), if_pos ((pu_in (by omega)).mpr hi), pu_tn (by omega), show nI i + (1 : Int32) = nI (i + 1) from nI_add i 1, (hw i hi).1]
  unfold f_X2_leastStateFor ls_s
  refine (c (n + 5) 0 (n + 4) (by omega)).trans ?_
  rw [c (n + 5) 1 (n + 3) (by omega), c (n + 5) 2 (n + 2) (by omega), c (n + 5) 3 (n + 1) (by omega)]
  by_cases h0 : g 27 0 = W
  · rw [if_pos h0, if_pos h0]
  rw [if_neg h0, if_neg h0]
  by_cases h1 : g 27 1 = W
  · rw [if_pos h1, if_pos h1]
  rw [if_neg h1, if_neg h1]
  by_cases h2 : g 27 2 = W
  · rw [if_pos h2, if_pos h2]
  rw [if_neg h2, if_neg h2]
  obtain ⟨s, hs, rfl⟩ := h
  have : s ≠ 0 ∧ s ≠ 1 ∧ s ≠ 2 := ⟨fun e => h0 (by rw [e]), fun e => h1 (by rw [e]), fun e => h2 (by rw [e])⟩
  have : s = 3 := by omega
  rw [this, if_pos rfl]
theorem ls_ref {F : Nat} (hF : 5 ≤ F) {g : am_G} {W : Int32} (h : ∃ s, s < 4 ∧ W = g 27 s) : f_X8_leastState F g W = some (nI (ls_s (g 27) W)) := by
  obtain ⟨n, rfl⟩ : ∃ n, F = n + 5 := ⟨F - 5, by omega⟩
  have c : ∀ (G i n : Nat), i < 4 → f_X8_leastState_2 G g W (n + 1) (nI i) = if g 27 i = W then some (nI i) else f_X8_leastState_2 G g W n (nI (i + 1)) := fun G i n hi => by
    rw [f_X8_leastState_2.eq_2, if_pos ((pu_in (by omega)).mpr hi), pu_tn (by omega), show nI i + (1 : Int32) = nI (i + 1) from nI_add i 1]
  unfold f_X8_leastState ls_s
  refine (c (n + 5) 0 (n + 4) (by omega)).trans ?_
  rw [c (n + 5) 1 (n + 3) (by omega), c (n + 5) 2 (n + 2) (by omega), c (n + 5) 3 (n + 1) (by omega)]
  by_cases h0 : g 27 0 = W
  · rw [if_pos h0, if_pos h0]
  rw [if_neg h0, if_neg h0]
  by_cases h1 : g 27 1 = W
  · rw [if_pos h1, if_pos h1]
  rw [if_neg h1, if_neg h1]
  by_cases h2 : g 27 2 = W
  · rw [if_pos h2, if_pos h2]
  rw [if_neg h2, if_neg h2]
  obtain ⟨s, hs, rfl⟩ := h
  have : s ≠ 0 ∧ s ≠ 1 ∧ s ≠ 2 := ⟨fun e => h0 (by rw [e]), fun e => h1 (by rw [e]), fun e => h2 (by rw [e])⟩
  have : s = 3 := by omega
  rw [this, if_pos rfl]
theorem sh_10 {g : am_G} {N k s : Nat} (hW : iv_W g N) (hk : k < N) (hs : s < 4) : f_X4_shift_10 g (nI k) (nI s) = some (am_u g 11 k (nI s)) := by
  have hN := hW.1
  simp only [f_X4_shift_10, (pb_yes hW hk).1, Option.bind_some, if_neg pb_10, pb_isState_yes hs, if_pos (pb_i6 (show k < 6 by omega)), pu_tn (show k < 2147483648 by omega)]
theorem sh_13 {g : am_G} {N k s : Nat} (hW : iv_W g N) (hk : k < N) (hs : s < 4) : f_X4_shift_13 g (nI k) (nI s) = some (am_u g 14 k (nI s)) := by
  have hN := hW.1
  simp only [f_X4_shift_13, (pb_yes hW hk).1, Option.bind_some, if_neg pb_10, pb_isState_yes hs, if_pos (pb_i6 (show k < 6 by omega)), pu_tn (show k < 2147483648 by omega)]
theorem iv_b.tn {x : Int32} {n : Nat} (h : iv_b x n) (hn : n < 2147483648) : x.toNatClampNeg < n ∧ x = nI x.toNatClampNeg := by
  obtain ⟨v, hv, rfl⟩ := h
  rw [pu_tn (by omega)]
  exact ⟨hv, rfl⟩
set_option maxHeartbeats 1000000 in
theorem K_pass {F : Nat} (hF : 2000 ≤ F) {g : am_G} {w : am_J} (hI : iv_I g w) (p : Int32) (q : Int32) : ∃ (r : Int32) (g1 : am_G) (g2 : am_G), f_X7_pass F g p q = some (r, g1) ∧ f_X8_pass F g1 p q = some (r, g2) ∧ iv_I g2 w := by
  have hI0 := hI
  obtain ⟨len, N, A, nx, fl, hX, hW, hS, hA, hSl, hFo, hw⟩ := hI
  have hN := hW.1
  rcases pb_range hW.1 p with h | ⟨k, hk, rfl⟩
  · refine ⟨-1, g, g, ?_, ?_, hI0⟩
    · simp [f_X7_pass, (pb_no hW h).1]
    · simp [f_X8_pass, (pb_no hW h).2]
  rcases pb_range hW.1 q with h | ⟨o, ho, rfl⟩
  · refine ⟨-1, g, g, ?_, ?_, hI0⟩
    · simp [f_X7_pass, (pb_yes hW hk).1, (pb_no hW h).1]
    · simp [f_X8_pass, (pb_yes hW hk).2, (pb_no hW h).2]
  have hkind : g 8 k = g 31 k := (hW.2.2.2.2.2.2 k hk).2.2.2.1.1
  have h6 : am_in (nI k) 6 := pb_i6 (by omega)
  have tk := pu_tn (show k < 2147483648 by omega)
  have fc := bi_facing hW hk ho
  have fs := pb_sees8 (g := g) (show k < 6 by omega) (show o < 6 by omega)
  by_cases hsee : ¬ iv_see g k o = true
  · rw [if_neg hsee] at fc fs
    refine ⟨-3, g, g, ?_, ?_, hI0⟩
    · simp only [f_X7_pass, (pb_yes hW hk).1, (pb_yes hW ho).1, Option.bind_some, if_neg pb_10, fc]
      rfl
    · simp only [f_X8_pass, (pb_yes hW hk).2, (pb_yes hW ho).2, Option.bind_some, if_neg pb_10, fs]
      rfl
  have hsee := Decidable.not_not.mp hsee
  rw [if_pos hsee] at fc fs
  by_cases hdead : g 31 k = 3
  · refine ⟨-3, g, g, ?_, ?_, hI0⟩
    · simp only [f_X7_pass, (pb_yes hW hk).1, (pb_yes hW ho).1, Option.bind_some, if_neg pb_10, fc, pb_kind hW hk, hkind, if_pos hdead]
    · simp only [f_X8_pass, (pb_yes hW hk).2, (pb_yes hW ho).2, Option.bind_some, if_neg pb_10, fs, if_pos h6, tk, if_pos hdead]
  have hrem := ac_remember hA.1 hA.2.2.1
  have er : ∀ a b, (a ≠ 17 ∧ (a ≠ 16 ∨ b ≠ 1)) → ac_rem g A a b = g a b := fun a b hab => ac_rem_out (by omega) (by omega)
  have hWr : iv_W (ac_rem g A) N := iv_W.of_eq (iv_rest.of fun a b hab => er a b (by omega)) hW
  obtain ⟨hso, -⟩ := iv_now hN ho hS.1
  obtain ⟨to, hto⟩ := (hS.2 o ho).1.tn (by decide)
  obtain ⟨W, hWd⟩ : ∃ W, W = g 27 (g 32 o).toNatClampNeg := ⟨_, rfl⟩
  have hex : ∃ s, s < 4 ∧ W = g 27 s := ⟨_, to, hWd⟩
  have hword : f_X4_word_10 (ac_rem g A) (nI o) = some W := by
    rw [pb_word hWr ho (by rw [er 11 o (by omega), hso]; exact (hS.2 o ho).1), er 11 o (by omega), hso, er 4 _ (by omega), (hW.2.2.2.2.2.1 _ to).1, hWd]
  have r27 : ac_rem g A 27 = g 27 := funext fun b => er 27 b (by omega)
  have hl := ls_lt (g 27) W
  obtain ⟨g1, hg1⟩ : ∃ g1, g1 = if g 31 k = 1 then am_u (ac_rem g A) 11 k (nI (ls_s (g 27) W)) else am_u (ac_rem g A) 12 k W := ⟨_, rfl⟩
  have htake : f_X4_takeUp F (ac_rem g A) (nI k) W = some g1 := by
    simp only [f_X4_takeUp, (pb_yes hWr hk).1, Option.bind_some, if_neg pb_10, pb_kind hWr hk, er 8 k (by omega), hkind]
    by_cases hd : g 31 k = 1
    · rw [if_pos hd, ls_class (by omega) hWr (by rw [r27]; exact hex), r27, Option.bind_some, sh_10 hWr hk hl, Option.bind_some, hg1, if_pos hd]
    · rw [if_neg hd, if_pos h6, tk, hg1, if_neg hd]
  have ev : ∀ a b, (a ≠ 17 ∧ (a ≠ 16 ∨ b ≠ 1) ∧ a ≠ 11 ∧ a ≠ 12) → g1 a b = g a b := fun a b hab => by
    rw [hg1]
    split
    · rw [am_u_at, if_neg (by omega), er a b (by omega)]
    · rw [am_u_at, if_neg (by omega), er a b (by omega)]
  have hW1 : iv_W g1 N := iv_W.of_eq (iv_rest.of fun a b hab => ev a b (by omega)) hW
  have hkp : f_X8_keepAct F g1 = some (ac_kp g1 A nx) := ac_keep (F := F) (by omega) hA.1 hA.2.1 (by rw [ev 26 17 (by omega)]; exact hA.2.2.2.1) (by rw [ev 26 18 (by omega)]; exact hA.2.2.2.2.1)
  have ew : ∀ a b, (a ≠ 17 ∧ (a ≠ 16 ∨ b ≠ 1) ∧ a ≠ 11 ∧ a ≠ 12 ∧ a ≠ 36 ∧ (a ≠ 26 ∨ (b ≠ 17 ∧ b ≠ 18))) → ac_kp g1 A nx a b = g a b := fun a b hab => by rw [ac_kp_out (by omega) (by omega), ev a b (by omega)]
  obtain ⟨h2, hh2⟩ : ∃ h2, h2 = if g 31 k = 1 then am_u (ac_kp g1 A nx) 32 k (nI (ls_s (g 27) W)) else am_u (ac_kp g1 A nx) 32 (6 + k) W := ⟨_, rfl⟩
  have o2 : ∀ a b, a ≠ 32 → h2 a b = ac_kp g1 A nx a b := fun a b hab => by
    rw [hh2]
    split
    · rw [am_u_at, if_neg (by omega)]
    · rw [am_u_at, if_neg (by omega)]
  have e2 : ∀ a b, (a ≠ 17 ∧ (a ≠ 16 ∨ b ≠ 1) ∧ a ≠ 11 ∧ a ≠ 12 ∧ a ≠ 36 ∧ a ≠ 32 ∧ (a ≠ 26 ∨ (b ≠ 17 ∧ b ≠ 18))) → h2 a b = g a b := fun a b hab => by
    rw [o2 a b (by omega), ew a b (by omega)]
  have o1 : ∀ a b, (a ≠ 36 ∧ (a ≠ 26 ∨ (b ≠ 17 ∧ b ≠ 18)) ∧ a ≠ 32) → h2 a b = g1 a b := fun a b hab => by
    rw [o2 a b (by omega), ac_kp_out (by omega) (by omega)]
  have s1 : iv_see g1 k o = iv_see g k o := by
    simp only [iv_see, ev 29 k (by omega), ev 29 o (by omega), ev 28 k (by omega), ev 28 o (by omega), ev 30 k (by omega), ev 30 o (by omega), ev 26 1 (by omega)]
  refine ⟨W, g1, h2, ?_, ?_, ?_⟩
  · simp only [f_X7_pass, (pb_yes hW hk).1, (pb_yes hW ho).1, Option.bind_some, if_neg pb_10, fc, pb_kind hW hk, hkind, if_neg hdead, hrem, hword, htake]
  · have fs1 := pb_sees8 (g := g1) (show k < 6 by omega) (show o < 6 by omega)
    rw [s1, if_pos hsee] at fs1
    have hw8 : f_X8_wordOf (ac_kp g1 A nx) 0 (nI o) = some W := by
      rw [pb_word8 (by omega) (by rw [ew 32 o (by omega)]; exact (hS.2 o ho).1), ew 32 o (by omega), ew 27 _ (by omega), hWd]
    have k27 : ac_kp g1 A nx 27 = g 27 := funext fun b => ew 27 b (by omega)
    have hk6 : (6 : Int32) + nI k = nI (6 + k) := nI_add 6 k
    simp only [f_X8_pass, (pb_yes hW1 hk).2, (pb_yes hW1 ho).2, Option.bind_some, if_neg pb_10, fs1, if_pos h6, tk, ev 31 k (by omega), if_neg hdead, hkp, hw8, ew 31 k (by omega), hk6, pu_tn (show 6 + k < 2147483648 by omega)]
    by_cases hd : g 31 k = 1
    · rw [if_pos hd, ls_ref (by omega) (by rw [k27]; exact hex), k27, Option.bind_some, if_pos ((pu_in (by omega)).mpr (by omega)), hh2, if_pos hd]
    · rw [if_neg hd, if_pos ((pu_in (by omega)).mpr (by omega)), hh2, if_neg hd]
  · have e32 : ∀ j, h2 32 j = if g 31 k = 1 then (if j = k then nI (ls_s (g 27) W) else g 32 j) else (if j = 6 + k then W else g 32 j) := fun j => by
      rw [hh2]
      by_cases hd : g 31 k = 1
      · rw [if_pos hd, if_pos hd, am_u_at, ew 32 j (by omega)]
        by_cases hj : j = k
        · rw [if_pos ⟨rfl, hj⟩, if_pos hj]
        · rw [if_neg (fun z => hj z.2), if_neg hj]
      · rw [if_neg hd, if_neg hd, am_u_at, ew 32 j (by omega)]
        by_cases hj : j = 6 + k
        · rw [if_pos ⟨rfl, hj⟩, if_pos hj]
        · rw [if_neg (fun z => hj z.2), if_neg hj]
    have e11 : ∀ j, h2 11 j = if g 31 k = 1 ∧ j = k then nI (ls_s (g 27) W) else g 11 j := fun j => by
      rw [o1 11 j (by omega), hg1]
      by_cases hd : g 31 k = 1
      · rw [if_pos hd, am_u_at, er 11 j (by omega)]
        by_cases hj : j = k
        · rw [if_pos ⟨rfl, hj⟩, if_pos ⟨hd, hj⟩]
        · rw [if_neg (fun z => hj z.2), if_neg (fun z => hj z.2)]
      · rw [if_neg hd, am_u_at, if_neg (by omega), er 11 j (by omega), if_neg (fun z => hd z.1)]
    have e12 : ∀ j, h2 12 j = if ¬ g 31 k = 1 ∧ j = k then W else g 12 j := fun j => by
      rw [o1 12 j (by omega), hg1]
      by_cases hd : g 31 k = 1
      · rw [if_pos hd, am_u_at, if_neg (by omega), er 12 j (by omega), if_neg (fun z => z.1 hd)]
      · rw [if_neg hd, am_u_at, er 12 j (by omega)]
        by_cases hj : j = k
        · rw [if_pos ⟨rfl, hj⟩, if_pos ⟨hd, hj⟩]
        · rw [if_neg (fun z => hj z.2), if_neg (fun z => hj z.2)]
    have e10 : h2 10 3 = g 10 3 := e2 10 3 (by omega)
    refine ac_done hX hW hS hA hSl hFo hw (iv_rest.of fun a b hab => e2 a b (by omega)) ?_ ?_ ?_ ?_ ?_ ?_ ?_
    · funext b
      rw [o1 17 b (by omega), hg1]
      split
      · rw [am_u_at, if_neg (by omega)]
      · rw [am_u_at, if_neg (by omega)]
    · rw [o1 16 1 (by omega), hg1]
      split
      · rw [am_u_at, if_neg (by omega)]
      · rw [am_u_at, if_neg (by omega)]
    · funext b
      rw [o2 36 b (by omega), ac_kp_36, ac_36 (funext fun z => ev 32 z (by omega)) (funext fun z => ev 36 z (by omega))]
    · rw [o2 26 17 (by omega), ac_kp_17]
    · rw [o2 26 18 (by omega), ac_kp_18]
    · refine iv_nowI hN (fun j hj => ?_) ?_
      · obtain ⟨c1, c2⟩ := iv_now hN hj hS.1
        rw [e11, e12, e32, e32, c1, c2]
        by_cases hd : g 31 k = 1
        · rw [if_pos hd, if_pos hd, if_neg (show ¬ (¬ g 31 k = 1 ∧ j = k) from fun z => z.1 hd), if_neg (show ¬ 6 + j = k by omega)]
          refine ⟨?_, rfl⟩
          by_cases hjk : j = k
          · rw [if_pos ⟨hd, hjk⟩, if_pos hjk]
          · rw [if_neg (fun z => hjk z.2), if_neg hjk]
        · rw [if_neg hd, if_neg hd, if_neg (show ¬ (g 31 k = 1 ∧ j = k) from fun z => hd z.1), if_neg (show ¬ j = 6 + k by omega)]
          refine ⟨rfl, ?_⟩
          by_cases hjk : j = k
          · rw [if_pos ⟨hd, hjk⟩, if_pos (by omega)]
          · rw [if_neg (fun z => hjk z.2), if_neg (by omega)]
      · rw [e32, e10, iv_now12 hS.1]
        split
        · rw [if_neg (by omega)]
        · rw [if_neg (by omega)]
    · intro j hj
      rw [e32, e32]
      by_cases hd : g 31 k = 1
      · rw [if_pos hd, if_pos hd, if_neg (show ¬ 6 + j = k by omega)]
        refine ⟨?_, (hS.2 j hj).2⟩
        split
        · exact ⟨_, hl, rfl⟩
        · exact (hS.2 j hj).1
      · rw [if_neg hd, if_neg hd, if_neg (show ¬ j = 6 + k by omega)]
        refine ⟨(hS.2 j hj).1, ?_⟩
        split
        · exact Or.inr hex
        · exact (hS.2 j hj).2
