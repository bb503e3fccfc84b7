/-! an act done on both sides: the invariant; MOVED -/
theorem ac_done {g h : am_G} {w : am_J} {len N A nx fl : Nat} (hX : iv_X g len) (hW : iv_W g N) (hS : iv_E N (iv_C g) (g 32) ∧ iv_O g N (g 32)) (hA : iv_A g N A nx) (hSl : iv_S g N) (hFo : iv_F g fl) (hw : w 0 10 = w 26 28)
    (hr : iv_rest g h) (h17 : h 17 = ac_rem g A 17) (h16 : h 16 1 = ac_rem g A 16 1) (h36 : h 36 = am_cp g 32 36 0 (13 * nx) 13 36) (h2617 : h 26 17 = nI (if A < 14 then A + 1 else 14)) (h2618 : h 26 18 = nI ((nx + 1) % 14)) (hE : iv_E N (iv_C h) (h 32)) (hO : iv_O g N (h 32)) : iv_I h w := by
  obtain ⟨b1, b2, b3, b4, b5⟩ := hr.parts hX hW hSl hFo
  exact ⟨len, N, _, _, fl, b1, b2, ⟨hE, b5 _ hO⟩, ac_row hW.1 hA hS.1 hS.2 h17 h16 h36 h2617 h2618 (hr.1 27 (by decide)), b3, b4, hw⟩
/-- the reference's cells behind keepAct, when the class has gone before -/
def ac_kp (g : am_G) (A nx : Nat) : am_G := am_u (am_u (am_cp g 32 36 0 (13 * nx) 13) 26 18 (nI ((nx + 1) % 14))) 26 17 (nI (if A < 14 then A + 1 else 14))
theorem ac_kp_out {g : am_G} {A nx a b : Nat} (h1 : a ≠ 36) (h2 : a ≠ 26 ∨ (b ≠ 17 ∧ b ≠ 18)) : ac_kp g A nx a b = g a b := by
  unfold ac_kp
  rw [am_u_at, if_neg (by omega), am_u_at, if_neg (by omega), am_cp_at, if_neg (by omega)]
theorem ac_kp_36 {g : am_G} {A nx : Nat} : ac_kp g A nx 36 = am_cp g 32 36 0 (13 * nx) 13 36 := by
  funext b
  unfold ac_kp
  rw [am_u_at, if_neg (by omega), am_u_at, if_neg (by omega)]
theorem ac_kp_17 {g : am_G} {A nx : Nat} : ac_kp g A nx 26 17 = nI (if A < 14 then A + 1 else 14) := by
  unfold ac_kp
  rw [am_u_at, if_pos ⟨rfl, rfl⟩]
theorem ac_kp_18 {g : am_G} {A nx : Nat} : ac_kp g A nx 26 18 = nI ((nx + 1) % 14) := by
  unfold ac_kp
  rw [am_u_at, if_neg (by decide), am_u_at, if_pos ⟨rfl, rfl⟩]
/-- cells that the class's acts and the reference's keepAct don't touch: out of pointwise facts -/
theorem ac_36 {g g1 : am_G} {nx : Nat} (h32 : g1 32 = g 32) (h36 : g1 36 = g 36) : am_cp g1 32 36 0 (13 * nx) 13 36 = am_cp g 32 36 0 (13 * nx) 13 36 := by
  funext b
  rw [am_cp_at, am_cp_at, h32, h36]
theorem iv_rest.of {g h : am_G} (H : ∀ a b, (a ≠ 10 ∧ a ≠ 11 ∧ a ≠ 12 ∧ a ≠ 13 ∧ a ≠ 14 ∧ a ≠ 15 ∧ a ≠ 16 ∧ a ≠ 17 ∧ a ≠ 32 ∧ a ≠ 36 ∧ (a ≠ 26 ∨ (b ≠ 17 ∧ b ≠ 18))) → h a b = g a b) : iv_rest g h := by
  refine ⟨fun c hc => funext fun b => H c b ?_, ⟨H 1 1 (by decide), H 26 14 (by decide), H 3 7 (by decide), H 26 0 (by decide), H 3 6 (by decide), H 26 1 (by decide)⟩, H 18 1 (by decide), H 22 1 (by decide), H 26 23 (by decide)⟩
  omega
theorem iv_now {g : am_G} {N k : Nat} (hN : N ≤ 6) (hk : k < N) (hE : iv_E N (iv_C g) (g 32)) : g 11 k = g 32 k ∧ g 12 k = g 32 (6 + k) := by
  have h := hE.1 k hk
  simp only [iv_C, if_pos (show k < 6 by omega), if_neg (show ¬ 6 + k < 6 by omega), if_pos (show 6 + k < 12 by omega), Nat.add_sub_cancel_left] at h
  exact h
theorem iv_now12 {g : am_G} {N : Nat} (hE : iv_E N (iv_C g) (g 32)) : g 10 3 = g 32 12 := by
  have h := hE.2
  simpa [iv_C] using h
theorem iv_nowI {g : am_G} {N : Nat} (hN : N ≤ 6) (h1 : ∀ k, k < N → g 11 k = g 32 k ∧ g 12 k = g 32 (6 + k)) (h2 : g 10 3 = g 32 12) : iv_E N (iv_C g) (g 32) := by
  refine ⟨fun k hk => ?_, by simpa [iv_C] using h2⟩
  simp only [iv_C, if_pos (show k < 6 by omega), if_neg (show ¬ 6 + k < 6 by omega), if_pos (show 6 + k < 12 by omega), Nat.add_sub_cancel_left]
  exact h1 k hk
theorem iv_W.of_eq {g h : am_G} {N : Nat} (hr : iv_rest g h) (hW : iv_W g N) : iv_W h N := by
  obtain ⟨h1, h3, h5⟩ := hr
  have hse' : ∀ k, iv_see h k = iv_see g k := fun k => funext fun o => by simp only [iv_see, h1 29 (by decide), h1 28 (by decide), h1 30 (by decide), h3.2.2.2.2.2]
  simp only [iv_W, h1 4 (by decide), h1 5 (by decide), h1 6 (by decide), h1 7 (by decide), h1 8 (by decide), h1 9 (by decide), h1 27 (by decide), h1 28 (by decide), h1 29 (by decide), h1 30 (by decide), h1 31 (by decide), h3.2.2.1, h3.2.2.2.1, h3.2.2.2.2.1, h3.2.2.2.2.2, hse']
  exact hW
set_option maxHeartbeats 1000000 in
theorem K_move {F : Nat} (hF : 2000 ≤ F) {g : am_G} {w : am_J} (hI : iv_I g w) (p : Int32) (q : Int32) : ∃ (r : Int32) (g1 : am_G) (g2 : am_G), f_X7_move g p q = some (r, g1) ∧ f_X8_move F g1 p q = some (r, g2) ∧ iv_I g2 w := by
  have hI0 := hI
  obtain ⟨len, N, A, nx, fl, hX, hW, hS, hA, hSl, hFo, hw⟩ := hI
  have hN := hW.1
  rcases pb_range hW.1 p with h | ⟨k, hk, rfl⟩
  · refine ⟨-1, g, g, ?_, ?_, hI0⟩
    · simp [f_X7_move, (pb_no hW h).1]
    · simp [f_X8_move, (pb_no hW h).2]
  · have h6 : am_in (nI k) 6 := pb_i6 (by omega)
    have h26 : am_in (nI k) 26 := (pu_in (by omega)).mpr (by omega)
    have ht := pu_tn (show k < 2147483648 by omega)
    have hkind : g 8 k = g 31 k := (hW.2.2.2.2.2.2 k hk).2.2.2.1.1
    obtain ⟨hst, hdu⟩ := iv_now hN hk hS.1
    rcases pb_isState_cases q with hq | ⟨s, hs, rfl, hq⟩
    · refine ⟨-2, g, g, ?_, ?_, hI0⟩
      · simp [f_X7_move, (pb_yes hW hk).1, hq]
      · have hq8 := hq
        rw [pb_isState] at hq8
        simp [f_X8_move, (pb_yes hW hk).2, hq8]
    · have hq8 := hq
      rw [pb_isState] at hq8
      by_cases hcan : g 31 k = 3 ∨ g 32 k = nI s
      · refine ⟨-3, g, g, ?_, ?_, hI0⟩
        · have : f_X4_canShift_10 g (nI k) (nI s) = some 0 := by
            simp only [f_X4_canShift_10, (pb_yes hW hk).1, Option.bind_some, if_neg pb_10, hq, pb_kind hW hk, hkind, if_pos h6, ht, hst]
            rcases hcan with h | h <;> simp [h]
          simp only [f_X7_move, (pb_yes hW hk).1, Option.bind_some, if_neg pb_10, hq, this, if_true]
        · simp only [f_X8_move, (pb_yes hW hk).2, Option.bind_some, if_neg pb_10, hq8, if_pos h26, ht, if_pos h6]
          rcases hcan with h | h <;> simp [h]
      · have hc1 : ¬ g 31 k = 3 := fun e => hcan (Or.inl e)
        have hc2 : ¬ g 32 k = nI s := fun e => hcan (Or.inr e)
        have hrem := ac_remember hA.1 hA.2.2.1
        have hWr : iv_W (ac_rem g A) N := iv_W.of_eq (iv_rest.of fun a b hab => ac_rem_out (by omega) (by omega)) hW
        have hkeep := ac_keep (F := F) (by omega) (g := am_u (ac_rem g A) 11 k (nI s)) hA.1 hA.2.1 (by rw [am_u_at, if_neg (by simp), ac_rem_out (by omega) (by omega)]; exact hA.2.2.2.1) (by rw [am_u_at, if_neg (by simp), ac_rem_out (by omega) (by omega)]; exact hA.2.2.2.2.1)
        have hkp : f_X8_keepAct F (am_u (ac_rem g A) 11 k (nI s)) = some (ac_kp (am_u (ac_rem g A) 11 k (nI s)) A nx) := hkeep
        have ev : ∀ a b, (a ≠ 17 ∧ (a ≠ 16 ∨ b ≠ 1) ∧ a ≠ 11) → am_u (ac_rem g A) 11 k (nI s) a b = g a b := fun a b hab => by rw [am_u_at, if_neg (by omega), ac_rem_out (by omega) (by omega)]
        have ew : ∀ a b, (a ≠ 17 ∧ (a ≠ 16 ∨ b ≠ 1) ∧ a ≠ 11 ∧ a ≠ 36 ∧ (a ≠ 26 ∨ (b ≠ 17 ∧ b ≠ 18))) → ac_kp (am_u (ac_rem g A) 11 k (nI s)) A nx a b = g a b := fun a b hab => by rw [ac_kp_out (by omega) (by omega), ev a b (by omega)]
        obtain ⟨h2, hh2⟩ : ∃ h2, h2 = am_u (ac_kp (am_u (ac_rem g A) 11 k (nI s)) A nx) 32 k (nI s) := ⟨_, rfl⟩
        have e2 : ∀ a b, (a ≠ 17 ∧ (a ≠ 16 ∨ b ≠ 1) ∧ a ≠ 11 ∧ a ≠ 36 ∧ a ≠ 32 ∧ (a ≠ 26 ∨ (b ≠ 17 ∧ b ≠ 18))) → h2 a b = g a b := fun a b hab => by rw [hh2, am_u_at, if_neg (by omega), ew a b (by omega)]
        refine ⟨g 4 s, am_u (ac_rem g A) 11 k (nI s), h2, ?_, ?_, ?_⟩
        · have h1 : f_X4_canShift_10 g (nI k) (nI s) = some 1 := by
            simp only [f_X4_canShift_10, (pb_yes hW hk).1, Option.bind_some, if_neg pb_10, hq, pb_kind hW hk, hkind, if_pos h6, ht, hst, if_neg hc1, if_neg hc2]
          have h2 : f_X4_shift_10 (ac_rem g A) (nI k) (nI s) = some (am_u (ac_rem g A) 11 k (nI s)) := by
            simp only [f_X4_shift_10, (pb_yes hWr hk).1, Option.bind_some, if_neg pb_10, hq, if_pos h6, ht]
          have hWs : iv_W (am_u (ac_rem g A) 11 k (nI s)) N := iv_W.of_eq (iv_rest.of fun a b hab => ev a b (by omega)) hW
          have h3 : f_X4_word_10 (am_u (ac_rem g A) 11 k (nI s)) (nI k) = some (g 4 s) := by
            have e11s : am_u (ac_rem g A) 11 k (nI s) 11 k = nI s := by rw [am_u_at, if_pos ⟨rfl, rfl⟩]
            rw [pb_word hWs hk (by rw [e11s]; exact ⟨s, hs, rfl⟩), e11s, pu_tn (by omega), ev 4 s (by omega)]
          simp only [f_X7_move, (pb_yes hW hk).1, Option.bind_some, if_neg pb_10, hq, h1, hrem, h2, h3]
        · have hWs : iv_W (am_u (ac_rem g A) 11 k (nI s)) N := iv_W.of_eq (iv_rest.of fun a b hab => ev a b (by omega)) hW
          have hword : f_X8_wordOf h2 0 (nI k) = some (g 4 s) := by
            have e32s : h2 32 k = nI s := by rw [hh2, am_u_at, if_pos ⟨rfl, rfl⟩]
            rw [pb_word8 (by omega) (by rw [e32s]; exact ⟨s, hs, rfl⟩), e32s, pu_tn (by omega), e2 27 s (by omega), (hW.2.2.2.2.2.1 s hs).1]
          simp only [f_X8_move, (pb_yes hWs hk).2, Option.bind_some, if_neg pb_10, hq8, if_pos h26, ht, if_pos h6, ev 32 k (by omega), ev 31 k (by omega), if_neg hc1, if_neg hc2, hkp, ← hh2, hword]
        · refine ac_done hX hW hS hA hSl hFo hw (iv_rest.of fun a b hab => e2 a b (by omega)) ?_ ?_ ?_ ?_ ?_ ?_ ?_
          · funext b
            rw [hh2, am_u_at, if_neg (by simp), ac_kp_out (by omega) (by omega), am_u_at, if_neg (by simp)]
          · rw [hh2, am_u_at, if_neg (by simp), ac_kp_out (by omega) (by omega), am_u_at, if_neg (by simp)]
          · funext b
            rw [hh2, am_u_at, if_neg (by simp), ac_kp_36, ac_36 (funext fun z => ev 32 z (by omega)) (funext fun z => ev 36 z (by omega))]
          · rw [hh2, am_u_at, if_neg (by simp), ac_kp_17]
          · rw [hh2, am_u_at, if_neg (by simp), ac_kp_18]
          · have e11 : ∀ j, h2 11 j = if j = k then nI s else g 11 j := fun j => by
              rw [hh2, am_u_at, if_neg (by simp), ac_kp_out (by omega) (by omega), am_u_at]
              by_cases hj : j = k
              · rw [if_pos ⟨rfl, hj⟩, if_pos hj]
              · rw [if_neg (fun z => hj z.2), if_neg hj, ac_rem_out (by omega) (by omega)]
            have e32 : ∀ j, h2 32 j = if j = k then nI s else g 32 j := fun j => by
              rw [hh2, am_u_at]
              by_cases hj : j = k
              · rw [if_pos ⟨rfl, hj⟩, if_pos hj]
              · rw [if_neg (fun z => hj z.2), if_neg hj, ew 32 j (by omega)]
            refine iv_nowI hN (fun j hj => ?_) ?_
            · rw [e11, e32, e32, e2 12 j (by omega)]
              obtain ⟨c1, c2⟩ := iv_now hN hj hS.1
              rw [if_neg (show ¬ 6 + j = k by omega), c1, c2]
              exact ⟨rfl, rfl⟩
            · rw [e32, if_neg (by omega), e2 10 3 (by omega)]
              exact iv_now12 hS.1
          · have e32 : ∀ j, h2 32 j = if j = k then nI s else g 32 j := fun j => by
              rw [hh2, am_u_at]
              by_cases hj : j = k
              · rw [if_pos ⟨rfl, hj⟩, if_pos hj]
              · rw [if_neg (fun z => hj z.2), if_neg hj, ew 32 j (by omega)]
            intro j hj
            rw [e32, e32, if_neg (show ¬ 6 + j = k by omega)]
            refine ⟨?_, (hS.2 j hj).2⟩
            split
            · exact ⟨s, hs, rfl⟩
            · exact (hS.2 j hj).1
