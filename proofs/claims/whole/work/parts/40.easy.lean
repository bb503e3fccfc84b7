/-! write, wipe, seed, will, window -/
theorem K_write {F : Nat} (hF : 2000 ≤ F) {g : am_G} {w : am_J} (hI : iv_I g w) (p : Int32) : ∃ (r : Int32) (g1 : am_G) (g2 : am_G), f_X7_write g p = some (r, g1) ∧ f_X8_write g1 p = some (r, g2) ∧ iv_I g2 w := by
  have hI0 := hI
  obtain ⟨len, N, A, nx, fl, hX, hW, hS, hA, hSl, hFo, hw⟩ := hI
  obtain ⟨hl, h11, h14, htx⟩ := hX
  rcases pu_cases p 256 (by decide) with h | ⟨h1, h2⟩ | ⟨k, hk, rfl⟩
  · refine ⟨-2, g, g, ?_, ?_, hI0⟩
    · unfold f_X7_write; rw [if_pos h]
    · unfold f_X8_write
      rw [pu_l0, pu_l255, pu_in64, if_neg (fun q => (fa_of_lt h).2.1 q.1)]
      rfl
  · have h255 : ¬ p ≤ 255 := by
      intro q
      rw [fa_le] at q h2
      have e1 : (255 : Int32).toInt = 255 := by decide
      have e2 : (nI 256).toInt = 256 := by decide
      omega
    refine ⟨-2, g, g, ?_, ?_, hI0⟩
    · unfold f_X7_write; rw [if_neg h1, if_neg h255]
    · unfold f_X8_write
      rw [pu_l0, pu_l255, pu_in64, if_neg (fun q => h255 q.2)]
      rfl
  · have hn0 : ¬ nI k < 0 := pu_nn (by omega)
    have h255 : nI k ≤ 255 := show nI k ≤ nI 255 from nI_le (by omega) (by decide)
    have hin8 : f_X8_in (Int32.toInt64 (nI k)) (0 : Int64) (255 : Int64) = some 1 := by
      rw [pu_l0, pu_l255, pu_in64, if_pos ⟨nI_pos' (by omega), h255⟩]
    by_cases hfull : len = 48
    · subst hfull
      refine ⟨-4, g, g, ?_, ?_, hI0⟩
      · unfold f_X7_write
        rw [if_neg hn0, if_pos h255]
        have e : f_X3_add g (nI k) = some (0, g) := by
          unfold f_X3_add
          rw [h11, if_neg (pu_nn (by decide)), if_neg (by decide)]
        rw [e]
        rfl
      · unfold f_X8_write
        rw [hin8]
        simp only [Option.bind_some]
        rw [if_neg pb_10, h14, if_pos (by decide)]
    · have hlt : len < 48 := by omega
      have hin : am_in (nI len) 48 := (pu_in (by omega)).mpr hlt
      have ht : (nI len).toNatClampNeg = len := pu_tn (by omega)
      have e1 : nI len + 1 = nI (len + 1) := nI_add len 1
      refine ⟨nI (len + 1), am_u (am_u g 2 len (nI k)) 1 1 (nI (len + 1)), am_u (am_u (am_u (am_u g 2 len (nI k)) 1 1 (nI (len + 1))) 35 len (nI k)) 26 14 (nI (len + 1)), ?_, ?_, ?_⟩
      · unfold f_X7_write
        rw [if_neg hn0, if_pos h255]
        have e : f_X3_add g (nI k) = some (1, am_u (am_u g 2 len (nI k)) 1 1 (nI (len + 1))) := by
          unfold f_X3_add
          have e0 : am_u g 2 len (nI k) 1 1 = nI len := by simp [am_u_at, h11]
          simp only [h11, if_neg (pu_nn (show len < 2147483648 by omega)), if_pos (show nI len < 48 from nI_lt (b := 48) hlt (by decide)), if_pos hin, ht, e0, e1]
        rw [e]
        simp only [Option.bind_some]
        rw [if_neg pb_10]
        simp [f_X3_size, am_u_at]
      · unfold f_X8_write
        rw [hin8]
        have e0 : (am_u (am_u g 2 len (nI k)) 1 1 (nI (len + 1))) 26 14 = nI len := by simp [am_u_at, h14]
        have e2 : (am_u (am_u (am_u g 2 len (nI k)) 1 1 (nI (len + 1))) 35 len (nI k)) 26 14 = nI len := by simp [am_u_at, h14]
        simp only [Option.bind_some, if_neg pb_10, e0, ht, e2, e1, if_pos hin]
        rw [if_neg (show ¬ nI len = (48 : Int32) from fun q => by have := (pu_eq (a := len) (b := 48) (by omega) (by decide)).mp q; omega)]
        simp [am_u_at]
      · refine ⟨len + 1, N, A, nx, fl, ⟨by omega, by simp [am_u_at], by simp [am_u_at], fun j hj => ?_⟩, ?_⟩
        · simp only [am_u_at]
          by_cases hjl : j = len
          · subst hjl
            simp
            exact ⟨k, hk, rfl⟩
          · simp [hjl]
            exact htx j hj
        · have hsame : iv_same g (am_u (am_u (am_u (am_u g 2 len (nI k)) 1 1 (nI (len + 1))) 35 len (nI k)) 26 14 (nI (len + 1))) → True := fun _ => trivial
          have hse : ∀ a, iv_see (am_u (am_u (am_u (am_u g 2 len (nI k)) 1 1 (nI (len + 1))) 35 len (nI k)) 26 14 (nI (len + 1))) a = iv_see g a := fun a => funext fun o => by simp [iv_see, am_u_at]
          have hC : iv_C (am_u (am_u (am_u (am_u g 2 len (nI k)) 1 1 (nI (len + 1))) 35 len (nI k)) 26 14 (nI (len + 1))) = iv_C g := by funext a; simp [iv_C, am_u_at]
          refine ⟨?_, ⟨?_, ?_⟩, ?_, ?_, ?_, hw⟩
          · simpa [iv_W, am_u_at, hse] using hW
          · rw [hC]; simpa [iv_E, am_u_at] using hS.1
          · simpa [iv_O, am_u_at] using hS.2
          · simpa [iv_A, iv_E, iv_O, am_u_at] using hA
          · simpa [iv_S, iv_E, iv_O, am_u_at] using hSl
          · have hf : ∀ s v n, iv_fa (am_u (am_u (am_u (am_u g 2 len (nI k)) 1 1 (nI (len + 1))) 35 len (nI k)) 26 14 (nI (len + 1))) s v n = iv_fa g s v n := by
              intro s v n
              induction n with
              | zero => rfl
              | succ n ih => simp [iv_fa, ih, iv_f, am_u_at]
            simpa [iv_F, am_u_at, hf] using hFo

theorem K_wipe {F : Nat} (hF : 2000 ≤ F) {g : am_G} {w : am_J} (hI : iv_I g w) : ∃ (r : Int32) (g1 : am_G) (g2 : am_G), f_X7_wipe g = some (r, g1) ∧ f_X8_wipe g1 = some (r, g2) ∧ iv_I g2 w := by
  obtain ⟨len, N, A, nx, fl, hX, hW, hS, hA, hSl, hFo, hw⟩ := hI
  obtain ⟨hl, h11, h14, htx⟩ := hX
  refine ⟨nI len, am_u g 1 1 0, am_u (am_u g 1 1 0) 26 14 0, ?_, ?_, ?_⟩
  · simp [f_X7_wipe, f_X3_size, f_X3_clear, h11]
  · simp [f_X8_wipe, am_u_at, h14]
  · have hse : ∀ a, iv_see (am_u (am_u g 1 1 0) 26 14 0) a = iv_see g a := fun a => funext fun o => by simp [iv_see, am_u_at]
    have hC : iv_C (am_u (am_u g 1 1 0) 26 14 0) = iv_C g := by funext a; simp [iv_C, am_u_at]
    have hf : ∀ s v n, iv_fa (am_u (am_u g 1 1 0) 26 14 0) s v n = iv_fa g s v n := by
      intro s v n
      induction n with
      | zero => rfl
      | succ n ih => simp [iv_fa, ih, iv_f, am_u_at]
    refine ⟨0, N, A, nx, fl, ⟨by omega, by simp [am_u_at]; rfl, by simp [am_u_at]; rfl, fun j hj => ?_⟩, ?_, ⟨?_, ?_⟩, ?_, ?_, ?_, hw⟩
    · simp [am_u_at]; exact htx j hj
    · simpa [iv_W, am_u_at, hse] using hW
    · rw [hC]; simpa [iv_E, am_u_at] using hS.1
    · simpa [iv_O, am_u_at] using hS.2
    · simpa [iv_A, iv_E, iv_O, am_u_at] using hA
    · simpa [iv_S, iv_E, iv_O, am_u_at] using hSl
    · simpa [iv_F, am_u_at, hf] using hFo
theorem K_seed {F : Nat} (hF : 2000 ≤ F) {g : am_G} {w : am_J} (hI : iv_I g w) (j : Int64) : ∃ (r : Int64) (w1 : am_J) (w2 : am_J), f_X7_seed w j = some (r, w1) ∧ f_X8_seed w1 j = some (r, w2) ∧ iv_I g w2 := by
  obtain ⟨len, N, A, nx, fl, hX, hW, hS, hA, hSl, hFo, hw⟩ := hI
  refine ⟨w 0 10, am_ul w 0 10 j, am_ul (am_ul w 0 10 j) 26 28 j, rfl, ?_, len, N, A, nx, fl, hX, hW, hS, hA, hSl, hFo, ?_⟩
  · unfold f_X8_seed
    have : am_ul w 0 10 j 26 28 = w 0 10 := by rw [am_ul_at, if_neg (by decide), hw]
    rw [this]
  · simp [am_ul_at]
theorem pb_both {α : Type} {T : Option α} (h : ∃ r, T = some r) : ∃ r, T = some r ∧ T = some r := h.elim fun r e => ⟨r, e, e⟩
theorem pb_range {N : Nat} (hN : N ≤ 6) (p : Int32) : (p < 0 ∨ (¬ p < 0 ∧ nI N ≤ p)) ∨ ∃ k, k < N ∧ p = nI k := by
  rcases pu_cases p N (by omega) with h | h | h
  · exact Or.inl (Or.inl h)
  · exact Or.inl (Or.inr h)
  · exact Or.inr h
theorem K_will {F : Nat} (hF : 2000 ≤ F) {g : am_G} {w : am_J} (hI : iv_I g w) (p : Int32) (q : Int32) (x : Int32) : ∃ (r : Int32), f_X7_will g p q x = some r ∧ f_X8_will g p q x = some r := by
  obtain ⟨len, N, A, nx, fl, hX, hW, hS, hA, hSl, hFo, hw⟩ := hI
  rcases pb_range hW.1 p with h | ⟨k, hk, rfl⟩
  · refine ⟨-1, ?_, ?_⟩
    · simp [f_X7_will, (pb_no hW h).1]
    · simp [f_X8_will, (pb_no hW h).2]
  · have hN := hW.1
    have h6 : am_in (nI k) 6 := pb_i6 (by omega)
    have ht := pu_tn (show k < 2147483648 by omega)
    have hkind : g 8 k = g 31 k := (hW.2.2.2.2.2.2 k hk).2.2.2.1.1
    simp only [f_X7_will, f_X8_will, (pb_yes hW hk).1, (pb_yes hW hk).2, Option.bind_some, if_neg pb_10, ← pb_isState, pb_kind hW hk, hkind, if_pos h6, ht]
    rcases pb_isState_cases q with hq | ⟨s, hs, rfl, hq⟩
    · exact ⟨-2, by simp [hq], by simp [hq]⟩
    · rcases pb_isState_cases x with hx | ⟨t, ht, rfl, hx⟩
      · exact ⟨-2, by simp [hq, hx], by simp [hq, hx]⟩
      · simp only [hq, hx, Option.bind_some, if_neg pb_10]
        refine pb_both ?_
        repeat' (first | exact ⟨_, rfl⟩ | split)
theorem K_window {F : Nat} (hF : 2000 ≤ F) {g : am_G} {w : am_J} (hI : iv_I g w) (p : Int32) (q : Int32) : ∃ (r : Int32), f_X7_window g p q = some r ∧ f_X8_window F g p q = some r := by
  obtain ⟨len, N, A, nx, fl, hX, hW, hS, hA, hSl, hFo, hw⟩ := hI
  rcases pb_range hW.1 p with h | ⟨k, hk, rfl⟩
  · refine ⟨-1, ?_, ?_⟩
    · simp [f_X7_window, (pb_no hW h).1]
    · simp [f_X8_window, (pb_no hW h).2]
  · have hN := hW.1
    have h6 : am_in (nI k) 6 := pb_i6 (by omega)
    have h26 : am_in (nI k) 26 := (pu_in (by omega)).mpr (by omega)
    have h66 : (6 : Int32) + nI k = nI (6 + k) := nI_add 6 k
    have h266 : am_in (nI (6 + k)) 26 := (pu_in (by omega)).mpr (by omega)
    have ht := pu_tn (show k < 2147483648 by omega)
    have ht6 := pu_tn (show 6 + k < 2147483648 by omega)
    have hk6 : k < 6 := by omega
    obtain ⟨hw1, hw2, hw3, hw4, hw5⟩ := hW.2.2.2.2.2.2 k hk
    have hst := (hS.1.1 k hk)
    simp only [iv_C, if_pos hk6, if_neg (show ¬ 6 + k < 6 by omega), if_pos (show 6 + k < 12 by omega), Nat.add_sub_cancel_left] at hst
    have hb := (hS.2 k hk).1
    have hb2 : iv_b (g 11 k) 4 := by rw [hst.1]; exact hb
    have hword : g 4 (g 32 k).toNatClampNeg = g 27 (g 32 k).toNatClampNeg := by
      obtain ⟨s, hs, e⟩ := hb
      rw [e, pu_tn (by omega)]
      exact (hW.2.2.2.2.2.1 s hs).1
    simp only [f_X7_window, f_X8_window, (pb_yes hW hk).1, (pb_yes hW hk).2, Option.bind_some, if_neg pb_10, pb_place hW hk, pb_side hW hk, pb_floor hW hk, pb_state hW hk, pb_kind hW hk, pb_word hW hk hb2, pb_sees hW hk, pb_due hW hk, pb_word8 hk6 hb, bi_seen (show 7 ≤ F by omega) hW hk6, if_pos h6, if_pos h26, h66, if_pos h266, ht, ht6, hw1.1, hw2.1, hw3.1, hw4.1, hw5, hst.1, hst.2, hword]
    refine pb_both ?_
    repeat' (first | exact ⟨_, rfl⟩ | split)
