/-! windows that there are, and what they hold -/
theorem pb_no {g : am_G} {N : Nat} (hW : iv_W g N) {p : Int32} (h : p < 0 ∨ (¬ p < 0 ∧ nI N ≤ p)) : f_X2_has g p = some 0 ∧ f_X8_isWindow g p = some 0 := by
  obtain ⟨hN, h37, h260, -⟩ := hW
  have hnot : ¬ ((0 : Int32) ≤ p ∧ p ≤ nI N - 1) := by
    rintro ⟨q1, q2⟩
    rcases h with h | ⟨h1, h2⟩
    · exact (fa_of_lt h).2.1 q1
    · rw [fa_le] at q2 h2
      have e : (nI N - 1).toInt = (N : Int) - 1 := by
        rcases Nat.eq_zero_or_pos N with h0 | h0
        · subst h0; decide
        · have := pu_sub (a := N) (b := 1) h0
          have e2 : nI N - 1 = nI (N - 1) := this
          rw [e2, nI_toInt (by omega)]; omega
      rw [e] at q2
      rw [nI_toInt (by omega)] at h2
      omega
  constructor
  · unfold f_X2_has
    rcases h with h | ⟨h1, h2⟩
    · rw [if_pos h]
    · rw [if_neg h1, h37, if_pos h2]
  · unfold f_X8_isWindow
    rw [pu_l0, pu_in64, h260, if_neg hnot]
    rfl
theorem pb_yes {g : am_G} {N : Nat} (hW : iv_W g N) {k : Nat} (h : k < N) : f_X2_has g (nI k) = some 1 ∧ f_X8_isWindow g (nI k) = some 1 := by
  obtain ⟨hN, h37, h260, -⟩ := hW
  have e2 : nI N - 1 = nI (N - 1) := pu_sub (a := N) (b := 1) (by omega)
  constructor
  · unfold f_X2_has
    rw [if_neg (pu_nn (by omega)), h37, if_neg (by rw [pu_le (by omega) (by omega)]; omega), if_neg (by rw [pu_ler (by omega) (by omega)]; omega)]
  · unfold f_X8_isWindow
    rw [pu_l0, pu_in64, h260, e2, if_pos ⟨nI_pos' (by omega), nI_le (by omega) (by omega)⟩]
    rfl
section PB
variable {g : am_G} {N k : Nat}
theorem pb_10 : ¬ (1 : Int32) = 0 := by decide
theorem pb_i6 {k : Nat} (h : k < 6) : am_in (nI k) 6 := (pu_in (by omega)).mpr h
theorem pb_side (hW : iv_W g N) (h : k < N) : f_X2_side g (nI k) = some (g 6 k) := by
  have hN := hW.1
  simp only [f_X2_side, (pb_yes hW h).1, Option.bind_some, if_neg pb_10, if_pos (pb_i6 (show k < 6 by omega)), pu_tn (show k < 2147483648 by omega)]
theorem pb_place (hW : iv_W g N) (h : k < N) : f_X2_place g (nI k) = some (g 5 k) := by
  have hN := hW.1
  simp only [f_X2_place, (pb_yes hW h).1, Option.bind_some, if_neg pb_10, if_pos (pb_i6 (show k < 6 by omega)), pu_tn (show k < 2147483648 by omega)]
theorem pb_floor (hW : iv_W g N) (h : k < N) : f_X2_floor g (nI k) = some (g 7 k) := by
  have hN := hW.1
  simp only [f_X2_floor, (pb_yes hW h).1, Option.bind_some, if_neg pb_10, if_pos (pb_i6 (show k < 6 by omega)), pu_tn (show k < 2147483648 by omega)]
theorem pb_kind (hW : iv_W g N) (h : k < N) : f_X2_kind g (nI k) = some (g 8 k) := by
  have hN := hW.1
  simp only [f_X2_kind, (pb_yes hW h).1, Option.bind_some, if_neg pb_10, if_pos (pb_i6 (show k < 6 by omega)), pu_tn (show k < 2147483648 by omega)]
theorem pb_sees (hW : iv_W g N) (h : k < N) : f_X2_sees g (nI k) = some (g 9 k) := by
  have hN := hW.1
  simp only [f_X2_sees, (pb_yes hW h).1, Option.bind_some, if_neg pb_10, if_pos (pb_i6 (show k < 6 by omega)), pu_tn (show k < 2147483648 by omega)]
theorem pb_due (hW : iv_W g N) (h : k < N) : f_X4_due g (nI k) = some (g 12 k) := by
  have hN := hW.1
  simp only [f_X4_due, (pb_yes hW h).1, Option.bind_some, if_neg pb_10, if_pos (pb_i6 (show k < 6 by omega)), pu_tn (show k < 2147483648 by omega)]
theorem pb_state (hW : iv_W g N) (h : k < N) : f_X4_state_10 g (nI k) = some (g 11 k) := by
  have hN := hW.1
  simp only [f_X4_state_10, (pb_yes hW h).1, Option.bind_some, if_neg pb_10, if_pos (pb_i6 (show k < 6 by omega)), pu_tn (show k < 2147483648 by omega)]
theorem pb_state13 (hW : iv_W g N) (h : k < N) : f_X4_state_13 g (nI k) = some (g 14 k) := by
  have hN := hW.1
  simp only [f_X4_state_13, (pb_yes hW h).1, Option.bind_some, if_neg pb_10, if_pos (pb_i6 (show k < 6 by omega)), pu_tn (show k < 2147483648 by omega)]
theorem pb_isState_yes {s : Nat} (h : s < 4) : f_X7_isState (nI s) = some 1 := by
  unfold f_X7_isState
  rw [if_neg (pu_nn (by omega)), if_neg (by rw [pu_ler (by omega) (by omega)]; omega)]
theorem pb_isWord_eq (p : Int32) : f_X7_isWord p = f_X7_isState p := rfl
/-- the class's and the reference's look at a number from 0 to 3 -/
theorem pb_isState (p : Int32) : f_X7_isState p = f_X8_in (Int32.toInt64 p) (0 : Int64) (3 : Int64) := by
  rw [pu_l0, pu_l3, pu_in64]
  unfold f_X7_isState
  by_cases h : p < 0
  · rw [if_pos h, if_neg (fun q => (fa_of_lt h).2.1 q.1)]
  · rw [if_neg h]
    by_cases h2 : (4 : Int32) ≤ p
    · rw [if_pos h2, if_neg]
      rintro ⟨-, q⟩
      rw [fa_le] at h2 q
      have e4 : (4 : Int32).toInt = 4 := by decide
      have e3 : (3 : Int32).toInt = 3 := by decide
      omega
    · rw [if_neg h2, if_pos]
      refine ⟨fa_of_nlt h, ?_⟩
      rw [fa_le] at h2 ⊢
      have e4 : (4 : Int32).toInt = 4 := by decide
      have e3 : (3 : Int32).toInt = 3 := by decide
      omega
theorem pb_isState_cases (p : Int32) : f_X7_isState p = some 0 ∨ ∃ s, s < 4 ∧ p = nI s ∧ f_X7_isState p = some 1 := by
  rcases pu_cases p 4 (by decide) with h | ⟨h1, h2⟩ | ⟨s, hs, rfl⟩
  · left; unfold f_X7_isState; rw [if_pos h]
  · left; unfold f_X7_isState; rw [if_neg h1, if_pos (show (4 : Int32) ≤ p from h2)]
  · exact Or.inr ⟨s, hs, rfl, pb_isState_yes hs⟩
theorem pb_wordOf {s : Nat} (h : s < 4) : f_X2_wordOf g (nI s) = some (g 4 s) := by
  simp only [f_X2_wordOf, pb_isState_yes h, Option.bind_some, if_neg pb_10, if_pos ((pu_in (a := s) (n := 4) (by omega)).mpr h), pu_tn (show s < 2147483648 by omega)]
end PB
/-- the words of a window, now and in a trial -/
theorem pb_word {g : am_G} {N k : Nat} (hW : iv_W g N) (h : k < N) (hs : iv_b (g 11 k) 4) : f_X4_word_10 g (nI k) = some (g 4 (g 11 k).toNatClampNeg) := by
  obtain ⟨s, h1, h2⟩ := hs
  simp only [f_X4_word_10, pb_state hW h, Option.bind_some, h2, pb_wordOf h1]
  rw [pu_tn (by omega)]
theorem pb_word13 {g : am_G} {N k : Nat} (hW : iv_W g N) (h : k < N) (hs : iv_b (g 14 k) 4) : f_X4_word_13 g (nI k) = some (g 4 (g 14 k).toNatClampNeg) := by
  obtain ⟨s, h1, h2⟩ := hs
  simp only [f_X4_word_13, pb_state13 hW h, Option.bind_some, h2, pb_wordOf h1]
  rw [pu_tn (by omega)]
theorem pb_word8 {g : am_G} {k : Nat} (h : k < 6) (hs : iv_b (g 32 k) 4) : f_X8_wordOf g 0 (nI k) = some (g 27 (g 32 k).toNatClampNeg) := by
  obtain ⟨s, h1, h2⟩ := hs
  have e : (13 : Int32) * 0 + nI k = nI k := by simp
  simp only [f_X8_wordOf, e, if_pos ((pu_in (a := k) (n := 26) (by omega)).mpr (by omega)), pu_tn (show k < 2147483648 by omega), h2, if_pos ((pu_in (a := s) (n := 4) (by omega)).mpr h1)]
theorem pb_word81 {g : am_G} {k : Nat} (h : k < 6) (hs : iv_b (g 32 (13 + k)) 4) : f_X8_wordOf g 1 (nI k) = some (g 27 (g 32 (13 + k)).toNatClampNeg) := by
  obtain ⟨s, h1, h2⟩ := hs
  have e : (13 : Int32) * 1 + nI k = nI (13 + k) := by
    rw [← nI_add]; rfl
  simp only [f_X8_wordOf, e, if_pos ((pu_in (a := 13 + k) (n := 26) (by omega)).mpr (by omega)), pu_tn (show 13 + k < 2147483648 by omega), h2, if_pos ((pu_in (a := s) (n := 4) (by omega)).mpr h1)]
/-- two that see each other, by the reference -/
theorem pb_sees8 {g : am_G} {k o : Nat} (hk : k < 6) (ho : o < 6) : f_X8_sees g (nI k) (nI o) = some (if iv_see g k o then 1 else 0) := by
  have hk2 := (pu_in (a := k) (n := 6) (by omega)).mpr hk
  have ho2 := (pu_in (a := o) (n := 6) (by omega)).mpr ho
  unfold f_X8_sees
  simp only [if_pos hk2, if_pos ho2, pu_tn (show k < 2147483648 by omega), pu_tn (show o < 2147483648 by omega)]
  by_cases h1 : g 29 k = g 29 o
  · rw [if_pos h1]
    simp [iv_see, h1]
  · rw [if_neg h1, pu_in64]
    by_cases h2 : (-(g 26 1) ≤ g 28 k - g 28 o ∧ g 28 k - g 28 o ≤ g 26 1)
    · rw [if_pos h2]
      simp only [Option.bind_some]
      rw [if_neg (by decide), pu_lm1, pu_l1, pu_in64]
      by_cases h3 : (-1 ≤ g 30 k - g 30 o ∧ g 30 k - g 30 o ≤ 1)
      · rw [if_pos h3]
        simp [iv_see, h1, h2, h3]
      · rw [if_neg h3]
        simp only [Option.bind_some]
        simp only [iv_see, h3, and_false, decide_false, if_true]
        rfl
    · rw [if_neg h2]
      simp only [Option.bind_some]
      simp only [iv_see, h2, false_and, and_false, decide_false, if_true]
      rfl
