/-! UNDONE, KEPT, GONE ON FROM -/
/-- the class lays a row's place back -/
def ac_re (g : am_G) (S at_ : Nat) : am_G := am_u (am_cp (am_cp g S 11 at_ 0 6) S 12 (at_ + 6) 0 6) 10 3 (g S (at_ + 12))
theorem ac_re_at (g : am_G) (S at_ a b : Nat) (hS : S ≠ 11 ∧ S ≠ 12 ∧ S ≠ 10) : ac_re g S at_ a b = if a = 11 ∧ b < 6 then g S (at_ + b) else if a = 12 ∧ b < 6 then g S (at_ + 6 + b) else if a = 10 ∧ b = 3 then g S (at_ + 12) else g a b := by
  unfold ac_re
  rw [am_u_at, am_cp_at, am_cp_at, am_cp_at]
  by_cases c1 : a = 11 ∧ b < 6
  · obtain ⟨rfl, c1⟩ := c1
    rw [if_pos (show 11 = 11 ∧ b < 6 from ⟨rfl, c1⟩), if_neg (by omega), if_neg (by omega), if_pos ⟨rfl, by omega, by omega⟩, Nat.sub_zero]
  · rw [if_neg c1]
    by_cases c2 : a = 12 ∧ b < 6
    · obtain ⟨rfl, c2⟩ := c2
      rw [if_pos (show 12 = 12 ∧ b < 6 from ⟨rfl, c2⟩), if_neg (by omega), if_pos ⟨rfl, by omega, by omega⟩, if_neg (by omega), Nat.sub_zero]
    · rw [if_neg c2]
      by_cases c3 : a = 10 ∧ b = 3
      · rw [if_pos c3, if_pos c3]
      · rw [if_neg c3, if_neg c3, if_neg (by omega), if_neg (by omega)]
theorem ac_re_out {g : am_G} {S at_ a b : Nat} (hS : S ≠ 11 ∧ S ≠ 12 ∧ S ≠ 10) (h : a ≠ 11 ∧ a ≠ 12 ∧ a ≠ 10) : ac_re g S at_ a b = g a b := by
  rw [ac_re_at g S at_ a b hS, if_neg (by omega), if_neg (by omega), if_neg (by omega)]
theorem ac_restore17 {g : am_G} {A : Nat} (hA : A < 14) : f_X4_restore_10_17 g (nI (13 * A)) = some (ac_re g 17 (13 * A)) := by
  have e6 : nI (13 * A) + (6 : Int32) = nI (13 * A + 6) := nI_add (13 * A) 6
  have e12 : nI (13 * A) + (13 : Int32) - (1 : Int32) = nI (13 * A + 12) := by
    rw [show nI (13 * A) + (13 : Int32) = nI (13 * A + 13) from nI_add (13 * A) 13]
    exact pu_sub (a := 13 * A + 13) (b := 1) (by omega)
  have t0 : Int32.toNatClampNeg (0 : Int32) = 0 := by decide
  have t6 : Int32.toNatClampNeg (6 : Int32) = 6 := by decide
  have t1 := pu_tn (show 13 * A < 2147483648 by omega)
  have t2 := pu_tn (show 13 * A + 6 < 2147483648 by omega)
  have t3 := pu_tn (show 13 * A + 12 < 2147483648 by omega)
  have n1 := pu_nn (show 13 * A < 2147483648 by omega)
  have n2 := pu_nn (show 13 * A + 6 < 2147483648 by omega)
  have hr : (am_cp (am_cp g 17 11 (13 * A) 0 6) 17 12 (13 * A + 6) 0 6) 17 (13 * A + 12) = g 17 (13 * A + 12) := by
    rw [am_cp_at, if_neg (by simp), am_cp_at, if_neg (by simp)]
  unfold f_X4_restore_10_17
  simp only [e6, e12, t0, t6, t1, t2, t3, hr]
  have e169 : Int32.ofNat 182 - (13 : Int32) = nI 169 := by decide
  rw [if_neg n1, e169, if_pos (nI_le (show 13 * A ≤ 169 by omega) (by decide)), if_pos ⟨⟨n1, by decide⟩, by decide, by omega, by decide⟩, if_pos ⟨⟨n2, by decide⟩, by decide, by omega, by decide⟩, if_pos ((pu_in (by omega)).mpr (by omega))]
  rfl
theorem ac_restore19 {g : am_G} {A : Nat} (hA : A < 2) : f_X4_restore_10_19 g (nI (13 * A)) = some (ac_re g 19 (13 * A)) := by
  have e6 : nI (13 * A) + (6 : Int32) = nI (13 * A + 6) := nI_add (13 * A) 6
  have e12 : nI (13 * A) + (13 : Int32) - (1 : Int32) = nI (13 * A + 12) := by
    rw [show nI (13 * A) + (13 : Int32) = nI (13 * A + 13) from nI_add (13 * A) 13]
    exact pu_sub (a := 13 * A + 13) (b := 1) (by omega)
  have t0 : Int32.toNatClampNeg (0 : Int32) = 0 := by decide
  have t6 : Int32.toNatClampNeg (6 : Int32) = 6 := by decide
  have t1 := pu_tn (show 13 * A < 2147483648 by omega)
  have t2 := pu_tn (show 13 * A + 6 < 2147483648 by omega)
  have t3 := pu_tn (show 13 * A + 12 < 2147483648 by omega)
  have n1 := pu_nn (show 13 * A < 2147483648 by omega)
  have n2 := pu_nn (show 13 * A + 6 < 2147483648 by omega)
  have hr : (am_cp (am_cp g 19 11 (13 * A) 0 6) 19 12 (13 * A + 6) 0 6) 19 (13 * A + 12) = g 19 (13 * A + 12) := by
    rw [am_cp_at, if_neg (by simp), am_cp_at, if_neg (by simp)]
  unfold f_X4_restore_10_19
  simp only [e6, e12, t0, t6, t1, t2, t3, hr]
  have e169 : Int32.ofNat 26 - (13 : Int32) = nI 13 := by decide
  rw [if_neg n1, e169, if_pos (nI_le (show 13 * A ≤ 13 by omega) (by decide)), if_pos ⟨⟨n1, by decide⟩, by decide, by omega, by decide⟩, if_pos ⟨⟨n2, by decide⟩, by decide, by omega, by decide⟩, if_pos ((pu_in (by omega)).mpr (by omega))]
  rfl
theorem ac_store19 {g : am_G} {A : Nat} (hA : A < 2) : f_X4_store_10_19 g (nI (13 * A)) = some (ac_st g 19 (13 * A)) := by
  have e6 : nI (13 * A) + (6 : Int32) = nI (13 * A + 6) := nI_add (13 * A) 6
  have e12 : nI (13 * A) + (13 : Int32) - (1 : Int32) = nI (13 * A + 12) := by
    rw [show nI (13 * A) + (13 : Int32) = nI (13 * A + 13) from nI_add (13 * A) 13]
    exact pu_sub (a := 13 * A + 13) (b := 1) (by omega)
  have t0 : Int32.toNatClampNeg (0 : Int32) = 0 := by decide
  have t6 : Int32.toNatClampNeg (6 : Int32) = 6 := by decide
  have t1 := pu_tn (show 13 * A < 2147483648 by omega)
  have t2 := pu_tn (show 13 * A + 6 < 2147483648 by omega)
  have t3 := pu_tn (show 13 * A + 12 < 2147483648 by omega)
  have n1 := pu_nn (show 13 * A < 2147483648 by omega)
  have n2 := pu_nn (show 13 * A + 6 < 2147483648 by omega)
  have hr : (am_cp (am_cp g 11 19 0 (13 * A) 6) 12 19 0 (13 * A + 6) 6) 10 3 = g 10 3 := by
    rw [am_cp_at, if_neg (by simp), am_cp_at, if_neg (by simp)]
  unfold f_X4_store_10_19
  simp only [e6, e12, t0, t6, t1, t2, t3, hr]
  have e169 : Int32.ofNat 26 - (13 : Int32) = nI 13 := by decide
  rw [if_neg n1, e169, if_pos (nI_le (show 13 * A ≤ 13 by omega) (by decide)), if_pos ⟨⟨by decide, n1⟩, by decide, by decide, by omega⟩, if_pos ⟨⟨by decide, n2⟩, by decide, by decide, by omega⟩, if_pos ((pu_in (by omega)).mpr (by omega))]
  rfl
theorem ud_loop {F n : Nat} (hn : 13 < n) {g : am_G} {nx : Nat} (hnx : nx < 14) (h18 : g 26 18 = nI nx) : f_X8_undo_36 F n 0 g = some (g 26 17, am_cp g 36 32 (13 * nx) 0 13) := by
  have := (pu_loop (fun n i h => f_X8_undo_36 F n (nI i) h) (fun h => some (h 26 17, h)) (fun i h => am_u h 32 i (g 36 (13 * nx + i))) 13 (fun i h => h = am_cp g 36 32 (13 * nx) 0 i) (fun n i h hi hh => ?_) (fun n h hh => ?_) 13 0 g n (by omega) (by omega) (ac_cp0 ..).symm)
  · obtain ⟨e, e2⟩ := this
    refine e.trans ?_
    rw [e2, am_cp_at, if_neg (by omega)]
  · subst hh
    have e1 : am_cp g 36 32 (13 * nx) 0 i 26 18 = nI nx := by rw [am_cp_at, if_neg (by omega), h18]
    have e2 : (13 : Int32) * nI nx + nI i = nI (13 * nx + i) := by
      rw [show (13 : Int32) * nI nx = nI (13 * nx) from pu_mul 13 nx, nI_add]
    have e3 : am_cp g 36 32 (13 * nx) 0 i 36 (13 * nx + i) = g 36 (13 * nx + i) := ac_cpR g 36 32 (13 * nx) 0 i (Or.inl (by decide))
    constructor
    · show f_X8_undo_36 F (n + 1) (nI i) _ = f_X8_undo_36 F n (nI (i + 1)) _
      rw [f_X8_undo_36.eq_2]
      simp only [e1, e2, pu_tn (show i < 2147483648 by omega), pu_tn (show 13 * nx + i < 2147483648 by omega), e3]
      rw [if_neg (show ¬ (13 : Int32) ≤ nI i from nI_ge (b := 13) hi (by decide)), if_pos ((pu_in (by omega)).mpr (by omega)), if_pos ((pu_in (by omega)).mpr (by omega)), show nI i + (1 : Int32) = nI (i + 1) from nI_add i 1]
    · have := ac_cpS g 36 32 (13 * nx) 0 i
      rwa [Nat.zero_add] at this
  · show f_X8_undo_36 F (n + 1) (nI 13) _ = _
    rw [f_X8_undo_36.eq_2, if_pos (show (13 : Int32) ≤ nI 13 from by decide)]
set_option maxHeartbeats 1000000 in
theorem K_undo {F : Nat} (hF : 2000 ≤ F) {g : am_G} {w : am_J} (hI : iv_I g w) : ∃ (r : Int32) (g1 : am_G) (g2 : am_G), f_X7_undo g = some (r, g1) ∧ f_X8_undo F g1 = some (r, g2) ∧ iv_I g2 w := by
  have hI0 := hI
  obtain ⟨len, N, A, nx, fl, hX, hW, hS, hA, hSl, hFo, hw⟩ := hI
  have hN := hW.1
  obtain ⟨a1, a2, a3, a4, a5, a6⟩ := hA
  by_cases h0 : A = 0
  · subst h0
    refine ⟨-3, g, g, ?_, ?_, hI0⟩
    · simp only [f_X7_undo, f_X0_size, Option.bind_some, a3]
      rfl
    · simp only [f_X8_undo, a4]
      rfl
  · have hne : ¬ nI A = 0 := fun e => h0 ((pu_eq (b := 0) (by omega) (by decide)).mp e)
    have hle : ¬ nI A ≤ 0 := fun e => by
      have := (pu_le (a := A) (b := 0) (by omega) (by decide)).mp e
      omega
    have hs1 : nI A - (1 : Int32) = nI (A - 1) := pu_sub (a := A) (b := 1) (by omega)
    have hm : nI (A - 1) * (13 : Int32) = nI (13 * (A - 1)) := by rw [show nI (A - 1) * (13 : Int32) = nI ((A - 1) * 13) from pu_mul (A - 1) 13, Nat.mul_comm]
    obtain ⟨g0, hg0⟩ : ∃ g0, g0 = am_u g 16 1 (nI (A - 1)) := ⟨_, rfl⟩
    obtain ⟨g1, hg1⟩ : ∃ g1, g1 = ac_re g0 17 (13 * (A - 1)) := ⟨_, rfl⟩
    have e0 : ∀ a b, (a ≠ 16 ∨ b ≠ 1) → g0 a b = g a b := fun a b hab => by rw [hg0, am_u_at, if_neg (by omega)]
    have e1 : ∀ a b, (a ≠ 11 ∧ a ≠ 12 ∧ a ≠ 10 ∧ (a ≠ 16 ∨ b ≠ 1)) → g1 a b = g a b := fun a b hab => by rw [hg1, ac_re_out (by omega) (by omega), e0 a b (by omega)]
    have e161 : g1 16 1 = nI (A - 1) := by rw [hg1, ac_re_out (by omega) (by omega), hg0, am_u_at, if_pos ⟨rfl, rfl⟩]
    obtain ⟨ny, hny⟩ : ∃ ny, ny = (nx + 13) % 14 := ⟨_, rfl⟩
    have hny2 : ny < 14 := by omega
    obtain ⟨g2, hg2⟩ : ∃ g2, g2 = am_u (am_u g1 26 17 (nI (A - 1))) 26 18 (nI ny) := ⟨_, rfl⟩
    have e2 : ∀ a b, (a ≠ 26 ∨ (b ≠ 17 ∧ b ≠ 18)) → g2 a b = g1 a b := fun a b hab => by rw [hg2, am_u_at, if_neg (by omega), am_u_at, if_neg (by omega)]
    have e217 : g2 26 17 = nI (A - 1) := by rw [hg2, am_u_at, if_neg (by omega), am_u_at, if_pos ⟨rfl, rfl⟩]
    have e218 : g2 26 18 = nI ny := by rw [hg2, am_u_at, if_pos ⟨rfl, rfl⟩]
    obtain ⟨h, hh⟩ : ∃ h, h = am_cp g2 36 32 (13 * ny) 0 13 := ⟨_, rfl⟩
    have eh : ∀ a b, (a ≠ 11 ∧ a ≠ 12 ∧ a ≠ 10 ∧ a ≠ 32 ∧ (a ≠ 16 ∨ b ≠ 1) ∧ (a ≠ 26 ∨ (b ≠ 17 ∧ b ≠ 18))) → h a b = g a b := fun a b hab => by
      rw [hh, am_cp_at, if_neg (by omega), e2 a b (by omega), e1 a b (by omega)]
    have eh32 : ∀ b, b < 13 → h 32 b = g 36 (13 * ny + b) := fun b hb => by
      rw [hh, am_cp_at, if_pos ⟨rfl, by omega, by omega⟩, Nat.sub_zero, e2 36 _ (by omega), e1 36 _ (by omega)]
    have ehC : ∀ b, b < 13 → iv_C h b = g 17 (13 * (A - 1) + b) := fun b hb => by
      have q : ∀ a c, (a = 11 ∨ a = 12 ∨ a = 10) → h a c = g1 a c := fun a c hac => by rw [hh, am_cp_at, if_neg (by omega), e2 a c (by omega)]
      unfold iv_C
      by_cases c1 : b < 6
      · rw [if_pos c1, q 11 b (by omega), hg1, ac_re_at _ _ _ _ _ (by omega), if_pos ⟨rfl, c1⟩, e0 17 _ (by omega)]
      · rw [if_neg c1]
        by_cases c2 : b < 12
        · rw [if_pos c2, q 12 (b - 6) (by omega), hg1, ac_re_at _ _ _ _ _ (by omega), if_neg (by omega), if_pos ⟨rfl, by omega⟩, e0 17 _ (by omega)]
          congr 1
          omega
        · rw [if_neg c2, q 10 3 (by omega), hg1, ac_re_at _ _ _ _ _ (by omega), if_neg (by omega), if_neg (by omega), if_pos ⟨rfl, rfl⟩, e0 17 _ (by omega)]
          congr 1
          omega
    have hj := a6 (A - 1) (by omega)
    have hmod : (nx + 14 - A + (A - 1)) % 14 = ny := by omega
    rw [hmod] at hj
    refine ⟨nI (A - 1), g1, h, ?_, ?_, ?_⟩
    · have eg : g0 16 1 = nI (A - 1) := by rw [hg0, am_u_at, if_pos ⟨rfl, rfl⟩]
      simp only [f_X7_undo, f_X0_size, Option.bind_some, f_X0_giveBack, a3, if_neg hne, if_neg hle, hs1, ← hg0, eg, hm, ac_restore17 (show A - 1 < 14 by omega), ← hg1, e161]
    · have q1 : g1 26 17 = nI A := by rw [e1 26 17 (by omega), a4]
      have q2 : (am_u g1 26 17 (nI (A - 1))) 26 18 = nI nx := by rw [am_u_at, if_neg (by omega), e1 26 18 (by omega), a5]
      have q3 : nI nx + (13 : Int32) - (nI nx + (13 : Int32)) / (14 : Int32) * (14 : Int32) = nI ny := by
        rw [show nI nx + (13 : Int32) = nI (nx + 13) from nI_add nx 13, hny]
        exact pu_rem (a := nx + 13) (b := 14) (by omega) (by decide) (by decide)
      simp only [f_X8_undo, q1, if_neg hne, hs1, q2, q3, ← hg2]
      rw [ud_loop (by omega) hny2 e218, e217, ← hh]
    · have hr : iv_rest g h := iv_rest.of fun a b hab => eh a b (by omega)
      obtain ⟨b1, b2, b3, b4, b5⟩ := hr.parts hX hW hSl hFo
      have t17 : h 17 = g 17 := funext fun b => eh 17 b (by omega)
      have t36 : h 36 = g 36 := funext fun b => eh 36 b (by omega)
      refine ⟨len, N, A - 1, ny, fl, b1, b2, ⟨⟨fun k hk => ?_, ?_⟩, b5 _ fun k hk => ?_⟩, ⟨by omega, hny2, ?_, ?_, ?_, fun j hj2 => ?_⟩, b3, b4, hw⟩
      · rw [ehC k (by omega), ehC (6 + k) (by omega), eh32 k (by omega), eh32 (6 + k) (by omega)]
        exact hj.1.1 k hk
      · rw [ehC 12 (by omega), eh32 12 (by omega)]
        exact hj.1.2
      · rw [eh32 k (by omega), eh32 (6 + k) (by omega)]
        exact hj.2 k hk
      · rw [hh, am_cp_at, if_neg (by omega), e2 16 1 (by omega), e161]
      · rw [hh, am_cp_at, if_neg (by omega), e217]
      · rw [hh, am_cp_at, if_neg (by omega), e218]
      · have hm2 : (ny + 14 - (A - 1) + j) % 14 = (nx + 14 - A + j) % 14 := by omega
        rw [t17, t36, hm2]
        exact ⟨(a6 j (by omega)).1, b5 _ (a6 j (by omega)).2⟩
