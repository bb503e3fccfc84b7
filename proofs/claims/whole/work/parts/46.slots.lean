/-! KEPT, GONE ON FROM -/
theorem iv_W.of2 {g h : am_G} {N : Nat} (H : ∀ a b, (a = 3 ∨ a = 4 ∨ a = 5 ∨ a = 6 ∨ a = 7 ∨ a = 8 ∨ a = 9 ∨ (a = 26 ∧ b < 2) ∨ a = 27 ∨ a = 28 ∨ a = 29 ∨ a = 30 ∨ a = 31) → h a b = g a b) (hW : iv_W g N) : iv_W h N := by
  have q : ∀ a, (a = 4 ∨ a = 5 ∨ a = 6 ∨ a = 7 ∨ a = 8 ∨ a = 9 ∨ a = 27 ∨ a = 28 ∨ a = 29 ∨ a = 30 ∨ a = 31) → h a = g a := fun a ha => funext fun b => H a b (by omega)
  have hse' : ∀ k, iv_see h k = iv_see g k := fun k => funext fun o => by simp only [iv_see, q 29 (by decide), q 28 (by decide), q 30 (by decide), H 26 1 (by decide)]
  simp only [iv_W, q 4 (by decide), q 5 (by decide), q 6 (by decide), q 7 (by decide), q 8 (by decide), q 9 (by decide), q 27 (by decide), q 28 (by decide), q 29 (by decide), q 30 (by decide), q 31 (by decide), H 3 7 (by decide), H 26 0 (by decide), H 3 6 (by decide), H 26 1 (by decide), hse']
  exact hW
theorem iv_O.of2 {g h : am_G} {N : Nat} {b : Nat → Int32} (H : h 27 = g 27) (hb : iv_O g N b) : iv_O h N b := by
  intro k hk
  rw [H]
  exact hb k hk
theorem iv_X.of2 {g h : am_G} {len : Nat} (H : ∀ a b, (a = 1 ∨ a = 2 ∨ a = 35 ∨ (a = 26 ∧ b = 14)) → h a b = g a b) (hX : iv_X g len) : iv_X h len := by
  simp only [iv_X, H 1 1 (by decide), H 26 14 (by decide), show h 2 = g 2 from funext fun b => H 2 b (by omega), show h 35 = g 35 from funext fun b => H 35 b (by omega)]
  exact hX
theorem iv_A.of2 {g h : am_G} {N A nx : Nat} (H : ∀ a b, (a = 16 ∨ a = 17 ∨ a = 36 ∨ a = 27 ∨ (a = 26 ∧ (b = 17 ∨ b = 18))) → h a b = g a b) (hA : iv_A g N A nx) : iv_A h N A nx := by
  obtain ⟨a1, a2, a3, a4, a5, a6⟩ := hA
  refine ⟨a1, a2, by rw [H 16 1 (by decide)]; exact a3, by rw [H 26 17 (by decide)]; exact a4, by rw [H 26 18 (by decide)]; exact a5, fun j hj => ?_⟩
  rw [show h 17 = g 17 from funext fun b => H 17 b (by omega), show h 36 = g 36 from funext fun b => H 36 b (by omega)]
  exact ⟨(a6 j hj).1, iv_O.of2 (funext fun b => H 27 b (by omega)) (a6 j hj).2⟩
theorem iv_F.of2 {g h : am_G} {fl : Nat} (H : ∀ a b, (a = 22 ∨ a = 23 ∨ a = 37 ∨ a = 38 ∨ a = 39 ∨ (a = 26 ∧ b = 23)) → h a b = g a b) (hF : iv_F g fl) : iv_F h fl := by
  obtain ⟨b1, b2, b3, b4, b5⟩ := hF
  have q : ∀ a, (a = 22 ∨ a = 23 ∨ a = 37 ∨ a = 38 ∨ a = 39) → h a = g a := fun a ha => funext fun b => H a b (by omega)
  have hf : ∀ s v, iv_fa h s v fl = iv_fa g s v fl := by
    intro s v
    generalize fl = n
    induction n with
    | zero => rfl
    | succ n ih => simp only [iv_fa, ih, iv_f, q 37 (by decide), q 38 (by decide), q 39 (by decide)]
  refine ⟨b1, by rw [q 22 (by decide)]; exact b2, by rw [H 26 23 (by decide)]; exact b3, ?_, ?_⟩
  · rw [q 37 (by decide), q 38 (by decide), q 39 (by decide)]
    exact b4
  · intro s hs
    rw [q 23 (by decide), b5 s hs]
    congr 1
    congr 1
    funext v
    exact (hf s v).symm
theorem iv_S.of2 {g h : am_G} {N : Nat} (H : ∀ a b, (a = 41 ∨ a = 18 ∨ a = 19 ∨ a = 42 ∨ a = 27) → h a b = g a b) (hS : iv_S g N) : iv_S h N := by
  obtain ⟨b1, b2, b3, b4⟩ := hS
  have q : ∀ a, (a = 41 ∨ a = 18 ∨ a = 19 ∨ a = 42 ∨ a = 27) → h a = g a := fun a ha => funext fun b => H a b (by omega)
  rw [iv_S, q 41 (by decide), q 18 (by decide), q 19 (by decide), q 42 (by decide)]
  exact ⟨b1, b2, b3, fun s hs hk => ⟨(b4 s hs hk).1, iv_O.of2 (q 27 (by decide)) (b4 s hs hk).2⟩⟩
theorem iv_C.of2 {g h : am_G} (H : ∀ a b, (a = 11 ∨ a = 12 ∨ a = 10) → h a b = g a b) : iv_C h = iv_C g := by
  funext k
  simp only [iv_C, H 11 _ (by omega), H 12 _ (by omega), H 10 _ (by omega)]
theorem sl_has {p : Int32} : (f_X5_has p = some 0 ∧ f_X8_in (Int32.toInt64 p) (0 : Int64) (1 : Int64) = some 0) ∨ ∃ s, s < 2 ∧ p = nI s ∧ f_X5_has p = some 1 ∧ f_X8_in (Int32.toInt64 p) (0 : Int64) (1 : Int64) = some 1 := by
  rw [pu_l0, pu_l1, pu_in64]
  rcases pu_cases p 2 (by decide) with h | ⟨h1, h2⟩ | ⟨k, hk, rfl⟩
  · left
    refine ⟨by rw [f_X5_has, if_pos h], ?_⟩
    rw [if_neg]
    rintro ⟨q, -⟩
    exact Int32.lt_irrefl (Int32.lt_of_lt_of_le h q)
  · left
    have h2' : (2 : Int32) ≤ p := h2
    refine ⟨by rw [f_X5_has, if_neg h1, if_pos h2'], ?_⟩
    rw [if_neg]
    rintro ⟨-, q⟩
    exact absurd (Int32.le_trans h2' q) (by decide)
  · right
    refine ⟨k, hk, rfl, ?_⟩
    have : k = 0 ∨ k = 1 := by omega
    rcases this with rfl | rfl <;> decide
theorem kp_loop {F n : Nat} (hn : 13 < n) {g : am_G} {s : Nat} (hs : s < 2) : f_X8_keep_21 F (nI s) (fun g => f_X8_keep_50 F (nI s) (g)) n 0 g = some (g 32 12, am_cp g 32 42 0 (13 * s) 13) := by
  have := (pu_loop (fun n i h => f_X8_keep_21 F (nI s) (fun g => f_X8_keep_50 F (nI s) (g)) n (nI i) h) (fun h => some (h 32 12, h)) (fun i h => am_u h 42 (13 * s + i) (g 32 i)) 13 (fun i h => h = am_cp g 32 42 0 (13 * s) i) (fun n i h hi hh => ?_) (fun n h hh => ?_) 13 0 g n (by omega) (by omega) (ac_cp0 ..).symm)
  · obtain ⟨e, e2⟩ := this
    refine e.trans ?_
    rw [e2, am_cp_at, if_neg (by omega)]
  · subst hh
    have e2 : (13 : Int32) * nI s + nI i = nI (13 * s + i) := by
      rw [show (13 : Int32) * nI s = nI (13 * s) from pu_mul 13 s, nI_add]
    have e3 : am_cp g 32 42 0 (13 * s) i 32 i = g 32 i := by rw [am_cp_at, if_neg (by omega)]
    constructor
    · show f_X8_keep_21 F _ _ (n + 1) (nI i) _ = f_X8_keep_21 F _ _ n (nI (i + 1)) _
      rw [f_X8_keep_21.eq_2]
      simp only [e2, pu_tn (show i < 2147483648 by omega), pu_tn (show 13 * s + i < 2147483648 by omega), e3]
      rw [if_neg (show ¬ (13 : Int32) ≤ nI i from nI_ge (b := 13) hi (by decide)), if_pos ((pu_in (by omega)).mpr (by omega)), if_pos ((pu_in (by omega)).mpr (by omega)), show nI i + (1 : Int32) = nI (i + 1) from nI_add i 1]
    · have := ac_cpS g 32 42 0 (13 * s) i
      rwa [Nat.zero_add] at this
  · show f_X8_keep_21 F _ _ (n + 1) (nI 13) _ = _
    rw [f_X8_keep_21.eq_2, if_pos (show (13 : Int32) ≤ nI 13 from by decide)]
    rfl
theorem ag_loop {F n : Nat} (hn : 13 < n) {g : am_G} {s : Nat} (hs : s < 2) : f_X8_again_26 F (nI s) (fun g => f_X8_again_55 F (nI s) (g)) n 0 g = some (g 42 (13 * s + 12), am_u (am_cp g 42 32 (13 * s) 0 13) 26 17 0) := by
  have := (pu_loop (fun n i h => f_X8_again_26 F (nI s) (fun g => f_X8_again_55 F (nI s) (g)) n (nI i) h) (fun h => some (h 32 12, am_u h 26 17 0)) (fun i h => am_u h 32 i (g 42 (13 * s + i))) 13 (fun i h => h = am_cp g 42 32 (13 * s) 0 i) (fun n i h hi hh => ?_) (fun n h hh => ?_) 13 0 g n (by omega) (by omega) (ac_cp0 ..).symm)
  · obtain ⟨e, e2⟩ := this
    refine e.trans ?_
    rw [e2, am_cp_at, if_pos (by omega)]
  · subst hh
    have e2 : (13 : Int32) * nI s + nI i = nI (13 * s + i) := by
      rw [show (13 : Int32) * nI s = nI (13 * s) from pu_mul 13 s, nI_add]
    have e3 : am_cp g 42 32 (13 * s) 0 i 42 (13 * s + i) = g 42 (13 * s + i) := by rw [am_cp_at, if_neg (by omega)]
    constructor
    · show f_X8_again_26 F _ _ (n + 1) (nI i) _ = f_X8_again_26 F _ _ n (nI (i + 1)) _
      rw [f_X8_again_26.eq_2]
      simp only [e2, pu_tn (show i < 2147483648 by omega), pu_tn (show 13 * s + i < 2147483648 by omega), e3]
      rw [if_neg (show ¬ (13 : Int32) ≤ nI i from nI_ge (b := 13) hi (by decide)), if_pos ((pu_in (by omega)).mpr (by omega)), if_pos ((pu_in (by omega)).mpr (by omega)), show nI i + (1 : Int32) = nI (i + 1) from nI_add i 1]
    · have := ac_cpS g 42 32 (13 * s) 0 i
      rwa [Nat.zero_add] at this
  · show f_X8_again_26 F _ _ (n + 1) (nI 13) _ = _
    rw [f_X8_again_26.eq_2, if_pos (show (13 : Int32) ≤ nI 13 from by decide)]
    unfold f_X8_again_55
    rw [am_u_at, if_neg (by omega)]
    rfl
theorem sl_or : ∀ a b : Int32, (a = 0 ∨ a = 1) → (b = 0 ∨ b = 1) → (a + 2 * b) ||| ((1 : Int32) <<< (nI 0 &&& 31)) = 1 + 2 * b ∧ (a + 2 * b) ||| ((1 : Int32) <<< (nI 1 &&& 31)) = a + 2 * 1 ∧ ((((a + 2 * b) >>> (nI 0 &&& 31)) &&& 1) = 1 ↔ a = 1) ∧ ((((a + 2 * b) >>> (nI 1 &&& 31)) &&& 1) = 1 ↔ b = 1) := by
  rintro a b (rfl | rfl) (rfl | rfl) <;> decide
set_option maxHeartbeats 1000000 in
theorem K_keep {F : Nat} (hF : 2000 ≤ F) {g : am_G} {w : am_J} (hI : iv_I g w) (p : Int32) : ∃ (r : Int32) (g1 : am_G) (g2 : am_G), f_X7_keep g p = some (r, g1) ∧ f_X8_keep F g1 p = some (r, g2) ∧ iv_I g2 w := by
  have hI0 := hI
  obtain ⟨len, N, A, nx, fl, hX, hW, hS, hA, hSl, hFo, hw⟩ := hI
  have hN := hW.1
  rcases sl_has (p := p) with ⟨h1, h2⟩ | ⟨s, hs, rfl, h1, h2⟩
  · refine ⟨-1, g, g, ?_, ?_, hI0⟩
    · simp only [f_X7_keep, h1, Option.bind_some]
      rfl
    · simp only [f_X8_keep, h2, Option.bind_some]
      rfl
  · have hm : nI s * (13 : Int32) = nI (13 * s) := by rw [show nI s * (13 : Int32) = nI (s * 13) from pu_mul s 13, Nat.mul_comm]
    obtain ⟨g0, hg0⟩ : ∃ g0, g0 = ac_st g 19 (13 * s) := ⟨_, rfl⟩
    obtain ⟨K, hK⟩ : ∃ K, K = (g 18 1) ||| ((1 : Int32) <<< (nI s &&& 31)) := ⟨_, rfl⟩
    obtain ⟨g1, hg1⟩ : ∃ g1, g1 = am_u g0 18 1 K := ⟨_, rfl⟩
    have e0 : ∀ a b, a ≠ 19 → g0 a b = g a b := fun a b hab => by rw [hg0, ac_st_at _ _ _ _ _ (by omega), if_neg (by omega)]
    have e1 : ∀ a b, a ≠ 19 ∧ a ≠ 18 → g1 a b = g a b := fun a b hab => by rw [hg1, am_u_at, if_neg (by omega), e0 a b (by omega)]
    obtain ⟨g2, hg2⟩ : ∃ g2, g2 = am_u g1 41 s 1 := ⟨_, rfl⟩
    obtain ⟨h, hh⟩ : ∃ h, h = am_cp g2 32 42 0 (13 * s) 13 := ⟨_, rfl⟩
    have eh : ∀ a b, a ≠ 19 ∧ a ≠ 18 ∧ a ≠ 41 ∧ a ≠ 42 → h a b = g a b := fun a b hab => by
      rw [hh, am_cp_at, if_neg (by omega), hg2, am_u_at, if_neg (by omega), e1 a b (by omega)]
    have e41 : ∀ b, h 41 b = if b = s then 1 else g 41 b := fun b => by
      rw [hh, am_cp_at, if_neg (by omega), hg2, am_u_at]
      by_cases q : b = s
      · rw [if_pos ⟨rfl, q⟩, if_pos q]
      · rw [if_neg (fun z => q z.2), if_neg q, e1 41 b (by omega)]
    have e42 : ∀ b, h 42 b = if 13 * s ≤ b ∧ b < 13 * s + 13 then g 32 (b - 13 * s) else g 42 b := fun b => by
      have q0 : ∀ a b, a = 32 ∨ a = 42 → g2 a b = g a b := fun a b hab => by rw [hg2, am_u_at, if_neg (by omega), e1 a b (by omega)]
      rw [hh, am_cp_at]
      by_cases q : 13 * s ≤ b ∧ b < 13 * s + 13
      · rw [if_pos ⟨rfl, q.1, q.2⟩, if_pos q, Nat.zero_add, q0 32 _ (by omega)]
      · rw [if_neg (fun z => q z.2), if_neg q, q0 42 _ (by omega)]
    have e19 : ∀ b, h 19 b = if 13 * s ≤ b ∧ b < 13 * s + 13 then iv_C g (b - 13 * s) else g 19 b := fun b => by
      rw [hh, am_cp_at, if_neg (by omega), hg2, am_u_at, if_neg (by omega), hg1, am_u_at, if_neg (by omega), hg0, ac_st_at _ _ _ _ _ (by omega)]
      by_cases q : 13 * s ≤ b ∧ b < 13 * s + 13
      · rw [if_pos ⟨rfl, q.1, q.2⟩, if_pos q]
      · rw [if_neg (fun z => q z.2), if_neg q]
    have e18 : h 18 1 = K := by rw [hh, am_cp_at, if_neg (by omega), hg2, am_u_at, if_neg (by omega), hg1, am_u_at, if_pos ⟨rfl, rfl⟩]
    refine ⟨g 32 12, g1, h, ?_, ?_, ?_⟩
    · have q1 : g0 18 1 = g 18 1 := e0 18 1 (by omega)
      have q2 : g1 10 3 = g 32 12 := by rw [e1 10 3 (by omega)]; exact iv_now12 hS.1
      simp only [f_X7_keep, h1, Option.bind_some, if_neg pb_10, f_X5_put, hm, ac_store19 hs, ← hg0, q1, ← hK, ← hg1, f_X4_theHour, q2]
    · have q2 : g2 32 12 = g 32 12 := by rw [hg2, am_u_at, if_neg (by omega), e1 32 12 (by omega)]
      have q3 : vp_nar .boolean (1 : Int32) = 1 := by decide
      simp only [f_X8_keep, h2, Option.bind_some, if_neg pb_10, pu_tn (show s < 2147483648 by omega), q3, ← hg2]
      rw [if_pos ((pu_in (by omega)).mpr hs), kp_loop (by omega) hs, q2, ← hh]
    · refine ⟨len, N, A, nx, fl, hX.of2 fun a b hab => eh a b (by omega), hW.of2 fun a b hab => eh a b (by omega), ⟨?_, ?_⟩, hA.of2 fun a b hab => eh a b (by omega), ?_, hFo.of2 fun a b hab => eh a b (by omega), hw⟩
      · rw [iv_C.of2 (fun a b hab => eh a b (by omega)), show h 32 = g 32 from funext fun b => eh 32 b (by omega)]
        exact hS.1
      · rw [show h 32 = g 32 from funext fun b => eh 32 b (by omega)]
        exact hS.2.of2 (funext fun b => eh 27 b (by omega))
      · obtain ⟨b1, b2, b3, b4⟩ := hSl
        have h27 : h 27 = g 27 := funext fun b => eh 27 b (by omega)
        have hs2 : s = 0 ∨ s = 1 := by omega
        refine ⟨?_, ?_, ?_, fun t ht hk => ?_⟩
        · rw [e41]
          split
          · exact Or.inr rfl
          · exact b1
        · rw [e41]
          split
          · exact Or.inr rfl
          · exact b2
        · obtain ⟨c1, c2, -, -⟩ := sl_or _ _ b1 b2
          rw [e18, hK, b3, e41, e41]
          rcases hs2 with rfl | rfl
          · rw [c1]
            rfl
          · rw [c2]
            rfl
        · by_cases hts : t = s
          · subst hts
            constructor
            · constructor
              · intro k hk2
                show h 19 (13 * t + k) = h 42 (13 * t + k) ∧ h 19 (13 * t + (6 + k)) = h 42 (13 * t + (6 + k))
                rw [e19, e19, e42, e42, if_pos (by omega), if_pos (by omega), if_pos (by omega), if_pos (by omega), Nat.add_sub_cancel_left, Nat.add_sub_cancel_left]
                exact hS.1.1 k hk2
              · show h 19 (13 * t + 12) = h 42 (13 * t + 12)
                rw [e19, e42, if_pos (by omega), if_pos (by omega), Nat.add_sub_cancel_left]
                exact hS.1.2
            · refine iv_O.of2 h27 fun k hk2 => ?_
              show iv_b (h 42 (13 * t + k)) 4 ∧ (h 42 (13 * t + (6 + k)) = -9 ∨ ∃ s, s < 4 ∧ h 42 (13 * t + (6 + k)) = g 27 s)
              rw [e42, e42, if_pos (by omega), if_pos (by omega), Nat.add_sub_cancel_left, Nat.add_sub_cancel_left]
              exact hS.2 k hk2
          · rw [e41, if_neg hts] at hk
            obtain ⟨d1, d2⟩ := b4 t ht hk
            constructor
            · constructor
              · intro k hk2
                show h 19 (13 * t + k) = h 42 (13 * t + k) ∧ h 19 (13 * t + (6 + k)) = h 42 (13 * t + (6 + k))
                rw [e19, e19, e42, e42, if_neg (by omega), if_neg (by omega), if_neg (by omega), if_neg (by omega)]
                exact d1.1 k hk2
              · show h 19 (13 * t + 12) = h 42 (13 * t + 12)
                rw [e19, e42, if_neg (by omega), if_neg (by omega)]
                exact d1.2
            · refine iv_O.of2 h27 fun k hk2 => ?_
              show iv_b (h 42 (13 * t + k)) 4 ∧ (h 42 (13 * t + (6 + k)) = -9 ∨ ∃ s, s < 4 ∧ h 42 (13 * t + (6 + k)) = g 27 s)
              rw [e42, e42, if_neg (by omega), if_neg (by omega)]
              exact d2 k hk2
set_option maxHeartbeats 1000000 in
theorem K_again {F : Nat} (hF : 2000 ≤ F) {g : am_G} {w : am_J} (hI : iv_I g w) (p : Int32) : ∃ (r : Int32) (g1 : am_G) (g2 : am_G), f_X7_again g p = some (r, g1) ∧ f_X8_again F g1 p = some (r, g2) ∧ iv_I g2 w := by
  have hI0 := hI
  obtain ⟨len, N, A, nx, fl, hX, hW, hS, hA, hSl, hFo, hw⟩ := hI
  have hN := hW.1
  rcases sl_has (p := p) with ⟨h1, h2⟩ | ⟨s, hs, rfl, h1, h2⟩
  · refine ⟨-1, g, g, ?_, ?_, hI0⟩
    · simp only [f_X7_again, h1, Option.bind_some]
      rfl
    · simp only [f_X8_again, h2, Option.bind_some]
      rfl
  · obtain ⟨b1, b2, b3, b4⟩ := hSl
    have hs2 : s = 0 ∨ s = 1 := by omega
    have h41 : g 41 s = 0 ∨ g 41 s = 1 := by
      rcases hs2 with rfl | rfl
      · exact b1
      · exact b2
    have hbit : ((((g 18 1) >>> (nI s &&& 31)) &&& 1) = 1 ↔ g 41 s = 1) := by
      obtain ⟨-, -, c3, c4⟩ := sl_or _ _ b1 b2
      rw [b3]
      rcases hs2 with rfl | rfl
      · exact c3
      · exact c4
    by_cases hk : g 41 s = 1
    · have hm : nI s * (13 : Int32) = nI (13 * s) := by rw [show nI s * (13 : Int32) = nI (s * 13) from pu_mul s 13, Nat.mul_comm]
      obtain ⟨g0, hg0⟩ : ∃ g0, g0 = ac_re g 19 (13 * s) := ⟨_, rfl⟩
      obtain ⟨g1, hg1⟩ : ∃ g1, g1 = am_u g0 16 1 0 := ⟨_, rfl⟩
      obtain ⟨h, hh⟩ : ∃ h, h = am_u (am_cp g1 42 32 (13 * s) 0 13) 26 17 0 := ⟨_, rfl⟩
      have e1 : ∀ a b, a ≠ 11 ∧ a ≠ 12 ∧ a ≠ 10 ∧ (a ≠ 16 ∨ b ≠ 1) → g1 a b = g a b := fun a b hab => by rw [hg1, am_u_at, if_neg (by omega), hg0, ac_re_out (by omega) (by omega)]
      have eh : ∀ a b, a ≠ 11 ∧ a ≠ 12 ∧ a ≠ 10 ∧ (a ≠ 16 ∨ b ≠ 1) ∧ a ≠ 32 ∧ (a ≠ 26 ∨ b ≠ 17) → h a b = g a b := fun a b hab => by
        rw [hh, am_u_at, if_neg (by omega), am_cp_at, if_neg (by omega), e1 a b (by omega)]
      have q : ∀ a c, (a = 11 ∨ a = 12 ∨ a = 10) → h a c = g0 a c := fun a c hac => by rw [hh, am_u_at, if_neg (by omega), am_cp_at, if_neg (by omega), hg1, am_u_at, if_neg (by omega)]
      have eh32 : ∀ b, b < 13 → h 32 b = g 42 (13 * s + b) := fun b hb => by
        rw [hh, am_u_at, if_neg (by omega), am_cp_at, if_pos ⟨rfl, by omega, by omega⟩, Nat.sub_zero, e1 42 _ (by omega)]
      have ehC : ∀ b, b < 13 → iv_C h b = g 19 (13 * s + b) := fun b hb => by
        unfold iv_C
        by_cases c1 : b < 6
        · rw [if_pos c1, q 11 b (by omega), hg0, ac_re_at _ _ _ _ _ (by omega), if_pos ⟨rfl, c1⟩]
        · rw [if_neg c1]
          by_cases c2 : b < 12
          · rw [if_pos c2, q 12 (b - 6) (by omega), hg0, ac_re_at _ _ _ _ _ (by omega), if_neg (by omega), if_pos ⟨rfl, by omega⟩]
            congr 1
            omega
          · rw [if_neg c2, q 10 3 (by omega), hg0, ac_re_at _ _ _ _ _ (by omega), if_neg (by omega), if_neg (by omega), if_pos ⟨rfl, rfl⟩]
            congr 1
            omega
      obtain ⟨d1, d2⟩ := b4 s hs hk
      have hK : f_X5_isKept g (nI s) = some 1 := by
        simp only [f_X5_isKept, h1, Option.bind_some, if_neg pb_10, if_pos (hbit.mpr hk)]
      refine ⟨g 42 (13 * s + 12), g1, h, ?_, ?_, ?_⟩
      · have q2 : g1 10 3 = g 42 (13 * s + 12) := by
          rw [hg1, am_u_at, if_neg (by omega), hg0, ac_re_at _ _ _ _ _ (by omega), if_neg (by omega), if_neg (by omega), if_pos ⟨rfl, rfl⟩]
          exact d1.2
        simp only [f_X7_again, h1, Option.bind_some, if_neg pb_10, hK, f_X5_giveBack, hm, ac_restore19 hs, ← hg0, f_X0_clear, ← hg1, f_X4_theHour, q2]
      · have q2 : g1 41 s = 1 := by rw [e1 41 s (by omega), hk]
        have q4 : g1 42 (13 * s + 12) = g 42 (13 * s + 12) := e1 42 _ (by omega)
        simp only [f_X8_again, h2, Option.bind_some, if_neg pb_10, pu_tn (show s < 2147483648 by omega), q2]
        rw [if_pos ((pu_in (by omega)).mpr hs), ag_loop (by omega) hs, q4, ← hh]
      · have hr : iv_rest g h := iv_rest.of fun a b hab => eh a b (by omega)
        obtain ⟨t1, t2, t3, t4, t5⟩ := hr.parts hX hW ⟨b1, b2, b3, b4⟩ hFo
        refine ⟨len, N, 0, nx, fl, t1, t2, ⟨⟨fun k hk => ?_, ?_⟩, t5 _ fun k hk => ?_⟩, ⟨by omega, hA.2.1, ?_, ?_, ?_, fun j hj => absurd hj (Nat.not_lt_zero j)⟩, t3, t4, hw⟩
        · rw [ehC k (by omega), ehC (6 + k) (by omega), eh32 k (by omega), eh32 (6 + k) (by omega)]
          exact d1.1 k hk
        · rw [ehC 12 (by omega), eh32 12 (by omega)]
          exact d1.2
        · rw [eh32 k (by omega), eh32 (6 + k) (by omega)]
          exact d2 k hk
        · rw [hh, am_u_at, if_neg (by omega), am_cp_at, if_neg (by omega), hg1, am_u_at, if_pos ⟨rfl, rfl⟩]
          rfl
        · rw [hh, am_u_at, if_pos ⟨rfl, rfl⟩]
          rfl
        · rw [eh 26 18 (by omega)]
          exact hA.2.2.2.2.1
    · refine ⟨-3, g, g, ?_, ?_, hI0⟩
      · have hK : f_X5_isKept g (nI s) = some 0 := by
          simp only [f_X5_isKept, h1, Option.bind_some, if_neg pb_10, if_neg (fun e => hk (hbit.mp e))]
        simp only [f_X7_again, h1, Option.bind_some, if_neg pb_10, hK]
        rfl
      · have q2 : g 41 s = 0 := by
          rcases h41 with e | e
          · exact e
          · exact absurd e hk
        simp only [f_X8_again, h2, Option.bind_some, if_neg pb_10, pu_tn (show s < 2147483648 by omega), q2]
        rw [if_pos ((pu_in (by omega)).mpr hs)]
        rfl
