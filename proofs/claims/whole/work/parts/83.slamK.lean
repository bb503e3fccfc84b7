/-! SLAMS, the answer -/
theorem sl_f3a : ∀ o, o < 6 → ∀ t, t < 64 → ∀ i, i < 6 → (t.testBit o = true ∨ i = o ∨ (t + 2 ^ o).testBit i = t.testBit i) := by decide +kernel
theorem sl_f3 (o : Nat) (ho : o < 6) (t : Nat) (ht : t < 64) (hb : t.testBit o = false) (i : Nat) (hi : i < 6) (hio : ¬ i = o) : (t + 2 ^ o).testBit i = t.testBit i := by
  rcases sl_f3a o ho t ht i hi with h | h | h
  · rw [hb] at h; cases h
  · exact absurd h hio
  · exact h
theorem sl_f4a : ∀ N, N < 7 → ∀ A, A < 64 → ∀ t, t < 64 → (2 ^ N ≤ A ∨ t < 2 ^ N ∨ ¬ ga_m t A = 0) := by decide +kernel
theorem sl_f4 (N : Nat) (hN : N < 7) (A : Nat) (hA : A < 64) (hA2 : A < 2 ^ N) (t : Nat) (ht : t < 64) (ht2 : 2 ^ N ≤ t) : ¬ ga_m t A = 0 := by
  rcases sl_f4a N hN A hA t ht with h | h | h
  · omega
  · omega
  · exact h
theorem ex_c {P Q : Nat → Bool} : ∀ (d i : Nat), (∀ w, i ≤ w → w < i + d → P w = Q w) → ex_a P i d = ex_a Q i d
  | 0, _, _ => rfl
  | d + 1, i, h => by
    unfold ex_a
    rw [h i (Nat.le_refl i) (by omega), ex_c d (i + 1) (fun w h1 h2 => h w (by omega) (by omega))]
theorem sl_ind {g : am_G} {N k o t : Nat} {W : Int32} (hN : N ≤ 6) (ho : o < 6) (hsee : iv_see g k o = false) (ht : t < 64) (hb : t.testBit o = false) : sl_r g N k W (t + 2 ^ o) = sl_r g N k W t := by
  unfold sl_r
  rw [ex_c (P := sl_q g k W (t + 2 ^ o)) (Q := sl_q g k W t) N 0 (fun w _ hw => ?_)]
  unfold sl_q
  by_cases h : w = o
  · subst h
    rw [hsee]
    rfl
  · rw [sl_f3 o ho t ht hb w (by omega) h]
theorem sl_64 {N A x : Nat} {r : Nat → Nat} (hN : N ≤ 6) (hA : A < 2 ^ N) : sm (fun t => sl_f x A t * r t) 0 (2 ^ N) = sm (fun t => sl_f x A t * r t) 0 64 ∧ sm (sl_f x A) 0 (2 ^ N) = sm (sl_f x A) 0 64 := by
  have hp := pw_le hN
  have z : ∀ t, 2 ^ N ≤ t → t < 64 → sl_f x A t = 0 := fun t h1 h2 => if_neg (sl_f4 N (by omega) A (by omega) hA t h2 h1)
  have e : 64 = 2 ^ N + (64 - 2 ^ N) := by omega
  constructor
  · have h2 : sm (fun t => sl_f x A t * r t) 0 64 = sm (fun t => sl_f x A t * r t) 0 (2 ^ N + (64 - 2 ^ N)) := by rw [← e]
    rw [h2, sm_add, sm_z (64 - 2 ^ N) (0 + 2 ^ N) (fun t h1 h3 => by rw [z t (by omega) (by omega), Nat.zero_mul]), Nat.add_zero]
  · have h2 : sm (sl_f x A) 0 64 = sm (sl_f x A) 0 (2 ^ N + (64 - 2 ^ N)) := by rw [← e]
    rw [h2, sm_add, sm_z (64 - 2 ^ N) (0 + 2 ^ N) (fun t h1 h3 => z t (by omega) (by omega)), Nat.add_zero]
theorem sl_fin {F : Nat} (hF : 100 ≤ F) {g : am_G} (p1 p2 p3 b : Int32) (hb : b = 0 ∨ b = 1) {C u d : Nat} (hC : 1 ≤ C) (hu : u ≤ d) (hd : 1 ≤ d) (hd6 : d ≤ 1000000) (hCd : C * d ≤ 1000000) : ∃ r, f_X7_slams_131 F g p1 p2 p3 b (nI u) (nI d) = some r ∧ f_X8_slams_160 F g p1 p2 p3 b (nI (C * u)) (nI (C * d)) = some r := by
  have hCu : C * u ≤ C * d := Nat.mul_le_mul_left C hu
  have hp : (2 : Nat) ^ 20 = 1048576 := by decide
  have c1 : f_X7_commonDivisor F (nI u) (nI d) = some (nI (Nat.gcd d u)) := gc_cls (nI u) (nI d) 20 F d u 0 (by omega) (by omega) (by omega) (by omega) (by omega)
  have c2 : f_X8_common F (nI (C * u)) (nI (C * d)) = some (nI (Nat.gcd (C * u) (C * d))) := gc_ref (nI (C * u)) (nI (C * d)) 20 F (C * u) (C * d) (by omega) (by omega) (by omega) (by omega)
  have hg1 : 1 ≤ Nat.gcd d u := Nat.gcd_pos_of_pos_left u hd
  have hgd : Nat.gcd d u ≤ d := Nat.gcd_le_left u hd
  have hgg : Nat.gcd (C * u) (C * d) = C * Nat.gcd d u := by rw [Nat.gcd_mul_left, Nat.gcd_comm]
  have hcg1 : 1 ≤ C * Nat.gcd d u := Nat.mul_le_mul hC hg1
  have hcgd : C * Nat.gcd d u ≤ C * d := Nat.mul_le_mul_left C hgd
  have n1 : ¬ nI (Nat.gcd d u) = (0 : Int32) := fun z => by have := (pu_eq (b := 0) (by omega) (by decide)).mp z; omega
  have n2 : ¬ nI (C * Nat.gcd d u) = (0 : Int32) := fun z => by have := (pu_eq (b := 0) (by omega) (by decide)).mp z; omega
  rw [f_X7_slams_131, c1, Option.bind_some, if_pos (show (1 : Int32) ≤ nI (Nat.gcd d u) from nI_le (a := 1) hg1 (by omega)), f_X8_slams_160, c2, Option.bind_some, hgg, if_pos n1, if_pos n1, if_pos n2, if_pos n2, pu_div (by omega) (by omega) (by omega), pu_div (by omega) (by omega) (by omega), pu_div (by omega) (by omega) (by omega), pu_div (by omega) (by omega) (by omega), Nat.mul_div_mul_left _ _ (by omega), Nat.mul_div_mul_left _ _ (by omega)]
  rcases hb with rfl | rfl
  · exact ⟨nI (d / Nat.gcd d u), by rw [if_pos rfl], by rw [if_pos rfl]⟩
  · exact ⟨nI (u / Nat.gcd d u), by rw [if_neg pb_10], by rw [if_neg pb_10]⟩
theorem K_slams {F : Nat} (hF : 2000 ≤ F) {g : am_G} {w : am_J} (hI : iv_I g w) (p : Int32) (q : Int32) (x : Int32) (b : Int32) (hb : b = 0 ∨ b = 1) : ∃ (r : Int32), f_X7_slams F g p q x b = some r ∧ f_X8_slams F g p q x b = some r := by
  obtain ⟨len, N, A, nx, fl, hX, hW, ⟨hE, hO⟩, -⟩ := hI
  have hN := hW.1
  have hp := pw_le hN
  unfold f_X7_slams f_X8_slams
  rcases pb_range hN p with hp | ⟨k, hk, rfl⟩
  · refine ⟨-1, ?_, ?_⟩
    · rw [(pb_no hW hp).1, Option.bind_some, if_pos rfl]
    · rw [(pb_no hW hp).2, Option.bind_some, if_pos rfl]
  · rw [(pb_yes hW hk).1, Option.bind_some, if_neg pb_10, (pb_yes hW hk).2, Option.bind_some, if_neg pb_10, pb_isWord_eq, ← pb_isState]
    rcases pb_isState_cases q with h | ⟨s, hs, rfl, h⟩
    · refine ⟨-2, ?_, ?_⟩
      · rw [h, Option.bind_some, if_pos rfl]
      · rw [h, Option.bind_some, if_pos rfl]
    · rw [h, Option.bind_some, if_neg pb_10, Option.bind_some, if_neg pb_10, pu_l0, pu_l10, pu_in64]
      rcases pu_cases x 11 (by decide) with h | ⟨h1, h2⟩ | ⟨n, hn, rfl⟩
      · refine ⟨-2, ?_, ?_⟩
        · rw [if_pos h]
        · rw [if_neg (fun z => (fa_of_lt h).2.1 z.1), Option.bind_some, if_pos rfl]
      · have h9 : ¬ x ≤ (10 : Int32) := by
          intro z
          rw [fa_le] at z h2
          have e9 : (10 : Int32).toInt = 10 := by decide
          have e10 : (nI 11).toInt = 11 := by decide
          omega
        refine ⟨-2, ?_, ?_⟩
        · rw [if_neg h1, if_neg h9]
        · rw [if_neg (fun z => h9 z.2), Option.bind_some, if_pos rfl]
      · have hle : nI n ≤ (10 : Int32) := nI_le (b := 10) (by omega) (by decide)
        have hof := wd_ofKind (F := F) (by omega) hW 2
        have hlo : iv_bits (fun j => decide (g 8 j = 2)) N = sl_l g N := bi_cong (fun j hj => by rw [((hW.2.2.2.2.2.2 j hj).2.2.2.1).1])
        rw [hlo] at hof
        obtain ⟨Se, hSe⟩ : ∃ Se, Se = iv_bits (iv_see g k) N := ⟨_, rfl⟩
        have hSe2 : Se < 2 ^ N := by rw [hSe]; exact bi_lt _ N
        have hB : sl_l g N < 64 := bi_lt64 _ hN
        have hA2 : Se &&& sl_l g N < 2 ^ N := Nat.lt_of_le_of_lt Nat.and_le_left hSe2
        have hA : Se &&& sl_l g N < 64 := by have := pw_le hN; omega
        obtain ⟨C, m1, m2, m3, m4, m5, m6, m7⟩ := sl_main (x := n) (A := Se &&& sl_l g N) (B := sl_l g N) (r := sl_r g N k (nI s)) (by omega) hA hB (fun t => by unfold sl_r; split <;> omega) (fun o ho => by
          rw [Nat.testBit_and]
          cases hs1 : Se.testBit o with
          | true => exact Or.inl (Bool.true_and _)
          | false =>
            cases hl1 : (sl_l g N).testBit o with
            | false => exact Or.inl rfl
            | true =>
              refine Or.inr ⟨rfl, rfl, fun t ht hb => sl_ind hN ho ?_ ht hb⟩
              have q1 : decide (o < N) = true := by
                unfold sl_l at hl1
                rw [bi_test] at hl1
                cases hq : decide (o < N) with
                | true => rfl
                | false => rw [hq] at hl1; cases hl1
              rw [hSe, bi_test, q1, Bool.true_and] at hs1
              exact hs1)
        obtain ⟨s1, s2⟩ := sl_64 (x := n) (r := sl_r g N k (nI s)) hN hA2
        rw [if_neg (pu_nn (by omega)), if_pos hle, pb_sees hW hk, Option.bind_some, hof, Option.bind_some, (hW.2.2.2.2.2.2 k hk).2.2.2.2, ← hSe, fa_and, if_pos ⟨nI_pos' (by omega), hle⟩, Option.bind_some, if_neg pb_10]
        have d1 := sl_cls (F := F) (W := nI s) (by omega) hW hE hO hk hA (show n ≤ 10 by omega) b (fun l6 l7 => f_X7_slams_131 F g (nI k) (nI s) (nI n) b (l6) (l7)) (2 ^ N) 0 F 0 0 (by omega) (by have := pw_le hN; omega)
        have d2 := sl_ref (F := F) (W := nI s) (by omega) hW hO hk (show n ≤ 10 by omega) b (fun l5 l6 => f_X8_slams_160 F g (nI k) (nI s) (nI n) b (l5) (l6)) 64 0 F 0 0 (by omega) (by omega)
        rw [Nat.zero_add, Nat.zero_add, s1, s2] at d1
        rw [Nat.zero_add, Nat.zero_add, m2, m3] at d2
        obtain ⟨r, r1, r2⟩ := sl_fin (F := F) (by omega) (g := g) (nI k) (nI s) (nI n) b hb m1 m7 m4 m5 (by rw [← m3]; exact m6)
        exact ⟨r, d1.trans r1, d2.trans r2⟩
