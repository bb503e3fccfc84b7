/-! SLAMS -/
def sl_q (g : am_G) (k : Nat) (W : Int32) (s o : Nat) : Bool := iv_see g k o && decide (g 27 ((g 32 o).toNatClampNeg ^^^ (s.testBit o).toNat) = W)
def sl_r (g : am_G) (N k : Nat) (W : Int32) (s : Nat) : Nat := if ex_a (sl_q g k W s) 0 N then 1 else 0
theorem sl_x : ∀ v, v < 4 → ∀ b, b < 2 → nI v ^^^ nI b = nI (v ^^^ b) ∧ v ^^^ b < 4 := by decide
theorem bn2 (b : Bool) : b.toNat < 2 := by cases b <;> decide
section SL
variable {F : Nat} {g : am_G} {N k x s : Nat} {W : Int32}
theorem sl_cread (hF : 7 ≤ F) (hW : iv_W g N) (hE : iv_E N (iv_C g) (g 32)) (hO : iv_O g N (g 32)) (hk : k < N) (hs : s < 64) : f_X4_isRead F g (nI k) W (nI s) = some (if ex_a (sl_q g k W s) 0 N then 1 else 0) := by
  have hN := hW.1
  have key : ∀ (d i n : Nat), i + d = N → d < n → f_X4_isRead_3 F g (nI k) W (nI s) n (nI i) = some (if ex_a (sl_q g k W s) i d then 1 else 0) := by
    intro d
    induction d with
    | zero =>
      intro i n hi hn
      obtain ⟨n, rfl⟩ : ∃ j, n = j + 1 := ⟨n - 1, by omega⟩
      have : i = N := by omega
      subst this
      rw [f_X4_isRead_3.eq_2, f_X2_windows, Option.bind_some, hW.2.1, if_pos (Int32.le_refl _)]
      rfl
    | succ d ih =>
      intro i n hi hn
      obtain ⟨n, rfl⟩ : ∃ j, n = j + 1 := ⟨n - 1, by omega⟩
      have hiN : i < N := by omega
      have i1 := ih (i + 1) n (by omega) (by omega)
      obtain ⟨v, hv, hv2⟩ := (hO i hiN).1
      have h11 : g 11 i = nI v := (iv_now hN hiN hE).1.trans hv2
      have hb := bi_shr hs (show i < 6 by omega)
      have e1 : nI i + (1 : Int32) = nI (i + 1) := nI_add i 1
      have h4 : ∀ j, j < 4 → g 4 j = g 27 j := fun j hj => (hW.2.2.2.2.2.1 j hj).1
      obtain ⟨x1, x2⟩ := sl_x v hv (s.testBit i).toNat (bn2 _)
      have hsq : sl_q g k W s i = (iv_see g k i && decide (g 27 (v ^^^ (s.testBit i).toNat) = W)) := by
        unfold sl_q
        rw [hv2, pu_tn (by omega)]
      rw [f_X4_isRead_3.eq_2, f_X2_windows, Option.bind_some, hW.2.1, if_neg (by rw [pu_le (by omega) (by omega)]; omega), pb_state hW hiN, Option.bind_some, h11]
      have fin : f_X4_isRead_36 F g (nI k) W (nI s) (fun l4 => f_X4_isRead_3 F g (nI k) W (nI s) n l4) (nI i) (nI v) (nI (s.testBit i).toNat) = some (if ex_a (sl_q g k W s) i (d + 1) then 1 else 0) := by
        rw [f_X4_isRead_36, bi_facing hW hk hiN, Option.bind_some, x1, pb_wordOf x2, h4 _ x2]
        simp only [Option.bind_some, f_X4_isRead_67, e1, i1, ex_a, hsq]
        by_cases h1 : iv_see g k i = true
        · rw [if_pos h1, if_neg pb_10]
          by_cases h2 : g 27 (v ^^^ (s.testBit i).toNat) = W
          · rw [if_pos h2]
            simp [h1, h2]
          · rw [if_neg h2]
            simp [h2]
        · rw [if_neg h1, if_pos rfl]
          simp [h1]
      by_cases hbit : s.testBit i = true
      · rw [if_pos (hb.mpr hbit)]
        rw [hbit] at fin
        exact fin
      · rw [if_neg (fun z => hbit (hb.mp z))]
        rw [Bool.eq_false_iff.mpr hbit] at fin
        exact fin
  exact key N 0 F (by omega) (by omega)
theorem sl_rread (hF : 7 ≤ F) (hW : iv_W g N) (hO : iv_O g N (g 32)) (hk : k < N) (hs : s < 64) : f_X8_reads F g (nI k) W (nI s) = some (if ex_a (sl_q g k W s) 0 N then 1 else 0) := by
  have hN := hW.1
  have key : ∀ (d i n : Nat) (b : Bool), i + d = N → d < n → f_X8_reads_6 F g (nI k) W (nI s) n (if b then 1 else 0) (nI i) = some (if b || ex_a (sl_q g k W s) i d then 1 else 0) := by
    intro d
    induction d with
    | zero =>
      intro i n b hi hn
      obtain ⟨n, rfl⟩ : ∃ j, n = j + 1 := ⟨n - 1, by omega⟩
      have : i = N := by omega
      subst this
      rw [f_X8_reads_6.eq_2, hW.2.2.1, if_pos (Int32.le_refl _), if_pos (tx_01 b)]
      simp [ex_a]
    | succ d ih =>
      intro i n b hi hn
      obtain ⟨n, rfl⟩ : ∃ j, n = j + 1 := ⟨n - 1, by omega⟩
      have hiN : i < N := by omega
      obtain ⟨v, hv, hv2⟩ := (hO i hiN).1
      have e1 : nI i + (1 : Int32) = nI (i + 1) := nI_add i 1
      obtain ⟨x1, x2⟩ := sl_x v hv (s.testBit i).toNat (bn2 _)
      have hsq : sl_q g k W s i = (iv_see g k i && decide (g 27 (v ^^^ (s.testBit i).toNat) = W)) := by
        unfold sl_q
        rw [hv2, pu_tn (by omega)]
      have it : f_X8_reads_6 F g (nI k) W (nI s) n 1 (nI (i + 1)) = some 1 := by
        have := ih (i + 1) n true (by omega) (by omega)
        simpa using this
      have if_ : f_X8_reads_6 F g (nI k) W (nI s) n 0 (nI (i + 1)) = some (if ex_a (sl_q g k W s) (i + 1) d then 1 else 0) := by
        have := ih (i + 1) n false (by omega) (by omega)
        simpa using this
      rw [f_X8_reads_6.eq_2, hW.2.2.1, if_neg (by rw [pu_le (by omega) (by omega)]; omega)]
      cases b with
      | true =>
        rw [if_neg (show ¬ (if true = true then (1 : Int32) else 0) = 0 from by decide)]
        simp only [f_X8_reads_53, f_X8_reads_58, e1, it, Bool.true_or, if_true]
      | false =>
        rw [if_pos (show (if false = true then (1 : Int32) else 0) = 0 from by decide), pb_sees8 (by omega) (by omega), Option.bind_some, bi_shr0 s hs i (by omega)]
        simp only [f_X8_reads_57, f_X8_reads_53, f_X8_reads_58, e1, it, if_, Bool.false_or, ex_a, hsq, if_pos ((pu_in (a := i) (n := 26) (by omega)).mpr (by omega)), pu_tn (show i < 2147483648 by omega), hv2, x1, if_pos ((pu_in (a := v ^^^ (s.testBit i).toNat) (n := 4) (by omega)).mpr x2), pu_tn (show v ^^^ (s.testBit i).toNat < 2147483648 by omega)]
        by_cases h1 : iv_see g k i = true
        · rw [if_pos h1, if_neg pb_10]
          by_cases h2 : g 27 (v ^^^ (s.testBit i).toNat) = W
          · rw [if_pos h2]
            simp [h1, h2]
          · rw [if_neg h2]
            simp [h2]
        · rw [if_neg h1, if_pos rfl]
          simp [h1]
  exact key N 0 F false (by omega) (by omega)
theorem sl_cw {A : Nat} (hF : 7 ≤ F) (hx : x ≤ 10) (hA : A < 64) (hs : s < 64) : f_X7_weightOf F (nI s) (nI A) (nI x) = some (nI (sl_w x A s 6)) := by
  have key : ∀ (d i n : Nat), i + d = 6 → d < n → f_X7_weightOf_5 F (nI s) (nI A) (nI x) n (nI (sl_w x A s i)) (nI i) = some (nI (sl_w x A s 6)) := by
    intro d
    induction d with
    | zero =>
      intro i n hi hn
      obtain ⟨n, rfl⟩ : ∃ j, n = j + 1 := ⟨n - 1, by omega⟩
      have : i = 6 := by omega
      subst this
      rw [f_X7_weightOf_5.eq_2, if_pos (show (6 : Int32) ≤ nI 6 from by decide)]
    | succ d ih =>
      intro i n hi hn
      obtain ⟨n, rfl⟩ : ∃ j, n = j + 1 := ⟨n - 1, by omega⟩
      have hi6 : i < 6 := by omega
      have i1 := ih (i + 1) n (by omega) (by omega)
      have e1 : nI i + (1 : Int32) = nI (i + 1) := nI_add i 1
      have ha := bi_shr hA hi6
      have hb := bi_shr hs hi6
      have h10 : (10 : Int32) - nI x = nI (10 - x) := pu_sub (a := 10) (b := x) hx
      rw [f_X7_weightOf_5.eq_2, if_neg (show ¬ (6 : Int32) ≤ nI i from nI_ge (b := 6) hi6 (by decide))]
      simp only [f_X7_weightOf_41, f_X7_weightOf_43, e1, h10, pu_mul]
      by_cases h1 : A.testBit i = true
      · rw [if_pos (ha.mpr h1)]
        by_cases h2 : s.testBit i = true
        · rw [if_pos (hb.mpr h2)]
          rw [show sl_w x A s (i + 1) = sl_w x A s i * x by simp [sl_w, sl_c, h1, h2]] at i1
          exact i1
        · rw [if_neg (fun z => h2 (hb.mp z))]
          rw [show sl_w x A s (i + 1) = sl_w x A s i * (10 - x) by simp [sl_w, sl_c, h1, h2]] at i1
          exact i1
      · rw [if_neg (fun z => h1 (ha.mp z))]
        rw [show sl_w x A s (i + 1) = sl_w x A s i by simp [sl_w, sl_c, h1]] at i1
        exact i1
  exact key 6 0 F (by omega) (by omega)
def sl_l (g : am_G) (N : Nat) : Nat := iv_bits (fun j => decide (g 31 j = 2)) N
theorem sl_loose (hF : 7 ≤ F) (hW : iv_W g N) : f_X8_loose F g = some (nI (sl_l g N)) := by
  have hN := hW.1
  refine bi_loop (fun n a b => f_X8_loose_4 F g n a b) some (fun j => decide (g 31 j = 2)) N hN (fun n i s hi => ?_) (fun n s => ?_) F hF
  · show f_X8_loose_4 F g (n + 1) s (nI i) = _
    rw [f_X8_loose_4.eq_2, hW.2.2.1, if_neg (by rw [pu_le (by omega) (by omega)]; omega), if_pos (pb_i6 (by omega)), pu_tn (by omega)]
    simp only [f_X8_loose_30, show nI i + (1 : Int32) = nI (i + 1) from nI_add i 1]
    by_cases h : g 31 i = 2
    · rw [if_pos h]
      simp [h]
    · rw [if_neg h]
      simp [h]
  · show f_X8_loose_4 F g (n + 1) s (nI N) = _
    rw [f_X8_loose_4.eq_2, hW.2.2.1, if_pos (Int32.le_refl _)]
theorem sl_rw (hF : 7 ≤ F) (hW : iv_W g N) (hx : x ≤ 10) (hs : s < 64) (p1 p2 p4 l5 l6 : Int32) (K : Int32 → Int32 → Int32 → Int32 → Option Int32) : f_X8_slams_71 F g p1 p2 (nI x) p4 K F l5 l6 (nI s) 1 0 = K l5 l6 (nI s) (nI (sl_w x (sl_l g N) s N)) := by
  have hN := hW.1
  have hB : sl_l g N < 64 := bi_lt64 _ hN
  have key : ∀ (d i n : Nat), i + d = N → d < n → f_X8_slams_71 F g p1 p2 (nI x) p4 K n l5 l6 (nI s) (nI (sl_w x (sl_l g N) s i)) (nI i) = K l5 l6 (nI s) (nI (sl_w x (sl_l g N) s N)) := by
    intro d
    induction d with
    | zero =>
      intro i n hi hn
      obtain ⟨n, rfl⟩ : ∃ j, n = j + 1 := ⟨n - 1, by omega⟩
      have : i = N := by omega
      subst this
      rw [f_X8_slams_71.eq_2, hW.2.2.1, if_pos (Int32.le_refl _)]
    | succ d ih =>
      intro i n hi hn
      obtain ⟨n, rfl⟩ : ∃ j, n = j + 1 := ⟨n - 1, by omega⟩
      have hi6 : i < 6 := by omega
      have i1 := ih (i + 1) n (by omega) (by omega)
      have e1 : nI i + (1 : Int32) = nI (i + 1) := nI_add i 1
      have ha := bi_shr hB hi6
      have hb := bi_shr hs hi6
      have h10 : (10 : Int32) - nI x = nI (10 - x) := pu_sub (a := 10) (b := x) hx
      have h1' : ∀ y, nI y * (1 : Int32) = nI (y * 1) := fun y => pu_mul y 1
      rw [f_X8_slams_71.eq_2, hW.2.2.1, if_neg (by rw [pu_le (by omega) (by omega)]; omega), sl_loose hF hW, Option.bind_some]
      simp only [f_X8_has, f_X8_slams_116, e1, h10, pu_mul, h1']
      by_cases h1 : (sl_l g N).testBit i = true
      · rw [if_pos (ha.mpr h1), Option.bind_some, if_neg pb_10]
        by_cases h2 : s.testBit i = true
        · rw [if_pos (hb.mpr h2), Option.bind_some, if_neg pb_10]
          rw [show sl_w x (sl_l g N) s (i + 1) = sl_w x (sl_l g N) s i * x by simp [sl_w, sl_c, h1, h2]] at i1
          exact i1
        · rw [if_neg (fun z => h2 (hb.mp z)), Option.bind_some, if_pos rfl]
          rw [show sl_w x (sl_l g N) s (i + 1) = sl_w x (sl_l g N) s i * (10 - x) by simp [sl_w, sl_c, h1, h2]] at i1
          exact i1
      · rw [if_neg (fun z => h1 (ha.mp z)), Option.bind_some, if_pos rfl]
        rw [show sl_w x (sl_l g N) s (i + 1) = sl_w x (sl_l g N) s i * 1 by simp [sl_w, sl_c, h1]] at i1
        exact i1
  exact key N 0 F (by omega) (by omega)
theorem sl_wN {L : Nat} (h : ∀ o, N ≤ o → L.testBit o = false) : ∀ d, sl_w x L s (N + d) = sl_w x L s N
  | 0 => rfl
  | d + 1 => by
    show sl_w x L s (N + d) * sl_c x L s (N + d) = _
    rw [sl_wN h d]
    unfold sl_c
    rw [h (N + d) (by omega)]
    simp
theorem sl_w6 (hN : N ≤ 6) : sl_w x (sl_l g N) s N = sl_w x (sl_l g N) s 6 := by
  have := sl_wN (N := N) (x := x) (s := s) (L := sl_l g N) (fun o ho => by unfold sl_l; rw [bi_test]; simp; omega) (6 - N)
  rw [show N + (6 - N) = 6 by omega] at this
  exact this.symm
theorem sl_cls (hF : 100 ≤ F) (hW : iv_W g N) (hE : iv_E N (iv_C g) (g 32)) (hO : iv_O g N (g 32)) (hk : k < N) {A : Nat} (hA : A < 64) (hx : x ≤ 10) (p4 : Int32) (K : Int32 → Int32 → Option Int32) : ∀ (d s n a b : Nat), s + d = 2 ^ N → d < n → f_X7_slams_61 F g (nI k) W (nI x) p4 K n (nI A) (nI a) (nI b) (nI s) = K (nI (a + sm (fun t => sl_f x A t * sl_r g N k W t) s d)) (nI (b + sm (sl_f x A) s d)) := by
  have hN := hW.1
  have hp := pw_le hN
  intro d
  induction d with
  | zero =>
    intro s n a b hs hn
    obtain ⟨n, rfl⟩ : ∃ j, n = j + 1 := ⟨n - 1, by omega⟩
    have : s = 2 ^ N := by omega
    subst this
    rw [f_X7_slams_61.eq_2, f_X2_sets, Option.bind_some, hW.2.1, bi_shl N (by omega), if_pos (Int32.le_refl _)]
    rfl
  | succ d ih =>
    intro s n a b hs hn
    obtain ⟨n, rfl⟩ : ∃ j, n = j + 1 := ⟨n - 1, by omega⟩
    have hs64 : s < 64 := by omega
    have e1 : nI s + (1 : Int32) = nI (s + 1) := nI_add s 1
    obtain ⟨m1, m2⟩ := ga_and s hs64 A hA
    have hz : ∀ y, nI y + (0 : Int32) = nI y := fun y => by rw [show nI y + (0 : Int32) = nI (y + 0) from nI_add y 0, Nat.add_zero]
    rw [f_X7_slams_61.eq_2, f_X2_sets, Option.bind_some, hW.2.1, bi_shl N (by omega), if_neg (by rw [pu_le (by omega) (by omega)]; omega), m1]
    show _ = K (nI (a + (sl_f x A s * sl_r g N k W s + sm (fun t => sl_f x A t * sl_r g N k W t) (s + 1) d))) (nI (b + (sl_f x A s + sm (sl_f x A) (s + 1) d)))
    rw [← Nat.add_assoc, ← Nat.add_assoc]
    by_cases h1 : ga_m s A = 0
    · rw [if_pos (by rw [h1]; rfl), sl_cw (by omega) hx hA hs64, Option.bind_some, sl_cread (by omega) hW hE hO hk hs64, Option.bind_some]
      have ef : sl_f x A s = sl_w x A s 6 := if_pos h1
      simp only [f_X7_slams_122, f_X7_slams_125, e1, nI_add, hz]
      rw [ef]
      unfold sl_r
      by_cases h2 : ex_a (sl_q g k W s) 0 N = true
      · rw [if_pos h2, if_neg pb_10, if_pos h2, Nat.mul_one]
        exact ih (s + 1) n _ _ (by omega) (by omega)
      · rw [if_neg h2, if_pos rfl, if_neg h2, Nat.mul_zero, Nat.add_zero]
        exact ih (s + 1) n _ _ (by omega) (by omega)
    · have ef : sl_f x A s = 0 := if_neg h1
      rw [if_neg (show ¬ nI (ga_m s A) = (0 : Int32) from fun z => h1 ((pu_eq (b := 0) (by omega) (by decide)).mp z)), ef, Nat.zero_mul, Nat.add_zero, Nat.add_zero]
      simp only [f_X7_slams_125, e1]
      exact ih (s + 1) n _ _ (by omega) (by omega)
theorem sl_ref (hF : 100 ≤ F) (hW : iv_W g N) (hO : iv_O g N (g 32)) (hk : k < N) (hx : x ≤ 10) (p4 : Int32) (K : Int32 → Int32 → Option Int32) : ∀ (d s n a b : Nat), s + d = 64 → d < n → f_X8_slams_46 F g (nI k) W (nI x) p4 K n (nI a) (nI b) (nI s) = K (nI (a + sm (fun t => sl_f x (sl_l g N) t * sl_r g N k W t) s d)) (nI (b + sm (sl_f x (sl_l g N)) s d)) := by
  have hN := hW.1
  have hB : sl_l g N < 64 := bi_lt64 _ hN
  intro d
  induction d with
  | zero =>
    intro s n a b hs hn
    obtain ⟨n, rfl⟩ : ∃ j, n = j + 1 := ⟨n - 1, by omega⟩
    have : s = 64 := by omega
    subst this
    rw [f_X8_slams_46.eq_2, if_pos (show (64 : Int32) ≤ nI 64 from by decide)]
    rfl
  | succ d ih =>
    intro s n a b hs hn
    obtain ⟨n, rfl⟩ : ∃ j, n = j + 1 := ⟨n - 1, by omega⟩
    have hs64 : s < 64 := by omega
    have e1 : nI s + (1 : Int32) = nI (s + 1) := nI_add s 1
    obtain ⟨m1, m2⟩ := ga_and s hs64 (sl_l g N) hB
    have hz : ∀ y, nI y + (0 : Int32) = nI y := fun y => by rw [show nI y + (0 : Int32) = nI (y + 0) from nI_add y 0, Nat.add_zero]
    rw [f_X8_slams_46.eq_2, if_neg (show ¬ (64 : Int32) ≤ nI s from nI_ge (b := 64) hs64 (by decide)), sl_loose (by omega) hW, Option.bind_some, m1]
    show _ = K (nI (a + (sl_f x (sl_l g N) s * sl_r g N k W s + sm (fun t => sl_f x (sl_l g N) t * sl_r g N k W t) (s + 1) d))) (nI (b + (sl_f x (sl_l g N) s + sm (sl_f x (sl_l g N)) (s + 1) d)))
    rw [← Nat.add_assoc, ← Nat.add_assoc]
    by_cases h1 : ga_m s (sl_l g N) = 0
    · rw [if_pos (by rw [h1]; rfl), sl_rw (by omega) hW hx hs64, sl_w6 hN]
      have ef : sl_f x (sl_l g N) s = sl_w x (sl_l g N) s 6 := if_pos h1
      simp only [f_X8_slams_125, sl_rread (show 7 ≤ F by omega) hW hO hk hs64, Option.bind_some, f_X8_slams_151, f_X8_slams_154, e1, nI_add, hz]
      rw [ef]
      unfold sl_r
      by_cases h2 : ex_a (sl_q g k W s) 0 N = true
      · rw [if_pos h2, if_neg pb_10, if_pos h2, Nat.mul_one]
        exact ih (s + 1) n _ _ (by omega) (by omega)
      · rw [if_neg h2, if_pos rfl, if_neg h2, Nat.mul_zero, Nat.add_zero]
        exact ih (s + 1) n _ _ (by omega) (by omega)
    · have ef : sl_f x (sl_l g N) s = 0 := if_neg h1
      rw [if_neg (show ¬ nI (ga_m s (sl_l g N)) = (0 : Int32) from fun z => h1 ((pu_eq (b := 0) (by omega) (by decide)).mp z)), ef, Nat.zero_mul, Nat.add_zero, Nat.add_zero]
      simp only [f_X8_slams_154, e1]
      exact ih (s + 1) n _ _ (by omega) (by omega)
end SL
