/-! RESTS -/
def pc (a : Nat) : Nat := (a.testBit 0).toNat + (a.testBit 1).toNat + (a.testBit 2).toNat + (a.testBit 3).toNat + (a.testBit 4).toNat + (a.testBit 5).toNat
theorem pc_bit : ∀ a, a < 64 → f_J6_bitCount_0f7a4 (nI a) = some (nI (pc a)) := by decide +kernel
theorem pc_le (a : Nat) : pc a ≤ 6 := by
  have h : ∀ b : Bool, b.toNat ≤ 1 := by decide
  have := h (a.testBit 0)
  have := h (a.testBit 1)
  have := h (a.testBit 2)
  have := h (a.testBit 3)
  have := h (a.testBit 4)
  have := h (a.testBit 5)
  unfold pc
  omega
theorem pc_ones {F a : Nat} (hF : 7 ≤ F) (ha : a < 64) : f_X8_ones F (nI a) = some (nI (pc a)) := by
  obtain ⟨n, rfl⟩ : ∃ n, F = n + 7 := ⟨F - 7, by omega⟩
  have c : ∀ (G i n c : Nat), i < 6 → f_X8_ones_4 G (nI a) (n + 1) (nI c) (nI i) = f_X8_ones_4 G (nI a) n (nI (c + (a.testBit i).toNat)) (nI (i + 1)) := fun G i n c hi => by
    rw [f_X8_ones_4.eq_2, if_neg (show ¬ (6 : Int32) ≤ nI i from nI_ge (b := 6) hi (by decide)), bi_shr0 a ha i hi, nI_add, show nI i + (1 : Int32) = nI (i + 1) from nI_add i 1]
  unfold f_X8_ones pc
  refine (c (n + 7) 0 (n + 6) 0 (by omega)).trans ?_
  rw [c (n + 7) 1 (n + 5) _ (by omega), c (n + 7) 2 (n + 4) _ (by omega), c (n + 7) 3 (n + 3) _ (by omega), c (n + 7) 4 (n + 2) _ (by omega), c (n + 7) 5 (n + 1) _ (by omega), f_X8_ones_4.eq_2, if_pos (show (6 : Int32) ≤ nI (5 + 1) from by decide), Nat.zero_add]
def ga_m (a b : Nat) : Nat := a &&& (63 ^^^ b)
theorem ga_and : ∀ a, a < 64 → ∀ b, b < 64 → nI a &&& (nI b ^^^ -1) = nI (ga_m a b) ∧ ga_m a b < 64 := by decide +kernel
theorem ga_self : ∀ a, a < 64 → pc (ga_m a a) = 0 := by decide +kernel
def ga (g : am_G) (N k o : Nat) : Nat := pc (ga_m (iv_bits (iv_see g k) N) (iv_bits (iv_see g o) N))
theorem ga_c {g : am_G} {N k o : Nat} (hW : iv_W g N) (hk : k < N) (ho : o < N) : f_X2_gain g (nI k) (nI o) = some (nI (ga g N k o)) := by
  have hN := hW.1
  obtain ⟨e1, e2⟩ := ga_and _ (bi_lt64 (iv_see g k) hN) _ (bi_lt64 (iv_see g o) hN)
  simp only [f_X2_gain, pb_sees hW hk, pb_sees hW ho, Option.bind_some, (hW.2.2.2.2.2.2 k hk).2.2.2.2, (hW.2.2.2.2.2.2 o ho).2.2.2.2, e1, pc_bit _ e2]
  rfl
theorem ga_r {F : Nat} (hF : 7 ≤ F) {g : am_G} {N k o : Nat} (hW : iv_W g N) (hk : k < N) (ho : o < N) : f_X8_lets F g (nI k) (nI o) = some (nI (ga g N k o)) := by
  have hN := hW.1
  obtain ⟨e1, e2⟩ := ga_and _ (bi_lt64 (iv_see g k) hN) _ (bi_lt64 (iv_see g o) hN)
  simp only [f_X8_lets, bi_seen hF hW (show k < 6 by omega), bi_seen hF hW (show o < 6 by omega), Option.bind_some, e1, pc_ones hF e2]
  by_cases h : nI k = nI o
  · have : k = o := (pu_eq (by omega) (by omega)).mp h
    subst this
    rw [if_pos rfl, ga, ga_self _ (bi_lt64 (iv_see g k) hN)]
    rfl
  · rw [if_neg h]
    rfl
def af_a (P : Nat → Bool) : Nat → Nat → Bool
  | _, 0 => true
  | i, d + 1 => P i && af_a P (i + 1) d
theorem af_and (P Q : Nat → Bool) : ∀ d i, af_a (fun k => P k && Q k) i d = (af_a P i d && af_a Q i d)
  | 0, _ => rfl
  | d + 1, i => by
    simp only [af_a, af_and P Q d (i + 1)]
    cases P i <;> cases Q i <;> cases af_a P (i + 1) d <;> simp
def ga_b (g : am_G) (N k o : Nat) : Bool := af_a (fun i => decide (ga g N i o ≤ ga g N k o)) 0 N
theorem ga_best {F : Nat} (hF : 7 ≤ F) {g : am_G} {N k o : Nat} (hW : iv_W g N) (hk : k < N) (ho : o < N) : f_X2_isBestAgainst F g (nI k) (nI o) = some (if ga_b g N k o then 1 else 0) := by
  have hN := hW.1
  have h37 := hW.2.1
  have key : ∀ (d i n : Nat), i + d = N → d < n → f_X2_isBestAgainst_2 F g (nI k) (nI o) n (nI i) = some (if af_a (fun i => decide (ga g N i o ≤ ga g N k o)) i d then 1 else 0) := by
    intro d
    induction d with
    | zero =>
      intro i n hi hn
      obtain ⟨n, rfl⟩ : ∃ m, n = m + 1 := ⟨n - 1, by omega⟩
      have : i = N := by omega
      subst this
      rw [f_X2_isBestAgainst_2.eq_2, h37, if_pos (Int32.le_refl _)]
      rfl
    | succ d ih =>
      intro i n hi hn
      obtain ⟨n, rfl⟩ : ∃ m, n = m + 1 := ⟨n - 1, by omega⟩
      rw [f_X2_isBestAgainst_2.eq_2, h37, if_neg (by rw [pu_le (by omega) (by omega)]; omega), ga_c hW (show i < N by omega) ho, ga_c hW hk ho]
      simp only [Option.bind_some, show nI i + (1 : Int32) = nI (i + 1) from nI_add i 1]
      have hl : ∀ a b, ga g N a b < 2147483648 := fun a b => Nat.lt_of_le_of_lt (pc_le _) (by decide)
      by_cases h : ga g N i o ≤ ga g N k o
      · rw [if_pos ((pu_le (hl _ _) (hl _ _)).mpr h), ih (i + 1) n (by omega) (by omega)]
        simp only [af_a, h, decide_true, Bool.true_and]
      · rw [if_neg (fun z => h ((pu_le (hl _ _) (hl _ _)).mp z))]
        simp [af_a, h]
  exact key N 0 F (by omega) (by omega)
theorem ga_rest {F : Nat} (hF : 7 ≤ F) {g : am_G} {N k o : Nat} (hW : iv_W g N) (hk : k < N) (ho : o < N) : f_X8_isRest F g (nI k) (nI o) = some (if ga_b g N k o && ga_b g N o k then 1 else 0) := by
  have hN := hW.1
  have h260 := hW.2.2.1
  have hl : ∀ a b, ga g N a b < 2147483648 := fun a b => Nat.lt_of_le_of_lt (pc_le _) (by decide)
  have key : ∀ (d i n : Nat) (s : Bool), i + d = N → d < n → f_X8_isRest_5 F g (nI k) (nI o) n (if s then 1 else 0) (nI i) = some (if s && af_a (fun i => decide (ga g N i o ≤ ga g N k o) && decide (ga g N i k ≤ ga g N o k)) i d then 1 else 0) := by
    intro d
    induction d with
    | zero =>
      intro i n s hi hn
      obtain ⟨n, rfl⟩ : ∃ m, n = m + 1 := ⟨n - 1, by omega⟩
      have : i = N := by omega
      subst this
      rw [f_X8_isRest_5.eq_2, h260, if_pos (Int32.le_refl _)]
      cases s <;> rfl
    | succ d ih =>
      intro i n s hi hn
      obtain ⟨n, rfl⟩ : ∃ m, n = m + 1 := ⟨n - 1, by omega⟩
      have hi' : i < N := by omega
      have i0 := ih (i + 1) n false (by omega) (by omega)
      have i1 := ih (i + 1) n true (by omega) (by omega)
      simp only [Bool.false_and, Bool.true_and, if_true, Bool.false_eq_true, if_false] at i0 i1
      rw [f_X8_isRest_5.eq_2, h260, if_neg (by rw [pu_le (by omega) (by omega)]; omega), ga_r hF hW hi' ho, ga_r hF hW hk ho, ga_r hF hW hi' hk, ga_r hF hW ho hk]
      simp only [Option.bind_some, f_X8_isRest_54, f_X8_isRest_55, show nI i + (1 : Int32) = nI (i + 1) from nI_add i 1, i0, i1]
      cases s with
      | false => rfl
      | true =>
        rw [if_neg (show ¬ (if true = true then (1 : Int32) else 0) = 0 from pb_10)]
        by_cases h : ga g N i o ≤ ga g N k o
        · rw [if_neg (fun z => by have := (pu_lt (hl _ _) (hl _ _)).mp z; omega)]
          by_cases h2 : ga g N i k ≤ ga g N o k
          · rw [if_neg (fun z => by have := (pu_lt (hl _ _) (hl _ _)).mp z; omega)]
            simp only [af_a, h, h2, decide_true, Bool.true_and]
          · rw [if_pos ((pu_lt (hl _ _) (hl _ _)).mpr (by omega))]
            simp [af_a, h2]
        · rw [if_pos ((pu_lt (hl _ _) (hl _ _)).mpr (by omega))]
          simp [af_a, h]
  have := key N 0 F true (by omega) (by omega)
  rw [af_and] at this
  exact this
def rs_st (g : am_G) (N k : Nat) (o : Nat) (s : Int32 × Int32) : Int32 × Int32 := if ga_b g N k o && ga_b g N o k then (s.1 + 1, if s.1 = 0 then 10 * nI k + nI o else s.2) else s
def rs_o (g : am_G) (N : Nat) (k : Nat) (s : Int32 × Int32) : Int32 × Int32 := pu_fo (rs_st g N k) 0 N s
theorem rs_cin {F : Nat} (hF : 7 ≤ F) {g : am_G} {N k : Nat} (hW : iv_W g N) (hk : k < N) (p : Int32) (K : Int32 → Int32 → Int32 → Option Int32) (s : Int32 × Int32) : f_X7_rests_35 F g p K F s.1 s.2 (nI k) 0 = K (rs_o g N k s).1 (rs_o g N k s).2 (nI k) := by
  have hN := hW.1
  have h37 := hW.2.1
  have key := (pu_loop (fun n i (s : Int32 × Int32) => f_X7_rests_35 F g p K n s.1 s.2 (nI k) (nI i)) (fun s => K s.1 s.2 (nI k)) (rs_st g N k) N (fun _ _ => True) (fun n i s hi _ => ⟨?_, trivial⟩) (fun n s _ => ?_) N 0 s F (by omega) (by omega) trivial).1
  · exact key
  · show f_X7_rests_35 F g p K (n + 1) s.1 s.2 (nI k) (nI i) = f_X7_rests_35 F g p K n _ _ (nI k) (nI (i + 1))
    rw [f_X7_rests_35.eq_2]
    simp only [f_X2_windows, h37, Option.bind_some, ga_best hF hW hk hi, ga_best hF hW hi hk, f_X7_rests_95, f_X7_rests_91, show nI i + (1 : Int32) = nI (i + 1) from nI_add i 1]
    rw [if_neg (by rw [pu_le (by omega) (by omega)]; omega)]
    unfold rs_st
    cases ga_b g N k i with
    | false => rfl
    | true =>
      cases ga_b g N i k with
      | false => rfl
      | true =>
        by_cases h0 : s.1 = 0
        · simp only [h0]
          rfl
        · simp only [h0, if_true]
          rfl
  · show f_X7_rests_35 F g p K (n + 1) s.1 s.2 (nI k) (nI N) = _
    rw [f_X7_rests_35.eq_2]
    simp only [f_X2_windows, h37, Option.bind_some]
    rw [if_pos (Int32.le_refl _)]
theorem rs_rin {F : Nat} (hF : 7 ≤ F) {g : am_G} {N k : Nat} (hW : iv_W g N) (hk : k < N) (p : Int32) (K : Int32 → Int32 → Int32 → Option Int32) (s : Int32 × Int32) : f_X8_rests_33 F g p K F s.1 s.2 (nI k) 0 = K (rs_o g N k s).1 (rs_o g N k s).2 (nI k) := by
  have hN := hW.1
  have h260 := hW.2.2.1
  have key := (pu_loop (fun n i (s : Int32 × Int32) => f_X8_rests_33 F g p K n s.1 s.2 (nI k) (nI i)) (fun s => K s.1 s.2 (nI k)) (rs_st g N k) N (fun _ _ => True) (fun n i s hi _ => ⟨?_, trivial⟩) (fun n s _ => ?_) N 0 s F (by omega) (by omega) trivial).1
  · exact key
  · show f_X8_rests_33 F g p K (n + 1) s.1 s.2 (nI k) (nI i) = f_X8_rests_33 F g p K n _ _ (nI k) (nI (i + 1))
    rw [f_X8_rests_33.eq_2]
    simp only [h260, Option.bind_some, ga_rest hF hW hk hi, f_X8_rests_73, f_X8_rests_69, show nI i + (1 : Int32) = nI (i + 1) from nI_add i 1]
    rw [if_neg (by rw [pu_le (by omega) (by omega)]; omega)]
    unfold rs_st
    cases (ga_b g N k i && ga_b g N i k) with
    | false => rfl
    | true =>
      by_cases h0 : s.1 = 0
      · simp only [h0]
        rfl
      · simp only [h0, if_true]
        rfl
  · show f_X8_rests_33 F g p K (n + 1) s.1 s.2 (nI k) (nI N) = _
    rw [f_X8_rests_33.eq_2]
    simp only [h260]
    rw [if_pos (Int32.le_refl _)]
theorem rs_c {F : Nat} (hF : 7 ≤ F) {g : am_G} {N : Nat} (hW : iv_W g N) (p : Int32) : f_X7_rests_20 F g p (fun l2 l3 => f_X7_rests_107 F g p (l2) (l3)) F 0 (-9) 0 = (fun s : Int32 × Int32 => if p = 0 then some s.1 else some s.2) (pu_fo (rs_o g N) 0 N (0, -9)) := by
  have hN := hW.1
  have h37 := hW.2.1
  refine (pu_loop (fun n i (s : Int32 × Int32) => f_X7_rests_20 F g p (fun l2 l3 => f_X7_rests_107 F g p (l2) (l3)) n s.1 s.2 (nI i)) (fun s => if p = 0 then some s.1 else some s.2) (rs_o g N) N (fun _ _ => True) (fun n i s hi _ => ⟨?_, trivial⟩) (fun n s _ => ?_) N 0 (0, -9) F (by omega) (by omega) trivial).1
  · show f_X7_rests_20 F g p _ (n + 1) s.1 s.2 (nI i) = f_X7_rests_20 F g p _ n _ _ (nI (i + 1))
    rw [f_X7_rests_20.eq_2]
    simp only [f_X2_windows, h37, Option.bind_some]
    rw [if_neg (by rw [pu_le (by omega) (by omega)]; omega), rs_cin hF hW hi p _ s]
    simp only [f_X7_rests_101, show nI i + (1 : Int32) = nI (i + 1) from nI_add i 1]
  · show f_X7_rests_20 F g p _ (n + 1) s.1 s.2 (nI N) = _
    rw [f_X7_rests_20.eq_2]
    simp only [f_X2_windows, h37, Option.bind_some]
    rw [if_pos (Int32.le_refl _)]
    rfl
theorem rs_r {F : Nat} (hF : 7 ≤ F) {g : am_G} {N : Nat} (hW : iv_W g N) (p : Int32) : f_X8_rests_21 F g p (fun l2 l3 => f_X8_rests_85 F g p (l2) (l3)) F 0 (-9) 0 = (fun s : Int32 × Int32 => if p = 0 then some s.1 else some s.2) (pu_fo (rs_o g N) 0 N (0, -9)) := by
  have hN := hW.1
  have h260 := hW.2.2.1
  refine (pu_loop (fun n i (s : Int32 × Int32) => f_X8_rests_21 F g p (fun l2 l3 => f_X8_rests_85 F g p (l2) (l3)) n s.1 s.2 (nI i)) (fun s => if p = 0 then some s.1 else some s.2) (rs_o g N) N (fun _ _ => True) (fun n i s hi _ => ⟨?_, trivial⟩) (fun n s _ => ?_) N 0 (0, -9) F (by omega) (by omega) trivial).1
  · show f_X8_rests_21 F g p _ (n + 1) s.1 s.2 (nI i) = f_X8_rests_21 F g p _ n _ _ (nI (i + 1))
    rw [f_X8_rests_21.eq_2]
    simp only [h260]
    rw [if_neg (by rw [pu_le (by omega) (by omega)]; omega), rs_rin hF hW hi p _ s]
    simp only [f_X8_rests_79, show nI i + (1 : Int32) = nI (i + 1) from nI_add i 1]
  · show f_X8_rests_21 F g p _ (n + 1) s.1 s.2 (nI N) = _
    rw [f_X8_rests_21.eq_2]
    simp only [h260]
    rw [if_pos (Int32.le_refl _)]
    rfl
theorem K_rests {F : Nat} (hF : 2000 ≤ F) {g : am_G} {w : am_J} (hI : iv_I g w) (p : Int32) : ∃ (r : Int32), f_X7_rests F g p = some r ∧ f_X8_rests F g p = some r := by
  obtain ⟨len, N, A, nx, fl, hX, hW, -⟩ := hI
  have hin : f_X8_in (Int32.toInt64 p) (0 : Int64) (1 : Int64) = some (if 0 ≤ p ∧ p ≤ 1 then 1 else 0) := by rw [pu_l0, pu_l1, pu_in64]
  by_cases h : p < 0
  · refine ⟨-2, by rw [f_X7_rests, if_pos h], ?_⟩
    rw [f_X8_rests, hin, if_neg (fun z => Int32.lt_irrefl (Int32.lt_of_lt_of_le h z.1))]
    rfl
  by_cases h1 : p ≤ 1
  · rw [f_X7_rests, if_neg h, if_pos h1, f_X8_rests, hin, if_pos ⟨Int32.not_lt.mp h, h1⟩, Option.bind_some, if_neg pb_10, rs_c (by omega) hW, rs_r (by omega) hW]
    simp only []
    by_cases h0 : p = 0
    · exact ⟨_, by rw [if_pos h0], by rw [if_pos h0]⟩
    · exact ⟨_, by rw [if_neg h0], by rw [if_neg h0]⟩
  · refine ⟨-2, by rw [f_X7_rests, if_neg h, if_neg h1], ?_⟩
    rw [f_X8_rests, hin, if_neg (fun z => h1 z.2)]
    rfl
