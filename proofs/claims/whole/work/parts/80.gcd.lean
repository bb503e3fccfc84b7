/-! Euclid's steps -/
theorem gc_half {x y : Nat} (hy : 0 < y) (hyx : y < x) : 2 * (x % y) < x := by
  rcases Nat.lt_or_ge x (2 * y) with h | h
  · have e : x % y = x - y := by
      rw [Nat.mod_eq_sub_mod (by omega), Nat.mod_eq_of_lt (by omega)]
    omega
  · have := Nat.mod_lt x hy
    omega
theorem gc_step (x y : Nat) : Nat.gcd x y = Nat.gcd y (x % y) := by
  rw [Nat.gcd_comm x y, Nat.gcd_rec y x, Nat.gcd_comm]
/-- the reference's -/
theorem gc_ref {F : Nat} (p0 p1 : Int32) : ∀ (k n x y : Nat), y < 2 ^ k → k ≤ 20 → x < 2147483648 → 2 * k + 2 ≤ n → f_X8_common_4 F p0 p1 n (nI x) (nI y) = some (nI (Nat.gcd x y)) := by
  have z : ∀ (n x : Nat), f_X8_common_4 F p0 p1 (n + 1) (nI x) (nI 0) = some (nI (Nat.gcd x 0)) := fun n x => by
    rw [f_X8_common_4.eq_2, if_pos (show nI 0 = (0 : Int32) from rfl), Nat.gcd_zero_right]
  have s : ∀ (n x y : Nat), 0 < y → x < 2147483648 → y < 2147483648 → f_X8_common_4 F p0 p1 (n + 1) (nI x) (nI y) = f_X8_common_4 F p0 p1 n (nI y) (nI (x % y)) := fun n x y hy hx hy2 => by
    have hne : ¬ nI y = (0 : Int32) := fun e => by have := (pu_eq (b := 0) hy2 (by decide)).mp e; omega
    rw [f_X8_common_4.eq_2, if_neg hne, if_pos hne, pu_rem hx hy hy2]
  intro k
  induction k with
  | zero =>
    intro n x y hy hk hx hn
    obtain ⟨n, rfl⟩ : ∃ j, n = j + 1 := ⟨n - 1, by omega⟩
    have : y = 0 := by omega
    subst this
    exact z n x
  | succ k ih =>
    intro n x y hy hk hx hn
    have hp : 2 ^ (k + 1) ≤ 2 ^ 20 := Nat.pow_le_pow_right (by decide) hk
    have hp2 : 2 ^ (k + 1) = 2 * 2 ^ k := by rw [Nat.pow_succ, Nat.mul_comm]
    obtain ⟨n, rfl⟩ : ∃ j, n = j + 2 := ⟨n - 2, by omega⟩
    rcases Nat.eq_zero_or_pos y with h0 | h0
    · subst h0
      exact z (n + 1) x
    · rw [s (n + 1) x y h0 hx (by omega), gc_step x y]
      have hm := Nat.mod_lt x h0
      rcases Nat.eq_zero_or_pos (x % y) with h1 | h1
      · rw [h1]
        exact z n y
      · rw [s n y (x % y) h1 (by omega) (by omega), gc_step y (x % y)]
        have hh := gc_half h1 hm
        exact ih n (x % y) (y % (x % y)) (by omega) (by omega) (by omega) (by omega)
/-- the class's -/
theorem gc_cls {F : Nat} (p0 p1 : Int32) : ∀ (k n x y i : Nat), y < 2 ^ k → k ≤ 20 → x < 2147483648 → 2 * k + 2 ≤ n → i + 2 * k ≤ 90 → f_X7_commonDivisor_7 F p0 p1 n (nI x) (nI y) (nI i) = some (nI (Nat.gcd x y)) := by
  have z : ∀ (n x i : Nat), i < 100 → f_X7_commonDivisor_7 F p0 p1 (n + 1) (nI x) (nI 0) (nI i) = some (nI (Nat.gcd x 0)) := fun n x i hi => by
    rw [f_X7_commonDivisor_7.eq_2, if_neg (show ¬ (100 : Int32) ≤ nI i from nI_ge (b := 100) hi (by decide)), if_pos (show nI 0 ≤ (0 : Int32) from by decide), Nat.gcd_zero_right]
  have s : ∀ (n x y i : Nat), 0 < y → x < 2147483648 → y < 2147483648 → i < 100 → f_X7_commonDivisor_7 F p0 p1 (n + 1) (nI x) (nI y) (nI i) = f_X7_commonDivisor_7 F p0 p1 n (nI y) (nI (x % y)) (nI (i + 1)) := fun n x y i hy hx hy2 hi => by
    have hne : ¬ nI y = (0 : Int32) := fun e => by have := (pu_eq (b := 0) hy2 (by decide)).mp e; omega
    rw [f_X7_commonDivisor_7.eq_2, if_neg (show ¬ (100 : Int32) ≤ nI i from nI_ge (b := 100) hi (by decide)), if_neg (show ¬ nI y ≤ (0 : Int32) from fun e => by have := (pu_le (b := 0) hy2 (by decide)).mp e; omega), if_pos hne, pu_rem hx hy hy2, show nI i + (1 : Int32) = nI (i + 1) from nI_add i 1]
  intro k
  induction k with
  | zero =>
    intro n x y i hy hk hx hn hi
    obtain ⟨n, rfl⟩ : ∃ j, n = j + 1 := ⟨n - 1, by omega⟩
    have : y = 0 := by omega
    subst this
    exact z n x i (by omega)
  | succ k ih =>
    intro n x y i hy hk hx hn hi
    have hp : 2 ^ (k + 1) ≤ 2 ^ 20 := Nat.pow_le_pow_right (by decide) hk
    have hp2 : 2 ^ (k + 1) = 2 * 2 ^ k := by rw [Nat.pow_succ, Nat.mul_comm]
    obtain ⟨n, rfl⟩ : ∃ j, n = j + 2 := ⟨n - 2, by omega⟩
    rcases Nat.eq_zero_or_pos y with h0 | h0
    · subst h0
      exact z (n + 1) x i (by omega)
    · rw [s (n + 1) x y i h0 hx (by omega) (by omega), gc_step x y]
      have hm := Nat.mod_lt x h0
      rcases Nat.eq_zero_or_pos (x % y) with h1 | h1
      · rw [h1]
        exact z n y (i + 1) (by omega)
      · rw [s n y (x % y) (i + 1) h1 (by omega) (by omega) (by omega), gc_step y (x % y)]
        have hh := gc_half h1 hm
        exact ih n (x % y) (y % (x % y)) (i + 1 + 1) (by omega) (by omega) (by omega) (by omega) (by omega)
