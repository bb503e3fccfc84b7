/-! sets as bits -/
theorem bi_lt (p : Nat → Bool) : ∀ n, iv_bits p n < 2 ^ n
  | 0 => by simp [iv_bits]
  | n + 1 => by
    have := bi_lt p n
    simp only [iv_bits, Nat.pow_succ]
    split <;> omega
theorem bi_cong {p q : Nat → Bool} : ∀ {n : Nat}, (∀ k, k < n → p k = q k) → iv_bits p n = iv_bits q n
  | 0, _ => rfl
  | n + 1, h => by
    simp only [iv_bits]
    rw [bi_cong (fun k hk => h k (by omega)), h n (by omega)]
theorem bi_test (p : Nat → Bool) : ∀ (n o : Nat), (iv_bits p n).testBit o = (decide (o < n) && p o)
  | 0, o => by simp [iv_bits]
  | n + 1, o => by
    have hl := bi_lt p n
    have e : iv_bits p (n + 1) = 2 ^ n * (if p n then 1 else 0) + iv_bits p n := by
      simp only [iv_bits]
      split <;> omega
    rw [e, Nat.testBit_two_pow_mul_add _ hl]
    by_cases h : o < n
    · rw [if_pos h, bi_test p n o]
      simp [h, Nat.lt_succ_of_lt h]
    · rw [if_neg h]
      by_cases h2 : o = n
      · subst h2
        by_cases hp : p o = true
        · simp [hp]
        · simp [hp]
      · have h3 : ¬ o < n + 1 := by omega
        have h4 : 0 < o - n := by omega
        simp only [h3, decide_false, Bool.false_and]
        by_cases hp : p n = true
        · simp only [hp, if_true]
          cases hb : Nat.testBit 1 (o - n) with
          | false => rfl
          | true => have := Nat.testBit_one_eq_true_iff_self_eq_zero.mp hb; omega
        · simp [hp]
theorem bi_or (p : Nat → Bool) (n : Nat) : iv_bits p n ||| (if p n then 2 ^ n else 0) = iv_bits p (n + 1) := by
  have hl := bi_lt p n
  simp only [iv_bits]
  by_cases h : p n = true
  · simp only [h, if_true]
    have := Nat.two_pow_add_eq_or_of_lt hl 1
    rw [Nat.mul_one] at this
    rw [Nat.or_comm, ← this, Nat.add_comm]
  · simp [h]
theorem bi_shl : ∀ o, o < 7 → (1 : Int32) <<< (nI o &&& 31) = nI (2 ^ o) := by decide
theorem bi_shr0 : ∀ a, a < 64 → ∀ o, o < 6 → (nI a >>> (nI o &&& 31)) &&& 1 = nI ((a.testBit o).toNat) := by decide +kernel
theorem bi_shr {a o : Nat} (ha : a < 64) (ho : o < 6) : (((nI a >>> (nI o &&& 31)) &&& 1) = 1) ↔ a.testBit o = true := by
  rw [bi_shr0 a ha o ho]
  cases a.testBit o <;> decide
theorem bi_shr2 {a o : Nat} (ha : a < 64) (ho : o < 6) : (((nI a >>> (nI o &&& 31)) &&& 1) = 0) ↔ a.testBit o = false := by
  rw [bi_shr0 a ha o ho]
  cases a.testBit o <;> decide
theorem bi_lt64 (p : Nat → Bool) {n : Nat} (h : n ≤ 6) : iv_bits p n < 64 := Nat.lt_of_lt_of_le (bi_lt p n) (Nat.pow_le_pow_right (by decide) h : 2 ^ n ≤ 2 ^ 6)
theorem bi_step {p : Nat → Bool} {i : Nat} (hi : i < 6) : nI (iv_bits p i) ||| (if p i then (1 : Int32) <<< (nI i &&& 31) else 0) = nI (iv_bits p (i + 1)) := by
  rw [← bi_or, ← fa_or]
  by_cases h : p i = true
  · simp only [h, if_true]
    rw [bi_shl i (by omega)]
  · simp only [h]
    rfl
/-- a loop that gathers bits -/
theorem bi_loop {R : Type} (f : Nat → Int32 → Int32 → Option R) (k : Int32 → Option R) (p : Nat → Bool) (N : Nat) (hN : N ≤ 6)
    (h1 : ∀ n i s, i < N → f (n + 1) s (nI i) = f n (s ||| (if p i then (1 : Int32) <<< (nI i &&& 31) else 0)) (nI (i + 1))) (h2 : ∀ n s, f (n + 1) s (nI N) = k s) (F : Nat) (hF : 7 ≤ F) : f F 0 0 = k (nI (iv_bits p N)) := by
  have := pu_loop (fun n i s => f n s (nI i)) k (fun i s => s ||| (if p i then (1 : Int32) <<< (nI i &&& 31) else 0)) N (fun i s => s = nI (iv_bits p i)) (fun n i s hi hs => ⟨h1 n i s hi, by rw [hs]; exact bi_step (by omega)⟩) (fun n s _ => h2 n s) N 0 0 F (by omega) (by omega) rfl
  obtain ⟨e, e2⟩ := this
  have e3 : f F 0 (nI 0) = f F 0 0 := rfl
  rw [← e3, e, e2]
theorem bi_seen {F : Nat} (hF : 7 ≤ F) {g : am_G} {N k : Nat} (hW : iv_W g N) (hk : k < 6) : f_X8_seen F g (nI k) = some (nI (iv_bits (iv_see g k) N)) := by
  obtain ⟨hN, -, h260, -⟩ := hW
  unfold f_X8_seen
  refine bi_loop (fun n a b => f_X8_seen_4 F g (nI k) n a b) some (iv_see g k) N hN (fun n i s hi => ?_) (fun n s => ?_) F hF
  · show f_X8_seen_4 F g (nI k) (n + 1) s (nI i) = _
    rw [f_X8_seen_4.eq_2, h260, if_neg (by rw [pu_le (by omega) (by omega)]; omega), pb_sees8 hk (by omega)]
    simp only [Option.bind_some, f_X8_seen_29]
    rw [show nI i + (1 : Int32) = nI (i + 1) from nI_add i 1]
    cases iv_see g k i <;> simp
  · show f_X8_seen_4 F g (nI k) (n + 1) s (nI N) = _
    rw [f_X8_seen_4.eq_2, h260, if_pos (Int32.le_refl _)]
theorem bi_facing {g : am_G} {N k o : Nat} (hW : iv_W g N) (hk : k < N) (ho : o < N) : f_X2_areFacing g (nI k) (nI o) = some (if iv_see g k o then 1 else 0) := by
  have hN := hW.1
  have h9 := (hW.2.2.2.2.2.2 k hk).2.2.2.2
  simp only [f_X2_areFacing, (pb_yes hW ho).1, Option.bind_some, if_neg pb_10, pb_sees hW hk, h9]
  have hb := bi_shr (bi_lt64 (iv_see g k) hN) (show o < 6 by omega)
  have ht := bi_test (iv_see g k) N o
  simp only [ho, decide_true, Bool.true_and] at ht
  rw [ht] at hb
  by_cases h : iv_see g k o = true
  · rw [if_pos (hb.mpr h), if_pos h]
  · rw [if_neg (fun q => h (hb.mp q)), if_neg h]
