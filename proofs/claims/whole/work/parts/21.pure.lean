/-! PURE: numbers -/
theorem pu_le {a b : Nat} (ha : a < 2147483648) (hb : b < 2147483648) : (nI a ≤ nI b) ↔ a ≤ b := nI_leI ha hb
theorem pu_lt {a b : Nat} (ha : a < 2147483648) (hb : b < 2147483648) : (nI a < nI b) ↔ a < b := nI_ltI ha hb
theorem pu_eq {a b : Nat} (ha : a < 2147483648) (hb : b < 2147483648) : (nI a = nI b) ↔ a = b := by
  constructor
  · intro h
    have h1 := congrArg Int32.toInt h
    rw [nI_toInt ha, nI_toInt hb] at h1
    omega
  · rintro rfl; rfl
theorem pu_lel {a m : Nat} (ha : a < 2147483648) (hm : (OfNat.ofNat m : Nat) < 2147483648) : (nI a ≤ (OfNat.ofNat m : Int32)) ↔ a ≤ (OfNat.ofNat m : Nat) := pu_le ha hm
theorem pu_ler {a m : Nat} (ha : a < 2147483648) (hm : (OfNat.ofNat m : Nat) < 2147483648) : ((OfNat.ofNat m : Int32) ≤ nI a) ↔ (OfNat.ofNat m : Nat) ≤ a := pu_le hm ha
theorem pu_ltl {a m : Nat} (ha : a < 2147483648) (hm : (OfNat.ofNat m : Nat) < 2147483648) : (nI a < (OfNat.ofNat m : Int32)) ↔ a < (OfNat.ofNat m : Nat) := pu_lt ha hm
theorem pu_ltr {a m : Nat} (ha : a < 2147483648) (hm : (OfNat.ofNat m : Nat) < 2147483648) : ((OfNat.ofNat m : Int32) < nI a) ↔ (OfNat.ofNat m : Nat) < a := pu_lt hm ha
theorem pu_eql {a m : Nat} (ha : a < 2147483648) (hm : (OfNat.ofNat m : Nat) < 2147483648) : (nI a = (OfNat.ofNat m : Int32)) ↔ a = (OfNat.ofNat m : Nat) := pu_eq ha hm
theorem pu_tn {a : Nat} (ha : a < 2147483648) : Int32.toNatClampNeg (nI a) = a := nI_clamp ha
theorem pu_tnl {m : Nat} (hm : (OfNat.ofNat m : Nat) < 2147483648) : Int32.toNatClampNeg (OfNat.ofNat m : Int32) = (OfNat.ofNat m : Nat) := nI_clamp hm
theorem pu_add {a m : Nat} : nI a + (OfNat.ofNat m : Int32) = nI (a + (OfNat.ofNat m : Nat)) := nI_add a m
theorem pu_addl {a m : Nat} : (OfNat.ofNat m : Int32) + nI a = nI ((OfNat.ofNat m : Nat) + a) := nI_add m a
theorem pu_mul (a b : Nat) : nI a * nI b = nI (a * b) := (Int32.ofNat_mul a b).symm
theorem pu_mull {a m : Nat} : (OfNat.ofNat m : Int32) * nI a = nI ((OfNat.ofNat m : Nat) * a) := pu_mul m a
theorem pu_sub {a b : Nat} (h : b ≤ a) : nI a - nI b = nI (a - b) := by
  have h1 : nI a = nI (a - b) + nI b := by rw [nI_add]; congr 1; omega
  rw [h1]
  exact Int32.add_sub_cancel _ _
theorem pu_subr {a m : Nat} (h : (OfNat.ofNat m : Nat) ≤ a) : nI a - (OfNat.ofNat m : Int32) = nI (a - (OfNat.ofNat m : Nat)) := pu_sub h
theorem pu_nn {a : Nat} (ha : a < 2147483648) : ¬ nI a < 0 := nI_pos ha
theorem pu_in {a n : Nat} (ha : a < 2147483648) : am_in (nI a) n ↔ a < n := by
  unfold am_in
  rw [nI_clamp ha]
  have := nI_pos ha
  constructor
  · intro h; exact Nat.not_le.mp fun q => h (Or.inr q)
  · rintro h (q | q)
    · exact this q
    · omega
theorem pu_div {a b : Nat} (ha : a < 2147483648) (hb0 : 0 < b) (hb : b < 2147483648) : nI a / nI b = nI (a / b) := by
  apply Int32.toInt_inj.mp
  have hq : a / b < 2147483648 := Nat.lt_of_le_of_lt (Nat.div_le_self a b) ha
  rw [nI_toInt hq, Int32.toInt_div_of_ne_right, nI_toInt ha, nI_toInt hb]
  · simp
  · intro h
    have := congrArg Int32.toInt h
    rw [nI_toInt hb] at this
    have h2 : (-1 : Int32).toInt = -1 := by decide
    rw [h2] at this
    omega
theorem pu_divl {a m : Nat} (ha : a < 2147483648) (hb0 : 0 < (OfNat.ofNat m : Nat)) (hb : (OfNat.ofNat m : Nat) < 2147483648) : nI a / (OfNat.ofNat m : Int32) = nI (a / (OfNat.ofNat m : Nat)) := pu_div ha hb0 hb
theorem pu_rem {a b : Nat} (ha : a < 2147483648) (hb0 : 0 < b) (hb : b < 2147483648) : nI a - nI a / nI b * nI b = nI (a % b) := by
  rw [pu_div ha hb0 hb, pu_mul, pu_sub (Nat.div_mul_le_self a b)]
  congr 1
  have := Nat.div_add_mod a b
  rw [Nat.mul_comm] at this
  omega
theorem pu_reml {a m : Nat} (ha : a < 2147483648) (hb0 : 0 < (OfNat.ofNat m : Nat)) (hb : (OfNat.ofNat m : Nat) < 2147483648) : nI a - nI a / (OfNat.ofNat m : Int32) * (OfNat.ofNat m : Int32) = nI (a % (OfNat.ofNat m : Nat)) := pu_rem ha hb0 hb
/-- a number is below 0, or n or more, or one of the first n -/
theorem pu_cases (p : Int32) (n : Nat) (hn : n < 2147483648) : p < 0 ∨ (¬ p < 0 ∧ nI n ≤ p) ∨ ∃ k, k < n ∧ p = nI k := by
  by_cases h0 : p < 0
  · exact Or.inl h0
  · refine Or.inr ?_
    have h1 : 0 ≤ p.toInt := by
      have := Int32.not_lt.mp h0
      simpa using Int32.le_iff_toInt_le.mp this
    have h2 : p.toInt < 2147483648 := by have := p.toInt_lt; omega
    have h3 : p = nI p.toInt.toNat := by
      apply Int32.toInt_inj.mp
      rw [nI_toInt (by omega)]
      omega
    by_cases h4 : p.toInt.toNat < n
    · exact Or.inr ⟨_, h4, h3⟩
    · refine Or.inl ⟨h0, ?_⟩
      rw [h3]
      exact nI_le (by omega) (by omega)
theorem pu_m1 : (-1 : Int32).toInt = -1 := by decide
theorem pu_in64 (a b c : Int32) : f_X8_in a.toInt64 b.toInt64 c.toInt64 = some (if b ≤ a ∧ a ≤ c then 1 else 0) := by
  unfold f_X8_in lg_cmp
  have e1 := fa_wide_lt a b
  have e2 := fa_wide_lt b a
  have e3 := fa_wide_lt c a
  have e4 := fa_wide_eq a b
  have e5 := fa_wide_eq a c
  simp only [e1, e2, e3, e4, e5]
  by_cases h1 : b < a
  · have hb : b ≤ a := (fa_of_lt h1).1
    by_cases h2 : c < a
    · have : ¬ a ≤ c := (fa_of_lt h2).2.1
      simp [h1, h2, hb, this]
    · have : a ≤ c := fa_of_nlt h2
      by_cases h3 : a = c
      · subst h3; simp [h1, h2, hb]
      · simp [h1, h2, hb, this, h3]
  · by_cases h4 : a = b
    · subst h4
      have hb : a ≤ a := Int32.le_refl a
      by_cases h2 : c < a
      · have : ¬ a ≤ c := (fa_of_lt h2).2.1
        simp [h2, this]
      · have : a ≤ c := fa_of_nlt h2
        by_cases h3 : a = c
        · subst h3; simp [h2, hb]
        · simp [h2, hb, this, h3]
    · have : ¬ b ≤ a := fun q => h1 (fa_le_ne q (Ne.symm h4))
      simp [h1, h4, this]
theorem pu_l0 : (0 : Int64) = Int32.toInt64 0 := by decide
theorem pu_l1 : (1 : Int64) = Int32.toInt64 1 := by decide
theorem pu_l3 : (3 : Int64) = Int32.toInt64 3 := by decide
theorem pu_l5 : (5 : Int64) = Int32.toInt64 5 := by decide
theorem pu_l9 : (9 : Int64) = Int32.toInt64 9 := by decide
theorem pu_l10 : (10 : Int64) = Int32.toInt64 10 := by decide
theorem pu_l30 : (30 : Int64) = Int32.toInt64 30 := by decide
theorem pu_l255 : (255 : Int64) = Int32.toInt64 255 := by decide
theorem pu_lm1 : (-1 : Int64) = Int32.toInt64 (-1) := by decide
/-! loops -/
/-- d steps from i on -/
def pu_fo {σ : Type} (st : Nat → σ → σ) : Nat → Nat → σ → σ
  | _, 0, s => s
  | i, d + 1, s => pu_fo st (i + 1) d (st i s)
theorem pu_fo_last {σ : Type} (st : Nat → σ → σ) : ∀ (d i : Nat) (s : σ), pu_fo st i (d + 1) s = st (i + d) (pu_fo st i d s)
  | 0, i, s => rfl
  | d + 1, i, s => by
    show pu_fo st (i + 1) (d + 1) (st i s) = _
    rw [pu_fo_last st d (i + 1) (st i s)]
    show st (i + 1 + d) _ = st (i + (d + 1)) _
    rw [show i + 1 + d = i + (d + 1) by omega]
    rfl
/-- a loop that counts from i to N, with an invariant -/
theorem pu_loop {σ R : Type} (f : Nat → Nat → σ → Option R) (k : σ → Option R) (st : Nat → σ → σ) (N : Nat) (P : Nat → σ → Prop)
    (h1 : ∀ n i s, i < N → P i s → f (n + 1) i s = f n (i + 1) (st i s) ∧ P (i + 1) (st i s)) (h2 : ∀ n s, P N s → f (n + 1) N s = k s) :
    ∀ (d i : Nat) (s : σ) (n : Nat), i + d = N → d < n → P i s → f n i s = k (pu_fo st i d s) ∧ P N (pu_fo st i d s) := by
  intro d
  induction d with
  | zero =>
    intro i s n hi hn hP
    obtain ⟨m, rfl⟩ : ∃ m, n = m + 1 := ⟨n - 1, by omega⟩
    have hi : i = N := by omega
    subst hi
    exact ⟨h2 m s hP, hP⟩
  | succ d ih =>
    intro i s n hi hn hP
    obtain ⟨m, rfl⟩ : ∃ m, n = m + 1 := ⟨n - 1, by omega⟩
    obtain ⟨e, hP2⟩ := h1 m i s (by omega) hP
    rw [e]
    exact ih (i + 1) (st i s) m (by omega) (by omega) hP2
