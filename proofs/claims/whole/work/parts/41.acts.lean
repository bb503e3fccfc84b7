/-! what acts leave alone; copying loops; the row of acts -/
def iv_rest (g h : am_G) : Prop := (∀ c, (c = 2 ∨ c = 4 ∨ c = 5 ∨ c = 6 ∨ c = 7 ∨ c = 8 ∨ c = 9 ∨ c = 19 ∨ c = 23 ∨ c = 27 ∨ c = 28 ∨ c = 29 ∨ c = 30 ∨ c = 31 ∨ c = 35 ∨ c = 37 ∨ c = 38 ∨ c = 39 ∨ c = 41 ∨ c = 42) → h c = g c) ∧
  (h 1 1 = g 1 1 ∧ h 26 14 = g 26 14 ∧ h 3 7 = g 3 7 ∧ h 26 0 = g 26 0 ∧ h 3 6 = g 3 6 ∧ h 26 1 = g 26 1) ∧ (h 18 1 = g 18 1 ∧ h 22 1 = g 22 1 ∧ h 26 23 = g 26 23)
theorem iv_rest.parts {g h : am_G} {len N fl : Nat} (H : iv_rest g h) (a1 : iv_X g len) (a2 : iv_W g N) (a5 : iv_S g N) (a6 : iv_F g fl) : iv_X h len ∧ iv_W h N ∧ iv_S h N ∧ iv_F h fl ∧ (∀ b, iv_O g N b → iv_O h N b) := by
  obtain ⟨h1, h3, h5⟩ := H
  have hse' : ∀ k, iv_see h k = iv_see g k := fun k => funext fun o => by simp only [iv_see, h1 29 (by decide), h1 28 (by decide), h1 30 (by decide), h3.2.2.2.2.2]
  have hf : ∀ s v, iv_fa h s v fl = iv_fa g s v fl := by
    intro s v
    generalize fl = n
    induction n with
    | zero => rfl
    | succ n ih => simp only [iv_fa, ih, iv_f, h1 37 (by decide), h1 38 (by decide), h1 39 (by decide)]
  have hO : ∀ b, iv_O g N b → iv_O h N b := by
    intro b hb k hk
    refine ⟨(hb k hk).1, ?_⟩
    rw [h1 27 (by decide)]
    exact (hb k hk).2
  refine ⟨?_, ?_, ?_, ?_, hO⟩
  · simp only [iv_X, h1 2 (by decide), h1 35 (by decide), h3.1, h3.2.1]
    exact a1
  · simp only [iv_W, h1 4 (by decide), h1 5 (by decide), h1 6 (by decide), h1 7 (by decide), h1 8 (by decide), h1 9 (by decide), h1 27 (by decide), h1 28 (by decide), h1 29 (by decide), h1 30 (by decide), h1 31 (by decide), h3.2.2.1, h3.2.2.2.1, h3.2.2.2.2.1, h3.2.2.2.2.2, hse']
    exact a2
  · obtain ⟨b1, b2, b3, b4⟩ := a5
    rw [iv_S, h1 41 (by decide), h5.1, h1 19 (by decide), h1 42 (by decide)]
    exact ⟨b1, b2, b3, fun s hs hk => ⟨(b4 s hs hk).1, hO _ (b4 s hs hk).2⟩⟩
  · obtain ⟨b1, b2, b3, b4, b5⟩ := a6
    refine ⟨b1, by rw [h5.2.1]; exact b2, by rw [h5.2.2]; exact b3, ?_, ?_⟩
    · rw [h1 37 (by decide), h1 38 (by decide), h1 39 (by decide)]
      exact b4
    · intro s hs
      rw [h1 23 (by decide), b5 s hs]
      congr 1
      congr 1
      funext v
      exact (hf s v).symm
theorem ac_cp0 (g : am_G) (S D s d : Nat) : am_cp g S D s d 0 = g := by
  funext a b
  rw [am_cp_at, if_neg (by omega)]
theorem ac_cpS (g : am_G) (S D s d i : Nat) : am_u (am_cp g S D s d i) D (d + i) (g S (s + i)) = am_cp g S D s d (i + 1) := by
  funext a b
  rw [am_u_at, am_cp_at, am_cp_at]
  by_cases h : a = D ∧ b = d + i
  · obtain ⟨rfl, rfl⟩ := h
    rw [if_pos ⟨rfl, rfl⟩, if_pos ⟨rfl, by omega, by omega⟩]
    congr 1
    omega
  · rw [if_neg h]
    by_cases h2 : a = D ∧ d ≤ b ∧ b < d + i
    · rw [if_pos h2, if_pos ⟨h2.1, h2.2.1, by omega⟩]
    · rw [if_neg h2, if_neg]
      rintro ⟨q1, q2, q3⟩
      exact h2 ⟨q1, q2, by
        have : b ≠ d + i := fun e => h ⟨q1, e⟩
        omega⟩
theorem ac_cpR (g : am_G) (S D s d i : Nat) (h : S ≠ D ∨ s + i < d) : am_cp g S D s d i S (s + i) = g S (s + i) := by
  rw [am_cp_at, if_neg]
  rintro ⟨q1, q2, q3⟩
  rcases h with h | h
  · exact h q1
  · omega
/-- the reference keeps an act -/
theorem ac_keep {F : Nat} (hF : 14 ≤ F) {g : am_G} {A nx : Nat} (hA : A ≤ 14) (hnx : nx < 14) (h17 : g 26 17 = nI A) (h18 : g 26 18 = nI nx) :
    f_X8_keepAct F g = some (am_u (am_u (am_cp g 32 36 0 (13 * nx) 13) 26 18 (nI ((nx + 1) % 14))) 26 17 (nI (if A < 14 then A + 1 else 14))) := by
  have hk : ∀ h, h = am_cp g 32 36 0 (13 * nx) 13 → f_X8_keepAct_34 F h = some (am_u (am_u (am_cp g 32 36 0 (13 * nx) 13) 26 18 (nI ((nx + 1) % 14))) 26 17 (nI (if A < 14 then A + 1 else 14))) := by
    rintro h rfl
    have e1 : am_cp g 32 36 0 (13 * nx) 13 26 18 = nI nx := by rw [am_cp_at, if_neg (by simp), h18]
    have e2 : am_cp g 32 36 0 (13 * nx) 13 26 17 = nI A := by rw [am_cp_at, if_neg (by simp), h17]
    have e3 : nI nx + (1 : Int32) - (nI nx + (1 : Int32)) / (14 : Int32) * (14 : Int32) = nI ((nx + 1) % 14) := by
      rw [show nI nx + (1 : Int32) = nI (nx + 1) from nI_add nx 1]
      exact pu_rem (a := nx + 1) (b := 14) (by omega) (by decide) (by decide)
    have e4 : ∀ z, am_u (am_cp g 32 36 0 (13 * nx) 13) 26 18 z 26 17 = nI A := fun z => by rw [am_u_at, if_neg (by decide), e2]
    unfold f_X8_keepAct_34
    simp only [e1, e3, e4]
    by_cases h : A < 14
    · rw [if_neg (show ¬ (14 : Int32) ≤ nI A from nI_ge (b := 14) h (by decide)), if_pos h, show nI A + (1 : Int32) = nI (A + 1) from nI_add A 1]
    · rw [if_pos (show (14 : Int32) ≤ nI A from nI_le (a := 14) (by omega) (by omega)), if_neg h]
      rfl
  unfold f_X8_keepAct
  have := (pu_loop (fun n i h => f_X8_keepAct_2 F (fun g => f_X8_keepAct_34 F g) n (nI i) h) (fun h => f_X8_keepAct_34 F h) (fun i h => am_u h 36 (13 * nx + i) (g 32 i)) 13 (fun i h => h = am_cp g 32 36 0 (13 * nx) i) (fun n i h hi hh => ?_) (fun n h hh => ?_) 13 0 g F (by omega) (by omega) (ac_cp0 ..).symm)
  · obtain ⟨e, e2⟩ := this
    exact e.trans (hk _ e2)
  · subst hh
    have e1 : am_cp g 32 36 0 (13 * nx) i 26 18 = nI nx := by rw [am_cp_at, if_neg (by simp), h18]
    have e2 : (13 : Int32) * nI nx + nI i = nI (13 * nx + i) := by
      rw [show (13 : Int32) * nI nx = nI (13 * nx) from pu_mul 13 nx, nI_add]
    have e3 : am_cp g 32 36 0 (13 * nx) i 32 i = g 32 i := by
      have := ac_cpR g 32 36 0 (13 * nx) i (Or.inl (by decide))
      rwa [Nat.zero_add] at this
    constructor
    · show f_X8_keepAct_2 F _ (n + 1) (nI i) _ = f_X8_keepAct_2 F _ n (nI (i + 1)) _
      rw [f_X8_keepAct_2.eq_2]
      simp only [e1, e2, pu_tn (show i < 2147483648 by omega), pu_tn (show 13 * nx + i < 2147483648 by omega), e3]
      rw [if_neg (show ¬ (13 : Int32) ≤ nI i from nI_ge (b := 13) hi (by decide)), if_pos ((pu_in (by omega)).mpr (by omega)), if_pos ((pu_in (by omega)).mpr (by omega)), show nI i + (1 : Int32) = nI (i + 1) from nI_add i 1]
    · have := ac_cpS g 32 36 0 (13 * nx) i
      rwa [Nat.zero_add] at this
  · show f_X8_keepAct_2 F _ (n + 1) (nI 13) _ = _
    rw [f_X8_keepAct_2.eq_2, if_pos (show (13 : Int32) ≤ nI 13 from by decide)]
/-- the class stores the state at a place of a row -/
def ac_st (g : am_G) (D at_ : Nat) : am_G := am_u (am_cp (am_cp g 11 D 0 at_ 6) 12 D 0 (at_ + 6) 6) D (at_ + 12) (g 10 3)
theorem ac_st_at (g : am_G) (D at_ a b : Nat) (hD : D ≠ 11 ∧ D ≠ 12 ∧ D ≠ 10) : ac_st g D at_ a b = if a = D ∧ at_ ≤ b ∧ b < at_ + 13 then iv_C g (b - at_) else g a b := by
  unfold ac_st
  rw [am_u_at, am_cp_at, am_cp_at, am_cp_at]
  by_cases h : a = D ∧ at_ ≤ b ∧ b < at_ + 13
  · obtain ⟨rfl, h1, h2⟩ := h
    rw [if_pos (show a = a ∧ at_ ≤ b ∧ b < at_ + 13 from ⟨rfl, h1, h2⟩)]
    unfold iv_C
    by_cases c1 : b = at_ + 12
    · subst c1
      rw [if_pos ⟨rfl, rfl⟩, if_neg (by omega), if_neg (by omega)]
    · rw [if_neg (fun q => c1 q.2)]
      by_cases c2 : b < at_ + 6
      · rw [if_neg (by omega), if_pos ⟨rfl, h1, c2⟩, if_pos (by omega), Nat.zero_add]
      · rw [if_pos ⟨rfl, by omega, by omega⟩, if_neg (fun q => hD.2.1 q.1.symm), if_neg (by omega), if_pos (by omega)]
        congr 1
        omega
  · rw [if_neg h, if_neg (fun q => h ⟨q.1, by omega, by omega⟩), if_neg (fun q => h ⟨q.1, by omega, by omega⟩), if_neg (fun q => h ⟨q.1, by omega, by omega⟩)]
theorem ac_store17 {g : am_G} {A : Nat} (hA : A < 14) : f_X4_store_10_17 g (nI (13 * A)) = some (ac_st g 17 (13 * A)) := by
  have e6 : nI (13 * A) + (6 : Int32) = nI (13 * A + 6) := nI_add (13 * A) 6
  have e12 : nI (13 * A) + (13 : Int32) - (1 : Int32) = nI (13 * A + 12) := by
    rw [show nI (13 * A) + (13 : Int32) = nI (13 * A + 13) from nI_add (13 * A) 13]
    exact pu_sub (a := 13 * A + 13) (b := 1) (by omega)
  have t0 : Int32.toNatClampNeg (0 : Int32) = 0 := by decide
  have t6 : Int32.toNatClampNeg (6 : Int32) = 6 := by decide
  have t1 := pu_tn (show 13 * A < 2147483648 by omega)
  have t2 := pu_tn (show 13 * A + 6 < 2147483648 by omega)
  have t3 := pu_tn (show 13 * A + 12 < 2147483648 by omega)
  have n1 := pu_nn (show 13 * A < 2147483648 by omega)
  have n2 := pu_nn (show 13 * A + 6 < 2147483648 by omega)
  have hr : (am_cp (am_cp g 11 17 0 (13 * A) 6) 12 17 0 (13 * A + 6) 6) 10 3 = g 10 3 := by
    rw [am_cp_at, if_neg (by simp), am_cp_at, if_neg (by simp)]
  unfold f_X4_store_10_17
  simp only [e6, e12, t0, t6, t1, t2, t3, hr]
  have e169 : Int32.ofNat 182 - (13 : Int32) = nI 169 := by decide
  rw [if_neg n1, e169, if_pos (nI_le (show 13 * A ≤ 169 by omega) (by decide)), if_pos ⟨⟨by decide, n1⟩, by decide, by decide, by omega⟩, if_pos ⟨⟨by decide, n2⟩, by decide, by decide, by omega⟩, if_pos ((pu_in (by omega)).mpr (by omega))]
  rfl
/-- the class's row of acts behind one more -/
def ac_rem (g : am_G) (A : Nat) : am_G := if A < 14 then am_u (ac_st g 17 (13 * A)) 16 1 (nI (A + 1)) else am_u (ac_st (am_u (am_cp g 17 17 13 0 169) 16 1 13) 17 169) 16 1 (nI 14)
theorem ac_remember {g : am_G} {A : Nat} (hA : A ≤ 14) (h16 : g 16 1 = nI A) : f_X0_remember g = some (ac_rem g A) := by
  unfold f_X0_remember ac_rem
  by_cases h : A < 14
  · rw [if_pos h, h16, if_pos (show nI A < (14 : Int32) from nI_lt (b := 14) h (by decide))]
    unfold f_X0_remember_13
    rw [h16, show nI A * (13 : Int32) = nI (13 * A) from by rw [show nI A * (13 : Int32) = nI (A * 13) from pu_mul A 13, Nat.mul_comm], ac_store17 h]
    simp only [Option.bind_some]
    have : ac_st g 17 (13 * A) 16 1 = nI A := by rw [ac_st_at _ _ _ _ _ (by decide), if_neg (by simp), h16]
    rw [this, show nI A + (1 : Int32) = nI (A + 1) from nI_add A 1]
  · have h14 : A = 14 := by omega
    subst h14
    rw [if_neg h, h16, if_neg (by decide)]
    have ef : f_X0_forgetFirst g = some (am_u (am_cp g 17 17 13 0 169) 16 1 13) := by
      unfold f_X0_forgetFirst
      rw [show Int32.toNatClampNeg (13 : Int32) = 13 by decide, show Int32.toNatClampNeg (0 : Int32) = 0 by decide, show Int32.toNatClampNeg (169 : Int32) = 169 by decide]
    rw [ef]
    simp only [Option.bind_some]
    unfold f_X0_remember_13
    have e : am_u (am_cp g 17 17 13 0 169) 16 1 13 16 1 = nI 13 := by rw [am_u_at, if_pos ⟨rfl, rfl⟩]; rfl
    rw [e, show nI 13 * (13 : Int32) = nI (13 * 13) from pu_mul 13 13, ac_store17 (by decide)]
    simp only [Option.bind_some]
    have : ac_st (am_u (am_cp g 17 17 13 0 169) 16 1 13) 17 (13 * 13) 16 1 = nI 13 := by rw [ac_st_at _ _ _ _ _ (by decide), if_neg (by simp), e]
    rw [this]
    rfl
