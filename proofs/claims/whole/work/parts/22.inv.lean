/-! THE INVARIANT between the class's cells and the reference's -/
/-- a small number -/
def iv_b (x : Int32) (n : Nat) : Prop := ∃ v, v < n ∧ x = nI v
/-- who sees whom, by the reference's cells -/
def iv_see (g : am_G) (k o : Nat) : Bool := decide (¬ g 29 k = g 29 o ∧ (-(g 26 1) ≤ g 28 k - g 28 o ∧ g 28 k - g 28 o ≤ g 26 1) ∧ (-1 ≤ g 30 k - g 30 o ∧ g 30 k - g 30 o ≤ 1))
/-- bits of the places below n at which p holds -/
def iv_bits (p : Nat → Bool) : Nat → Nat
  | 0 => 0
  | n + 1 => iv_bits p n + (if p n then 2 ^ n else 0)
/-- the text -/
def iv_X (g : am_G) (len : Nat) : Prop := len ≤ 48 ∧ g 1 1 = nI len ∧ g 26 14 = nI len ∧ ∀ k, k < 48 → g 2 k = g 35 k ∧ iv_b (g 35 k) 256
/-- the town -/
def iv_W (g : am_G) (N : Nat) : Prop := N ≤ 6 ∧ g 3 7 = nI N ∧ g 26 0 = nI N ∧ g 3 6 = g 26 1 ∧ (∃ v, 1 ≤ v ∧ v ≤ 9 ∧ g 26 1 = nI v) ∧ (∀ s, s < 4 → g 4 s = g 27 s ∧ iv_b (g 27 s) 4) ∧
  ∀ k, k < N → (g 5 k = g 28 k ∧ iv_b (g 28 k) 10) ∧ (g 6 k = g 29 k ∧ iv_b (g 29 k) 2) ∧ (g 7 k = g 30 k ∧ iv_b (g 30 k) 4) ∧ (g 8 k = g 31 k ∧ iv_b (g 31 k) 4) ∧ g 9 k = nI (iv_bits (iv_see g k) N)
/-- states, what is to be passed on, the hour: thirteen numbers -/
def iv_C (g : am_G) (k : Nat) : Int32 := if k < 6 then g 11 k else if k < 12 then g 12 (k - 6) else g 10 3
def iv_E (N : Nat) (a b : Nat → Int32) : Prop := (∀ k, k < N → a k = b k ∧ a (6 + k) = b (6 + k)) ∧ a 12 = b 12
def iv_O (g : am_G) (N : Nat) (b : Nat → Int32) : Prop := ∀ k, k < N → iv_b (b k) 4 ∧ (b (6 + k) = -9 ∨ ∃ s, s < 4 ∧ b (6 + k) = g 27 s)
/-- the row of acts -/
def iv_A (g : am_G) (N A nx : Nat) : Prop := A ≤ 14 ∧ nx < 14 ∧ g 16 1 = nI A ∧ g 26 17 = nI A ∧ g 26 18 = nI nx ∧
  ∀ j, j < A → iv_E N (fun k => g 17 (13 * j + k)) (fun k => g 36 (13 * ((nx + 14 - A + j) % 14) + k)) ∧ iv_O g N (fun k => g 36 (13 * ((nx + 14 - A + j) % 14) + k))
/-- the slots -/
def iv_S (g : am_G) (N : Nat) : Prop := (g 41 0 = 0 ∨ g 41 0 = 1) ∧ (g 41 1 = 0 ∨ g 41 1 = 1) ∧ g 18 1 = g 41 0 + 2 * g 41 1 ∧
  ∀ s, s < 2 → g 41 s = 1 → iv_E N (fun k => g 19 (13 * s + k)) (fun k => g 42 (13 * s + k)) ∧ iv_O g N (fun k => g 42 (13 * s + k))
/-- is the word v by the state s as the k-th that followed says -/
def iv_f (g : am_G) (k s v : Nat) : Bool := decide (g 37 k = nI s → (g 38 k = nI v ∨ (g 39 k = 0 ∧ nI v = nI (((g 38 k).toNatClampNeg + 1) % 4))))
def iv_fa (g : am_G) (s v : Nat) : Nat → Bool
  | 0 => true
  | n + 1 => iv_fa g s v n && iv_f g n s v
/-- what followed -/
def iv_F (g : am_G) (fl : Nat) : Prop := fl ≤ 6 ∧ g 22 1 = nI fl ∧ g 26 23 = nI fl ∧ (∀ k, k < fl → iv_b (g 37 k) 4 ∧ iv_b (g 38 k) 4 ∧ (g 39 k = 0 ∨ g 39 k = 1)) ∧
  ∀ s, s < 4 → g 23 s = nI (iv_bits (fun v => iv_fa g s v fl) 4)
def iv_I (g : am_G) (w : am_J) : Prop := ∃ len N A nx fl, iv_X g len ∧ iv_W g N ∧ (iv_E N (iv_C g) (g 32) ∧ iv_O g N (g 32)) ∧ iv_A g N A nx ∧ iv_S g N ∧ iv_F g fl ∧ w 0 10 = w 26 28
/-- two states of cells are alike as far as the invariant looks -/
def iv_same (g h : am_G) : Prop := (∀ c, (c = 2 ∨ c = 4 ∨ c = 5 ∨ c = 6 ∨ c = 7 ∨ c = 8 ∨ c = 9 ∨ c = 11 ∨ c = 12 ∨ c = 17 ∨ c = 19 ∨ c = 23 ∨ c = 27 ∨ c = 28 ∨ c = 29 ∨ c = 30 ∨ c = 31 ∨ c = 35 ∨ c = 36 ∨ c = 37 ∨ c = 38 ∨ c = 39 ∨ c = 41 ∨ c = 42) → h c = g c) ∧ (∀ k, k < 13 → h 32 k = g 32 k) ∧
  (h 1 1 = g 1 1 ∧ h 26 14 = g 26 14 ∧ h 3 7 = g 3 7 ∧ h 26 0 = g 26 0 ∧ h 3 6 = g 3 6 ∧ h 26 1 = g 26 1) ∧ (h 10 3 = g 10 3 ∧ h 16 1 = g 16 1 ∧ h 26 17 = g 26 17 ∧ h 26 18 = g 26 18) ∧ (h 18 1 = g 18 1 ∧ h 22 1 = g 22 1 ∧ h 26 23 = g 26 23)
theorem iv_see_same {g h : am_G} (H : iv_same g h) (k o : Nat) : iv_see h k o = iv_see g k o := by
  obtain ⟨h1, -, h3, -⟩ := H
  simp only [iv_see, h1 29 (by decide), h1 28 (by decide), h1 30 (by decide), h3.2.2.2.2.2]
theorem iv_same.I {g h : am_G} {w w' : am_J} (H : iv_same g h) (hw : w' 0 10 = w' 26 28) (hI : iv_I g w) : iv_I h w' := by
  have hse := iv_see_same H
  obtain ⟨h1, h2, h3, h4, h5⟩ := H
  obtain ⟨len, N, A, nx, fl, a1, a2, ⟨a3, a3'⟩, a4, a5, a6, -⟩ := hI
  have hse' : ∀ k, iv_see h k = iv_see g k := fun k => funext fun o => hse k o
  have hC : iv_C h = iv_C g := by
    funext k
    simp only [iv_C, h1 11 (by decide), h1 12 (by decide), h4.1]
  have hf : ∀ s v, iv_fa h s v fl = iv_fa g s v fl := by
    intro s v
    generalize fl = n
    induction n with
    | zero => rfl
    | succ n ih => simp only [iv_fa, ih, iv_f, h1 37 (by decide), h1 38 (by decide), h1 39 (by decide)]
  have hO : ∀ b, iv_O g N b → iv_O h N b := by
    intro b hb k hk
    refine ⟨(hb k hk).1, ?_⟩
    rw [h1 27 (by decide)]
    exact (hb k hk).2
  have hN : N ≤ 6 := a2.1
  refine ⟨len, N, A, nx, fl, ?_, ?_, ⟨?_, ?_⟩, ?_, ?_, ?_, hw⟩
  · simp only [iv_X, h1 2 (by decide), h1 35 (by decide), h3.1, h3.2.1]
    exact a1
  · simp only [iv_W, h1 4 (by decide), h1 5 (by decide), h1 6 (by decide), h1 7 (by decide), h1 8 (by decide), h1 9 (by decide), h1 27 (by decide), h1 28 (by decide), h1 29 (by decide), h1 30 (by decide), h1 31 (by decide), h3.2.2.1, h3.2.2.2.1, h3.2.2.2.2.1, h3.2.2.2.2.2, hse']
    exact a2
  · rw [hC]
    refine ⟨fun k hk => ?_, ?_⟩
    · rw [h2 k (by omega), h2 (6 + k) (by omega)]
      exact a3.1 k hk
    · rw [h2 12 (by omega)]
      exact a3.2
  · intro k hk
    rw [h2 k (by omega), h2 (6 + k) (by omega), h1 27 (by decide)]
    exact a3' k hk
  · obtain ⟨b1, b2, b3, b4, b5, b6⟩ := a4
    refine ⟨b1, b2, by rw [h4.2.1]; exact b3, by rw [h4.2.2.1]; exact b4, by rw [h4.2.2.2]; exact b5, fun j hj => ?_⟩
    rw [h1 17 (by decide), h1 36 (by decide)]
    exact ⟨(b6 j hj).1, hO _ (b6 j hj).2⟩
  · obtain ⟨b1, b2, b3, b4⟩ := a5
    rw [iv_S, h1 41 (by decide), h5.1, h1 19 (by decide), h1 42 (by decide)]
    exact ⟨b1, b2, b3, fun s hs hk => ⟨(b4 s hs hk).1, hO _ (b4 s hs hk).2⟩⟩
  · obtain ⟨b1, b2, b3, b4, b5⟩ := a6
    refine ⟨b1, by rw [h5.2.1]; exact b2, by rw [h5.2.2]; exact b3, ?_, ?_⟩
    · rw [h1 37 (by decide), h1 38 (by decide), h1 39 (by decide)]
      exact b4
    · intro s hs
      rw [h1 23 (by decide), b5 s hs]
      congr 1
      congr 1
      funext v
      exact (hf s v).symm
