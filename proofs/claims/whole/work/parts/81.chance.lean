/-! SLAMS: sums over what moved -/
def sl_u (x L : Nat) (o : Nat) (b : Bool) : Nat := if L.testBit o then (if b then x else 10 - x) else (if b then 0 else 1)
def sl_G (u : Nat → Bool → Nat) (r : Nat → Nat) : Nat → Nat → Nat
  | 0, s => r s
  | n + 1, s => u n false * sl_G u r n s + u n true * sl_G u r n (s + 2 ^ n)
def sl_T (u : Nat → Bool → Nat) (s : Nat) : Nat → Nat → Nat
  | _, 0 => 1
  | n, d + 1 => u n (s.testBit n) * sl_T u s (n + 1) d
theorem sl_Tc {u : Nat → Bool → Nat} {s s' : Nat} : ∀ (d n : Nat), (∀ o, n ≤ o → o < n + d → s.testBit o = s'.testBit o) → sl_T u s n d = sl_T u s' n d
  | 0, _, _ => rfl
  | d + 1, n, h => by
    unfold sl_T
    rw [h n (Nat.le_refl n) (by omega), sl_Tc d (n + 1) (fun o h1 h2 => h o (by omega) (by omega))]
theorem sl_f1a : ∀ n, n < 6 → ∀ s, s < 64 → s % 2 ^ (n + 1) = 0 → (s.testBit n = false ∧ s + 2 ^ n < 64 ∧ (s + 2 ^ n) % 2 ^ n = 0 ∧ s % 2 ^ n = 0 ∧ (s + 2 ^ n).testBit n = true) := by decide +kernel
theorem sl_f1b : ∀ n, n < 6 → ∀ s, s < 64 → s % 2 ^ (n + 1) = 0 → ∀ o, o < 6 → n < o → (s + 2 ^ n).testBit o = s.testBit o := by decide +kernel
theorem sl_f1 (n : Nat) (hn : n < 6) (s : Nat) (hs : s < 64) (h : s % 2 ^ (n + 1) = 0) : (s.testBit n = false ∧ s + 2 ^ n < 64 ∧ (s + 2 ^ n) % 2 ^ n = 0 ∧ s % 2 ^ n = 0 ∧ (s + 2 ^ n).testBit n = true) ∧ ∀ o, o < 6 → n < o → (s + 2 ^ n).testBit o = s.testBit o := ⟨sl_f1a n hn s hs h, sl_f1b n hn s hs h⟩
theorem sl_f2 : ∀ n, n < 6 → ∀ s, s < 64 → s % 2 ^ (n + 1) = 0 → ∀ j, j < 2 ^ n → s + j < 64 ∧ (s + j).testBit n = false := by decide +kernel
theorem sl_sum (u : Nat → Bool → Nat) (r : Nat → Nat) : ∀ (n s : Nat), n ≤ 6 → s < 64 → s % 2 ^ n = 0 → sm (fun t => sl_T u t 0 6 * r t) s (2 ^ n) = sl_T u s n (6 - n) * sl_G u r n s
  | 0, s, _, _, _ => by
    show sl_T u s 0 6 * r s + 0 = _
    rfl
  | n + 1, s, hn, hs, hm => by
    obtain ⟨⟨a1, a2, a3, a4, a5⟩, a6⟩ := sl_f1 n (by omega) s hs hm
    have e : 2 ^ (n + 1) = 2 ^ n + 2 ^ n := by rw [Nat.pow_succ]; omega
    have hT1 : sl_T u s n (6 - n) = u n false * sl_T u s (n + 1) (6 - (n + 1)) := by
      rw [show 6 - n = (6 - (n + 1)) + 1 by omega, sl_T, a1]
    have hT2 : sl_T u (s + 2 ^ n) n (6 - n) = u n true * sl_T u s (n + 1) (6 - (n + 1)) := by
      rw [show 6 - n = (6 - (n + 1)) + 1 by omega, sl_T, a5, sl_Tc (s := s + 2 ^ n) (s' := s) (6 - (n + 1)) (n + 1) (fun o h1 h2 => a6 o (by omega) (by omega))]
    rw [e, sm_add, sl_sum u r n s (by omega) hs a4, sl_sum u r n (s + 2 ^ n) (by omega) a2 a3, hT1, hT2, sl_G, Nat.mul_add]
    congr 1
    · rw [← Nat.mul_assoc, Nat.mul_comm (u n false)]
    · rw [← Nat.mul_assoc, Nat.mul_comm (u n true)]
theorem sl_all (u : Nat → Bool → Nat) (r : Nat → Nat) : sm (fun t => sl_T u t 0 6 * r t) 0 64 = sl_G u r 6 0 := by
  have := sl_sum u r 6 0 (by omega) (by omega) (by decide)
  rw [show (2 : Nat) ^ 6 = 64 from rfl] at this
  rw [this]
  show 1 * _ = _
  rw [Nat.one_mul]
theorem sl_Gc (u : Nat → Bool → Nat) (r : Nat → Nat) : ∀ (n s s' : Nat), (∀ j, j < 2 ^ n → r (s + j) = r (s' + j)) → sl_G u r n s = sl_G u r n s'
  | 0, s, s', h => h 0 (by decide)
  | n + 1, s, s', h => by
    have e : 2 ^ (n + 1) = 2 ^ n + 2 ^ n := by rw [Nat.pow_succ]; omega
    unfold sl_G
    rw [sl_Gc u r n s s' (fun j hj => h j (by omega)), sl_Gc u r n (s + 2 ^ n) (s' + 2 ^ n) (fun j hj => by rw [Nat.add_assoc, Nat.add_assoc]; exact h (2 ^ n + j) (by omega))]
/-- a place on which the answer doesn't hang makes ten times as much -/
theorem sl_marg {u v : Nat → Bool → Nat} {r m : Nat → Nat} (hu : ∀ o, o < 6 → (u o = v o ∧ m o = 0) ∨ ((u o false + u o true = 10 ∧ v o false = 1 ∧ v o true = 0) ∧ (∀ t, t < 64 → t.testBit o = false → r (t + 2 ^ o) = r t) ∧ m o = 1)) : ∀ (n s : Nat), n ≤ 6 → s < 64 → s % 2 ^ n = 0 → sl_G u r n s = 10 ^ (sm m 0 n) * sl_G v r n s
  | 0, s, _, _, _ => by
    show r s = 1 * r s
    rw [Nat.one_mul]
  | n + 1, s, hn, hs, hm => by
    obtain ⟨⟨a1, a2, a3, a4, a5⟩, a6⟩ := sl_f1 n (by omega) s hs hm
    have i1 := sl_marg hu n s (by omega) hs a4
    have i2 := sl_marg hu n (s + 2 ^ n) (by omega) a2 a3
    rw [sm_last, Nat.zero_add]
    unfold sl_G
    rw [i1, i2]
    rcases hu n (by omega) with ⟨h1, h2⟩ | ⟨⟨h1, h2, h3⟩, h4, h5⟩
    · rw [h1, h2, Nat.add_zero, Nat.mul_add]
      congr 1
      · rw [← Nat.mul_assoc, ← Nat.mul_assoc, Nat.mul_comm (v n false)]
      · rw [← Nat.mul_assoc, ← Nat.mul_assoc, Nat.mul_comm (v n true)]
    · have e : sl_G v r n (s + 2 ^ n) = sl_G v r n s := sl_Gc v r n _ _ (fun j hj => by
        obtain ⟨b1, b2⟩ := sl_f2 n (by omega) s hs hm j hj
        rw [show s + 2 ^ n + j = s + j + 2 ^ n by omega]
        exact h4 (s + j) b1 b2)
      rw [e, h2, h3, h5, ← Nat.add_mul, h1, Nat.one_mul, Nat.zero_mul, Nat.add_zero, Nat.pow_succ, ← Nat.mul_assoc, Nat.mul_comm 10, Nat.add_zero]
theorem sl_one {u : Nat → Bool → Nat} (hu : ∀ o, o < 6 → u o false + u o true = 1 ∨ u o false + u o true = 10) : ∀ (n s : Nat), n ≤ 6 → 1 ≤ sl_G u (fun _ => 1) n s ∧ sl_G u (fun _ => 1) n s ≤ 10 ^ n
  | 0, s, _ => ⟨Nat.le_refl 1, Nat.le_refl 1⟩
  | n + 1, s, hn => by
    obtain ⟨i1, i2⟩ := sl_one hu n s (by omega)
    have e : sl_G u (fun _ => 1) n (s + 2 ^ n) = sl_G u (fun _ => 1) n s := sl_Gc u _ n _ _ (fun j hj => rfl)
    unfold sl_G
    rw [e, ← Nat.add_mul, Nat.pow_succ]
    rcases hu n (by omega) with h | h
    · rw [h]; omega
    · rw [h]; omega
theorem sl_ule {x L o : Nat} (hx : x ≤ 10) : sl_u x L o false + sl_u x L o true = 1 ∨ sl_u x L o false + sl_u x L o true = 10 := by
  unfold sl_u
  by_cases h : L.testBit o = true
  · right
    simp only [h, if_true]
    simp
    omega
  · left
    simp only [h]
    simp
theorem sm_le {v u : Nat → Nat} : ∀ (d i : Nat), (∀ k, v k ≤ u k) → sm v i d ≤ sm u i d
  | 0, _, _ => Nat.le_refl 0
  | d + 1, i, h => Nat.add_le_add (h i) (sm_le d (i + 1) h)
theorem sm_z {v : Nat → Nat} : ∀ (d i : Nat), (∀ k, i ≤ k → k < i + d → v k = 0) → sm v i d = 0
  | 0, _, _ => rfl
  | d + 1, i, h => by
    unfold sm
    rw [h i (Nat.le_refl i) (by omega), sm_z d (i + 1) (fun k h1 h2 => h k (by omega) (by omega))]
/-- the weight of what moved, as both sides reckon it -/
def sl_c (x L s o : Nat) : Nat := if L.testBit o then (if s.testBit o then x else 10 - x) else 1
def sl_w (x L s : Nat) : Nat → Nat
  | 0 => 1
  | n + 1 => sl_w x L s n * sl_c x L s n
def sl_b (L s : Nat) : Nat → Bool
  | 0 => true
  | n + 1 => sl_b L s n && (!s.testBit n || L.testBit n)
theorem sl_b6 : ∀ L, L < 64 → ∀ s, s < 64 → sl_b L s 6 = decide (ga_m s L = 0) := by decide +kernel
def sl_P (u : Nat → Bool → Nat) (s : Nat) : Nat → Nat
  | 0 => 1
  | n + 1 => sl_P u s n * u n (s.testBit n)
theorem sl_PT (u : Nat → Bool → Nat) (s : Nat) : sl_T u s 0 6 = sl_P u s 6 := by
  simp only [sl_T, sl_P, Nat.mul_one, Nat.one_mul, Nat.mul_assoc]
theorem sl_Pw (x L s : Nat) : ∀ n, sl_P (sl_u x L) s n = if sl_b L s n then sl_w x L s n else 0
  | 0 => rfl
  | n + 1 => by
    unfold sl_P sl_b sl_w
    rw [sl_Pw x L s n]
    unfold sl_u sl_c
    cases sl_b L s n <;> cases s.testBit n <;> cases L.testBit n <;> simp
def sl_f (x L s : Nat) : Nat := if ga_m s L = 0 then sl_w x L s 6 else 0
theorem sl_fT {x L s : Nat} (hL : L < 64) (hs : s < 64) : sl_T (sl_u x L) s 0 6 = sl_f x L s := by
  rw [sl_PT, sl_Pw, sl_b6 L hL s hs, sl_f]
  by_cases h : ga_m s L = 0
  · rw [if_pos h, if_pos (decide_eq_true h)]
  · rw [if_neg h, if_neg (by rw [decide_eq_false h]; decide)]
/-- all together: both sums of both sides -/
theorem sl_main {x A B : Nat} {r : Nat → Nat} (hx : x ≤ 10) (hA : A < 64) (hB : B < 64) (hr : ∀ t, r t ≤ 1) (hi : ∀ o, o < 6 → A.testBit o = B.testBit o ∨ (A.testBit o = false ∧ B.testBit o = true ∧ ∀ t, t < 64 → t.testBit o = false → r (t + 2 ^ o) = r t)) :
    ∃ C, 1 ≤ C ∧ sm (fun t => sl_f x B t * r t) 0 64 = C * sm (fun t => sl_f x A t * r t) 0 64 ∧ sm (sl_f x B) 0 64 = C * sm (sl_f x A) 0 64 ∧ 1 ≤ sm (sl_f x A) 0 64 ∧ sm (sl_f x A) 0 64 ≤ 1000000 ∧ sm (sl_f x B) 0 64 ≤ 1000000 ∧ sm (fun t => sl_f x A t * r t) 0 64 ≤ sm (sl_f x A) 0 64 := by
  have q1 : ∀ L, L < 64 → ∀ ρ : Nat → Nat, sm (fun t => sl_f x L t * ρ t) 0 64 = sl_G (sl_u x L) ρ 6 0 := fun L hL ρ => by
    rw [← sl_all]
    exact sm_cong (fun k _ hk => by rw [sl_fT hL (by omega)])
  have q2 : ∀ L, L < 64 → sm (sl_f x L) 0 64 = sl_G (sl_u x L) (fun _ => 1) 6 0 := fun L hL => by
    rw [← q1 L hL]
    exact sm_cong (fun k _ hk => by rw [Nat.mul_one])
  have hm : ∀ ρ : Nat → Nat, (∀ o, o < 6 → A.testBit o = B.testBit o ∨ (A.testBit o = false ∧ B.testBit o = true ∧ ∀ t, t < 64 → t.testBit o = false → ρ (t + 2 ^ o) = ρ t)) → ∀ o, o < 6 → (sl_u x B o = sl_u x A o ∧ (if A.testBit o = B.testBit o then 0 else 1) = 0) ∨ ((sl_u x B o false + sl_u x B o true = 10 ∧ sl_u x A o false = 1 ∧ sl_u x A o true = 0) ∧ (∀ t, t < 64 → t.testBit o = false → ρ (t + 2 ^ o) = ρ t) ∧ (if A.testBit o = B.testBit o then 0 else 1) = 1) := by
    intro ρ h o ho
    rcases h o ho with h1 | ⟨h1, h2, h3⟩
    · left
      refine ⟨?_, if_pos h1⟩
      funext b
      unfold sl_u
      rw [h1]
    · right
      refine ⟨⟨?_, ?_, ?_⟩, h3, ?_⟩
      · unfold sl_u
        rw [h2]
        simp
        omega
      · unfold sl_u
        rw [h1]
        simp
      · unfold sl_u
        rw [h1]
        simp
      · rw [h1, h2]
        rfl
  refine ⟨10 ^ sm (fun o => if A.testBit o = B.testBit o then 0 else 1) 0 6, Nat.one_le_pow _ _ (by decide), ?_, ?_, ?_, ?_, ?_, ?_⟩
  · rw [q1 B hB, q1 A hA]
    exact sl_marg (hm r hi) 6 0 (by omega) (by omega) (by decide)
  · rw [q2 B hB, q2 A hA]
    refine sl_marg (hm (fun _ => 1) (fun o ho => ?_)) 6 0 (by omega) (by omega) (by decide)
    rcases hi o ho with h1 | ⟨h1, h2, -⟩
    · exact Or.inl h1
    · exact Or.inr ⟨h1, h2, fun _ _ _ => rfl⟩
  · rw [q2 A hA]
    exact (sl_one (fun o _ => sl_ule hx) 6 0 (by omega)).1
  · rw [q2 A hA]
    exact (sl_one (fun o _ => sl_ule hx) 6 0 (by omega)).2
  · rw [q2 B hB]
    exact (sl_one (fun o _ => sl_ule hx) 6 0 (by omega)).2
  · apply sm_le
    intro k
    have := hr k
    have h2 : sl_f x A k * r k ≤ sl_f x A k * 1 := Nat.mul_le_mul_left _ this
    rw [Nat.mul_one] at h2
    exact h2
