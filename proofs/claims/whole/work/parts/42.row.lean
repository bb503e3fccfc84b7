/-! the row of acts, one more, on both sides -/
theorem ac_cls {g : am_G} {A j k : Nat} (hA : A ≤ 14) (hk : k < 13) (hj : j < (if A < 14 then A + 1 else 14)) : ac_rem g A 17 (13 * j + k) = if j + 1 = (if A < 14 then A + 1 else 14) then iv_C g k else g 17 (13 * (if A < 14 then j else j + 1) + k) := by
  unfold ac_rem
  by_cases h : A < 14
  · simp only [if_pos h] at hj ⊢
    rw [am_u_at, if_neg (by simp), ac_st_at _ _ _ _ _ (by decide)]
    by_cases h2 : j = A
    · subst h2
      rw [if_pos ⟨rfl, by omega, by omega⟩, if_pos rfl]
      congr 1
      omega
    · rw [if_neg (by omega), if_neg (by omega)]
  · simp only [if_neg h] at hj ⊢
    have hC : iv_C (am_u (am_cp g 17 17 13 0 169) 16 1 13) = iv_C g := by
      funext a
      simp [iv_C, am_u_at, am_cp_at]
    rw [am_u_at, if_neg (by simp), ac_st_at _ _ _ _ _ (by decide), hC]
    by_cases h2 : j = 13
    · subst h2
      rw [if_pos ⟨rfl, by omega, by omega⟩, if_pos rfl]
      exact congrArg (iv_C g) (by omega)
    · rw [if_neg (by omega), if_neg (by omega), am_u_at, if_neg (by simp), am_cp_at, if_pos ⟨rfl, by omega, by omega⟩]
      congr 1
      omega
theorem ac_mod {g : am_G} {nx r k : Nat} (hk : k < 13) : am_cp g 32 36 0 (13 * nx) 13 36 (13 * r + k) = if r = nx then g 32 k else g 36 (13 * r + k) := by
  rw [am_cp_at]
  by_cases h : r = nx
  · subst h
    rw [if_pos ⟨rfl, by omega, by omega⟩, if_pos rfl]
    congr 1
    omega
  · rw [if_neg h, if_neg]
    rintro ⟨-, h1, h2⟩
    apply h
    omega
theorem ac_row {g h : am_G} {N A nx : Nat} (hN : N ≤ 6) (hA : iv_A g N A nx) (hE : iv_E N (iv_C g) (g 32)) (hO : iv_O g N (g 32)) (h17 : h 17 = ac_rem g A 17) (h16 : h 16 1 = ac_rem g A 16 1) (h36 : h 36 = am_cp g 32 36 0 (13 * nx) 13 36) (h2617 : h 26 17 = nI (if A < 14 then A + 1 else 14)) (h2618 : h 26 18 = nI ((nx + 1) % 14)) (h27 : h 27 = g 27) :
    iv_A h N (if A < 14 then A + 1 else 14) ((nx + 1) % 14) := by
  obtain ⟨a1, a2, a3, a4, a5, a6⟩ := hA
  have hsz : ac_rem g A 16 1 = nI (if A < 14 then A + 1 else 14) := by
    unfold ac_rem
    by_cases hl : A < 14
    · simp only [if_pos hl]; rw [am_u_at, if_pos ⟨rfl, rfl⟩]
    · simp only [if_neg hl]; rw [am_u_at, if_pos ⟨rfl, rfl⟩]
  refine ⟨by split <;> omega, Nat.mod_lt _ (by decide), by rw [h16, hsz], h2617, h2618, fun j hj => ?_⟩
  have hO' : ∀ b, iv_O g N b → iv_O h N b := by
    intro b hb k hk
    refine ⟨(hb k hk).1, ?_⟩
    rw [h27]
    exact (hb k hk).2
  have cl : ∀ k, k < 13 → h 17 (13 * j + k) = if j + 1 = (if A < 14 then A + 1 else 14) then iv_C g k else g 17 (13 * (if A < 14 then j else j + 1) + k) := fun k hk => by rw [h17]; exact ac_cls a1 hk hj
  have md : ∀ r k, k < 13 → h 36 (13 * r + k) = if r = nx then g 32 k else g 36 (13 * r + k) := fun r k hk => by rw [h36]; exact ac_mod hk
  obtain ⟨r, hr⟩ : ∃ r, r = (((nx + 1) % 14 + 14 - (if A < 14 then A + 1 else 14) + j) % 14) := ⟨_, rfl⟩
  rw [← hr]
  by_cases hlast : j + 1 = (if A < 14 then A + 1 else 14)
  · have hrn : r = nx := by
      rw [hr]
      split at hlast
      · rename_i hl
        rw [if_pos hl]
        omega
      · rename_i hl
        rw [if_neg hl]
        omega
    subst hrn
    refine ⟨⟨fun k hk => ?_, ?_⟩, ?_⟩
    · show h 17 (13 * j + k) = h 36 (13 * r + k) ∧ h 17 (13 * j + (6 + k)) = h 36 (13 * r + (6 + k))
      rw [cl k (by omega), cl (6 + k) (by omega), if_pos hlast, if_pos hlast, md _ k (by omega), md _ (6 + k) (by omega), if_pos rfl, if_pos rfl]
      exact hE.1 k hk
    · show h 17 (13 * j + 12) = h 36 (13 * r + 12)
      rw [cl 12 (by omega), if_pos hlast, md _ 12 (by omega), if_pos rfl]
      exact hE.2
    · apply hO'
      intro k hk
      show iv_b (h 36 (13 * r + k)) 4 ∧ (h 36 (13 * r + (6 + k)) = -9 ∨ ∃ s, s < 4 ∧ h 36 (13 * r + (6 + k)) = g 27 s)
      rw [md _ k (by omega), md _ (6 + k) (by omega), if_pos rfl, if_pos rfl]
      exact hO k hk
  · have hjA : (if A < 14 then j else j + 1) < A := by
      split at hlast <;> split at hj <;> (try split) <;> omega
    have hri : r = (nx + 14 - A + (if A < 14 then j else j + 1)) % 14 := by
      rw [hr]
      by_cases hl : A < 14
      · simp only [if_pos hl]
        omega
      · simp only [if_neg hl]
        omega
    have hrn : ¬ r = nx := by
      intro e
      rw [hri] at e
      by_cases hl : A < 14
      · simp only [if_pos hl] at e hjA
        omega
      · simp only [if_neg hl] at e hjA
        omega
    obtain ⟨e1, e2⟩ := a6 _ hjA
    rw [← hri] at e1 e2
    refine ⟨⟨fun k hk => ?_, ?_⟩, ?_⟩
    · show h 17 (13 * j + k) = h 36 (13 * r + k) ∧ h 17 (13 * j + (6 + k)) = h 36 (13 * r + (6 + k))
      rw [cl k (by omega), cl (6 + k) (by omega), if_neg hlast, if_neg hlast, md _ k (by omega), md _ (6 + k) (by omega), if_neg hrn, if_neg hrn]
      exact e1.1 k hk
    · show h 17 (13 * j + 12) = h 36 (13 * r + 12)
      rw [cl 12 (by omega), if_neg hlast, md _ 12 (by omega), if_neg hrn]
      exact e1.2
    · apply hO'
      intro k hk
      show iv_b (h 36 (13 * r + k)) 4 ∧ (h 36 (13 * r + (6 + k)) = -9 ∨ ∃ s, s < 4 ∧ h 36 (13 * r + (6 + k)) = g 27 s)
      rw [md _ k (by omega), md _ (6 + k) (by omega), if_neg hrn, if_neg hrn]
      exact e2 k hk
/-- what remember leaves -/
theorem ac_rem_out {g : am_G} {A a b : Nat} (h1 : a ≠ 17) (h2 : a ≠ 16 ∨ b ≠ 1) : ac_rem g A a b = g a b := by
  unfold ac_rem
  split
  · rw [am_u_at, if_neg (by omega), ac_st_at _ _ _ _ _ (by decide), if_neg (by omega)]
  · rw [am_u_at, if_neg (by omega), ac_st_at _ _ _ _ _ (by decide), if_neg (by omega), am_u_at, if_neg (by omega), am_cp_at, if_neg (by omega)]
