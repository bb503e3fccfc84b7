/-! THE TEXT: the reference's side -/
theorem rd_in (o : Option Nat) (a b : Nat) (ho : ∀ v, o = some v → v ≤ 9) (ha : a ≤ 9) (hb : b ≤ 9) : f_X8_in (Int32.toInt64 (tx_i o)) (Int32.toInt64 (nI a)) (Int32.toInt64 (nI b)) = some (if tx_b o a b then 1 else 0) := by
  cases o with
  | none =>
    have : ∀ a, a < 10 → ¬ nI a ≤ (-1 : Int32) := by decide
    rw [show tx_i none = -1 from rfl, pu_in64, if_neg (fun z => this a (by omega) z.1)]
    rfl
  | some v =>
    have hv := ho v rfl
    rw [show tx_i (some v) = nI v from rfl, pu_in64]
    simp only [tx_b]
    by_cases h : a ≤ v ∧ v ≤ b
    · rw [if_pos (show nI a ≤ nI v ∧ nI v ≤ nI b from ⟨nI_le h.1 (by omega), nI_le h.2 (by omega)⟩)]
      simp [h]
    · rw [if_neg (show ¬ (nI a ≤ nI v ∧ nI v ≤ nI b) from fun z => h ⟨(pu_le (by omega) (by omega)).mp z.1, (pu_le (by omega) (by omega)).mp z.2⟩)]
      simp [h]
theorem rd_in9 (a b : Nat) (ha : a ≤ 9) : f_X8_in (Int32.toInt64 (-9)) (Int32.toInt64 (nI a)) (Int32.toInt64 (nI b)) = some 0 := by
  have : ∀ a, a < 10 → ¬ nI a ≤ (-9 : Int32) := by decide
  rw [pu_in64, if_neg (fun z => this a (by omega) z.1)]
/-- behind a fault nothing moves -/
theorem rd_figF {g : am_G} {a b : Nat} (ha : a ≤ 9) (h16 : ¬ g 26 16 = -9) : f_X8_figure g (nI a) (nI b) = some (nI a, am_u g 26 16 (g 26 16)) := by
  simp only [f_X8_figure, if_neg h16, f_X8_figure_35, f_X8_figure_37, rd_in9 a b ha, Option.bind_some]
  rw [if_pos trivial]
