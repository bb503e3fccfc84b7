/-! THE TEXT: the reference's side -/
theorem rd_in (o : Option Nat) (a b : Nat) (ho : ∀ v, o = some v → v ≤ 9) (ha : a ≤ 9) (hb : b ≤ 9) : f_X8_in (Int32.toInt64 (tx_i o)) (Int32.toInt64 (nI a)) (Int32.toInt64 (nI b)) = some (if tx_b o a b then 1 else 0) := by
  cases o with
  | none =>
    have : ∀ a, a < 10 → ¬ nI a ≤ (-1 : Int32) := by decide
    rw [show tx_i none = -1 from rfl, pu_in64, if_neg (fun z => this a (by omega) z.1)]
    rfl
  | some v =>
    have hv := ho v rfl
    rw [show tx_i (some v) = nI v from rfl, pu_in64]
    simp only [tx_b]
    by_cases h : a ≤ v ∧ v ≤ b
    · rw [if_pos (show nI a ≤ nI v ∧ nI v ≤ nI b from ⟨nI_le h.1 (by omega), nI_le h.2 (by omega)⟩)]
      simp [h]
    · rw [if_neg (show ¬ (nI a ≤ nI v ∧ nI v ≤ nI b) from fun z => h ⟨(pu_le (by omega) (by omega)).mp z.1, (pu_le (by omega) (by omega)).mp z.2⟩)]
      simp [h]
theorem rd_in9 (a b : Nat) (ha : a ≤ 9) : f_X8_in (Int32.toInt64 (-9)) (Int32.toInt64 (nI a)) (Int32.toInt64 (nI b)) = some 0 := by
  have : ∀ a, a < 10 → ¬ nI a ≤ (-9 : Int32) := by decide
  rw [pu_in64, if_neg (fun z => this a (by omega) z.1)]
/-- behind a fault nothing moves -/
theorem rd_figF {g : am_G} {a b : Nat} (ha : a ≤ 9) (h16 : ¬ g 26 16 = -9) : f_X8_figure g (nI a) (nI b) = some (nI a, am_u g 26 16 (g 26 16)) := by
  simp only [f_X8_figure, if_neg h16, f_X8_figure_35, f_X8_figure_37, rd_in9 a b ha, Option.bind_some]
  rw [if_pos trivial]
theorem rd_sub : ∀ u, u < 256 → ∀ a, a < 10 → (nI a ≤ nI u - 48 ↔ 48 + a ≤ u) ∧ (nI u - 48 ≤ nI a ↔ u ≤ 48 + a) := by decide +kernel
theorem rd_fig {g : am_G} {len i a b : Nat} (hX : iv_X g len) (h15 : g 26 15 = nI i) (hi : i ≤ 48) (h16 : g 26 16 = -9) (ha : a ≤ 9) (hb : b ≤ 9) : f_X8_figure g (nI a) (nI b) = some (if tx_b (tx_f g len i) a b then (tx_i (tx_f g len i), am_u g 26 15 (nI (i + 1))) else (nI a, am_u g 26 16 (nI i))) := by
  have hl := hX.1
  simp only [f_X8_figure, if_pos h16, h15, hX.2.2.1]
  by_cases h : len ≤ i
  · rw [if_pos (nI_le h (by omega)), show tx_f g len i = none from if_neg (by omega)]
    simp only [f_X8_figure_35, f_X8_figure_37, rd_in9 a b ha, Option.bind_some, if_pos h16, h15]
    rfl
  · have hi48 : i < 48 := by omega
    obtain ⟨e2, e35, e256⟩ := tx_at hX hi48
    obtain ⟨s1, -⟩ := rd_sub (tx_u g i) e256 a (by omega)
    obtain ⟨-, s2⟩ := rd_sub (tx_u g i) e256 b (by omega)
    rw [if_neg (show ¬ nI len ≤ nI i from fun z => h ((pu_le (by omega) (by omega)).mp z)), if_pos ((pu_in (by omega)).mpr hi48), pu_tn (by omega), e35]
    simp only [f_X8_figure_37, pu_in64, s1, s2, Option.bind_some, if_pos h16, h15, show nI i + (1 : Int32) = nI (i + 1) from nI_add i 1]
    by_cases hq : 48 + a ≤ tx_u g i ∧ tx_u g i ≤ 48 + b
    · have hf : tx_f g len i = some (tx_u g i - 48) := if_pos ⟨by omega, by omega, by omega⟩
      have hb' : tx_b (tx_f g len i) a b = true := by
        rw [hf]
        simp only [tx_b, decide_eq_true_iff]
        omega
      rw [if_pos hq, if_neg pb_10, if_pos hb', hf, show nI (tx_u g i) - (48 : Int32) = nI (tx_u g i - 48) from pu_sub (a := tx_u g i) (b := 48) (by omega)]
      rfl
    · have hb' : ¬ tx_b (tx_f g len i) a b = true := by
        unfold tx_f
        split
        · simp only [tx_b, decide_eq_true_iff]
          omega
        · simp [tx_b]
      rw [if_neg hq, if_pos rfl, if_neg hb']
theorem rd_has : ∀ v, v < 10 → ∀ m, m < 1024 → (((nI m >>> (nI v &&& 31)) &&& 1) = 1 ↔ m.testBit v = true) := by decide +kernel
def rd_m (o : Option Nat) (m : Nat) : Bool := match o with
  | some v => m.testBit v
  | none => false
theorem rd_ofF {g : am_G} {p : Int32} (h16 : ¬ g 26 16 = -9) : f_X8_figureOf g p = some (0, am_u g 26 16 (g 26 16)) := by
  have h0 : f_X8_in (Int32.toInt64 (-9)) (0 : Int64) (9 : Int64) = some 0 := by decide
  simp only [f_X8_figureOf, if_neg h16, f_X8_figureOf_35, f_X8_figureOf_37, h0, Option.bind_some, f_X8_figureOf_58]
  rw [if_pos trivial]
theorem rd_of {g : am_G} {len i m : Nat} (hX : iv_X g len) (h15 : g 26 15 = nI i) (hi : i ≤ 48) (h16 : g 26 16 = -9) (hm : m < 1024) : f_X8_figureOf g (nI m) = some (if rd_m (tx_f g len i) m then (tx_i (tx_f g len i), am_u g 26 15 (nI (i + 1))) else (0, am_u g 26 16 (nI i))) := by
  have hl := hX.1
  have h0 : f_X8_in (Int32.toInt64 (-9)) (0 : Int64) (9 : Int64) = some 0 := by decide
  simp only [f_X8_figureOf, if_pos h16, h15, hX.2.2.1]
  by_cases h : len ≤ i
  · rw [if_pos (nI_le h (by omega)), show tx_f g len i = none from if_neg (by omega)]
    simp only [f_X8_figureOf_35, f_X8_figureOf_37, h0, Option.bind_some, f_X8_figureOf_58, if_pos h16, h15]
    rfl
  · have hi48 : i < 48 := by omega
    obtain ⟨e2, e35, e256⟩ := tx_at hX hi48
    obtain ⟨s1, -⟩ := rd_sub (tx_u g i) e256 0 (by omega)
    obtain ⟨-, s2⟩ := rd_sub (tx_u g i) e256 9 (by omega)
    have hin : f_X8_in (Int32.toInt64 (nI (tx_u g i) - 48)) (0 : Int64) (9 : Int64) = some (if 48 + 0 ≤ tx_u g i ∧ tx_u g i ≤ 48 + 9 then 1 else 0) := by
      rw [pu_l0, pu_l9, pu_in64]
      have q1 : (0 : Int32) ≤ nI (tx_u g i) - 48 ↔ 48 + 0 ≤ tx_u g i := s1
      have q2 : nI (tx_u g i) - 48 ≤ (9 : Int32) ↔ tx_u g i ≤ 48 + 9 := s2
      simp only [q1, q2]
    rw [if_neg (show ¬ nI len ≤ nI i from fun z => h ((pu_le (by omega) (by omega)).mp z)), if_pos ((pu_in (by omega)).mpr hi48), pu_tn (by omega), e35]
    simp only [f_X8_figureOf_37, hin, Option.bind_some, f_X8_figureOf_58, if_pos h16, h15, show nI i + (1 : Int32) = nI (i + 1) from nI_add i 1]
    by_cases hq : 48 + 0 ≤ tx_u g i ∧ tx_u g i ≤ 48 + 9
    · have hf : tx_f g len i = some (tx_u g i - 48) := if_pos ⟨by omega, by omega, by omega⟩
      rw [if_pos hq, if_neg pb_10, hf, show nI (tx_u g i) - (48 : Int32) = nI (tx_u g i - 48) from pu_sub (a := tx_u g i) (b := 48) (by omega)]
      have hh := rd_has (tx_u g i - 48) (by omega) m hm
      simp only [f_X8_has]
      by_cases hb : m.testBit (tx_u g i - 48) = true
      · rw [if_pos (hh.mpr hb), if_pos (show rd_m (some (tx_u g i - 48)) m = true from hb)]
        rfl
      · rw [if_neg (fun z => hb (hh.mp z)), if_neg (show ¬ rd_m (some (tx_u g i - 48)) m = true from hb)]
        rfl
    · have hf : tx_f g len i = none := if_neg (by omega)
      rw [if_neg hq, if_pos rfl, hf]
      rfl
