/-! a step of the reader -/
/-- only the reader's place and fault change -/
def rd_e (g h : am_G) : Prop := ∀ a b, a ≠ 26 ∨ (b ≠ 15 ∧ b ≠ 16) → h a b = g a b
def rd_s (h : am_G) (i : Nat) (st : Option Nat) : Prop := match st with
  | none => h 26 15 = nI i ∧ h 26 16 = -9
  | some f => h 26 16 = nI f ∧ f ≤ 48
def rd_n (st : Option Nat) (ok : Bool) (i : Nat) : Option Nat := match st with
  | some f => some f
  | none => if ok then none else some i
theorem rd_ne9 : ∀ f, f ≤ 48 → ¬ nI f = (-9 : Int32) := by decide
theorem rd_fstep {g : am_G} {len i a b : Nat} {st : Option Nat} (hX : iv_X g len) (hi : i ≤ 48) (ha : a ≤ 9) (hb : b ≤ 9) (hs : rd_s g i st) : ∃ x h, f_X8_figure g (nI a) (nI b) = some (nI x, h) ∧ x ≤ 9 ∧ rd_e g h ∧ rd_s h (i + 1) (rd_n st (tx_b (tx_f g len i) a b) i) ∧ (rd_n st (tx_b (tx_f g len i) a b) i = none → tx_f g len i = some x ∧ a ≤ x ∧ x ≤ b) := by
  cases st with
  | some f =>
    obtain ⟨h16, hf⟩ := hs
    refine ⟨a, _, rd_figF ha (by rw [h16]; exact rd_ne9 f hf), ha, ?_, ?_, ?_⟩
    · intro c d hcd
      rw [am_u_at, if_neg (by omega)]
    · refine ⟨?_, hf⟩
      rw [am_u_at, if_pos ⟨rfl, rfl⟩, h16]
    · intro h
      cases h
  | none =>
    obtain ⟨h15, h16⟩ := hs
    have hq := rd_fig hX h15 hi h16 ha hb
    by_cases ht : tx_b (tx_f g len i) a b = true
    · rw [if_pos ht] at hq
      cases hf : tx_f g len i with
      | none =>
        rw [hf] at ht
        cases ht
      | some v =>
        rw [hf] at hq ht
        have hv := (tx_lt hf).1
        have hv2 : a ≤ v ∧ v ≤ b := by simpa [tx_b] using ht
        refine ⟨v, _, hq, hv, ?_, ?_, fun _ => ⟨rfl, hv2⟩⟩
        · intro c d hcd
          rw [am_u_at, if_neg (by omega)]
        · simp only [rd_n, ht, if_true]
          refine ⟨?_, ?_⟩
          · rw [am_u_at, if_pos ⟨rfl, rfl⟩]
          · rw [am_u_at, if_neg (by omega), h16]
    · rw [if_neg ht] at hq
      refine ⟨a, _, hq, ha, ?_, ?_, ?_⟩
      · intro c d hcd
        rw [am_u_at, if_neg (by omega)]
      · simp only [rd_n, if_neg ht]
        exact ⟨by rw [am_u_at, if_pos ⟨rfl, rfl⟩], hi⟩
      · simp only [rd_n, if_neg ht]
        intro h
        cases h
theorem rd_mstep {g : am_G} {len i m : Nat} {st : Option Nat} (hX : iv_X g len) (hi : i ≤ 48) (hm : m < 1024) (hs : rd_s g i st) : ∃ x h, f_X8_figureOf g (nI m) = some (nI x, h) ∧ x ≤ 9 ∧ rd_e g h ∧ rd_s h (i + 1) (rd_n st (rd_m (tx_f g len i) m) i) ∧ (rd_n st (rd_m (tx_f g len i) m) i = none → tx_f g len i = some x ∧ m.testBit x = true) := by
  cases st with
  | some f =>
    obtain ⟨h16, hf⟩ := hs
    refine ⟨0, _, rd_ofF (by rw [h16]; exact rd_ne9 f hf), by omega, ?_, ?_, ?_⟩
    · intro c d hcd
      rw [am_u_at, if_neg (by omega)]
    · refine ⟨?_, hf⟩
      rw [am_u_at, if_pos ⟨rfl, rfl⟩, h16]
    · intro h
      cases h
  | none =>
    obtain ⟨h15, h16⟩ := hs
    have hq := rd_of hX h15 hi h16 hm
    by_cases ht : rd_m (tx_f g len i) m = true
    · rw [if_pos ht] at hq
      cases hf : tx_f g len i with
      | none =>
        rw [hf] at ht
        cases ht
      | some v =>
        rw [hf] at hq ht
        have hv := (tx_lt hf).1
        refine ⟨v, _, hq, hv, ?_, ?_, fun _ => ⟨rfl, ht⟩⟩
        · intro c d hcd
          rw [am_u_at, if_neg (by omega)]
        · simp only [rd_n, ht, if_true]
          refine ⟨?_, ?_⟩
          · rw [am_u_at, if_pos ⟨rfl, rfl⟩]
          · rw [am_u_at, if_neg (by omega), h16]
    · rw [if_neg ht] at hq
      refine ⟨0, _, hq, by omega, ?_, ?_, ?_⟩
      · intro c d hcd
        rw [am_u_at, if_neg (by omega)]
      · simp only [rd_n, if_neg ht]
        exact ⟨by rw [am_u_at, if_pos ⟨rfl, rfl⟩], hi⟩
      · simp only [rd_n, if_neg ht]
        intro h
        cases h
