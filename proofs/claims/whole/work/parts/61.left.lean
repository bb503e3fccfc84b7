/-! the places that are left -/
def rd_p (M p : Nat) : Bool := decide (¬ M / 4 ^ p % 4 = 3)
theorem rd_two {M l : Nat} (hM : M < 2147483648) (hl : l < 10) : (nI M >>> (((2 : Int32) * nI l) &&& 31)) &&& 3 = nI (M / 4 ^ l % 4) := by
  rw [show (2 : Int32) * nI l = nI (2 * l) from pu_mul 2 l, rd_shr hM (by omega), show (3 : Int32) = nI (2 ^ 2 - 1) from rfl, fa_mask, Nat.shiftRight_eq_div_pow, Nat.pow_mul]
theorem rd_bit : ∀ i, i < 10 → (1 : Int32) <<< (nI i &&& 31) = nI (2 ^ i) := by decide
theorem rd_left {F : Nat} (hF : 20 ≤ F) {g : am_G} {M : Nat} (hM : M < 2147483648) (h12 : g 26 12 = nI M) : f_X8_placesLeft F g = some (nI (iv_bits (rd_p M) 10)) := by
  unfold f_X8_placesLeft
  have key := pu_loop (fun n i (s : Int32) => f_X8_placesLeft_4 F g n s (nI i)) some (fun i _ => nI (iv_bits (rd_p M) (i + 1))) 10 (fun i s => s = nI (iv_bits (rd_p M) i)) (fun n i s hi hs => ⟨?_, rfl⟩) (fun n s _ => ?_) 10 0 0 F (by omega) (by omega) rfl
  · obtain ⟨e1, e2⟩ := key
    exact e1.trans (congrArg some e2)
  · subst hs
    show f_X8_placesLeft_4 F g (n + 1) (nI (iv_bits (rd_p M) i)) (nI i) = _
    rw [f_X8_placesLeft_4.eq_2, if_neg (show ¬ (10 : Int32) ≤ nI i from nI_ge (b := 10) hi (by decide)), h12, rd_two hM hi, rd_bit i hi]
    simp only [f_X8_placesLeft_32, show nI i + (1 : Int32) = nI (i + 1) from nI_add i 1]
    have hor := bi_or (rd_p M) i
    rw [← hor, ← fa_or]
    by_cases h : M / 4 ^ i % 4 = 3
    · rw [if_pos (show nI (M / 4 ^ i % 4) = (3 : Int32) by rw [h]; rfl), show rd_p M i = false by simp [rd_p, h]]
      rfl
    · rw [if_neg (show ¬ nI (M / 4 ^ i % 4) = (3 : Int32) from fun z => h ((pu_eq (b := 3) (by omega) (by decide)).mp z)), show rd_p M i = true by simp [rd_p, h], if_pos rfl]
  · show f_X8_placesLeft_4 F g (n + 1) s (nI 10) = _
    rw [f_X8_placesLeft_4.eq_2, if_pos (show (10 : Int32) ≤ nI 10 from by decide)]
