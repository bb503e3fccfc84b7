/-! a WINDOW is read -/
theorem rd_cmp : ∀ y, y < 4 → (3 : Int32) &&& (nI y ^^^ -1) = nI (3 - y) := by decide
theorem rd_and3 (x : Int32) : (3 : Int32) &&& (x ^^^ -1) = (3 : Int32) &&& ((x &&& 3) ^^^ -1) := by
  apply Int32.toBitVec_inj.mp
  simp only [Int32.toBitVec_and, Int32.toBitVec_xor]
  ext i hi
  simp only [BitVec.getElem_and, BitVec.getElem_xor]
  cases ((3 : Int32).toBitVec[i]) <;> simp
theorem rd_side {M x : Nat} (hM : M < 2147483648) (hx : x < 10) : (3 : Int32) &&& ((nI M >>> (((2 : Int32) * nI x) &&& 31)) ^^^ (-1 : Int32)) = nI (3 - M / 4 ^ x % 4) := by
  rw [rd_and3, rd_two hM hx, rd_cmp _ (Nat.mod_lt _ (by decide))]
theorem rd_s.mono {g h : am_G} {i : Nat} {st : Option Nat} (e : h 26 15 = g 26 15) (e2 : h 26 16 = g 26 16) (hs : rd_s g i st) : rd_s h i st := by
  cases st with
  | none => exact ⟨e.trans hs.1, e2.trans hs.2⟩
  | some f => exact ⟨e2.trans hs.1, hs.2⟩
theorem tx_f.of {g h : am_G} (e : h 35 = g 35) (len k : Nat) : tx_f h len k = tx_f g len k := by
  have : tx_u h k = tx_u g k := by unfold tx_u; rw [e]
  unfold tx_f
  rw [this]
theorem rd_pow : ∀ k, k < 31 → (1 : Int32) <<< (nI k &&& 31) = nI (2 ^ k) := by decide
