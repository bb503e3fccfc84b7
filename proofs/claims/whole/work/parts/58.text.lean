/-! THE TEXT: the class's side -/
def tx_u (g : am_G) (k : Nat) : Nat := (g 35 k).toNatClampNeg
/-- the figure at a place, if there is one -/
def tx_f (g : am_G) (len k : Nat) : Option Nat := if k < len ∧ 48 ≤ tx_u g k ∧ tx_u g k ≤ 57 then some (tx_u g k - 48) else none
def tx_i (o : Option Nat) : Int32 := match o with
  | some v => nI v
  | none => -1
theorem tx_lt {g : am_G} {len k v : Nat} (h : tx_f g len k = some v) : v ≤ 9 ∧ k < len := by
  unfold tx_f at h
  split at h
  · rename_i c
    cases h
    omega
  · cases h
theorem tx_at {g : am_G} {len k : Nat} (hX : iv_X g len) (hk : k < 48) : g 2 k = nI (tx_u g k) ∧ g 35 k = nI (tx_u g k) ∧ tx_u g k < 256 := by
  obtain ⟨h1, h2⟩ := hX.2.2.2 k hk
  obtain ⟨a, b⟩ := h2.tn (by decide)
  exact ⟨h1.trans b, b, a⟩
theorem tx_fig {g : am_G} {len k : Nat} (hX : iv_X g len) (hk : k < 2147483648) : f_X3_figure g (nI k) = some (tx_i (tx_f g len k)) := by
  have hl := hX.1
  unfold f_X3_figure tx_f
  rw [if_neg (pu_nn hk), hX.2.1]
  by_cases h1 : len ≤ k
  · rw [if_pos (nI_le h1 hk), if_neg (by omega)]
    rfl
  · have hk48 : k < 48 := by omega
    obtain ⟨e2, e35, e256⟩ := tx_at hX hk48
    rw [if_neg (fun z => h1 ((pu_le (by omega) (by omega)).mp z)), if_pos (show nI k < (48 : Int32) from nI_lt (b := 48) hk48 (by decide))]
    simp only [if_pos (show am_in (nI k) 48 from (pu_in (by omega)).mpr hk48), pu_tn (show k < 2147483648 by omega), e2]
    by_cases h2 : tx_u g k < 48
    · rw [if_pos (show nI (tx_u g k) < (48 : Int32) from nI_lt (b := 48) h2 (by decide)), if_neg (by omega)]
      rfl
    · rw [if_neg (show ¬ nI (tx_u g k) < (48 : Int32) from fun z => h2 ((pu_lt (b := 48) (by omega) (by decide)).mp z))]
      by_cases h3 : 57 < tx_u g k
      · rw [if_pos (show (57 : Int32) < nI (tx_u g k) from nI_lt (a := 57) h3 (by omega)), if_neg (by omega)]
        rfl
      · rw [if_neg (show ¬ (57 : Int32) < nI (tx_u g k) from fun z => h3 ((pu_lt (a := 57) (by decide) (by omega)).mp z)), if_pos (by omega)]
        rw [show nI (tx_u g k) - (48 : Int32) = nI (tx_u g k - 48) from pu_sub (a := tx_u g k) (b := 48) (by omega)]
        rfl
def tx_b (o : Option Nat) (a b : Nat) : Bool := match o with
  | some v => decide (a ≤ v ∧ v ≤ b)
  | none => false
theorem tx_isf {g : am_G} {len k a b : Nat} (hX : iv_X g len) (hk : k < 2147483648) (ha : a ≤ 9) (hb : b ≤ 9) : f_X3_isFigure g (nI k) (nI a) (nI b) = some (if tx_b (tx_f g len k) a b then 1 else 0) := by
  unfold f_X3_isFigure
  rw [tx_fig hX hk, Option.bind_some]
  cases h : tx_f g len k with
  | none =>
    have : ∀ a, a < 10 → (-1 : Int32) < nI a := by decide
    rw [show tx_i none = -1 from rfl, if_pos (this a (by omega))]
    rfl
  | some v =>
    obtain ⟨hv, -⟩ := tx_lt h
    rw [show tx_i (some v) = nI v from rfl]
    simp only [tx_b]
    by_cases h1 : v < a
    · rw [if_pos (nI_lt h1 (by omega))]
      simp [show ¬ a ≤ v by omega]
    · rw [if_neg (fun z => h1 ((pu_lt (by omega) (by omega)).mp z))]
      by_cases h2 : b < v
      · rw [if_pos (nI_lt h2 (by omega))]
        simp [show ¬ v ≤ b by omega]
      · rw [if_neg (fun z => h2 ((pu_lt (by omega) (by omega)).mp z))]
        simp [show a ≤ v by omega, show v ≤ b by omega]
theorem tx_let {g : am_G} {len k c : Nat} (hX : iv_X g len) (hk : k < 48) (hc : c < 256) : f_X3_isLetter g (nI k) (nI c) = some (if tx_u g k = c then 1 else 0) := by
  obtain ⟨e2, e35, e256⟩ := tx_at hX hk
  unfold f_X3_isLetter
  rw [if_neg (pu_nn (by omega)), if_neg (show ¬ (48 : Int32) ≤ nI k from nI_ge (b := 48) hk (by decide)), if_pos ((pu_in (by omega)).mpr hk), pu_tn (by omega), e2]
  by_cases h : tx_u g k = c
  · rw [if_pos (by rw [h]), if_pos h]
  · rw [if_neg (fun z => h ((pu_eq (by omega) (by omega)).mp z)), if_neg h]
/-- is the place of the m-th line taken by an earlier line on the side w -/
def tx_k (g : am_G) (len m : Nat) (w : Int32) (j : Nat) : Bool := decide (tx_i (tx_f g len (6 * j + 1)) = tx_i (tx_f g len (6 * m + 1))) && decide (tx_i (tx_f g len (6 * j + 2)) = w)
def tx_t (g : am_G) (len m : Nat) (w : Int32) : Bool := ex_a (tx_k g len m w) 1 (m - 1)
theorem tx_taken {F : Nat} (hF : 20 ≤ F) {g : am_G} {len m : Nat} (hX : iv_X g len) (hm : 1 ≤ m) (hm2 : m ≤ 9) (w : Int32) : f_X3_isTaken F g (nI (6 * m + 1)) w = some (if tx_t g len m w then 1 else 0) := by
  have key : ∀ (d j n : Nat), j + d = m → d < n → f_X3_isTaken_3 F g (nI (6 * m + 1)) w n (nI (6 * j + 1)) = some (if ex_a (tx_k g len m w) j d then 1 else 0) := by
    intro d
    induction d with
    | zero =>
      intro j n hj hn
      obtain ⟨n, rfl⟩ : ∃ k, n = k + 1 := ⟨n - 1, by omega⟩
      have : j = m := by omega
      subst this
      rw [f_X3_isTaken_3.eq_2, if_pos (Int32.le_refl _)]
      rfl
    | succ d ih =>
      intro j n hj hn
      obtain ⟨n, rfl⟩ : ∃ k, n = k + 1 := ⟨n - 1, by omega⟩
      have i1 := ih (j + 1) n (by omega) (by omega)
      have e6 : nI (6 * j + 1) + (6 : Int32) = nI (6 * (j + 1) + 1) := by
        rw [show nI (6 * j + 1) + (6 : Int32) = nI (6 * j + 1 + 6) from nI_add (6 * j + 1) 6]
        congr 1
      have e1 : nI (6 * j + 1) + (1 : Int32) = nI (6 * j + 2) := nI_add (6 * j + 1) 1
      rw [f_X3_isTaken_3.eq_2, if_neg (by rw [pu_le (by omega) (by omega)]; omega), tx_fig hX (by omega), tx_fig hX (by omega), e1, tx_fig hX (by omega)]
      simp only [Option.bind_some, f_X3_isTaken_34, e6, i1, ex_a, tx_k]
      by_cases h1 : tx_i (tx_f g len (6 * j + 1)) = tx_i (tx_f g len (6 * m + 1))
      · rw [if_pos h1]
        by_cases h2 : tx_i (tx_f g len (6 * j + 2)) = w
        · rw [if_pos h2]
          simp [h1, h2]
        · rw [if_neg h2]
          simp [h2]
      · rw [if_neg h1]
        simp [h1]
  exact key (m - 1) 1 F (by omega) (by omega)
