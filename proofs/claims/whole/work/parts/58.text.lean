/-! THE TEXT: the class's side -/
def tx_u (g : am_G) (k : Nat) : Nat := (g 35 k).toNatClampNeg
/-- the figure at a place, if there is one -/
def tx_f (g : am_G) (len k : Nat) : Option Nat := if k < len ∧ 48 ≤ tx_u g k ∧ tx_u g k ≤ 57 then some (tx_u g k - 48) else none
def tx_i (o : Option Nat) : Int32 := match o with
  | some v => nI v
  | none => -1
theorem tx_lt {g : am_G} {len k v : Nat} (h : tx_f g len k = some v) : v ≤ 9 ∧ k < len := by
  unfold tx_f at h
  split at h
  · rename_i c
    cases h
    omega
  · cases h
theorem tx_at {g : am_G} {len k : Nat} (hX : iv_X g len) (hk : k < 48) : g 2 k = nI (tx_u g k) ∧ g 35 k = nI (tx_u g k) ∧ tx_u g k < 256 := by
  obtain ⟨h1, h2⟩ := hX.2.2.2 k hk
  obtain ⟨a, b⟩ := h2.tn (by decide)
  exact ⟨h1.trans b, b, a⟩
theorem tx_fig {g : am_G} {len k : Nat} (hX : iv_X g len) (hk : k < 2147483648) : f_X3_figure g (nI k) = some (tx_i (tx_f g len k)) := by
  have hl := hX.1
  unfold f_X3_figure tx_f
  rw [if_neg (pu_nn hk), hX.2.1]
  by_cases h1 : len ≤ k
  · rw [if_pos (nI_le h1 hk), if_neg (by omega)]
    rfl
  · have hk48 : k < 48 := by omega
    obtain ⟨e2, e35, e256⟩ := tx_at hX hk48
    rw [if_neg (fun z => h1 ((pu_le (by omega) (by omega)).mp z)), if_pos (show nI k < (48 : Int32) from nI_lt (b := 48) hk48 (by decide))]
    simp only [if_pos (show am_in (nI k) 48 from (pu_in (by omega)).mpr hk48), pu_tn (show k < 2147483648 by omega), e2]
    by_cases h2 : tx_u g k < 48
    · rw [if_pos (show nI (tx_u g k) < (48 : Int32) from nI_lt (b := 48) h2 (by decide)), if_neg (by omega)]
      rfl
    · rw [if_neg (show ¬ nI (tx_u g k) < (48 : Int32) from fun z => h2 ((pu_lt (b := 48) (by omega) (by decide)).mp z))]
      by_cases h3 : 57 < tx_u g k
      · rw [if_pos (show (57 : Int32) < nI (tx_u g k) from nI_lt (a := 57) h3 (by omega)), if_neg (by omega)]
        rfl
      · rw [if_neg (show ¬ (57 : Int32) < nI (tx_u g k) from fun z => h3 ((pu_lt (a := 57) (by decide) (by omega)).mp z)), if_pos (by omega)]
        rw [show nI (tx_u g k) - (48 : Int32) = nI (tx_u g k - 48) from pu_sub (a := tx_u g k) (b := 48) (by omega)]
        rfl
def tx_b (o : Option Nat) (a b : Nat) : Bool := match o with
  | some v => decide (a ≤ v ∧ v ≤ b)
  | none => false
theorem tx_isf {g : am_G} {len k a b : Nat} (hX : iv_X g len) (hk : k < 2147483648) (ha : a ≤ 9) (hb : b ≤ 9) : f_X3_isFigure g (nI k) (nI a) (nI b) = some (if tx_b (tx_f g len k) a b then 1 else 0) := by
  unfold f_X3_isFigure
  rw [tx_fig hX hk, Option.bind_some]
  cases h : tx_f g len k with
  | none =>
    have : ∀ a, a < 10 → (-1 : Int32) < nI a := by decide
    rw [show tx_i none = -1 from rfl, if_pos (this a (by omega))]
    rfl
  | some v =>
    obtain ⟨hv, -⟩ := tx_lt h
    rw [show tx_i (some v) = nI v from rfl]
    simp only [tx_b]
    by_cases h1 : v < a
    · rw [if_pos (nI_lt h1 (by omega))]
      simp [show ¬ a ≤ v by omega]
    · rw [if_neg (fun z => h1 ((pu_lt (by omega) (by omega)).mp z))]
      by_cases h2 : b < v
      · rw [if_pos (nI_lt h2 (by omega))]
        simp [show ¬ v ≤ b by omega]
      · rw [if_neg (fun z => h2 ((pu_lt (by omega) (by omega)).mp z))]
        simp [show a ≤ v by omega, show v ≤ b by omega]
theorem tx_let {g : am_G} {len k c : Nat} (hX : iv_X g len) (hk : k < 48) (hc : c < 256) : f_X3_isLetter g (nI k) (nI c) = some (if tx_u g k = c then 1 else 0) := by
  obtain ⟨e2, e35, e256⟩ := tx_at hX hk
  unfold f_X3_isLetter
  rw [if_neg (pu_nn (by omega)), if_neg (show ¬ (48 : Int32) ≤ nI k from nI_ge (b := 48) hk (by decide)), if_pos ((pu_in (by omega)).mpr hk), pu_tn (by omega), e2]
  by_cases h : tx_u g k = c
  · rw [if_pos (by rw [h]), if_pos h]
  · rw [if_neg (fun z => h ((pu_eq (by omega) (by omega)).mp z)), if_neg h]
/-- is the place of the m-th line taken by an earlier line on the side w -/
def tx_k (g : am_G) (len m : Nat) (w : Int32) (j : Nat) : Bool := decide (tx_i (tx_f g len (6 * j + 1)) = tx_i (tx_f g len (6 * m + 1))) && decide (tx_i (tx_f g len (6 * j + 2)) = w)
def tx_t (g : am_G) (len m : Nat) (w : Int32) : Bool := ex_a (tx_k g len m w) 1 (m - 1)
theorem tx_taken {F : Nat} (hF : 20 ≤ F) {g : am_G} {len m : Nat} (hX : iv_X g len) (hm : 1 ≤ m) (hm2 : m ≤ 9) (w : Int32) : f_X3_isTaken F g (nI (6 * m + 1)) w = some (if tx_t g len m w then 1 else 0) := by
  have key : ∀ (d j n : Nat), j + d = m → d < n → f_X3_isTaken_3 F g (nI (6 * m + 1)) w n (nI (6 * j + 1)) = some (if ex_a (tx_k g len m w) j d then 1 else 0) := by
    intro d
    induction d with
    | zero =>
      intro j n hj hn
      obtain ⟨n, rfl⟩ : ∃ k, n = k + 1 := ⟨n - 1, by omega⟩
      have : j = m := by omega
      subst this
      rw [f_X3_isTaken_3.eq_2, if_pos (Int32.le_refl _)]
      rfl
    | succ d ih =>
      intro j n hj hn
      obtain ⟨n, rfl⟩ : ∃ k, n = k + 1 := ⟨n - 1, by omega⟩
      have i1 := ih (j + 1) n (by omega) (by omega)
      have e6 : nI (6 * j + 1) + (6 : Int32) = nI (6 * (j + 1) + 1) := by
        rw [show nI (6 * j + 1) + (6 : Int32) = nI (6 * j + 1 + 6) from nI_add (6 * j + 1) 6]
        congr 1
      have e1 : nI (6 * j + 1) + (1 : Int32) = nI (6 * j + 2) := nI_add (6 * j + 1) 1
      rw [f_X3_isTaken_3.eq_2, if_neg (by rw [pu_le (by omega) (by omega)]; omega), tx_fig hX (by omega), tx_fig hX (by omega), e1, tx_fig hX (by omega)]
      simp only [Option.bind_some, f_X3_isTaken_34, e6, i1, ex_a, tx_k]
      by_cases h1 : tx_i (tx_f g len (6 * j + 1)) = tx_i (tx_f g len (6 * m + 1))
      · rw [if_pos h1]
        by_cases h2 : tx_i (tx_f g len (6 * j + 2)) = w
        · rw [if_pos h2]
          simp [h1, h2]
        · rw [if_neg h2]
          simp [h2]
      · rw [if_neg h1]
        simp [h1]
  exact key (m - 1) 1 F (by omega) (by omega)
/-- does the letter at k fit, as those before it do -/
def tx_ok (g : am_G) (len k : Nat) : Bool :=
  if k < 6 then (if k = 0 then decide (tx_u g k = 83) else if k < 5 then tx_b (tx_f g len k) 0 3 else tx_b (tx_f g len k) 1 9)
  else if k % 6 = 0 then decide (tx_u g k = 87) && decide (k / 6 ≤ 6)
  else if k % 6 = 1 then tx_b (tx_f g len k) 0 9 && !(tx_t g len (k / 6) 0 && tx_t g len (k / 6) 1)
  else if k % 6 = 2 then tx_b (tx_f g len k) 0 1 && !tx_t g len (k / 6) (tx_i (tx_f g len k))
  else tx_b (tx_f g len k) 0 3
theorem tx_01 (b : Bool) : (if b = true then (1 : Int32) else 0) = 0 ∨ (if b = true then (1 : Int32) else 0) = 1 := by
  cases b <;> decide
theorem tx_head {g : am_G} {len k : Nat} (hX : iv_X g len) (hk : k < 6) : f_X3_fitsHead g (nI k) = some (if tx_ok g len k then 1 else 0) := by
  unfold f_X3_fitsHead tx_ok
  rw [if_pos hk]
  have l := tx_let (k := k) (c := 83) hX (by omega) (by decide)
  have a := tx_isf (k := k) (a := 1) (b := 9) hX (by omega) (by decide) (by decide)
  have b := tx_isf (k := k) (a := 0) (b := 3) hX (by omega) (by decide) (by decide)
  by_cases h0 : k = 0
  · subst h0
    rw [if_pos rfl, if_pos (show nI 0 = (0 : Int32) from rfl), show f_X3_isLetter g (nI 0) 83 = _ from l]
    by_cases h : tx_u g 0 = 83
    · rw [if_pos h]
      simp [h]
    · rw [if_neg h]
      simp [h]
  · rw [if_neg (show ¬ nI k = (0 : Int32) from fun z => h0 ((pu_eq (b := 0) (by omega) (by decide)).mp z)), if_neg h0]
    by_cases h5 : k < 5
    · rw [if_neg (show ¬ (5 : Int32) ≤ nI k from nI_ge (b := 5) h5 (by decide)), if_pos h5, show f_X3_isFigure g (nI k) 0 3 = _ from b, Option.bind_some, if_pos (tx_01 _)]
    · rw [if_pos (show (5 : Int32) ≤ nI k from nI_le (a := 5) (by omega) (by omega)), if_neg h5, show f_X3_isFigure g (nI k) 1 9 = _ from a, Option.bind_some, if_pos (tx_01 _)]
theorem tx_win {F : Nat} (hF : 20 ≤ F) {g : am_G} {len k : Nat} (hX : iv_X g len) (hk : 6 ≤ k) (hk2 : k < 48) : f_X3_fitsWindow F g (nI k) = some (if tx_ok g len k then 1 else 0) := by
  have hm : nI k - nI k / (6 : Int32) * (6 : Int32) = nI (k % 6) := pu_rem (a := k) (b := 6) (by omega) (by decide) (by decide)
  have hd : nI k / (6 : Int32) = nI (k / 6) := pu_div (a := k) (b := 6) (by omega) (by decide) (by decide)
  have l : f_X3_isLetter g (nI k) 87 = _ := tx_let (k := k) (c := 87) hX (by omega) (by decide)
  have a : f_X3_isFigure g (nI k) 0 9 = _ := tx_isf (k := k) (a := 0) (b := 9) hX (by omega) (by decide) (by decide)
  have b : f_X3_isFigure g (nI k) 0 1 = _ := tx_isf (k := k) (a := 0) (b := 1) hX (by omega) (by decide) (by decide)
  have c : f_X3_isFigure g (nI k) 0 3 = _ := tx_isf (k := k) (a := 0) (b := 3) hX (by omega) (by decide) (by decide)
  have hne : ∀ r, r < 6 → k % 6 ≠ r → ¬ nI (k % 6) = nI r := fun r hr h z => h ((pu_eq (by omega) (by omega)).mp z)
  unfold f_X3_fitsWindow tx_ok
  rw [hm, hd, if_neg (show ¬ k < 6 by omega)]
  by_cases h0 : k % 6 = 0
  · rw [if_pos (show nI (k % 6) = (0 : Int32) by rw [h0]; rfl), if_pos h0, l, Option.bind_some]
    by_cases h : tx_u g k = 87
    · rw [if_pos h, if_neg pb_10]
      by_cases h6 : k / 6 ≤ 6
      · rw [if_neg (show ¬ (6 : Int32) < nI (k / 6) from fun z => by have := (pu_lt (a := 6) (by decide) (by omega)).mp z; omega)]
        simp [h, h6]
      · rw [if_pos (show (6 : Int32) < nI (k / 6) from nI_lt (a := 6) (by omega) (by omega))]
        simp [h6]
    · rw [if_neg h]
      simp [h]
  rw [if_neg (show ¬ nI (k % 6) = (0 : Int32) from hne 0 (by decide) h0), if_neg h0]
  by_cases h1 : k % 6 = 1
  · have hk1 : k = 6 * (k / 6) + 1 := by omega
    have t0 := tx_taken (m := k / 6) hF hX (by omega) (by omega) 0
    have t1 := tx_taken (m := k / 6) hF hX (by omega) (by omega) 1
    rw [← hk1] at t0 t1
    rw [if_pos (show nI (k % 6) = (1 : Int32) by rw [h1]; rfl), if_pos h1, a, Option.bind_some, t0, t1]
    cases tx_b (tx_f g len k) 0 9 <;> cases tx_t g len (k / 6) 0 <;> cases tx_t g len (k / 6) 1 <;> rfl
  rw [if_neg (show ¬ nI (k % 6) = (1 : Int32) from hne 1 (by decide) h1), if_neg h1]
  by_cases h2 : k % 6 = 2
  · have hk1 : nI k - (1 : Int32) = nI (6 * (k / 6) + 1) := by
      rw [show nI k - (1 : Int32) = nI (k - 1) from pu_sub (a := k) (b := 1) (by omega)]
      congr 1
      omega
    rw [if_pos (show nI (k % 6) = (2 : Int32) by rw [h2]; rfl), if_pos h2, b, Option.bind_some, tx_fig hX (by omega), Option.bind_some, hk1, tx_taken (m := k / 6) hF hX (by omega) (by omega)]
    cases tx_b (tx_f g len k) 0 1 <;> cases tx_t g len (k / 6) (tx_i (tx_f g len k)) <;> rfl
  rw [if_neg (show ¬ nI (k % 6) = (2 : Int32) from hne 2 (by decide) h2), if_neg h2, c, Option.bind_some, if_pos (tx_01 _)]
/-- the first place at which the text doesn't fit -/
def tx_ff (g : am_G) (len : Nat) : Nat → Nat → Int32
  | i, 0 => if 6 ≤ i ∧ i % 6 = 0 then -9 else nI i
  | i, d + 1 => if tx_ok g len i then tx_ff g len (i + 1) d else nI i
theorem tx_fault {F : Nat} (hF : 60 ≤ F) {g : am_G} {len : Nat} (hX : iv_X g len) : f_X3_firstFault F g = some (tx_ff g len 0 len) := by
  have hl := hX.1
  have h11 := hX.2.1
  have key : ∀ (d i n : Nat), i + d = len → d < n → f_X3_firstFault_2 F g (f_X3_firstFault_42 F g) n (nI i) = some (tx_ff g len i d) := by
    intro d
    induction d with
    | zero =>
      intro i n hi hn
      obtain ⟨n, rfl⟩ : ∃ k, n = k + 1 := ⟨n - 1, by omega⟩
      have : i = len := by omega
      subst this
      rw [f_X3_firstFault_2.eq_2, h11, if_pos (Int32.le_refl _), f_X3_firstFault_42, h11]
      have hm : nI i - nI i / (6 : Int32) * (6 : Int32) = nI (i % 6) := pu_rem (a := i) (b := 6) (by omega) (by decide) (by decide)
      rw [hm]
      unfold tx_ff
      by_cases h6 : i < 6
      · rw [if_pos (show nI i < (6 : Int32) from nI_lt (b := 6) h6 (by decide)), if_neg (by omega)]
      · rw [if_neg (show ¬ nI i < (6 : Int32) from fun z => h6 ((pu_lt (b := 6) (by omega) (by decide)).mp z))]
        by_cases h0 : i % 6 = 0
        · rw [if_pos (show nI (i % 6) = (0 : Int32) by rw [h0]; rfl), if_pos ⟨by omega, h0⟩]
        · rw [if_neg (show ¬ nI (i % 6) = (0 : Int32) from fun z => h0 ((pu_eq (b := 0) (by omega) (by decide)).mp z)), if_neg (fun z => h0 z.2)]
    | succ d ih =>
      intro i n hi hn
      obtain ⟨n, rfl⟩ : ∃ k, n = k + 1 := ⟨n - 1, by omega⟩
      have i1 := ih (i + 1) n (by omega) (by omega)
      rw [f_X3_firstFault_2.eq_2, h11, if_neg (by rw [pu_le (by omega) (by omega)]; omega)]
      by_cases h6 : 6 ≤ i
      · rw [if_pos (show (6 : Int32) ≤ nI i from nI_le (a := 6) h6 (by omega)), tx_win (by omega) hX h6 (by omega)]
        simp only [Option.bind_some, f_X3_firstFault_29, show nI i + (1 : Int32) = nI (i + 1) from nI_add i 1, i1, tx_ff]
        cases tx_ok g len i <;> rfl
      · rw [if_neg (show ¬ (6 : Int32) ≤ nI i from nI_ge (b := 6) (by omega) (by decide)), tx_head hX (by omega)]
        simp only [Option.bind_some, f_X3_firstFault_29, show nI i + (1 : Int32) = nI (i + 1) from nI_add i 1, i1, tx_ff]
        cases tx_ok g len i <;> rfl
  exact key len 0 F (by omega) (by omega)
