/-! THE TEXT: the reference reads it as the class does -/
def rd_c (o : Nat → Bool) (i : Nat) : Nat → Option Nat
  | 0 => none
  | d + 1 => rd_n (rd_c o i d) (o d) (i + d)
theorem rd_c_none {o : Nat → Bool} {i : Nat} : ∀ {d : Nat}, rd_c o i d = none → ∀ j, j < d → o j = true
  | 0, _, j, hj => absurd hj (Nat.not_lt_zero j)
  | d + 1, h, j, hj => by
    obtain ⟨h1, h2⟩ := rd_n_none h
    by_cases e : j = d
    · subst e; exact h2
    · exact rd_c_none h1 j (by omega)
theorem rd_c_some {o : Nat → Bool} {i f : Nat} : ∀ {d : Nat}, rd_c o i d = some f → ∃ j, j < d ∧ f = i + j ∧ o j = false ∧ ∀ k, k < j → o k = true
  | 0, h => by cases h
  | d + 1, h => by
    unfold rd_c at h
    cases hc : rd_c o i d with
    | some f' =>
      rw [hc] at h
      have : f' = f := by simpa [rd_n] using h
      subst this
      obtain ⟨j, h1, h2⟩ := rd_c_some hc
      exact ⟨j, by omega, h2⟩
    | none =>
      rw [hc] at h
      cases ho : o d with
      | true => rw [ho] at h; cases h
      | false =>
        rw [ho] at h
        have : i + d = f := by simpa [rd_n] using h
        exact ⟨d, by omega, this.symm, ho, rd_c_none hc⟩
theorem tx_ffS {g : am_G} {len : Nat} : ∀ (d i f : Nat), i + d = len → i ≤ f → f ≤ len → (∀ k, i ≤ k → k < f → tx_ok g len k = true) → (f < len → tx_ok g len f = false) → (f = len → ¬ (6 ≤ f ∧ f % 6 = 0)) → tx_ff g len i d = nI f
  | 0, i, f, h1, h2, h3, _, _, h6 => by
    have e : f = i := by omega
    subst e
    rw [tx_ff, if_neg (h6 (by omega))]
  | d + 1, i, f, h1, h2, h3, h4, h5, h6 => by
    unfold tx_ff
    by_cases e : i = f
    · subst e
      rw [h5 (by omega)]
      rfl
    · rw [if_pos (h4 i (Nat.le_refl i) (by omega))]
      exact tx_ffS d (i + 1) f (by omega) (by omega) h3 (fun k hk hk2 => h4 k (by omega) hk2) h5 h6
theorem tx_ffN {g : am_G} {len : Nat} (h6 : 6 ≤ len) (hm : len % 6 = 0) : ∀ (d i : Nat), i + d = len → (∀ k, i ≤ k → k < len → tx_ok g len k = true) → tx_ff g len i d = -9
  | 0, i, h1, _ => by
    have e : i = len := by omega
    subst e
    rw [tx_ff, if_pos ⟨h6, hm⟩]
  | d + 1, i, h1, h4 => by
    unfold tx_ff
    rw [if_pos (h4 i (Nat.le_refl i) (by omega))]
    exact tx_ffN h6 hm d (i + 1) (by omega) (fun k hk hk2 => h4 k (by omega) hk2)
theorem tx_iE {g : am_G} {len k x : Nat} (hx : x ≤ 9) : tx_i (tx_f g len k) = nI x ↔ tx_f g len k = some x := by
  cases h : tx_f g len k with
  | none =>
    have : ∀ a, a < 10 → ¬ (-1 : Int32) = nI a := by decide
    constructor
    · intro e; exact absurd e (this x (by omega))
    · intro e; cases e
  | some v =>
    have hv := (tx_lt h).1
    show nI v = nI x ↔ _
    rw [pu_eq (by omega) (by omega)]
    constructor
    · rintro rfl; rfl
    · intro e; cases e; rfl
/-- who has told the place x and the side d, of the first m -/
def rd_w (g : am_G) (len x d j : Nat) : Bool := decide (tx_f g len (6 * j + 1) = some x) && decide (tx_f g len (6 * j + 2) = some d)
theorem tx_tE {g : am_G} {len m x d : Nat} (hd : d ≤ 9) (h : tx_f g len (6 * (m + 1) + 1) = some x) : tx_t g len (m + 1) (nI d) = ex_a (rd_w g len x d) 1 m := by
  have hx := (tx_lt h).1
  unfold tx_t
  rw [show m + 1 - 1 = m by omega]
  congr 1
  funext j
  unfold tx_k rd_w
  rw [h]
  have e1 : tx_i (tx_f g len (6 * j + 1)) = tx_i (some x) ↔ tx_f g len (6 * j + 1) = some x := tx_iE hx
  have e2 := tx_iE (g := g) (len := len) (k := 6 * j + 2) hd
  simp only [e1, e2]
theorem rd_bits {M x y : Nat} (hy : y < 2) : (M / 4 ^ x % 4).testBit y = M.testBit (2 * x + y) := by
  rw [show (4 : Nat) ^ x = 2 ^ (2 * x) by rw [Nat.pow_mul], show (4 : Nat) = 2 ^ 2 from rfl, Nat.testBit_mod_two_pow, Nat.testBit_div_two_pow]
  simp [hy, Nat.add_comm]
theorem rd_v4 : ∀ v, v < 4 → (v = 3 ↔ (v.testBit 0 = true ∧ v.testBit 1 = true)) ∧ (∀ y, y < 2 → (3 - v).testBit y = !v.testBit y) ∧ (∀ y, y < 10 → 2 ≤ y → (3 - v).testBit y = false) := by
  decide
/-- the mask of the taken ones, of the first m -/
def rd_M (g : am_G) (len m M : Nat) : Prop := M < 2 ^ 20 ∧ ∀ x, x < 10 → ∀ d, d < 2 → M.testBit (2 * x + d) = ex_a (rd_w g len x d) 1 m
theorem rd_ok1 {g : am_G} {len m M : Nat} (h : rd_M g len m M) : rd_m (tx_f g len (6 * m + 7)) (iv_bits (rd_p M) 10) = tx_ok g len (6 * m + 7) := by
  unfold tx_ok
  rw [if_neg (show ¬ 6 * m + 7 < 6 by omega), if_neg (show ¬ (6 * m + 7) % 6 = 0 by omega), if_pos (show (6 * m + 7) % 6 = 1 by omega), show (6 * m + 7) / 6 = m + 1 by omega]
  cases hf : tx_f g len (6 * m + 7) with
  | none => rfl
  | some x =>
    have hx := (tx_lt hf).1
    have hf2 : tx_f g len (6 * (m + 1) + 1) = some x := hf
    have t0 := tx_tE (d := 0) (by omega) hf2
    have t1 := tx_tE (d := 1) (by omega) hf2
    rw [show tx_t g len (m + 1) 0 = _ from t0, show tx_t g len (m + 1) 1 = _ from t1, ← h.2 x (by omega) 0 (by omega), ← h.2 x (by omega) 1 (by omega), ← rd_bits (by omega), ← rd_bits (by omega)]
    show (iv_bits (rd_p M) 10).testBit x = _
    rw [bi_test, rd_p]
    have hv := (rd_v4 (M / 4 ^ x % 4) (Nat.mod_lt _ (by decide))).1
    simp only [hv, tx_b, show x < 10 by omega]
    cases (M / 4 ^ x % 4).testBit 0 <;> cases (M / 4 ^ x % 4).testBit 1 <;> simp [hx]
theorem rd_ok2 {g : am_G} {len m M x : Nat} (h : rd_M g len m M) (hf : tx_f g len (6 * m + 7) = some x) : rd_m (tx_f g len (6 * m + 8)) (3 - M / 4 ^ x % 4) = tx_ok g len (6 * m + 8) := by
  have hx := (tx_lt hf).1
  have hf2 : tx_f g len (6 * (m + 1) + 1) = some x := hf
  unfold tx_ok
  rw [if_neg (show ¬ 6 * m + 8 < 6 by omega), if_neg (show ¬ (6 * m + 8) % 6 = 0 by omega), if_neg (show ¬ (6 * m + 8) % 6 = 1 by omega), if_pos (show (6 * m + 8) % 6 = 2 by omega), show (6 * m + 8) / 6 = m + 1 by omega]
  obtain ⟨-, v1, v2⟩ := rd_v4 (M / 4 ^ x % 4) (Nat.mod_lt _ (by decide))
  cases hg : tx_f g len (6 * m + 8) with
  | none => rfl
  | some y =>
    have hy := (tx_lt hg).1
    show (3 - M / 4 ^ x % 4).testBit y = _
    by_cases hy2 : y < 2
    · rw [v1 y hy2, rd_bits hy2, h.2 x (by omega) y hy2, show tx_t g len (m + 1) (tx_i (some y)) = _ from tx_tE (d := y) hy hf2]
      have : tx_b (some y) 0 1 = true := by simp [tx_b]; omega
      rw [this, Bool.true_and]
    · rw [v2 y (by omega) (by omega)]
      have : tx_b (some y) 0 1 = false := by simp [tx_b]; omega
      rw [this, Bool.false_and]
theorem rd_ok3 {g : am_G} {len k : Nat} (hk : 6 ≤ k) (h : 3 ≤ k % 6) : tx_ok g len k = tx_b (tx_f g len k) 0 3 := by
  unfold tx_ok
  rw [if_neg (by omega), if_neg (by omega), if_neg (by omega), if_neg (by omega)]
theorem ex_last (P : Nat → Bool) (i d : Nat) : ex_a P i (d + 1) = (ex_a P i d || P (i + d)) := by
  apply Bool.eq_iff_iff.mpr
  rw [ex_iff, Bool.or_eq_true, ex_iff]
  constructor
  · rintro ⟨w, h1, h2, h3⟩
    by_cases e : w = i + d
    · subst e; exact Or.inr h3
    · exact Or.inl ⟨w, h1, by omega, h3⟩
  · rintro (⟨w, h1, h2, h3⟩ | h)
    · exact ⟨w, h1, by omega, h3⟩
    · exact ⟨i + d, by omega, by omega, h⟩
theorem rd_Mstep {g : am_G} {len m M x y : Nat} (h : rd_M g len m M) (hx : tx_f g len (6 * m + 7) = some x) (hy : tx_f g len (6 * m + 8) = some y) (hy1 : y < 2) : rd_M g len (m + 1) (M ||| 2 ^ (2 * x + y)) := by
  have bx := (tx_lt hx).1
  refine ⟨?_, fun x' hx' d hd => ?_⟩
  · exact Nat.or_lt_two_pow h.1 (Nat.pow_lt_pow_right (by decide) (by omega))
  · rw [Nat.testBit_or, h.2 x' hx' d hd, ex_last]
    congr 1
    have e1 : tx_f g len (6 * (1 + m) + 1) = some x := by rw [show 6 * (1 + m) + 1 = 6 * m + 7 by omega]; exact hx
    have e2 : tx_f g len (6 * (1 + m) + 2) = some y := by rw [show 6 * (1 + m) + 2 = 6 * m + 8 by omega]; exact hy
    unfold rd_w
    rw [e1, e2, Nat.testBit_two_pow]
    by_cases hq : 2 * x + y = 2 * x' + d
    · have q1 : x = x' := by omega
      have q2 : y = d := by omega
      subst q1 q2
      simp
    · by_cases q1 : x = x'
      · have q2 : ¬ y = d := by omega
        simp [hq, q2]
      · simp [hq, q1]
/-- what stands of the m-th window -/
def rd_V (g0 : am_G) (len : Nat) (g : am_G) (j : Nat) : Prop := ∃ x y a b c, (tx_f g0 len (6 * j + 7) = some x ∧ tx_f g0 len (6 * j + 8) = some y ∧ tx_f g0 len (6 * j + 9) = some a ∧ tx_f g0 len (6 * j + 10) = some b ∧ tx_f g0 len (6 * j + 11) = some c) ∧ (x ≤ 9 ∧ y ≤ 1 ∧ a ≤ 3 ∧ b ≤ 3 ∧ c ≤ 3) ∧ (g 34 (5 * j) = nI x ∧ g 34 (5 * j + 1) = nI y ∧ g 34 (5 * j + 2) = nI a ∧ g 34 (5 * j + 3) = nI b ∧ g 34 (5 * j + 4) = nI c)
def rd_H (g0 : am_G) (len : Nat) (g : am_G) : Prop := (∃ v, 1 ≤ v ∧ v ≤ 9 ∧ tx_f g0 len 5 = some v ∧ g 26 10 = nI v) ∧ ∀ s, s < 4 → ∃ v, v ≤ 3 ∧ tx_f g0 len (1 + s) = some v ∧ g 33 s = nI v
def rd_Z (g0 : am_G) (len : Nat) (h : am_G) : Prop := tx_ff g0 len 0 len = -9 → ∃ m, m ≤ 6 ∧ len = 6 * m + 6 ∧ h 26 11 = nI m ∧ rd_H g0 len h ∧ ∀ j, j < m → rd_V g0 len h j
theorem rd_nn {st : Option Nat} {o1 o2 o2' : Bool} {i1 i2 : Nat} (h : o1 = true → o2 = o2') : rd_n (rd_n st o1 i1) o2 i2 = rd_n (rd_n st o1 i1) o2' i2 := by
  cases st with
  | some f => rfl
  | none =>
    cases o1 with
    | false => rfl
    | true => rw [h rfl]
theorem rd_stop {F n f : Nat} {g : am_G} (h15 : g 26 15 = nI f) (hf : f ≤ 48) : f_X8_readText_132 F (fun g => f_X8_readText_82 F (n + 1) g) g = some (nI f, am_u g 26 16 (g 26 15)) := by
  have e : (am_u g 26 16 (g 26 15)) 26 16 = nI f := by rw [am_u_at, if_pos ⟨rfl, rfl⟩, h15]
  rw [f_X8_readText_132]
  show f_X8_readText_82 F (n + 1) (am_u g 26 16 (g 26 15)) = _
  rw [f_X8_readText_82.eq_2, if_neg (by rw [e]; exact rd_ne9 f hf), e]
set_option maxHeartbeats 1000000 in
theorem rd_loop {F : Nat} (hF : 20 ≤ F) {g0 : am_G} {len : Nat} (hX : iv_X g0 len) : ∀ (d m n : Nat) (g : am_G) (M : Nat), m + d = 6 → d + 1 < n → rd_E g0 g → 6 * m + 6 ≤ len → g 26 15 = nI (6 * m + 6) → g 26 16 = -9 → g 26 11 = nI m → g 26 12 = nI M → rd_M g0 len m M → (∀ k, k < 6 * m + 6 → tx_ok g0 len k = true) → rd_H g0 len g → (∀ j, j < m → rd_V g0 len g j) →
    ∃ h, f_X8_readText_82 F n g = some (tx_ff g0 len 0 len, h) ∧ rd_E g0 h ∧ rd_Z g0 len h := by
  have hl := hX.1
  intro d
  induction d with
  | zero =>
    intro m n g M hm hn E hle h15 h16 h11 h12 hM hok hH hV
    obtain ⟨n, rfl⟩ : ∃ k, n = k + 1 := ⟨n - 1, by omega⟩
    have hm6 : m = 6 := by omega
    subst hm6
    have Xg := E.X hX
    rw [f_X8_readText_82.eq_2, if_pos h16, h15, Xg.2.2.1]
    by_cases hend : len ≤ 42
    · have hlen : len = 42 := by omega
      rw [if_pos (nI_le hend (by omega)), h16]
      refine ⟨g, ?_, E, fun _ => ⟨6, by omega, hlen, h11, hH, hV⟩⟩
      rw [tx_ffN (by omega) (by omega) len 0 (by omega) (fun k _ hk => hok k (by omega))]
    · rw [if_neg (show ¬ nI len ≤ nI (6 * 6 + 6) from fun z => hend ((pu_le (b := 42) (by omega) (by omega)).mp z)), if_pos (show am_in (nI (6 * 6 + 6)) 48 from (pu_in (by omega)).mpr (by omega))]
      have hno : tx_ok g0 len 42 = false := by
        unfold tx_ok
        simp
      have hff : tx_ff g0 len 0 len = nI 42 := tx_ffS len 0 42 (by omega) (by omega) (by omega) (fun k _ hk => hok k (by omega)) (fun _ => hno) (by omega)
      have fin : ∃ h, f_X8_readText_132 F (fun g => f_X8_readText_82 F n g) g = some (tx_ff g0 len 0 len, h) ∧ rd_E g0 h ∧ rd_Z g0 len h := by
        obtain ⟨n, rfl⟩ : ∃ k, n = k + 1 := ⟨n - 1, by omega⟩
        refine ⟨am_u g 26 16 (g 26 15), ?_, ?_, ?_⟩
        · rw [hff]; exact rd_stop h15 (by omega)
        · exact E.trans fun a b c => by rw [am_u_at, if_neg (by omega)]
        · intro z
          rw [hff] at z
          exact absurd z (rd_ne9 _ (by omega))
      by_cases hw : g 35 (Int32.toNatClampNeg (nI (6 * 6 + 6))) = 87
      · rw [if_pos hw, h11, if_pos (show (6 : Int32) ≤ nI 6 from by decide)]
        exact fin
      · rw [if_neg hw]
        exact fin
  | succ d ih =>
    intro m n g M hm hn E hle h15 h16 h11 h12 hM hok hH hV
    obtain ⟨n, rfl⟩ : ∃ k, n = k + 1 := ⟨n - 1, by omega⟩
    have Xg := E.X hX
    rw [f_X8_readText_82.eq_2, if_pos h16, h15, Xg.2.2.1]
    by_cases hend : len ≤ 6 * m + 6
    · have hlen : len = 6 * m + 6 := by omega
      rw [if_pos (nI_le hend (by omega)), h16]
      refine ⟨g, ?_, E, fun _ => ⟨m, by omega, hlen, h11, hH, hV⟩⟩
      rw [tx_ffN (by omega) (by omega) len 0 (by omega) (fun k _ hk => hok k (by omega))]
    · have h48 : 6 * m + 6 < 48 := by omega
      obtain ⟨-, e35, e256⟩ := tx_at hX h48
      have e35g : g 35 (6 * m + 6) = nI (tx_u g0 (6 * m + 6)) := (E 35 (6 * m + 6) (by omega)).trans e35
      rw [if_neg (show ¬ nI len ≤ nI (6 * m + 6) from fun z => hend ((pu_le (by omega) (by omega)).mp z)), if_pos (show am_in (nI (6 * m + 6)) 48 from (pu_in (by omega)).mpr (by omega)), pu_tn (by omega), e35g]
      by_cases hw : tx_u g0 (6 * m + 6) = 87
      · rw [if_pos (show nI (tx_u g0 (6 * m + 6)) = (87 : Int32) by rw [hw]; rfl), h11, if_neg (show ¬ (6 : Int32) ≤ nI m from nI_ge (b := 6) (by omega) (by decide))]
        have hokW : tx_ok g0 len (6 * m + 6) = true := by
          unfold tx_ok
          rw [if_neg (by omega), if_pos (by omega), hw]
          simp
          omega
        obtain ⟨x, y, a, b, c, h, st, cw, Ew, h33, h10, h34, h11', hs, hst, hx1, hfin⟩ := rd_win hF Xg (show m < 6 by omega) h15 h16 h11 h12 (by have := hM.1; omega)
        rw [cw, Option.bind_some]
        have E0 := E.trans Ew
        simp only [E.f len] at hst hx1 hfin
        rw [rd_ok1 hM] at hst hx1
        rw [rd_nn (fun q => rd_ok2 hM (hx1 q)), ← rd_ok3 (k := 6 * m + 9) (by omega) (by omega), ← rd_ok3 (k := 6 * m + 10) (by omega) (by omega), ← rd_ok3 (k := 6 * m + 11) (by omega) (by omega)] at hst
        have hst2 : st = rd_c (fun j => tx_ok g0 len (6 * m + 7 + j)) (6 * m + 7) 5 := hst
        cases hq : st with
        | none =>
          rw [hq] at hs hst2
          obtain ⟨t15, t16⟩ := hs
          have hall := rd_c_none hst2.symm
          obtain ⟨hf, hb, hv, hM12⟩ := hfin hq
          have hy1 : y < 2 := by
            have := hall 1 (by omega)
            have h2 : tx_ok g0 len (6 * m + 8) = true := this
            unfold tx_ok at h2
            rw [if_neg (by omega), if_neg (by omega), if_neg (by omega), if_pos (by omega), hf.2.1] at h2
            simp [tx_b] at h2
            omega
          have hlen2 : 6 * m + 12 ≤ len := by
            have := (tx_lt hf.2.2.2.2).2
            omega
          refine ih (m + 1) n h (M ||| 2 ^ (2 * x + y)) (by omega) (by omega) E0 (by omega) t15 t16 h11' hM12 (rd_Mstep hM hf.1 hf.2.1 hy1) ?_ ?_ ?_
          · intro k hk
            by_cases h1 : k < 6 * m + 6
            · exact hok k h1
            · by_cases h2 : k = 6 * m + 6
              · rw [h2]; exact hokW
              · have := hall (k - (6 * m + 7)) (by omega)
                rw [show 6 * m + 7 + (k - (6 * m + 7)) = k by omega] at this
                exact this
          · obtain ⟨⟨v, v1, v2, v3, v4⟩, q2⟩ := hH
            refine ⟨⟨v, v1, v2, v3, h10.trans v4⟩, fun s hs => ?_⟩
            obtain ⟨v, w1, w2, w3⟩ := q2 s hs
            exact ⟨v, w1, w2, (h33 s).trans w3⟩
          · intro j hj
            by_cases hjm : j = m
            · subst hjm
              exact ⟨x, y, a, b, c, hf, ⟨hb.1, by omega, hb.2.2⟩, hv⟩
            · obtain ⟨x', y', a', b', c', w1, w2, w3, w4, w5, w6, w7⟩ := hV j (by omega)
              exact ⟨x', y', a', b', c', w1, w2, (h34 _ (by omega)).trans w3, (h34 _ (by omega)).trans w4, (h34 _ (by omega)).trans w5, (h34 _ (by omega)).trans w6, (h34 _ (by omega)).trans w7⟩
        | some f =>
          rw [hq] at hs hst2
          obtain ⟨t16, hf48⟩ := hs
          obtain ⟨j, hj, hfj, hno, hbe⟩ := rd_c_some hst2.symm
          have hok2 : ∀ k, k < f → tx_ok g0 len k = true := by
            intro k hk
            by_cases h1 : k < 6 * m + 6
            · exact hok k h1
            · by_cases h2 : k = 6 * m + 6
              · rw [h2]; exact hokW
              · have := hbe (k - (6 * m + 7)) (by omega)
                rw [show 6 * m + 7 + (k - (6 * m + 7)) = k by omega] at this
                exact this
          have hfl : f ≤ len := by
            rcases Nat.lt_or_ge len f with q | q
            · have h1 := hok2 len (by omega)
              have hn : tx_f g0 len len = none := if_neg (by omega)
              unfold tx_ok at h1
              rw [if_neg (by omega), if_neg (by omega), hn] at h1
              simp [tx_b] at h1
            · exact q
          have hff : tx_ff g0 len 0 len = nI f := tx_ffS len 0 f (by omega) (by omega) hfl (fun k _ hk => hok2 k hk) (fun _ => by rw [hfj]; exact hno) (by omega)
          obtain ⟨n, rfl⟩ : ∃ k, n = k + 1 := ⟨n - 1, by omega⟩
          refine ⟨h, ?_, E0, ?_⟩
          · rw [f_X8_readText_82.eq_2, t16, if_neg (rd_ne9 f hf48), hff]
          · intro z
            rw [hff] at z
            exact absurd z (rd_ne9 _ hf48)
      · have hno : tx_ok g0 len (6 * m + 6) = false := by
          unfold tx_ok
          rw [if_neg (by omega), if_pos (by omega)]
          simp [hw]
        rw [if_neg (show ¬ nI (tx_u g0 (6 * m + 6)) = (87 : Int32) from fun z => hw ((pu_eq (b := 87) (by omega) (by decide)).mp z))]
        have hff : tx_ff g0 len 0 len = nI (6 * m + 6) := tx_ffS len 0 (6 * m + 6) (by omega) (by omega) (by omega) (fun k _ hk => hok k (by omega)) (fun _ => hno) (by omega)
        obtain ⟨n, rfl⟩ : ∃ k, n = k + 1 := ⟨n - 1, by omega⟩
        refine ⟨am_u g 26 16 (g 26 15), ?_, ?_, ?_⟩
        · rw [hff]; exact rd_stop h15 (by omega)
        · exact E.trans fun a b c => by rw [am_u_at, if_neg (by omega)]
        · intro z
          rw [hff] at z
          exact absurd z (rd_ne9 _ (by omega))
