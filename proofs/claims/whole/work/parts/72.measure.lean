/-! WAYS: the class measures them -/
def wy_c (g : am_G) (b : Nat) : Nat := if g 31 b = 1 then 0 else 1
def wy_p (g : am_G) (D b : Nat) : Bool := decide (¬ g 31 b = 3) && !D.testBit b
theorem wy_c1 (g : am_G) (b : Nat) : wy_c g b ≤ 1 := by
  unfold wy_c
  split <;> omega
theorem wy_see (g : am_G) (v : Nat) : iv_see g v v = false := by simp [iv_see]
def wy_W (r : Nat → Nat) (w0 w : am_J) : Prop := (∀ k, k < 6 → w 21 k = lN (r k)) ∧ ∀ a b, a ≠ 21 → w a b = w0 a b
def wy_m (i : Nat) (r' r : Nat → Nat) : Nat → Nat := fun v => if v < i then r' v else r v
theorem wy_m_at (i : Nat) (r' r : Nat → Nat) (v : Nat) : wy_m i r' r v = if v < i then r' v else r v := rfl
theorem lc_eq (x y : Int64) : lg_cmp x y = 0 ↔ x = y := by
  unfold lg_cmp
  by_cases h1 : y < x
  · rw [if_pos h1]
    constructor
    · intro z; exact absurd z (by decide)
    · intro z; rw [z] at h1; exact absurd h1 (Int64.lt_irrefl)
  · rw [if_neg h1]
    by_cases h2 : x = y
    · rw [if_pos h2]
      exact ⟨fun _ => h2, fun _ => rfl⟩
    · rw [if_neg h2]
      exact ⟨fun z => absurd z (by decide), fun z => absurd z h2⟩
theorem wy_never : (1000000000 : Int64) = lN 1000000000 := rfl
theorem wy_ten7 : (10000000 : Int64) = lN 10000000 := rfl
section WM
variable {F : Nat} {g : am_G} {N : Nat} {r : Nat → Nat} {w0 w : am_J}
theorem wy_comes (hW : iv_W g N) (hw : wy_W r w0 w) {k : Nat} (hk : k < N) (hr : r k ≤ 1000000000) : f_X6_comesTo g w (nI k) = some (if r k = 1000000000 then 0 else 1) := by
  have hN := hW.1
  unfold f_X6_comesTo
  rw [(pb_yes hW hk).1, Option.bind_some, if_neg pb_10, if_pos (pb_i6 (by omega)), pu_tn (by omega), hw.1 k (by omega)]
  by_cases h : r k = 1000000000
  · rw [if_pos h, if_pos ((lc_eq _ _).mpr (by rw [h, wy_never]))]
  · rw [if_neg h, if_neg]
    intro z
    have z2 := (lc_eq _ _).mp z
    rw [wy_never] at z2
    exact h ((pk_lEQ (by omega) (by omega)).mp z2)
theorem wy_lmin {a b : Nat} (ha : a < 2 ^ 63) (hb : b < 2 ^ 63) : am_lmin (lN a) (lN b) = lN (min a b) := by
  unfold am_lmin
  by_cases h : b < a
  · rw [if_pos ((pk_lLT hb ha).mpr h), Nat.min_eq_right (by omega)]
  · rw [if_neg (fun z => h ((pk_lLT hb ha).mp z)), Nat.min_eq_left (by omega)]
theorem wy_sum (A B i : Nat) : A + B + i + 1 = A + (B + (i + 1)) := by omega
theorem wy_xbd {x k v : Nat} (hx : x ≤ 1000000000) (hk : k ≤ 1) (hv : v < 6) : wy_x x k v < 2 ^ 63 := by
  unfold wy_x
  have h1 : (x / 10000000 + k) * 10000000 ≤ 101 * 10000000 := Nat.mul_le_mul_right _ (by omega)
  have h2 : x % 10000000 < 10000000 := Nat.mod_lt _ (by decide)
  omega
theorem wy_goloop (hW : iv_W g N) {via k : Nat} (hvia : via < N) (hk : k ≤ 1) (hr : ∀ v, v < N → r v ≤ 1000000000) (hnv : r via ≠ 1000000000) (q1 q2 : Int32) : ∀ (d i n : Nat) (w : am_J), i + d = N → d < n → wy_W (wy_m i (wy_g (iv_see g) N via k r) r) w0 w →
    ∃ w', f_X6_goOn_38 F g (nI via) q2 n (lN (r via / 10000000 + k)) (lN (r via % 10000000)) (nI i) w = some w' ∧ wy_W (wy_g (iv_see g) N via k r) w0 w' := by
  have hN := hW.1
  intro d
  induction d with
  | zero =>
    intro i n w hi hn hw
    obtain ⟨n, rfl⟩ : ∃ j, n = j + 1 := ⟨n - 1, by omega⟩
    have : i = N := by omega
    subst this
    rw [f_X6_goOn_38.eq_2, f_X2_windows, Option.bind_some, hW.2.1, if_pos (Int32.le_refl _)]
    refine ⟨w, rfl, fun v hv => ?_, hw.2⟩
    rw [hw.1 v hv, wy_m_at]
    congr 1
    split
    · rfl
    · rename_i h
      unfold wy_g
      rw [if_neg (fun z => h z.1)]
  | succ d ih =>
    intro i n w hi hn hw
    obtain ⟨n, rfl⟩ : ∃ j, n = j + 1 := ⟨n - 1, by omega⟩
    rw [f_X6_goOn_38.eq_2, f_X2_windows, Option.bind_some, hW.2.1, if_neg (by rw [pu_le (by omega) (by omega)]; omega), bi_facing hW (show i < N by omega) hvia, Option.bind_some]
    have e1 : nI i + (1 : Int32) = nI (i + 1) := nI_add i 1
    by_cases hs : iv_see g i via = true
    · have hval : am_lmin (w 21 i) ((((lN (r via / 10000000 + k) * (10000000 : Int64)) + ((10 : Int64) * lN (r via % 10000000))) + (Int32.toInt64 (nI i))) + (1 : Int64)) = lN (wy_g (iv_see g) N via k r i) := by
        have h10 : (10 : Int64) = lN 10 := rfl
        rw [hw.1 i (by omega), wy_m_at, if_neg (Nat.lt_irrefl i), wy_ten7, h10, lN_mul, lN_mul, nI_l (show i < 2 ^ 31 by omega), lN_add, lN_add, lN_1, wy_sum]
        have e : (r via / 10000000 + k) * 10000000 + (10 * (r via % 10000000) + (i + 1)) = wy_x (r via) k i := rfl
        rw [e, wy_lmin (by have := hr i (by omega); omega) (wy_xbd (hr via hvia) hk (by omega))]
        unfold wy_g
        rw [if_pos ⟨by omega, hs, hnv⟩]
      rw [if_pos hs, if_neg pb_10, if_pos (pb_i6 (by omega)), if_pos (pb_i6 (by omega)), pu_tn (by omega), hval]
      simp only [f_X6_goOn_98, e1]
      refine ih (i + 1) n _ (by omega) (by omega) ⟨fun v hv => ?_, fun a b hab => ?_⟩
      · rw [am_ul_at, wy_m_at]
        by_cases hvi : v = i
        · rw [if_pos ⟨rfl, hvi⟩, if_pos (by omega), hvi]
        · rw [if_neg (by omega), hw.1 v hv, wy_m_at]
          by_cases hlt : v < i
          · rw [if_pos hlt, if_pos (by omega)]
          · rw [if_neg hlt, if_neg (by omega)]
      · rw [am_ul_at, if_neg (by omega), hw.2 a b hab]
    · rw [if_neg hs, if_pos rfl]
      simp only [f_X6_goOn_98, e1]
      refine ih (i + 1) n _ (by omega) (by omega) ⟨fun v hv => ?_, hw.2⟩
      rw [hw.1 v hv, wy_m_at, wy_m_at]
      by_cases hlt : v < i
      · rw [if_pos hlt, if_pos (by omega)]
      · rw [if_neg hlt]
        by_cases hvi : v = i
        · rw [if_pos (by omega)]
          unfold wy_g
          rw [if_neg (fun z => hs (hvi ▸ z.2.1))]
        · rw [if_neg (by omega)]
theorem wy_go (hF : 7 ≤ F) (hW : iv_W g N) (hw : wy_W r w0 w) {via k : Nat} (hvia : via < N) (hk : k ≤ 1) (hr : ∀ v, v < N → r v ≤ 1000000000) : ∃ w', f_X6_goOn F g w (nI via) (nI k) = some w' ∧ wy_W (wy_g (iv_see g) N via k r) w0 w' := by
  have hN := hW.1
  unfold f_X6_goOn
  rw [wy_comes hW hw hvia (hr via hvia), Option.bind_some]
  by_cases h : r via = 1000000000
  · rw [if_pos h, if_pos rfl]
    refine ⟨w, rfl, fun v hv => ?_, hw.2⟩
    rw [hw.1 v hv]
    unfold wy_g
    rw [if_neg (fun z => z.2.2 h)]
  · have hb := hr via hvia
    rw [if_neg h, if_neg pb_10, if_pos (pb_i6 (by omega)), if_pos (pb_i6 (by omega)), pu_tn (by omega), hw.1 via (by omega), wy_ten7, pk_lRem (by omega) (by decide) (by decide), pk_lDiv (by omega) (by decide) (by decide), nI_l (show k < 2 ^ 31 by omega), lN_add]
    refine wy_goloop hW hvia hk hr h 0 (nI k) N 0 F w (by omega) (by omega) ⟨fun v hv => ?_, hw.2⟩
    rw [hw.1 v hv, wy_m_at, if_neg (Nat.not_lt_zero v)]
theorem wy_hat (hW : iv_W g N) {k : Nat} (hk : k < N) : f_X6_hoursAt g (nI k) = some (nI (wy_c g k)) := by
  unfold f_X6_hoursAt wy_c
  rw [pb_kind hW hk, Option.bind_some, ((hW.2.2.2.2.2.2 k hk).2.2.2.1).1]
  by_cases h : g 31 k = 1
  · rw [if_pos h, if_pos h]; rfl
  · rw [if_neg h, if_neg h]; rfl
theorem wy_in48 (hF : 7 ≤ F) (hW : iv_W g N) {f D : Nat} (hf : f < N) (hD : D < 64) (K : Int32 → am_J → Option am_J) (l3 : Int32) : ∀ (d i n : Nat) (r : Nat → Nat) (w : am_J), i + d = N → d < n → (∀ v, v < N → r v ≤ 1000000000) → wy_W r w0 w →
    ∃ w', f_X6_measure_48 F g (nI f) (nI D) K n l3 (nI i) w = K l3 w' ∧ wy_W (pu_fo (wy_s (iv_see g) (wy_p g D) (wy_c g) N f) i d r) w0 w' := by
  have hN := hW.1
  intro d
  induction d with
  | zero =>
    intro i n r w hi hn hr hw
    obtain ⟨n, rfl⟩ : ∃ j, n = j + 1 := ⟨n - 1, by omega⟩
    have : i = N := by omega
    subst this
    rw [f_X6_measure_48.eq_2, f_X2_windows, Option.bind_some, hW.2.1, if_pos (Int32.le_refl _)]
    exact ⟨w, rfl, hw⟩
  | succ d ih =>
    intro i n r w hi hn hr hw
    obtain ⟨n, rfl⟩ : ∃ j, n = j + 1 := ⟨n - 1, by omega⟩
    have e1 : nI i + (1 : Int32) = nI (i + 1) := nI_add i 1
    have hiN : i < N := by omega
    have hr' : ∀ v, v < N → wy_s (iv_see g) (wy_p g D) (wy_c g) N f i r v ≤ 1000000000 := fun v hv => Nat.le_trans (wy_s.le i v) (hr v hv)
    rw [f_X6_measure_48.eq_2, f_X2_windows, Option.bind_some, hW.2.1, if_neg (by rw [pu_le (by omega) (by omega)]; omega)]
    show ∃ w', _ = K l3 w' ∧ wy_W (pu_fo (wy_s (iv_see g) (wy_p g D) (wy_c g) N f) (i + 1) d (wy_s (iv_see g) (wy_p g D) (wy_c g) N f i r)) w0 w'
    by_cases hif : i = f
    · have es : wy_s (iv_see g) (wy_p g D) (wy_c g) N f i r = wy_g (iv_see g) N i 0 r := by unfold wy_s; rw [if_pos hif]
      obtain ⟨w1, c1, hw1⟩ := wy_go hF hW hw hiN (k := 0) (by omega) hr
      rw [if_pos (by rw [hif]), show f_X6_goOn F g w (nI i) 0 = _ from c1, Option.bind_some]
      simp only [f_X6_measure_110, e1]
      rw [es] at hr' ⊢
      exact ih (i + 1) n _ w1 (by omega) (by omega) hr' hw1
    · rw [if_neg (fun z => hif ((pu_eq (by omega) (by omega)).mp z)), pb_kind hW hiN, Option.bind_some, ((hW.2.2.2.2.2.2 i hiN).2.2.2.1).1]
      by_cases h3 : g 31 i = 3
      · have es : wy_s (iv_see g) (wy_p g D) (wy_c g) N f i r = r := by
          unfold wy_s wy_p
          rw [if_neg hif, if_neg (by simp [h3])]
        rw [if_pos h3]
        simp only [f_X6_measure_110, e1]
        rw [es]
        exact ih (i + 1) n _ w (by omega) (by omega) hr hw
      · rw [if_neg h3]
        by_cases hb : D.testBit i = true
        · have es : wy_s (iv_see g) (wy_p g D) (wy_c g) N f i r = r := by
            unfold wy_s wy_p
            rw [if_neg hif, if_neg (by simp [hb])]
          rw [if_neg (fun z => by have := (bi_shr2 hD (show i < 6 by omega)).mp z; rw [hb] at this; cases this)]
          simp only [f_X6_measure_110, e1]
          rw [es]
          exact ih (i + 1) n _ w (by omega) (by omega) hr hw
        · have hb' : D.testBit i = false := by simpa using hb
          have es : wy_s (iv_see g) (wy_p g D) (wy_c g) N f i r = wy_g (iv_see g) N i (wy_c g i) r := by
            unfold wy_s wy_p
            rw [if_neg hif, if_pos (by simp [h3, hb'])]
          obtain ⟨w1, c1, hw1⟩ := wy_go hF hW hw hiN (wy_c1 g i) hr
          rw [if_pos ((bi_shr2 hD (show i < 6 by omega)).mpr hb'), wy_hat hW hiN, Option.bind_some, c1, Option.bind_some]
          simp only [f_X6_measure_110, e1]
          rw [es] at hr' ⊢
          exact ih (i + 1) n _ w1 (by omega) (by omega) hr' hw1
theorem wy_fo_le {S : Nat → Nat → Bool} {p : Nat → Bool} {c : Nat → Nat} {f : Nat} (d : Nat) : ∀ (i : Nat) (r : Nat → Nat) (v : Nat), pu_fo (wy_s S p c N f) i d r v ≤ r v := by
  induction d with
  | zero => exact fun i r v => Nat.le_refl _
  | succ d ih =>
    intro i r v
    exact Nat.le_trans (ih (i + 1) _ v) (wy_s.le i v)
theorem wy_in34 (hF : 7 ≤ F) (hW : iv_W g N) {f D : Nat} (hf : f < N) (hD : D < 64) : ∀ (d i n : Nat) (r : Nat → Nat) (w : am_J), i + d = N → d < n → (∀ v, v < N → r v ≤ 1000000000) → wy_W r w0 w →
    ∃ w', f_X6_measure_34 F g (nI f) (nI D) n (nI i) w = some w' ∧ wy_W (pu_fo (fun _ r => pu_fo (wy_s (iv_see g) (wy_p g D) (wy_c g) N f) 0 N r) i d r) w0 w' := by
  have hN := hW.1
  intro d
  induction d with
  | zero =>
    intro i n r w hi hn hr hw
    obtain ⟨n, rfl⟩ : ∃ j, n = j + 1 := ⟨n - 1, by omega⟩
    have : i = N := by omega
    subst this
    rw [f_X6_measure_34.eq_2, f_X2_windows, Option.bind_some, hW.2.1, if_pos (Int32.le_refl _)]
    exact ⟨w, rfl, hw⟩
  | succ d ih =>
    intro i n r w hi hn hr hw
    obtain ⟨n, rfl⟩ : ∃ j, n = j + 1 := ⟨n - 1, by omega⟩
    have e1 : nI i + (1 : Int32) = nI (i + 1) := nI_add i 1
    rw [f_X6_measure_34.eq_2, f_X2_windows, Option.bind_some, hW.2.1, if_neg (by rw [pu_le (by omega) (by omega)]; omega)]
    obtain ⟨w1, c1, hw1⟩ := wy_in48 (w0 := w0) hF hW hf hD (fun l3 w => f_X6_measure_116 F g (nI f) (nI D) (fun l3 w => f_X6_measure_34 F g (nI f) (nI D) n l3 w) (l3) (w)) (nI i) N 0 F r w (by omega) (by omega) hr hw
    obtain ⟨w2, c2, hw2⟩ := ih (i + 1) n _ w1 (by omega) (by omega) (fun v hv => Nat.le_trans (wy_fo_le N 0 r v) (hr v hv)) hw1
    refine ⟨w2, ?_, hw2⟩
    refine c1.trans ?_
    show f_X6_measure_34 F g (nI f) (nI D) n (nI i + 1) w1 = _
    rw [e1, c2]
theorem wy_fill {n : Nat} (hn : 6 < n) (x : Int64) (w : am_J) : f_J7_fill_d0a16_6 F x n 0 (Int32.ofNat 6) w = some (fun a b => if a = 21 ∧ b < 6 then x else w a b) := by
  obtain ⟨m, rfl⟩ : ∃ m, n = m + 7 := ⟨n - 7, by omega⟩
  have e4 : Int32.ofNat 6 = 6 := by decide
  have c : ∀ i : Nat, i < 6 → ∀ h n, f_J7_fill_d0a16_6 F x (n + 1) (nI i) 6 h = f_J7_fill_d0a16_6 F x n (nI (i + 1)) 6 (am_ul h 21 i x) := fun i hi h n => by
    rw [f_J7_fill_d0a16_6.eq_2, if_neg (show ¬ (6 : Int32) ≤ nI i from nI_ge (b := 6) hi (by decide)), if_pos ((pu_in (by omega)).mpr hi), pu_tn (by omega), show nI i + (1 : Int32) = nI (i + 1) from nI_add i 1]
  rw [e4]
  refine (c 0 (by omega) w (m + 6)).trans ?_
  rw [c 1 (by omega), c 2 (by omega), c 3 (by omega), c 4 (by omega), c 5 (by omega), f_J7_fill_d0a16_6.eq_2, if_pos (show (6 : Int32) ≤ nI 6 from by decide)]
  congr 1
  funext a b
  rw [am_ul_at, am_ul_at, am_ul_at, am_ul_at, am_ul_at, am_ul_at]
  by_cases h : a = 21 ∧ b < 6
  · rw [if_pos h]
    have : b = 0 ∨ b = 1 ∨ b = 2 ∨ b = 3 ∨ b = 4 ∨ b = 5 := by omega
    rcases this with rfl | rfl | rfl | rfl | rfl | rfl <;> simp [h.1]
  · rw [if_neg h, if_neg (by omega), if_neg (by omega), if_neg (by omega), if_neg (by omega), if_neg (by omega), if_neg (by omega)]
theorem wy_measure (hF : 7 ≤ F) (hW : iv_W g N) {f D : Nat} (hf : f < N) (hD : D < 64) (w : am_J) : ∃ w', f_X6_measure F g w (nI f) (nI D) = some w' ∧ wy_W (wy_rr (iv_see g) (wy_p g D) (wy_c g) N f) w w' := by
  have hN := hW.1
  unfold f_X6_measure f_J7_fill_d0a16
  rw [wy_fill (by omega), Option.bind_some, (pb_yes hW hf).1, Option.bind_some, if_neg pb_10, if_pos (pb_i6 (by omega)), pu_tn (by omega), show nI f + (1 : Int32) = nI (f + 1) from nI_add f 1, nI_l (show f + 1 < 2 ^ 31 by omega)]
  refine wy_in34 hF hW hf hD N 0 F (wy_r0 f) _ (by omega) (by omega) (fun v hv => ?_) ⟨fun v hv => ?_, fun a b hab => ?_⟩
  · unfold wy_r0
    split <;> omega
  · rw [am_ul_at]
    unfold wy_r0
    by_cases h : v = f
    · rw [if_pos ⟨rfl, h⟩, if_pos h]
    · rw [if_neg (by omega), if_neg h, if_pos ⟨rfl, hv⟩, wy_never]
  · rw [am_ul_at, if_neg (by omega), if_neg (by omega)]
end WM
