/-! TO TELL -/
def ex_a (P : Nat → Bool) : Nat → Nat → Bool
  | _, 0 => false
  | i, d + 1 => P i || ex_a P (i + 1) d
theorem ex_iff (P : Nat → Bool) : ∀ d i, ex_a P i d = true ↔ ∃ w, i ≤ w ∧ w < i + d ∧ P w = true
  | 0, i => by
    simp only [ex_a, Bool.false_eq_true, false_iff]
    rintro ⟨w, h1, h2, -⟩
    omega
  | d + 1, i => by
    simp only [ex_a, Bool.or_eq_true, ex_iff P d (i + 1)]
    constructor
    · rintro (h | ⟨w, h1, h2, h3⟩)
      · exact ⟨i, by omega, by omega, h⟩
      · exact ⟨w, by omega, by omega, h3⟩
    · rintro ⟨w, h1, h2, h3⟩
      by_cases hw : w = i
      · exact Or.inl (hw ▸ h3)
      · exact Or.inr ⟨w, by omega, by omega, h3⟩
theorem af_iff (P : Nat → Bool) : ∀ d i, af_a P i d = true ↔ ∀ w, i ≤ w → w < i + d → P w = true
  | 0, i => by
    simp only [af_a, true_iff]
    intro w h1 h2
    omega
  | d + 1, i => by
    simp only [af_a, Bool.and_eq_true, af_iff P d (i + 1)]
    constructor
    · rintro ⟨h, h'⟩ w h1 h2
      by_cases hw : w = i
      · rw [hw]; exact h
      · exact h' w (by omega) (by omega)
    · intro h
      exact ⟨h i (by omega) (by omega), fun w h1 h2 => h w (by omega) (by omega)⟩
theorem or_fo (v : Nat → Nat) (o : Nat) : ∀ d i c, (pu_fo (fun i c => c ||| v i) i d c).testBit o = (c.testBit o || ex_a (fun w => (v w).testBit o) i d)
  | 0, i, c => by simp [pu_fo, ex_a]
  | d + 1, i, c => by
    simp only [pu_fo, ex_a, or_fo v o d (i + 1), Nat.testBit_or, Bool.or_assoc]
theorem nI_or : ∀ a, a < 64 → ∀ b, b < 64 → nI a ||| nI b = nI (a ||| b) := by decide +kernel
theorem nI_and : ∀ a, a < 64 → ∀ b, b < 64 → nI a &&& nI b = nI (a &&& b) := by decide +kernel
theorem pw_le {N : Nat} (h : N ≤ 6) : 2 ^ N ≤ 64 := (Nat.pow_le_pow_right (by decide) h : 2 ^ N ≤ 2 ^ 6)
def rb_v (g : am_G) (N s w : Nat) : Nat := if s.testBit w = true then iv_bits (iv_see g w) N else 0
def rb (g : am_G) (N s : Nat) : Nat := pu_fo (fun i c => c ||| rb_v g N s i) 0 N s
theorem rb_v_lt (g : am_G) (N s w : Nat) : rb_v g N s w < 2 ^ N := by
  unfold rb_v
  split
  · exact bi_lt _ _
  · exact Nat.two_pow_pos N
theorem rb_c {F : Nat} (hF : 7 ≤ F) {g : am_G} {N s : Nat} (hW : iv_W g N) (hs : s < 2 ^ N) : f_X2_reachedBy F g (nI s) = some (nI (rb g N s)) ∧ rb g N s < 2 ^ N := by
  have hN := hW.1
  have h37 := hW.2.1
  have hp := pw_le hN
  refine pu_loop (fun n i c => f_X2_reachedBy_4 F g (nI s) n (nI c) (nI i)) (fun c => some (nI c)) (fun i c => c ||| rb_v g N s i) N (fun _ c => c < 2 ^ N) (fun n i c hi hc => ⟨?_, Nat.or_lt_two_pow hc (rb_v_lt g N s i)⟩) (fun n c hc => ?_) N 0 s F (by omega) (by omega) hs
  · show f_X2_reachedBy_4 F g (nI s) (n + 1) (nI c) (nI i) = _
    have hv := rb_v_lt g N s i
    rw [f_X2_reachedBy_4.eq_2, h37, if_neg (by rw [pu_le (by omega) (by omega)]; omega), pb_sees hW hi, ← nI_or c (by omega) _ (by omega)]
    simp only [Option.bind_some, f_X2_reachedBy_31, show nI i + (1 : Int32) = nI (i + 1) from nI_add i 1]
    unfold rb_v
    by_cases h : s.testBit i = true
    · rw [if_pos ((bi_shr (by omega) (by omega)).mpr h), if_pos h, (hW.2.2.2.2.2.2 i hi).2.2.2.2]
    · rw [if_neg (fun z => h ((bi_shr (by omega) (by omega)).mp z)), if_neg h]
      rfl
  · show f_X2_reachedBy_4 F g (nI s) (n + 1) (nI c) (nI N) = _
    rw [f_X2_reachedBy_4.eq_2, h37, if_pos (Int32.le_refl _)]
def to_t (g : am_G) (N s o : Nat) : Bool := s.testBit o || decide (¬ s &&& iv_bits (iv_see g o) N = 0)
theorem to_r {F : Nat} (hF : 7 ≤ F) {g : am_G} {N s o : Nat} (hW : iv_W g N) (hs : s < 64) (ho : o < 6) : f_X8_isTold F g (nI s) (nI o) = some (if to_t g N s o then 1 else 0) := by
  have hN := hW.1
  have hb := bi_lt64 (iv_see g o) hN
  unfold f_X8_isTold f_X8_has to_t
  by_cases h : s.testBit o = true
  · rw [if_pos ((bi_shr hs ho).mpr h), h]
    rfl
  · rw [if_neg (fun z => h ((bi_shr hs ho).mp z)), Option.bind_some, if_pos rfl, bi_seen hF hW ho, Option.bind_some, nI_and s hs _ hb]
    have hf : s.testBit o = false := by simpa using h
    have hlt : s &&& iv_bits (iv_see g o) N < 2147483648 := Nat.lt_of_le_of_lt Nat.and_le_left (by omega)
    by_cases h2 : s &&& iv_bits (iv_see g o) N = 0
    · rw [h2, hf]
      rfl
    · rw [if_neg (show ¬ nI (s &&& iv_bits (iv_see g o) N) = (0 : Int32) from fun z => h2 ((pu_eq (b := 0) hlt (by decide)).mp z)), hf]
      simp only [h2, not_false_eq_true, decide_true, Bool.false_or, if_true]
      rfl
theorem to_eq {g : am_G} {N s o : Nat} (hW : iv_W g N) (ho : o < N) : to_t g N s o = (rb g N s).testBit o := by
  unfold to_t rb
  rw [or_fo]
  congr 1
  rw [Bool.eq_iff_iff, decide_eq_true_iff, ex_iff]
  constructor
  · intro h
    refine Classical.byContradiction fun hc => h ?_
    apply Nat.eq_of_testBit_eq
    intro w
    rw [Nat.testBit_and, Nat.zero_testBit, bi_test]
    by_cases hw : w < N
    · cases h1 : s.testBit w with
      | false => simp
      | true =>
        cases h2 : iv_see g o w with
        | false => simp
        | true =>
          exfalso
          apply hc
          refine ⟨w, by omega, by omega, ?_⟩
          simp only [rb_v, h1, if_true, bi_test, ho, decide_true, Bool.true_and]
          rw [al_sym hW hw ho]
          exact h2
    · simp [hw]
  · rintro ⟨w, -, hw, h⟩ h0
    have hw : w < N := by omega
    unfold rb_v at h
    cases h1 : s.testBit w with
    | false => rw [h1] at h; simp at h
    | true =>
      rw [h1, if_pos rfl, bi_test] at h
      simp only [ho, decide_true, Bool.true_and] at h
      have : (s &&& iv_bits (iv_see g o) N).testBit w = true := by
        rw [Nat.testBit_and, h1, bi_test]
        simp only [hw, decide_true, Bool.true_and]
        rw [al_sym hW ho hw]
        exact h
      rw [h0] at this
      simp at this
theorem b2i : ∀ a b : Bool, ((if a = true then (1 : Int32) else 0) = if b = true then 1 else 0) ↔ a = b := by decide
def to_e (g : am_G) (N t s : Nat) : Bool := decide (rb g N s = t)
theorem to_all {g : am_G} {N s t : Nat} (hW : iv_W g N) (hr : rb g N s < 2 ^ N) (ht : t < 2 ^ N) : af_a (fun o => decide (to_t g N s o = t.testBit o)) 0 N = to_e g N t s := by
  unfold to_e
  rw [Bool.eq_iff_iff, af_iff, decide_eq_true_iff]
  constructor
  · intro h
    apply Nat.eq_of_testBit_eq
    intro o
    by_cases ho : o < N
    · have := h o (by omega) (by omega)
      rw [decide_eq_true_iff, to_eq hW ho] at this
      exact this
    · have hp : 2 ^ N ≤ 2 ^ o := Nat.pow_le_pow_right (by decide) (by omega)
      rw [Nat.testBit_lt_two_pow (by omega), Nat.testBit_lt_two_pow (by omega)]
  · intro h o _ ho
    rw [decide_eq_true_iff, to_eq hW (by omega), h]
def to_f (s : Nat) (l : Int32) : Bool := decide (l = -9) || !decide (nI (pc l.toNatClampNeg) ≤ nI (pc s))
def to_P (l : Int32) : Prop := l = -9 ∨ ∃ b, b < 64 ∧ l = nI b
theorem to_9 : ∀ b, b < 64 → ¬ nI b = -9 := by decide +kernel
theorem to_fc {s : Nat} {l : Int32} (hs : s < 64) (hl : to_P l) : f_X7_isFewer (nI s) l = some (if to_f s l then 1 else 0) := by
  unfold f_X7_isFewer f_X7_isFewer_17 to_f
  rcases hl with rfl | ⟨b, hb, rfl⟩
  · rfl
  · rw [if_neg (to_9 b hb), pc_bit s hs, pc_bit b hb, pu_tn (by omega)]
    simp only [Option.bind_some, to_9 b hb, decide_false, Bool.false_or]
    by_cases h : nI (pc b) ≤ nI (pc s)
    · simp [h]
    · simp [h]
def to_st (g : am_G) (N t : Nat) (s : Nat) (l : Int32) : Int32 := if to_e g N t s && to_f s l then nI s else l
theorem to_stP {g : am_G} {N t s : Nat} {l : Int32} (hs : s < 64) (hl : to_P l) : to_P (to_st g N t s l) := by
  unfold to_st
  split
  · exact Or.inr ⟨s, hs, rfl⟩
  · exact hl
theorem to_c {F : Nat} (hF : 70 ≤ F) {g : am_G} {N t : Nat} (hW : iv_W g N) (ht : t < 2 ^ N) : f_X7_toTell_23 F g (nI t) F (-9) 0 = some (pu_fo (to_st g N t) 0 (2 ^ N) (-9)) := by
  have hN := hW.1
  have h37 := hW.2.1
  have hp := pw_le hN
  refine (pu_loop (fun n i l => f_X7_toTell_23 F g (nI t) n l (nI i)) some (to_st g N t) (2 ^ N) (fun _ l => to_P l) (fun n i l hi hl => ⟨?_, to_stP (by omega) hl⟩) (fun n l hl => ?_) (2 ^ N) 0 (-9) F (by omega) (by omega) (Or.inl rfl)).1
  · show f_X7_toTell_23 F g (nI t) (n + 1) l (nI i) = _
    obtain ⟨r1, r2⟩ := rb_c (F := F) (by omega) hW hi
    rw [f_X7_toTell_23.eq_2]
    simp only [f_X2_sets, Option.bind_some, h37, bi_shl N (by omega), r1, to_fc (show i < 64 by omega) hl, f_X7_toTell_56, show nI i + (1 : Int32) = nI (i + 1) from nI_add i 1]
    rw [if_neg (by rw [pu_le (by omega) (by omega)]; omega)]
    unfold to_st to_e
    by_cases he : rb g N i = t
    · rw [if_pos (by rw [he])]
      simp only [he, decide_true, Bool.true_and]
      cases to_f i l <;> rfl
    · rw [if_neg (fun z => he ((pu_eq (by omega) (by omega)).mp z))]
      simp only [he, decide_false, Bool.false_and, Bool.false_eq_true, if_false]
  · show f_X7_toTell_23 F g (nI t) (n + 1) l (nI (2 ^ N)) = _
    rw [f_X7_toTell_23.eq_2]
    simp only [f_X2_sets, Option.bind_some, h37, bi_shl N (by omega)]
    rw [if_pos (Int32.le_refl _)]
theorem to_in {F : Nat} (hF : 70 ≤ F) {g : am_G} {N t s : Nat} (hW : iv_W g N) (ht : t < 2 ^ N) (hs : s < 2 ^ N) (K : Int32 → Int32 → Int32 → Option Int32) (l : Int32) (b : Bool) : f_X8_toTell_63 F g (nI t) K F l (nI s) (if b then 1 else 0) 0 = K l (nI s) (if b && to_e g N t s then 1 else 0) := by
  have hN := hW.1
  have h260 := hW.2.2.1
  have hp := pw_le hN
  have key : ∀ (d i n : Nat) (b : Bool), i + d = N → d < n → f_X8_toTell_63 F g (nI t) K n l (nI s) (if b then 1 else 0) (nI i) = K l (nI s) (if b && af_a (fun o => decide (to_t g N s o = t.testBit o)) i d then 1 else 0) := by
    intro d
    induction d with
    | zero =>
      intro i n b hi hn
      obtain ⟨n, rfl⟩ : ∃ m, n = m + 1 := ⟨n - 1, by omega⟩
      have : i = N := by omega
      subst this
      rw [f_X8_toTell_63.eq_2, h260, if_pos (Int32.le_refl _)]
      cases b <;> rfl
    | succ d ih =>
      intro i n b hi hn
      obtain ⟨n, rfl⟩ : ∃ m, n = m + 1 := ⟨n - 1, by omega⟩
      have i0 := ih (i + 1) n false (by omega) (by omega)
      have i1 := ih (i + 1) n true (by omega) (by omega)
      simp only [Bool.false_and, Bool.true_and, if_true, Bool.false_eq_true, if_false] at i0 i1
      have hh : f_X8_has (nI t) (nI i) = some (if t.testBit i = true then 1 else 0) := by
        unfold f_X8_has
        by_cases h : t.testBit i = true
        · rw [if_pos ((bi_shr (by omega) (by omega)).mpr h), if_pos h]
        · rw [if_neg (fun z => h ((bi_shr (by omega) (by omega)).mp z)), if_neg h]
      rw [f_X8_toTell_63.eq_2, h260, if_neg (by rw [pu_le (by omega) (by omega)]; omega), to_r (by omega) hW (by omega) (by omega), hh]
      simp only [Option.bind_some, f_X8_toTell_97, f_X8_toTell_98, show nI i + (1 : Int32) = nI (i + 1) from nI_add i 1, i0, i1]
      cases b with
      | false => rfl
      | true =>
        rw [if_neg (show ¬ (if true = true then (1 : Int32) else 0) = 0 from pb_10)]
        simp only [af_a]
        by_cases hq : to_t g N s i = t.testBit i
        · rw [if_pos ((b2i _ _).mpr hq)]
          simp only [hq, decide_true, Bool.true_and]
        · rw [if_neg (fun z => hq ((b2i _ _).mp z))]
          simp [hq]
  have := key N 0 F b (by omega) (by omega)
  rw [to_all hW (rb_c (F := 7) (by omega) hW hs).2 ht] at this
  exact this
theorem to_rr {F : Nat} (hF : 70 ≤ F) {g : am_G} {N t : Nat} (hW : iv_W g N) (ht : t < 2 ^ N) : f_X8_toTell_26 F g (nI t) F (-9) 0 = some (pu_fo (to_st g N t) 0 (2 ^ N) (-9)) := by
  have hN := hW.1
  have h260 := hW.2.2.1
  have hp := pw_le hN
  refine (pu_loop (fun n i l => f_X8_toTell_26 F g (nI t) n l (nI i)) some (to_st g N t) (2 ^ N) (fun _ l => to_P l) (fun n i l hi hl => ⟨?_, to_stP (by omega) hl⟩) (fun n l hl => ?_) (2 ^ N) 0 (-9) F (by omega) (by omega) (Or.inl rfl)).1
  · show f_X8_toTell_26 F g (nI t) (n + 1) l (nI i) = _
    have h0 := fun K => to_in hF hW ht hi K l false
    have h1 := fun K => to_in hF hW ht hi K l true
    simp only [Bool.false_and, Bool.true_and, if_true, Bool.false_eq_true, if_false] at h0 h1
    rw [f_X8_toTell_26.eq_2]
    simp only [h260, bi_shl N (by omega), f_X8_toTell_53, f_X8_toTell_58, h0, h1, f_X8_toTell_106, f_X8_toTell_116, show nI i + (1 : Int32) = nI (i + 1) from nI_add i 1, if_pos]
    rw [if_neg (by rw [pu_le (by omega) (by omega)]; omega)]
    unfold to_st to_f
    rcases hl with rfl | ⟨b, hb, rfl⟩
    · rw [if_pos rfl]
      simp only [decide_true, Bool.true_or, Bool.and_true]
      cases to_e g N t i <;> rfl
    · rw [if_neg (to_9 b hb), pc_ones (by omega) (show i < 64 by omega), pc_ones (by omega) hb, pu_tn (by omega)]
      simp only [Option.bind_some, to_9 b hb, decide_false, Bool.false_or]
      by_cases h : nI (pc b) ≤ nI (pc i)
      · rw [if_pos h]
        simp [h]
      · rw [if_neg h]
        simp only [h, decide_false, Bool.not_false, Bool.and_true]
        cases to_e g N t i <;> rfl
  · show f_X8_toTell_26 F g (nI t) (n + 1) l (nI (2 ^ N)) = _
    rw [f_X8_toTell_26.eq_2]
    simp only [h260, bi_shl N (by omega)]
    rw [if_pos (Int32.le_refl _)]
theorem K_toTell {F : Nat} (hF : 2000 ≤ F) {g : am_G} {w : am_J} (hI : iv_I g w) (p : Int32) : ∃ (r : Int32), f_X7_toTell F g p = some r ∧ f_X8_toTell F g p = some r := by
  obtain ⟨len, N, A, nx, fl, hX, hW, -⟩ := hI
  have hN := hW.1
  have hp := pw_le hN
  have hpos : 0 < 2 ^ N := Nat.two_pow_pos N
  have hm : nI (2 ^ N) - (1 : Int32) = nI (2 ^ N - 1) := pu_sub (a := 2 ^ N) (b := 1) (by omega)
  have hin : f_X8_in (Int32.toInt64 p) (0 : Int64) (Int32.toInt64 (((1 : Int32) <<< ((g 26 0) &&& 31)) - (1 : Int32))) = some (if 0 ≤ p ∧ p ≤ nI (2 ^ N - 1) then 1 else 0) := by
    rw [hW.2.2.1, bi_shl N (by omega), hm, pu_l0, pu_in64]
  rw [f_X7_toTell, f_X8_toTell, hin, f_X2_sets, hW.2.1, bi_shl N (by omega)]
  rcases pu_cases p (2 ^ N) (by omega) with h | ⟨h, h2⟩ | ⟨t, ht, rfl⟩
  · refine ⟨-2, by rw [if_pos h], ?_⟩
    rw [if_neg (fun z => Int32.lt_irrefl (Int32.lt_of_lt_of_le h z.1))]
    rfl
  · have hlt : ¬ p < nI (2 ^ N) := fun z => Int32.lt_irrefl (Int32.lt_of_lt_of_le z h2)
    refine ⟨-2, by rw [if_neg h, Option.bind_some, if_neg hlt], ?_⟩
    have : ¬ p ≤ nI (2 ^ N - 1) := fun z => by
      have := (pu_le (by omega) (by omega)).mp (Int32.le_trans h2 z)
      omega
    rw [if_neg (fun z => this z.2)]
    rfl
  · refine ⟨pu_fo (to_st g N t) 0 (2 ^ N) (-9), ?_, ?_⟩
    · rw [if_neg (pu_nn (by omega)), Option.bind_some, if_pos (nI_lt ht (by omega)), to_c (by omega) hW ht]
    · rw [if_pos ⟨Int32.not_lt.mp (pu_nn (by omega)), nI_le (by omega) (by omega)⟩, Option.bind_some, if_neg pb_10, to_rr (by omega) hW ht]
