/-! CODES -/
def cd_d (s c : Nat) : Nat := c / 4 ^ (3 - s) % 4
theorem cd_by0 : ∀ c, c < 256 → ∀ s, s < 4 → f_X8_wordBy (nI c) (nI s) = some (nI (cd_d s c)) := by decide +kernel
def cd_q (g : am_G) (fl s v : Nat) : Bool := iv_fa g s v fl
theorem fa_iff (g : am_G) (s v : Nat) : ∀ n, iv_fa g s v n = true ↔ ∀ k, k < n → iv_f g k s v = true
  | 0 => by
    simp only [iv_fa, true_iff]
    intro k hk
    omega
  | n + 1 => by
    simp only [iv_fa, Bool.and_eq_true, fa_iff g s v n]
    constructor
    · rintro ⟨h, h'⟩ k hk
      by_cases hkn : k = n
      · rw [hkn]; exact h'
      · exact h k (by omega)
    · intro h
      exact ⟨fun k hk => h k (by omega), h n (by omega)⟩
def cd_c (g : am_G) (fl c : Nat) : Bool := cd_q g fl 0 (cd_d 0 c) && cd_q g fl 1 (cd_d 1 c) && cd_q g fl 2 (cd_d 2 c) && cd_q g fl 3 (cd_d 3 c)
def cd_k (g : am_G) (c k : Nat) : Bool := iv_f g k 0 (cd_d 0 c) && iv_f g k 1 (cd_d 1 c) && iv_f g k 2 (cd_d 2 c) && iv_f g k 3 (cd_d 3 c)
theorem cd_all (g : am_G) (fl c : Nat) : af_a (cd_k g c) 0 fl = cd_c g fl c := by
  rw [Bool.eq_iff_iff, af_iff]
  simp only [cd_k, cd_c, cd_q, Bool.and_eq_true, fa_iff]
  constructor
  · intro h
    exact ⟨⟨⟨fun k hk => (h k (by omega) (by omega)).1.1.1, fun k hk => (h k (by omega) (by omega)).1.1.2⟩, fun k hk => (h k (by omega) (by omega)).1.2⟩, fun k hk => (h k (by omega) (by omega)).2⟩
  · rintro ⟨⟨⟨h0, h1⟩, h2⟩, h3⟩ k _ hk
    exact ⟨⟨⟨h0 k (by omega), h1 k (by omega)⟩, h2 k (by omega)⟩, h3 k (by omega)⟩
theorem cd_k1 {g : am_G} {c k s : Nat} (hs : s < 4) (h37 : g 37 k = nI s) : cd_k g c k = iv_f g k s (cd_d s c) := by
  have hne : ∀ t, t < 4 → t ≠ s → ∀ v, iv_f g k t v = true := fun t ht hts v => by
    unfold iv_f
    rw [decide_eq_true_iff]
    intro e
    rw [h37] at e
    exact absurd ((pu_eq (by omega) (by omega)).mp e) (Ne.symm hts)
  have : s = 0 ∨ s = 1 ∨ s = 2 ∨ s = 3 := by omega
  unfold cd_k
  rcases this with rfl | rfl | rfl | rfl
  · rw [hne 1 (by decide) (by decide), hne 2 (by decide) (by decide), hne 3 (by decide) (by decide)]; simp
  · rw [hne 0 (by decide) (by decide), hne 2 (by decide) (by decide), hne 3 (by decide) (by decide)]; simp
  · rw [hne 0 (by decide) (by decide), hne 1 (by decide) (by decide), hne 3 (by decide) (by decide)]; simp
  · rw [hne 0 (by decide) (by decide), hne 1 (by decide) (by decide), hne 2 (by decide) (by decide)]; simp
theorem cd_lt (s c : Nat) : cd_d s c < 4 := Nat.mod_lt _ (by decide)
theorem cd_is {F : Nat} (hF : 8 ≤ F) {g : am_G} {fl c : Nat} (hFo : iv_F g fl) (hc : c < 256) : f_X8_isCode F g (nI c) = some (if cd_c g fl c then 1 else 0) := by
  obtain ⟨b1, b2, b3, b4, b5⟩ := hFo
  have key : ∀ (d i n : Nat) (b : Bool), i + d = fl → d < n → f_X8_isCode_4 F g (nI c) n (if b then 1 else 0) (nI i) = some (if b && af_a (cd_k g c) i d then 1 else 0) := by
    intro d
    induction d with
    | zero =>
      intro i n b hi hn
      obtain ⟨n, rfl⟩ : ∃ m, n = m + 1 := ⟨n - 1, by omega⟩
      have : i = fl := by omega
      subst this
      rw [f_X8_isCode_4.eq_2, b3, if_pos (Int32.le_refl _)]
      cases b <;> rfl
    | succ d ih =>
      intro i n b hi hn
      obtain ⟨n, rfl⟩ : ∃ m, n = m + 1 := ⟨n - 1, by omega⟩
      have i0 := ih (i + 1) n false (by omega) (by omega)
      have i1 := ih (i + 1) n true (by omega) (by omega)
      simp only [Bool.false_and, Bool.true_and, if_true, Bool.false_eq_true, if_false] at i0 i1
      obtain ⟨⟨s, hs, h37⟩, ⟨v, hv, h38⟩, h39⟩ := b4 i (by omega)
      have h6 : am_in (nI i) 6 := pb_i6 (by omega)
      have hmod : (nI v + (1 : Int32)) - (nI v + (1 : Int32)) / (4 : Int32) * (4 : Int32) = nI ((v + 1) % 4) := by
        rw [show nI v + (1 : Int32) = nI (v + 1) from nI_add v 1]
        exact pu_rem (a := v + 1) (b := 4) (by omega) (by decide) (by decide)
      have hk : cd_k g c i = decide (nI (cd_d s c) = nI v ∨ (g 39 i = 0 ∧ nI (cd_d s c) = nI ((v + 1) % 4))) := by
        rw [cd_k1 hs h37]
        unfold iv_f
        rw [h37, h38, pu_tn (by omega)]
        rw [decide_eq_decide]
        constructor
        · intro h
          rcases h rfl with z | z
          · exact Or.inl z.symm
          · exact Or.inr z
        · rintro (z | z) -
          · exact Or.inl z.symm
          · exact Or.inr z
      rw [f_X8_isCode_4.eq_2, b3, if_neg (by rw [pu_le (by omega) (by omega)]; omega), if_pos h6]
      simp only [pu_tn (show i < 2147483648 by omega), h37, h38, cd_by0 c hc s hs, Option.bind_some, f_X8_isCode_67, f_X8_isCode_63, f_X8_isCode_68, show nI i + (1 : Int32) = nI (i + 1) from nI_add i 1, i0, i1, hmod, if_pos h6]
      simp only [af_a, hk]
      cases b with
      | false => rfl
      | true =>
        rw [if_neg (show ¬ (if true = true then (1 : Int32) else 0) = 0 from pb_10)]
        by_cases e1 : nI (cd_d s c) = nI v
        · rw [if_pos e1]
          simp [e1]
        · rw [if_neg e1]
          by_cases e2 : g 39 i = 0
          · rw [if_pos e2]
            by_cases e3 : nI (cd_d s c) = nI ((v + 1) % 4)
            · rw [if_pos e3]
              simp [e2, e3]
            · rw [if_neg e3]
              simp [e1, e3]
          · rw [if_neg e2]
            simp [e1, e2]
  have := key fl 0 F true (by omega) (by omega)
  rw [cd_all] at this
  exact this
def cd_row (c : Nat) : Int32 := 1000 * nI (cd_d 0 c) + 100 * nI (cd_d 1 c) + 10 * nI (cd_d 2 c) + nI (cd_d 3 c)
theorem sm_last (v : Nat → Nat) : ∀ d i, sm v i (d + 1) = sm v i d + v (i + d)
  | 0, i => by simp [sm]
  | d + 1, i => by
    have := sm_last v d (i + 1)
    rw [show sm v i (d + 1 + 1) = v i + sm v (i + 1) (d + 1) from rfl, this, show sm v i (d + 1) = v i + sm v (i + 1) d from rfl, show i + 1 + d = i + (d + 1) by omega]
    omega
def cd_n (g : am_G) (fl c : Nat) : Nat := if cd_c g fl c = true then 1 else 0
def cd_st (g : am_G) (fl c : Nat) (s : Int32 × Int32) : Int32 × Int32 := if cd_c g fl c = true then (s.1 + 1, if s.1 = 0 then cd_row c else s.2) else s
def cd_P (g : am_G) (fl i : Nat) (s : Int32 × Int32) : Prop := s.1 = nI (sm (cd_n g fl) 0 i) ∧ sm (cd_n g fl) 0 i ≤ i ∧ ((s.2 = -9 ∧ sm (cd_n g fl) 0 i = 0 ∧ ∀ c, c < i → cd_c g fl c = false) ∨ ∃ c, c < i ∧ cd_c g fl c = true ∧ (∀ e, e < c → cd_c g fl e = false) ∧ s.2 = cd_row c ∧ 0 < sm (cd_n g fl) 0 i)
theorem cd_stP {g : am_G} {fl i : Nat} {s : Int32 × Int32} (hi : i < 256) (h : cd_P g fl i s) : cd_P g fl (i + 1) (cd_st g fl i s) := by
  obtain ⟨h1, h2, h3⟩ := h
  have hl := sm_last (cd_n g fl) i 0
  rw [Nat.zero_add] at hl
  unfold cd_st
  by_cases hc : cd_c g fl i = true
  · have hn : cd_n g fl i = 1 := if_pos hc
    rw [hn] at hl
    rw [if_pos hc]
    refine ⟨?_, by omega, Or.inr ?_⟩
    · rw [hl, h1]
      exact nI_add _ 1
    · rcases h3 with ⟨a1, a2, a3⟩ | ⟨c, a1, a2, a3, a4, a5⟩
      · refine ⟨i, by omega, hc, a3, ?_, by omega⟩
        show (if s.1 = 0 then _ else _) = _
        rw [if_pos (by rw [h1, a2]; rfl)]
      · refine ⟨c, by omega, a2, a3, ?_, by omega⟩
        show (if s.1 = 0 then _ else _) = _
        rw [if_neg, a4]
        rw [h1]
        intro z
        have := (pu_eq (b := 0) (by omega) (by decide)).mp z
        omega
  · have hn : cd_n g fl i = 0 := if_neg hc
    rw [hn] at hl
    rw [if_neg hc]
    refine ⟨by rw [hl]; exact h1, by omega, ?_⟩
    rw [hl]
    rcases h3 with ⟨a1, a2, a3⟩ | ⟨c, a1, a2, a3, a4, a5⟩
    · refine Or.inl ⟨a1, a2, fun c hc2 => ?_⟩
      by_cases e : c = i
      · rw [e]; simpa using hc
      · exact a3 c (by omega)
    · exact Or.inr ⟨c, by omega, a2, a3, a4, a5⟩
theorem cd_ref {F : Nat} (hF : 300 ≤ F) {g : am_G} {fl : Nat} (hFo : iv_F g fl) (p : Int32) : ∃ s, cd_P g fl 256 s ∧ f_X8_codes F g p = if p = 0 then some s.1 else some s.2 := by
  have key := pu_loop (fun n i (s : Int32 × Int32) => f_X8_codes_8 F g p (fun l2 l3 => f_X8_codes_80 F g p (l2) (l3)) n s.1 s.2 (nI i)) (fun s => if p = 0 then some s.1 else some s.2) (cd_st g fl) 256 (cd_P g fl) (fun n i s hi hs => ⟨?_, cd_stP hi hs⟩) (fun n s _ => ?_) 256 0 (0, -9) F (by omega) (by omega) ⟨rfl, Nat.le_refl 0, Or.inl ⟨rfl, rfl, fun c hc => absurd hc (Nat.not_lt_zero c)⟩⟩
  · exact ⟨_, key.2, key.1⟩
  · show f_X8_codes_8 F g p _ (n + 1) s.1 s.2 (nI i) = f_X8_codes_8 F g p _ n (cd_st g fl i s).1 (cd_st g fl i s).2 (nI (i + 1))
    have w0 : f_X8_wordBy (nI i) 0 = some (nI (cd_d 0 i)) := cd_by0 i hi 0 (by decide)
    have w1 : f_X8_wordBy (nI i) 1 = some (nI (cd_d 1 i)) := cd_by0 i hi 1 (by decide)
    have w2 : f_X8_wordBy (nI i) 2 = some (nI (cd_d 2 i)) := cd_by0 i hi 2 (by decide)
    have w3 : f_X8_wordBy (nI i) 3 = some (nI (cd_d 3 i)) := cd_by0 i hi 3 (by decide)
    rw [f_X8_codes_8.eq_2, if_neg (show ¬ (256 : Int32) ≤ nI i from nI_ge (b := 256) hi (by decide)), cd_is (by omega) hFo hi]
    simp only [Option.bind_some, w0, w1, w2, w3, f_X8_codes_74, f_X8_codes_70, show nI i + (1 : Int32) = nI (i + 1) from nI_add i 1]
    unfold cd_st cd_row
    by_cases hc : cd_c g fl i = true
    · rw [if_pos hc, if_neg pb_10, if_pos hc]
      by_cases h0 : s.1 = 0
      · simp only [h0, if_pos]
      · simp only [if_neg h0]
    · rw [if_neg hc, if_pos rfl, if_neg hc]
  · show f_X8_codes_8 F g p _ (n + 1) s.1 s.2 (nI 256) = _
    rw [f_X8_codes_8.eq_2, if_pos (show (256 : Int32) ≤ nI 256 from by decide)]
    rfl
def s4 (f : Nat → Nat) : Nat := f 0 + f 1 + f 2 + f 3
theorem sm_add (v : Nat → Nat) : ∀ a b i, sm v i (a + b) = sm v i a + sm v (i + a) b
  | 0, b, i => by simp [sm]
  | a + 1, b, i => by
    rw [show a + 1 + b = (a + b) + 1 by omega]
    show v i + sm v (i + 1) (a + b) = v i + sm v (i + 1) a + sm v (i + (a + 1)) b
    rw [sm_add v a b (i + 1), show i + 1 + a = i + (a + 1) by omega]
    omega
theorem sm_4 (v : Nat → Nat) (i b : Nat) : sm v i (4 * b) = s4 (fun j => sm v (i + j * b) b) := by
  have e : 4 * b = b + (b + (b + b)) := by omega
  rw [e, sm_add, sm_add, sm_add]
  simp only [s4]
  rw [show i + 0 * b = i by omega, show i + 1 * b = i + b by omega, show i + 2 * b = i + b + b by omega, show i + 3 * b = i + b + b + b by omega]
  omega
theorem s4_cong {f h : Nat → Nat} (e : ∀ j, j < 4 → f j = h j) : s4 f = s4 h := by
  simp only [s4, e 0 (by decide), e 1 (by decide), e 2 (by decide), e 3 (by decide)]
theorem s4_mul (k : Nat) (f : Nat → Nat) : s4 (fun j => k * f j) = k * s4 f := by
  simp only [s4, Nat.mul_add]
theorem s4_mulr (k : Nat) (f : Nat → Nat) : s4 (fun j => f j * k) = s4 f * k := by
  simp only [s4, Nat.add_mul]
theorem sm_256 (v : Nat → Nat) : sm v 0 256 = s4 (fun a => s4 fun b => s4 fun c => s4 fun d => v (64 * a + 16 * b + 4 * c + d)) := by
  rw [show 256 = 4 * 64 from rfl, sm_4]
  refine s4_cong fun a _ => ?_
  rw [show 64 = 4 * 16 from rfl, sm_4]
  refine s4_cong fun b _ => ?_
  rw [show 16 = 4 * 4 from rfl, sm_4]
  refine s4_cong fun c _ => ?_
  rw [show 4 = 4 * 1 from rfl, sm_4]
  refine s4_cong fun d _ => ?_
  show v _ + 0 = _
  rw [Nat.add_zero]
  congr 1
  omega
def cd_m (g : am_G) (fl s : Nat) : Nat := s4 (fun v => (cd_q g fl s v).toNat)
theorem cd_prod (g : am_G) (fl : Nat) : sm (cd_n g fl) 0 256 = cd_m g fl 0 * cd_m g fl 1 * cd_m g fl 2 * cd_m g fl 3 := by
  rw [sm_256]
  have e : ∀ a, a < 4 → ∀ b, b < 4 → ∀ c, c < 4 → ∀ d, d < 4 → cd_n g fl (64 * a + 16 * b + 4 * c + d) = (cd_q g fl 0 a).toNat * (cd_q g fl 1 b).toNat * (cd_q g fl 2 c).toNat * (cd_q g fl 3 d).toNat := fun a ha b hb c hc d hd => by
    have d0 : cd_d 0 (64 * a + 16 * b + 4 * c + d) = a := by simp only [cd_d]; omega
    have d1 : cd_d 1 (64 * a + 16 * b + 4 * c + d) = b := by simp only [cd_d]; omega
    have d2 : cd_d 2 (64 * a + 16 * b + 4 * c + d) = c := by simp only [cd_d]; omega
    have d3 : cd_d 3 (64 * a + 16 * b + 4 * c + d) = d := by simp only [cd_d]; omega
    unfold cd_n cd_c
    rw [d0, d1, d2, d3]
    cases cd_q g fl 0 a <;> cases cd_q g fl 1 b <;> cases cd_q g fl 2 c <;> cases cd_q g fl 3 d <;> rfl
  have : ∀ a, a < 4 → (s4 fun b => s4 fun c => s4 fun d => cd_n g fl (64 * a + 16 * b + 4 * c + d)) = (cd_q g fl 0 a).toNat * (cd_m g fl 1 * cd_m g fl 2 * cd_m g fl 3) := fun a ha => by
    have h1 : ∀ b, b < 4 → (s4 fun c => s4 fun d => cd_n g fl (64 * a + 16 * b + 4 * c + d)) = (cd_q g fl 0 a).toNat * (cd_q g fl 1 b).toNat * (cd_m g fl 2 * cd_m g fl 3) := fun b hb => by
      have h2 : ∀ c, c < 4 → (s4 fun d => cd_n g fl (64 * a + 16 * b + 4 * c + d)) = (cd_q g fl 0 a).toNat * (cd_q g fl 1 b).toNat * (cd_q g fl 2 c).toNat * cd_m g fl 3 := fun c hc => by
        rw [s4_cong (fun d hd => e a ha b hb c hc d hd), s4_mul]
        rfl
      rw [s4_cong h2, s4_mulr, s4_mul, Nat.mul_assoc]
      rfl
    rw [s4_cong h1, s4_mulr, s4_mul, Nat.mul_assoc, Nat.mul_assoc]
    rfl
  rw [s4_cong this, s4_mulr, Nat.mul_assoc, Nat.mul_assoc, Nat.mul_assoc]
  rfl
theorem pc_4 (q : Nat → Bool) : pc (iv_bits q 4) = s4 (fun v => (q v).toNat) ∧ iv_bits q 4 < 16 := by
  simp only [iv_bits, s4]
  generalize q 0 = a0
  generalize q 1 = a1
  generalize q 2 = a2
  generalize q 3 = a3
  revert a0 a1 a2 a3
  decide +kernel
theorem cd_bit {g : am_G} {fl s : Nat} (hFo : iv_F g fl) (hs : s < 4) : f_J6_bitCount_0f7a4 (g 23 s) = some (nI (cd_m g fl s)) := by
  rw [hFo.2.2.2.2 s hs]
  obtain ⟨e1, e2⟩ := pc_4 (fun v => iv_fa g s v fl)
  rw [pc_bit _ (by omega), e1]
  rfl
theorem cd_mle (g : am_G) (fl s : Nat) : cd_m g fl s ≤ 4 := by
  have h : ∀ b : Bool, b.toNat ≤ 1 := by decide
  have := h (cd_q g fl s 0)
  have := h (cd_q g fl s 1)
  have := h (cd_q g fl s 2)
  have := h (cd_q g fl s 3)
  simp only [cd_m, s4]
  omega
theorem cd_left {F : Nat} (hF : 7 ≤ F) {g : am_G} {fl : Nat} (hFo : iv_F g fl) : f_X1_codesLeft F g = some (nI (sm (cd_n g fl) 0 256)) := by
  obtain ⟨n, rfl⟩ : ∃ n, F = n + 5 := ⟨F - 5, by omega⟩
  have c : ∀ (G i n x : Nat), i < 4 → f_X1_codesLeft_4 G g (n + 1) (nI x) (nI i) = f_X1_codesLeft_4 G g n (nI (x * cd_m g fl i)) (nI (i + 1)) := fun G i n x hi => by
    rw [f_X1_codesLeft_4.eq_2, if_neg (show ¬ (4 : Int32) ≤ nI i from nI_ge (b := 4) hi (by decide)), if_pos ((pu_in (by omega)).mpr hi), pu_tn (by omega), cd_bit hFo hi, Option.bind_some, pu_mul, show nI i + (1 : Int32) = nI (i + 1) from nI_add i 1]
  unfold f_X1_codesLeft
  refine (c (n + 5) 0 (n + 4) 1 (by omega)).trans ?_
  rw [c (n + 5) 1 (n + 3) _ (by omega), c (n + 5) 2 (n + 2) _ (by omega), c (n + 5) 3 (n + 1) _ (by omega), f_X1_codesLeft_4.eq_2, if_pos (show (4 : Int32) ≤ nI (3 + 1) from by decide), cd_prod, Nat.one_mul]
def cd_z (m : Nat) : Nat := if m.testBit 0 then 0 else if m.testBit 1 then 1 else if m.testBit 2 then 2 else 3
theorem cd_ntz : ∀ m, m < 16 → m ≠ 0 → f_J6_numberOfTrailingZeros_0f7a4 (nI m) = some (nI (cd_z m)) ∧ cd_z m < 4 ∧ m.testBit (cd_z m) = true ∧ ∀ v, v < cd_z m → m.testBit v = false := by decide +kernel
def cd_zz (g : am_G) (fl s : Nat) : Nat := cd_z (iv_bits (fun v => iv_fa g s v fl) 4)
theorem cd_zs {g : am_G} {fl s : Nat} (hFo : iv_F g fl) (hs : s < 4) (h : ∃ v, v < 4 ∧ cd_q g fl s v = true) : f_J6_numberOfTrailingZeros_0f7a4 (g 23 s) = some (nI (cd_zz g fl s)) ∧ cd_zz g fl s < 4 ∧ cd_q g fl s (cd_zz g fl s) = true ∧ ∀ v, v < 4 → cd_q g fl s v = true → cd_zz g fl s ≤ v := by
  rw [hFo.2.2.2.2 s hs]
  obtain ⟨e1, e2⟩ := pc_4 (fun v => iv_fa g s v fl)
  have ht := bi_test (fun v => iv_fa g s v fl) 4
  obtain ⟨v, hv, hq⟩ := h
  obtain ⟨c1, c2, c3, c4⟩ := cd_ntz _ e2 (fun e => by
    have := ht v
    rw [e] at this
    simp only [Nat.zero_testBit, hv, decide_true, Bool.true_and] at this
    have hq' : iv_fa g s v fl = true := hq
    rw [hq'] at this
    cases this)
  refine ⟨c1, c2, ?_, fun u hu hqu => ?_⟩
  · rw [ht] at c3
    simp only [Bool.and_eq_true] at c3
    exact c3.2
  · refine Nat.le_of_not_lt fun hlt => ?_
    have := c4 u hlt
    rw [ht] at this
    simp only [hu, decide_true, Bool.true_and] at this
    have hq' : iv_fa g s u fl = true := hqu
    rw [hq'] at this
    cases this
theorem cd_first {F : Nat} (hF : 7 ≤ F) {g : am_G} {fl : Nat} (hFo : iv_F g fl) {c : Nat} (hc : c < 256) (hC : cd_c g fl c = true) (hle : ∀ e, e < c → cd_c g fl e = false) : f_X1_firstCode_14 F g F 0 0 = some (cd_row c) := by
  unfold cd_c at hC
  simp only [Bool.and_eq_true] at hC
  obtain ⟨⟨⟨q0, q1⟩, q2⟩, q3⟩ := hC
  obtain ⟨a0, b0, c0, d0⟩ := cd_zs hFo (s := 0) (by decide) ⟨_, cd_lt _ _, q0⟩
  obtain ⟨a1, b1, c1, d1⟩ := cd_zs hFo (s := 1) (by decide) ⟨_, cd_lt _ _, q1⟩
  obtain ⟨a2, b2, c2, d2⟩ := cd_zs hFo (s := 2) (by decide) ⟨_, cd_lt _ _, q2⟩
  obtain ⟨a3, b3, c3, d3⟩ := cd_zs hFo (s := 3) (by decide) ⟨_, cd_lt _ _, q3⟩
  have l0 := d0 _ (cd_lt _ _) q0
  have l1 := d1 _ (cd_lt _ _) q1
  have l2 := d2 _ (cd_lt _ _) q2
  have l3 := d3 _ (cd_lt _ _) q3
  obtain ⟨z0, hz0⟩ : ∃ z, z = cd_zz g fl 0 := ⟨_, rfl⟩
  obtain ⟨z1, hz1⟩ : ∃ z, z = cd_zz g fl 1 := ⟨_, rfl⟩
  obtain ⟨z2, hz2⟩ : ∃ z, z = cd_zz g fl 2 := ⟨_, rfl⟩
  obtain ⟨z3, hz3⟩ : ∃ z, z = cd_zz g fl 3 := ⟨_, rfl⟩
  rw [← hz0] at a0 b0 c0 l0
  rw [← hz1] at a1 b1 c1 l1
  rw [← hz2] at a2 b2 c2 l2
  rw [← hz3] at a3 b3 c3 l3
  have e0 : cd_d 0 (64 * z0 + 16 * z1 + 4 * z2 + z3) = z0 := by simp only [cd_d]; omega
  have e1 : cd_d 1 (64 * z0 + 16 * z1 + 4 * z2 + z3) = z1 := by simp only [cd_d]; omega
  have e2 : cd_d 2 (64 * z0 + 16 * z1 + 4 * z2 + z3) = z2 := by simp only [cd_d]; omega
  have e3 : cd_d 3 (64 * z0 + 16 * z1 + 4 * z2 + z3) = z3 := by simp only [cd_d]; omega
  have hcs : c = 64 * cd_d 0 c + 16 * cd_d 1 c + 4 * cd_d 2 c + cd_d 3 c := by simp only [cd_d]; omega
  have hz : cd_c g fl (64 * z0 + 16 * z1 + 4 * z2 + z3) = true := by
    unfold cd_c
    rw [e0, e1, e2, e3, c0, c1, c2, c3]
    rfl
  have hge : ¬ (64 * z0 + 16 * z1 + 4 * z2 + z3 < c) := fun h => by
    have := hle _ h
    rw [hz] at this
    cases this
  have hce : c = 64 * z0 + 16 * z1 + 4 * z2 + z3 := by omega
  unfold cd_row
  rw [hce, e0, e1, e2, e3]
  obtain ⟨n, rfl⟩ : ∃ n, F = n + 5 := ⟨F - 5, by omega⟩
  have cc : ∀ (G i n z : Nat) (x : Int32), i < 4 → f_J6_numberOfTrailingZeros_0f7a4 (g 23 i) = some (nI z) → f_X1_firstCode_14 G g (n + 1) x (nI i) = f_X1_firstCode_14 G g n (10 * x + nI z) (nI (i + 1)) := fun G i n z x hi hq => by
    rw [f_X1_firstCode_14.eq_2, if_neg (show ¬ (4 : Int32) ≤ nI i from nI_ge (b := 4) hi (by decide)), if_pos ((pu_in (by omega)).mpr hi), pu_tn (by omega), hq, Option.bind_some, show nI i + (1 : Int32) = nI (i + 1) from nI_add i 1]
  refine (cc (n + 5) 0 (n + 4) z0 0 (by omega) a0).trans ?_
  rw [cc (n + 5) 1 (n + 3) z1 _ (by omega) a1, cc (n + 5) 2 (n + 2) z2 _ (by omega) a2, cc (n + 5) 3 (n + 1) z3 _ (by omega) a3, f_X1_firstCode_14.eq_2, if_pos (show (4 : Int32) ≤ nI (3 + 1) from by decide), wf_e z0 b0 z1 b1 z2 b2 z3 b3]
theorem K_codes {F : Nat} (hF : 2000 ≤ F) {g : am_G} {w : am_J} (hI : iv_I g w) (b : Int32) (hb : b = 0 ∨ b = 1) : ∃ (r : Int32), f_X7_codes F g b = some r ∧ f_X8_codes F g b = some r := by
  obtain ⟨len, N, A, nx, fl, hX, hW, hS, hA, hSl, hFo, hw⟩ := hI
  obtain ⟨s, ⟨p1, p2, p3⟩, e⟩ := cd_ref (F := F) (by omega) hFo b
  rw [e]
  unfold f_X7_codes
  by_cases h0 : b = 0
  · rw [if_pos h0, if_pos h0, cd_left (by omega) hFo]
    exact ⟨_, rfl, by rw [p1]⟩
  · rw [if_neg h0, if_neg h0]
    unfold f_X1_firstCode
    rw [cd_left (by omega) hFo, Option.bind_some]
    rcases p3 with ⟨a1, a2, a3⟩ | ⟨c, a1, a2, a3, a4, a5⟩
    · rw [a2]
      exact ⟨-9, rfl, by rw [a1]⟩
    · rw [if_neg (show ¬ nI (sm (cd_n g fl) 0 256) = (0 : Int32) from fun z => by have := (pu_eq (b := 0) (by omega) (by decide)).mp z; omega), cd_first (by omega) hFo a1 a2 a3]
      exact ⟨_, rfl, by rw [a4]⟩
