/-! WAYS: the reference lays them all -/
theorem wr_six {F n : Nat} (hF : 10 ≤ F) (hn : n ≤ 5) : f_X8_sixes F (nI n) = some (nI (6 ^ n)) := by
  have key : ∀ (d i m : Nat), i + d = n → d < m → f_X8_sixes_4 F (nI n) m (nI (6 ^ i)) (nI i) = some (nI (6 ^ n)) := by
    intro d
    induction d with
    | zero =>
      intro i m hi hm
      obtain ⟨m, rfl⟩ : ∃ k, m = k + 1 := ⟨m - 1, by omega⟩
      have : i = n := by omega
      subst this
      rw [f_X8_sixes_4.eq_2, if_pos (Int32.le_refl _)]
    | succ d ih =>
      intro i m hi hm
      obtain ⟨m, rfl⟩ : ∃ k, m = k + 1 := ⟨m - 1, by omega⟩
      rw [f_X8_sixes_4.eq_2, if_neg (by rw [pu_le (by omega) (by omega)]; omega), show nI (6 ^ i) * (6 : Int32) = nI (6 ^ i * 6) from pu_mul (6 ^ i) 6, show nI i + (1 : Int32) = nI (i + 1) from nI_add i 1, ← Nat.pow_succ]
      exact ih (i + 1) m (by omega) (by omega)
  exact key n 0 F (by omega) (by omega)
theorem wr_p6 {n : Nat} (hn : n ≤ 5) : 1 ≤ 6 ^ n ∧ 6 ^ n ≤ 7776 := ⟨Nat.one_le_pow _ _ (by decide), (Nat.pow_le_pow_right (by decide) hn : 6 ^ n ≤ 6 ^ 5)⟩
theorem wr_bet {F n k way : Nat} (hF : 10 ≤ F) (hn : n ≤ 5) (hk : k < n) (hw : way < 2147483648) : f_X8_between F (nI way) (nI n) (nI k) = some (nI (way / 6 ^ (n - 1 - k) % 6)) := by
  obtain ⟨h1, h2⟩ := wr_p6 (n := n - 1 - k) (by omega)
  have hq : way / 6 ^ (n - 1 - k) ≤ way := Nat.div_le_self _ _
  unfold f_X8_between
  rw [show nI n - (1 : Int32) = nI (n - 1) from pu_sub (a := n) (b := 1) (by omega), pu_sub (show k ≤ n - 1 by omega), wr_six hF (by omega), Option.bind_some, if_pos (show ¬ nI (6 ^ (n - 1 - k)) = (0 : Int32) from fun z => by have := (pu_eq (b := 0) (by omega) (by decide)).mp z; omega), pu_div hw (by omega) (by omega)]
  congr 1
  exact pu_rem (a := way / 6 ^ (n - 1 - k)) (b := 6) (by omega) (by decide) (by decide)
theorem wy_ok.drop {S : Nat → Nat → Bool} {p : Nat → Bool} {N f : Nat} : ∀ (j : Nat) {L : List Nat}, wy_ok S p N f L → wy_ok S p N f (L.drop j)
  | 0, L, h => by simpa using h
  | j + 1, [], h => by simpa using h
  | j + 1, b :: L, h => by
    rw [List.drop_succ_cons]
    exact wy_ok.drop j h.1
theorem wy_Ldrop : ∀ (j n w : Nat), j ≤ n → (wy_L n w).drop j = wy_L (n - j) (w / 6 ^ j)
  | 0, n, w, _ => by simp
  | j + 1, 0, w, h => by omega
  | j + 1, n + 1, w, h => by
    rw [wy_L, List.drop_succ_cons, wy_Ldrop j n (w / 6) (by omega), Nat.div_div_eq_div_mul, show n + 1 - (j + 1) = n - j by omega, Nat.pow_succ, Nat.mul_comm 6]
theorem wr_hours {F : Nat} (hF : 10 ≤ F) {g : am_G} {N f t D n way : Nat} (hW : iv_W g N) (hf : f < N) (ht : t < N) (hD : D < 64) (hn : n ≤ 4) (hway : way < 6 ^ n) :
    (wy_V (iv_see g) (wy_p g D) N f t (wy_L n way) ∧ f_X8_hoursBy F g (nI f) (nI t) (nI way) (nI n) (nI D) = some (nI (wy_h (wy_c g) (wy_L n way)))) ∨ (¬ wy_V (iv_see g) (wy_p g D) N f t (wy_L n way) ∧ f_X8_hoursBy F g (nI f) (nI t) (nI way) (nI n) (nI D) = some (-9)) := by
  have hN := hW.1
  have hw31 : way < 2147483648 := by
    have := (wr_p6 (n := n) (by omega)).2
    omega
  have key : ∀ (d k m M : Nat) (P : List Nat), k + d = n → d < m → P = wy_L k (way / 6 ^ (n - k)) → M < 64 → (∀ b, b < 6 → (M.testBit b = true ↔ (b = f ∨ b = t ∨ b ∈ P))) → wy_ok (iv_see g) (wy_p g D) N f P → t ∉ P →
      (wy_V (iv_see g) (wy_p g D) N f t (wy_L n way) ∧ f_X8_hoursBy_18 F g (nI f) (nI t) (nI way) (nI n) (nI D) (fun l6 l8 => f_X8_hoursBy_129 F g (nI f) (nI t) (nI way) (nI n) (nI D) (l6) (l8)) m (nI (wy_h (wy_c g) P)) (nI M) (nI (wy_l f P)) (nI k) = some (nI (wy_h (wy_c g) (wy_L n way)))) ∨ (¬ wy_V (iv_see g) (wy_p g D) N f t (wy_L n way) ∧ f_X8_hoursBy_18 F g (nI f) (nI t) (nI way) (nI n) (nI D) (fun l6 l8 => f_X8_hoursBy_129 F g (nI f) (nI t) (nI way) (nI n) (nI D) (l6) (l8)) m (nI (wy_h (wy_c g) P)) (nI M) (nI (wy_l f P)) (nI k) = some (-9)) := by
    intro d
    induction d with
    | zero =>
      intro k m M P hk hm hP hM hbits hok htP
      obtain ⟨m, rfl⟩ : ∃ j, m = j + 1 := ⟨m - 1, by omega⟩
      have : k = n := by omega
      subst this
      rw [Nat.sub_self, Nat.pow_zero, Nat.div_one] at hP
      have hl6 : wy_l f P < 6 := by
        cases hPc : P with
        | nil => show f < 6; omega
        | cons b L =>
          show b < 6
          have := hok.nodup.2.2 b (by rw [hPc]; exact List.mem_cons_self)
          omega
      rw [f_X8_hoursBy_18.eq_2, if_pos (Int32.le_refl _)]
      simp only [f_X8_hoursBy_129, pb_sees8 (show t < 6 by omega) hl6, Option.bind_some]
      by_cases hs : iv_see g t (wy_l f P) = true
      · left
        refine ⟨hP ▸ ⟨hok, htP, hs⟩, ?_⟩
        rw [if_pos hs, if_neg pb_10, hP]
      · right
        refine ⟨fun z => hs (hP ▸ z.2.2), ?_⟩
        rw [if_neg hs, if_pos rfl]
    | succ d ih =>
      intro k m M P hk hm hP hM hbits hok htP
      obtain ⟨m, rfl⟩ : ∃ j, m = j + 1 := ⟨m - 1, by omega⟩
      obtain ⟨b, hb⟩ : ∃ b, b = way / 6 ^ (n - 1 - k) % 6 := ⟨_, rfl⟩
      have hb6 : b < 6 := by rw [hb]; exact Nat.mod_lt _ (by decide)
      have hPn : b :: P = wy_L (k + 1) (way / 6 ^ (n - (k + 1))) := by
        have e1 : n - (k + 1) = n - 1 - k := by omega
        have e2 : way / 6 ^ (n - 1 - k) / 6 = way / 6 ^ (n - k) := by
          rw [Nat.div_div_eq_div_mul, ← Nat.pow_succ, show (n - 1 - k).succ = n - k by omega]
        rw [wy_L, e1, e2, ← hb, ← hP]
      have hsub : wy_V (iv_see g) (wy_p g D) N f t (wy_L n way) → wy_ok (iv_see g) (wy_p g D) N f (b :: P) ∧ t ∉ b :: P := by
        intro z
        have e := wy_Ldrop (n - (k + 1)) n way (by omega)
        rw [show n - (n - (k + 1)) = k + 1 by omega, ← hPn] at e
        refine ⟨e ▸ z.1.drop _, fun q => z.2.1 ?_⟩
        rw [← e] at q
        exact List.mem_of_mem_drop q
      have hl6 : wy_l f P < 6 := by
        cases hPc : P with
        | nil => show f < 6; omega
        | cons b L =>
          show b < 6
          have := hok.nodup.2.2 b (by rw [hPc]; exact List.mem_cons_self)
          omega
      rw [f_X8_hoursBy_18.eq_2, if_neg (by rw [pu_le (by omega) (by omega)]; omega), wr_bet hF (by omega) (by omega) hw31, Option.bind_some, ← hb]
      by_cases h1 : b < N
      · rw [(pb_yes hW h1).2, Option.bind_some, if_neg pb_10]
        have hmb := bi_shr hM hb6
        simp only [f_X8_has]
        by_cases h2 : M.testBit b = true
        · right
          rw [if_pos (hmb.mpr h2), Option.bind_some, if_neg pb_10]
          refine ⟨fun z => ?_, rfl⟩
          obtain ⟨y1, y2⟩ := hsub z
          rcases (hbits b hb6).mp h2 with q | q | q
          · exact y1.2.2.1 q
          · exact y2 (by rw [q]; exact List.mem_cons_self)
          · exact y1.2.2.2.1 q
        · rw [if_neg (fun z => h2 (hmb.mp z)), Option.bind_some, if_pos rfl, if_pos (pb_i6 hb6)]
          simp only [pu_tn (show b < 2147483648 by omega)]
          have hnb : ¬ (b = f ∨ b = t ∨ b ∈ P) := fun z => h2 ((hbits b hb6).mpr z)
          by_cases h3 : g 31 b = 3
          · right
            rw [if_pos h3]
            refine ⟨fun z => ?_, rfl⟩
            have := (hsub z).1.2.2.2.2.1
            simp [wy_p, h3] at this
          · rw [if_neg h3]
            have hdb := bi_shr hD hb6
            by_cases h4 : D.testBit b = true
            · right
              rw [if_pos (hdb.mpr h4), Option.bind_some, if_neg pb_10]
              refine ⟨fun z => ?_, rfl⟩
              have := (hsub z).1.2.2.2.2.1
              simp [wy_p, h4] at this
            · rw [if_neg (fun z => h4 (hdb.mp z)), Option.bind_some, if_pos rfl, pb_sees8 hb6 hl6, Option.bind_some]
              by_cases h5 : iv_see g b (wy_l f P) = true
              · rw [if_pos h5, if_neg pb_10, if_pos (pb_i6 hb6)]
                have h4' : D.testBit b = false := by simpa using h4
                have hok' : wy_ok (iv_see g) (wy_p g D) N f (b :: P) := ⟨hok, h1, fun q => hnb (Or.inl q), fun q => hnb (Or.inr (Or.inr q)), by simp [wy_p, h3, h4'], h5⟩
                have htP' : t ∉ b :: P := by
                  intro q
                  rcases List.mem_cons.mp q with q | q
                  · exact hnb (Or.inr (Or.inl q.symm))
                  · exact htP q
                have hM' : nI M ||| ((1 : Int32) <<< (nI b &&& 31)) = nI (M ||| 2 ^ b) := by
                  rw [bi_shl b (by omega), fa_or]
                have hb2 : 2 ^ b < 64 := (Nat.pow_lt_pow_right (by decide) hb6 : 2 ^ b < 2 ^ 6)
                have hMlt : M ||| 2 ^ b < 64 := Nat.or_lt_two_pow (n := 6) hM hb2
                have hbits' : ∀ b', b' < 6 → ((M ||| 2 ^ b).testBit b' = true ↔ (b' = f ∨ b' = t ∨ b' ∈ b :: P)) := by
                  intro b' hb'
                  rw [Nat.testBit_or, Nat.testBit_two_pow, Bool.or_eq_true, hbits b' hb', decide_eq_true_iff, List.mem_cons]
                  constructor
                  · rintro ((q | q | q) | q)
                    · exact Or.inl q
                    · exact Or.inr (Or.inl q)
                    · exact Or.inr (Or.inr (Or.inr q))
                    · exact Or.inr (Or.inr (Or.inl q.symm))
                  · rintro (q | q | q | q)
                    · exact Or.inl (Or.inl q)
                    · exact Or.inl (Or.inr (Or.inl q))
                    · exact Or.inr q.symm
                    · exact Or.inl (Or.inr (Or.inr q))
                have i1 := ih (k + 1) m (M ||| 2 ^ b) (b :: P) (by omega) (by omega) hPn hMlt hbits' hok' htP'
                have e1 : nI k + (1 : Int32) = nI (k + 1) := nI_add k 1
                by_cases h6 : g 31 b = 1
                · have hc : wy_h (wy_c g) (b :: P) = wy_h (wy_c g) P + 0 := by simp [wy_h, wy_c, h6]
                  rw [hc] at i1
                  rw [if_pos h6, hM']
                  simp only [f_X8_hoursBy_116, e1, show nI (wy_h (wy_c g) P) + (0 : Int32) = nI (wy_h (wy_c g) P + 0) from nI_add _ 0]
                  exact i1
                · have hc : wy_h (wy_c g) (b :: P) = wy_h (wy_c g) P + 1 := by simp [wy_h, wy_c, h6]
                  rw [hc] at i1
                  rw [if_neg h6, hM']
                  simp only [f_X8_hoursBy_116, e1, show nI (wy_h (wy_c g) P) + (1 : Int32) = nI (wy_h (wy_c g) P + 1) from nI_add _ 1]
                  exact i1
              · right
                rw [if_neg h5, if_pos rfl]
                exact ⟨fun z => h5 (hsub z).1.2.2.2.2.2, rfl⟩
      · right
        rw [(pb_no hW (Or.inr ⟨pu_nn (by omega), nI_le (by omega) (by omega)⟩)).2, Option.bind_some, if_pos rfl]
        exact ⟨fun z => h1 (hsub z).1.2.1, rfl⟩
  have hM0 : ((1 : Int32) <<< (nI f &&& 31)) ||| ((1 : Int32) <<< (nI t &&& 31)) = nI (2 ^ f ||| 2 ^ t) := by
    rw [bi_shl f (by omega), bi_shl t (by omega), fa_or]
  have hf2 : 2 ^ f < 64 := (Nat.pow_lt_pow_right (by decide) (show f < 6 by omega) : 2 ^ f < 2 ^ 6)
  have ht2 : 2 ^ t < 64 := (Nat.pow_lt_pow_right (by decide) (show t < 6 by omega) : 2 ^ t < 2 ^ 6)
  unfold f_X8_hoursBy
  rw [hM0]
  refine key n 0 F (2 ^ f ||| 2 ^ t) [] (by omega) (by omega) rfl (Nat.or_lt_two_pow (n := 6) hf2 ht2) (fun b hb => ?_) trivial List.not_mem_nil
  rw [Nat.testBit_or, Nat.testBit_two_pow, Nat.testBit_two_pow, Bool.or_eq_true, decide_eq_true_iff, decide_eq_true_iff]
  constructor
  · rintro (q | q)
    · exact Or.inl q.symm
    · exact Or.inr (Or.inl q.symm)
  · rintro (q | q | q)
    · exact Or.inl q.symm
    · exact Or.inr q.symm
    · exact absurd q List.not_mem_nil
