/-! KNOWS -/
def kn_b (g : am_G) (N f n t : Nat) : Bool := !decide (ws_r g N 0 f t = 1000000000) && decide (ws_r g N 0 f t / 10000000 ≤ n)
theorem or_z (s : Int32) : s ||| 0 = s := by simp
section KN
variable {F : Nat} {g : am_G} {N f n : Nat} {w0 w : am_J}
theorem kn_cls (hF : 7 ≤ F) (hW : iv_W g N) (hf : f < N) (hn : n ≤ 9) (hw : wy_W (ws_r g N 0 f) w0 w) : f_X7_knows_40 F g (nI f) (nI n) F 0 0 w = some (nI (iv_bits (kn_b g N f n) N), w) := by
  have hN := hW.1
  refine bi_loop (fun m s i => f_X7_knows_40 F g (nI f) (nI n) m s i w) (fun s => some (s, w)) (kn_b g N f n) N hN (fun m i s hi => ?_) (fun m s => ?_) F hF
  · show f_X7_knows_40 F g (nI f) (nI n) (m + 1) s (nI i) w = f_X7_knows_40 F g (nI f) (nI n) m _ _ w
    have hb := ws_le (g := g) (D := 0) hN hf hi
    rw [f_X7_knows_40.eq_2, f_X2_windows, Option.bind_some, hW.2.1, if_neg (by rw [pu_le (by omega) (by omega)]; omega), wy_comes hW hw hi hb, Option.bind_some, ws_hours hW hf hw hi]
    simp only [f_X7_knows_84, show nI i + (1 : Int32) = nI (i + 1) from nI_add i 1]
    unfold kn_b
    by_cases h : ws_r g N 0 f i = 1000000000
    · rw [if_pos h, if_pos rfl]
      simp only [h, decide_true, Bool.not_true, Bool.false_and]
      rw [if_neg (by decide), or_z]
    · rw [if_neg h, if_neg pb_10, if_neg h, Option.bind_some]
      simp only [h, decide_false, Bool.not_false, Bool.true_and, decide_eq_true_iff]
      by_cases h2 : ws_r g N 0 f i / 10000000 ≤ n
      · rw [if_neg (fun z => by have := (pu_lt (by omega) (by omega)).mp z; omega), if_pos h2]
      · rw [if_pos (nI_lt (by omega) (by omega)), if_neg h2, or_z]
  · show f_X7_knows_40 F g (nI f) (nI n) (m + 1) s (nI N) w = _
    rw [f_X7_knows_40.eq_2, f_X2_windows, Option.bind_some, hW.2.1, if_pos (Int32.le_refl _)]
theorem kn_or {f i : Nat} (hf : f < 6) (p : Nat → Bool) (hi : i < 6) : nI (2 ^ f ||| iv_bits p i) ||| (if p i then (1 : Int32) <<< (nI i &&& 31) else 0) = nI (2 ^ f ||| iv_bits p (i + 1)) := by
  rw [← fa_or, ← fa_or, Int32.or_assoc, bi_step hi]
theorem kn_ref (hF : 2000 ≤ F) (hW : iv_W g N) (hf : f < N) (hn : n ≤ 9) : ∀ (d i m : Nat) (h : am_G), i + d = N → d < m → wr_e g h → ∃ h', f_X8_knows_32 F (nI f) (nI n) m (nI (2 ^ f ||| iv_bits (fun t => !decide (t = f) && kn_b g N f n t) i)) (nI i) h = some (nI (2 ^ f ||| iv_bits (fun t => !decide (t = f) && kn_b g N f n t) N), h') ∧ wr_e g h' := by
  have hN := hW.1
  intro d
  induction d with
  | zero =>
    intro i m h hi hm E
    obtain ⟨m, rfl⟩ : ∃ j, m = j + 1 := ⟨m - 1, by omega⟩
    have : i = N := by omega
    subst this
    rw [f_X8_knows_32.eq_2, (E.W hW).2.2.1, if_pos (Int32.le_refl _)]
    exact ⟨h, rfl, E⟩
  | succ d ih =>
    intro i m h hi hm E
    obtain ⟨m, rfl⟩ : ∃ j, m = j + 1 := ⟨m - 1, by omega⟩
    have hWh := E.W hW
    have e1 : nI i + (1 : Int32) = nI (i + 1) := nI_add i 1
    have hk := kn_or (f := f) (by omega) (fun t => !decide (t = f) && kn_b g N f n t) (show i < 6 by omega)
    rw [f_X8_knows_32.eq_2, hWh.2.2.1, if_neg (by rw [pu_le (by omega) (by omega)]; omega)]
    by_cases hif : i = f
    · rw [if_pos (by rw [hif])]
      simp only [f_X8_knows_80, e1]
      simp only [hif, decide_true, Bool.not_true, Bool.false_and] at hk
      rw [if_neg (by decide), or_z] at hk
      have i1 := ih (i + 1) m h (by omega) (by omega) E
      rw [hif] at i1 ⊢
      rw [hk]
      exact i1
    · rw [if_neg (fun z => hif ((pu_eq (by omega) (by omega)).mp z))]
      obtain ⟨h1, c1, E1, Q⟩ := ws_both hF hWh hf (show i < N by omega) hif (show 0 < 64 by decide)
      have E2 := E.trans E1
      have hr : ws_r h N 0 f = ws_r g N 0 f := by unfold ws_r; rw [E.see, E.p, E.c]
      rw [hr, E.see, E.p, E.c] at Q
      have c1' : f_X8_layWays F h (nI f) (nI i) 0 = some h1 := c1
      rw [c1', Option.bind_some]
      have hin : f_X8_in (Int32.toInt64 (h1 26 20)) (0 : Int64) (Int32.toInt64 (nI n)) = some (if kn_b g N f n i then 1 else 0) := by
        rw [pu_l0, pu_in64]
        congr 1
        rcases Q with ⟨q20, qr⟩ | ⟨L, qB, ⟨q20, q21, q22⟩, qr⟩
        · have : kn_b g N f n i = false := by unfold kn_b; rw [qr]; rfl
          rw [q20, this, if_neg (by intro z; exact absurd z.1 (by decide))]
          rfl
        · obtain ⟨k1, k2, k3⟩ := wy_le (wy_c1 g) hN hf (show i < N by omega) hif qB.1
          obtain ⟨d1, d2⟩ := ws_div (wy_h (wy_c g) L) (10 * wy_d f L + (i + 1)) (by omega)
          have hnv : ¬ ws_r g N 0 f i = 1000000000 := by rw [qr]; omega
          have qr' : ws_r g N 0 f i = wy_h (wy_c g) L * 10000000 + (10 * wy_d f L + (i + 1)) := qr
          have hkb : kn_b g N f n i = decide (wy_h (wy_c g) L ≤ n) := by
            unfold kn_b
            rw [decide_eq_false hnv, qr', d1]
            rfl
          rw [q20, hkb]
          by_cases h2 : wy_h (wy_c g) L ≤ n
          · rw [if_pos ⟨nI_pos' (by omega), nI_le h2 (by omega)⟩]
            simp [h2]
          · rw [if_neg (fun z => h2 ((pu_le (by omega) (by omega)).mp z.2))]
            simp [h2]
      rw [hin, Option.bind_some]
      have i1 := ih (i + 1) m h1 (by omega) (by omega) E2
      simp only [hif, decide_false, Bool.not_false, Bool.true_and] at hk
      by_cases h2 : kn_b g N f n i = true
      · rw [if_pos h2, if_neg pb_10]
        simp only [f_X8_knows_78, f_X8_knows_80, e1]
        rw [if_pos h2] at hk
        rw [hk]
        exact i1
      · rw [if_neg h2, if_pos rfl]
        simp only [f_X8_knows_78, f_X8_knows_80, e1]
        rw [if_neg h2] at hk
        rw [hk]
        exact i1
theorem kn_eq (hN : N ≤ 6) (hf : f < N) : 2 ^ f ||| iv_bits (fun t => !decide (t = f) && kn_b g N f n t) N = iv_bits (kn_b g N f n) N := by
  apply Nat.eq_of_testBit_eq
  intro o
  rw [Nat.testBit_or, bi_test, bi_test, Nat.testBit_two_pow]
  by_cases h : f = o
  · subst h
    have e : kn_b g N f n f = true := by
      unfold kn_b
      rw [ws_f hN hf, decide_eq_false (by omega), show (f + 1) / 10000000 = 0 by omega]
      simp
    simp [hf, e]
  · have h' : ¬ o = f := fun z => h z.symm
    simp [h, h']
end KN
theorem K_knows {F : Nat} (hF : 2000 ≤ F) {g : am_G} {w : am_J} (hI : iv_I g w) (p : Int32) (q : Int32) : ∃ (r : Int32) (w1 : am_J) (g2 : am_G), f_X7_knows F g w p q = some (r, w1) ∧ f_X8_knows F g p q = some (r, g2) ∧ iv_I g2 w1 := by
  obtain ⟨len, N, A, nx, fl, a1, hW, a3, a4, a5, a6, hw⟩ := id hI
  have hN := hW.1
  unfold f_X7_knows f_X8_knows
  rcases pb_range hN p with hp | ⟨f, hf, rfl⟩
  · refine ⟨-1, w, g, ?_, ?_, hI⟩
    · rw [(pb_no hW hp).1, Option.bind_some, if_pos rfl]
    · rw [(pb_no hW hp).2, Option.bind_some, if_pos rfl]
  · rw [(pb_yes hW hf).1, Option.bind_some, if_neg pb_10, (pb_yes hW hf).2, Option.bind_some, if_neg pb_10, pu_l0, pu_l9, pu_in64]
    rcases pu_cases q 10 (by decide) with h | ⟨h1, h2⟩ | ⟨n, hn, rfl⟩
    · refine ⟨-2, w, g, ?_, ?_, hI⟩
      · rw [if_pos h]
      · rw [if_neg (fun z => (fa_of_lt h).2.1 z.1), Option.bind_some, if_pos rfl]
    · have h9 : ¬ q ≤ (9 : Int32) := by
        intro z
        rw [fa_le] at z h2
        have e9 : (9 : Int32).toInt = 9 := by decide
        have e10 : (nI 10).toInt = 10 := by decide
        omega
      refine ⟨-2, w, g, ?_, ?_, hI⟩
      · rw [if_neg h1, if_neg h9]
      · rw [if_neg (fun z => h9 z.2), Option.bind_some, if_pos rfl]
    · obtain ⟨w1, c1, hw1⟩ := wy_measure (F := F) (by omega) hW hf (show 0 < 64 by decide) w
      have c1' : f_X6_measure F g w (nI f) 0 = some w1 := c1
      obtain ⟨h, c2, E⟩ := kn_ref (g := g) hF hW hf (show n ≤ 9 by omega) N 0 F g (by omega) (by omega) (fun _ _ _ => rfl)
      have hI2 : iv_I h w1 := E.same.I (by rw [hw1.2 0 10 (by omega), hw1.2 26 28 (by omega), hw]) hI
      refine ⟨nI (iv_bits (kn_b g N f n) N), w1, h, ?_, ?_, hI2⟩
      · rw [if_neg (pu_nn (by omega)), if_pos (show nI n ≤ (9 : Int32) from nI_le (b := 9) (by omega) (by decide)), c1', Option.bind_some, kn_cls (by omega) hW hf (by omega) hw1]
      · rw [if_pos ⟨nI_pos' (by omega), show nI n ≤ (9 : Int32) from nI_le (b := 9) (by omega) (by decide)⟩, Option.bind_some, if_neg pb_10, bi_shl f (by omega)]
        rw [kn_eq hN hf] at c2
        refine Eq.trans ?_ c2
        show f_X8_knows_32 F (nI f) (nI n) F (nI (2 ^ f)) 0 g = f_X8_knows_32 F (nI f) (nI n) F (nI (2 ^ f ||| 0)) (nI 0) g
        rw [Nat.or_zero]
        rfl
