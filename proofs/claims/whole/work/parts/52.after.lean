/-! AFTERNOONS -/
theorem af_61 (F : Nat) (p : Int32) (k27 : Int32 → am_G → am_J → Option (Int32 × am_G × am_J)) (k104 : am_G → am_J → Option (Int32 × am_G × am_J)) (l2 l3 : Int32) (g : am_G) (w : am_J) : f_X7_afternoons_61 F p k27 k104 l2 l3 g w = (tr_mv g (l3 / (4 : Int32)) (l3 - l3 / (4 : Int32) * (4 : Int32))).bind fun q => f_X7_afternoons_90 F p k27 k104 l2 q.2 w := by
  unfold f_X7_afternoons_61 tr_mv
  cases f_X4_canShift_13 g (l3 / (4 : Int32)) (l3 - l3 / (4 : Int32) * (4 : Int32)) with
  | none => rfl
  | some c =>
    simp only [Option.bind_some]
    by_cases hc : c = 0
    · rw [if_pos hc, if_pos hc]
      rfl
    · rw [if_neg hc, if_neg hc]
      cases f_X4_shift_13 g (l3 / (4 : Int32)) (l3 - l3 / (4 : Int32) * (4 : Int32)) with
      | none => rfl
      | some g' => rfl
theorem af_loop {F N m : Nat} (hF : 7 ≤ F) (hm : m < 2147483648) : ∀ (d n i : Nat) (g : am_G) (w : am_J), i + d = m → d < n → tr_C g N → ∃ r g1 w1, f_X7_afternoons_27 F (nI m) (fun g w => f_X7_afternoons_104 F (nI m) (g) (w)) n (nI i) g w = some (r, g1, w1) ∧ tr_o g g1 ∧ (∀ a b, (a ≠ 0 ∨ b ≠ 10) → w1 a b = w a b) ∧
    ∀ (h : am_G) (v : am_J), tr_R g h N → v 26 28 = w 0 10 → ∃ h1 v1, f_X8_afternoons_21 F (nI m) (fun g w => f_X8_afternoons_78 F (nI m) (g) (w)) n (nI i) h v = some (r, h1, v1) ∧ tr_p h h1 ∧ (∀ a b, (a ≠ 26 ∨ b ≠ 28) → v1 a b = v a b) ∧ v1 26 28 = w1 0 10 := by
  intro d
  induction d with
  | zero =>
    intro n i g w hi hn hC
    obtain ⟨n, rfl⟩ : ∃ k, n = k + 1 := ⟨n - 1, by omega⟩
    have : i = m := by omega
    subst this
    refine ⟨nI (al_n g (g 14) N), g, w, ?_, tr_o.refl g, fun _ _ _ => rfl, fun h v hR hv => ⟨h, v, ?_, tr_p.refl h, fun _ _ _ => rfl, hv⟩⟩
    · rw [f_X7_afternoons_27.eq_2, if_pos (Int32.le_refl _)]
      simp only [f_X7_afternoons_104, al_13 hF hC.1 (fun k hk => (hC.2 k hk).1), Option.bind_some]
    · rw [f_X8_afternoons_21.eq_2, if_pos (Int32.le_refl _)]
      simp only [f_X8_afternoons_78, tr_alike hF hC hR, Option.bind_some]
  | succ d ih =>
    intro n i g w hi hn hC
    obtain ⟨n, rfl⟩ : ∃ k, n = k + 1 := ⟨n - 1, by omega⟩
    obtain ⟨S, hS⟩ : ∃ S, S = (w 0 10) * (6364136223846793005 : Int64) + (1442695040888963407 : Int64) := ⟨_, rfl⟩
    obtain ⟨l3, hl3⟩ : ∃ l3, l3 = Int64.toInt32 ((am_lushr S (33 : Int32)) - (am_lushr S (33 : Int32)) / (32 : Int64) * (32 : Int64)) := ⟨_, rfl⟩
    obtain ⟨r1, g1, a1, a2, a3, a4⟩ := tr_move (N := N) (l3 / (4 : Int32)) (l3 - l3 / (4 : Int32) * (4 : Int32)) g hC
    obtain ⟨r2, g2, b1, b2, b3, b4⟩ := tr_blow (N := N) hF g1 a3
    obtain ⟨r, g3, w3, c1, c2, c3, c4⟩ := ih n (i + 1) g2 (am_ul w 0 10 S) (by omega) (by omega) b3
    have hlt : ¬ nI m ≤ nI i := by rw [pu_le (by omega) (by omega)]; omega
    have e1 : nI i + (1 : Int32) = nI (i + 1) := nI_add i 1
    refine ⟨r, g3, w3, ?_, a2.trans (b2.trans c2), fun a b hab => ?_, fun h v hR hv => ?_⟩
    · rw [f_X7_afternoons_27.eq_2, if_neg hlt, ← hS]
      have q1 : am_ul w 0 10 S 0 10 = S := by rw [am_ul_at, if_pos ⟨rfl, rfl⟩]
      rw [q1, ← hl3, af_61]
      rw [show tr_mv g (l3 / (4 : Int32)) (l3 - l3 / (4 : Int32) * (4 : Int32)) = some (r1, g1) from a1]
      simp only [Option.bind_some, f_X7_afternoons_90]
      rw [show f_X4_blow_13 F g1 = some (r2, g2) from b1]
      simp only [Option.bind_some, e1]
      exact c1
    · rw [c3 a b hab, am_ul_at, if_neg (by omega)]
    · obtain ⟨h1, d1, d2, d3⟩ := a4 h hR
      obtain ⟨h2, f1, f2, f3⟩ := b4 h1 d3
      have q1 : ∀ u : am_J, am_ul u 26 28 S 26 28 = S := fun u => by rw [am_ul_at, if_pos ⟨rfl, rfl⟩]
      have q2 : am_ul w 0 10 S 0 10 = S := by rw [am_ul_at, if_pos ⟨rfl, rfl⟩]
      obtain ⟨h3, v3, k1, k2, k3, k4⟩ := c4 h2 (am_ul v 26 28 S) f3 (by rw [q1, q2])
      refine ⟨h3, v3, ?_, d2.trans (f2.trans k2), fun a b hab => ?_, k4⟩
      · rw [f_X8_afternoons_21.eq_2, if_neg hlt, hv, ← hS, q1, ← hl3]
        simp only [f_X8_afternoons_55]
        rw [show f_X8_tryMove h (l3 / (4 : Int32)) (l3 - l3 / (4 : Int32) * (4 : Int32)) = some (r1, h1) from d1]
        simp only [Option.bind_some]
        rw [show f_X8_windOn F h1 1 = some (r2, h2) from f1]
        simp only [Option.bind_some, e1]
        exact k1
      · rw [k3 a b hab, am_ul_at, if_neg (by omega)]
theorem K_afternoons {F : Nat} (hF : 2000 ≤ F) {g : am_G} {w : am_J} (hI : iv_I g w) (p : Int32) : ∃ (r : Int32) (g1 : am_G) (w1 : am_J) (g2 : am_G) (w2 : am_J), f_X7_afternoons F g w p = some (r, g1, w1) ∧ f_X8_afternoons F g1 w1 p = some (r, g2, w2) ∧ iv_I g2 w2 := by
  have hI0 := hI
  obtain ⟨len, N, A, nx, fl, hX, hW, hS, hA, hSl, hFo, hw⟩ := hI
  have hout : (p < 1 ∨ ¬ p ≤ 30) ∨ ∃ m, m < 31 ∧ p = nI m ∧ ¬ p < 1 ∧ p ≤ 30 := by
    by_cases h1 : p < 1
    · exact Or.inl (Or.inl h1)
    by_cases h2 : p ≤ 30
    · right
      rcases pu_cases p 31 (by decide) with h | ⟨h, h'⟩ | ⟨k, hk, rfl⟩
      · exact absurd (Int32.lt_trans h (by decide)) h1
      · exact absurd (Int32.le_trans h' h2) (by decide)
      · exact ⟨k, hk, rfl, h1, h2⟩
    · exact Or.inl (Or.inr h2)
  have hin : f_X8_in (Int32.toInt64 p) (1 : Int64) (30 : Int64) = some (if 1 ≤ p ∧ p ≤ 30 then 1 else 0) := by rw [pu_l1, pu_l30, pu_in64]
  rcases hout with h | ⟨m, hm, rfl, h1, h2⟩
  · refine ⟨-2, g, w, g, w, ?_, ?_, hI0⟩
    · rcases h with h | h
      · simp only [f_X7_afternoons, if_pos h]
      · by_cases h1 : p < 1
        · simp only [f_X7_afternoons, if_pos h1]
        · simp only [f_X7_afternoons, if_neg h1, if_neg h]
    · have : ¬ (1 ≤ p ∧ p ≤ 30) := by
        rintro ⟨z1, z2⟩
        rcases h with h | h
        · exact Int32.lt_irrefl (Int32.lt_of_lt_of_le h z1)
        · exact h z2
      simp only [f_X8_afternoons, hin, if_neg this, Option.bind_some]
      rfl
  · obtain ⟨g0, s1, s2, s3, s4⟩ := tr_start (w := w) hW hS
    obtain ⟨r, g1, w1, c1, c2, c3, c4⟩ := af_loop (F := F) (N := N) (m := m) (by omega) (by omega) m F 0 g0 w (by omega) (by omega) s3
    obtain ⟨h0, l1, l2, l3⟩ := s4 g1 c2 F (by omega)
    obtain ⟨h1', v1, k1, k2, k3, k4⟩ := c4 h0 w1 l3 (by rw [c3 26 28 (by omega), hw])
    refine ⟨r, g1, w1, h1', v1, ?_, ?_, tr_end hI0 (s2.trans c2) (l2.trans k2) ?_⟩
    · simp only [f_X7_afternoons, if_neg h1, if_pos h2, s1, Option.bind_some]
      exact c1
    · have h1' : (1 : Int32) ≤ nI m := Int32.not_lt.mp h1
      simp only [f_X8_afternoons, hin, if_pos (show 1 ≤ nI m ∧ nI m ≤ 30 from ⟨h1', h2⟩), Option.bind_some, if_neg pb_10, l1]
      exact k1
    · rw [k4, k3 0 10 (by omega)]
