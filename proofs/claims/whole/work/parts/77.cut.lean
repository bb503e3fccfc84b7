/-! CUT -/
def cu_st (g : am_G) (N f t : Nat) (s : Nat) (l : Int32) : Int32 := if (!s.testBit f && !s.testBit t) && to_f s l && decide (ws_r g N s f t = 1000000000) then nI s else l
theorem cu_P {g : am_G} {N f t s : Nat} {l : Int32} (hs : s < 64) (hl : to_P l) : to_P (cu_st g N f t s l) := by
  unfold cu_st
  split
  · exact Or.inr ⟨s, hs, rfl⟩
  · exact hl
theorem cu_and {s f t : Nat} (hs : s < 64) (hf : f < 6) (ht : t < 6) : (nI s &&& nI (2 ^ f ||| 2 ^ t) = 0) ↔ (!s.testBit f && !s.testBit t) = true := by
  have hf2 : 2 ^ f < 64 := (Nat.pow_lt_pow_right (by decide) hf : 2 ^ f < 2 ^ 6)
  have ht2 : 2 ^ t < 64 := (Nat.pow_lt_pow_right (by decide) ht : 2 ^ t < 2 ^ 6)
  have hor : 2 ^ f ||| 2 ^ t < 64 := Nat.or_lt_two_pow (n := 6) hf2 ht2
  have hle : s &&& (2 ^ f ||| 2 ^ t) ≤ s := Nat.and_le_left
  rw [fa_and, show ((nI (s &&& (2 ^ f ||| 2 ^ t)) = (0 : Int32)) ↔ (s &&& (2 ^ f ||| 2 ^ t) = 0)) from pu_eq (b := 0) (by omega) (by decide)]
  constructor
  · intro h
    have e : ∀ o, (s &&& (2 ^ f ||| 2 ^ t)).testBit o = false := fun o => by rw [h]; simp
    have e1 := e f
    have e2 := e t
    rw [Nat.testBit_and, Nat.testBit_or, Nat.testBit_two_pow, Nat.testBit_two_pow] at e1 e2
    simp at e1 e2
    simp [e1, e2]
  · intro h
    simp at h
    apply Nat.eq_of_testBit_eq
    intro o
    rw [Nat.testBit_and, Nat.testBit_or, Nat.testBit_two_pow, Nat.testBit_two_pow, Nat.zero_testBit]
    by_cases h1 : f = o
    · subst h1; simp [h.1]
    · by_cases h2 : t = o
      · subst h2; simp [h.2]
      · simp [h1, h2]
section CU
variable {F : Nat} {g : am_G} {N f t : Nat} {w0 : am_J}
theorem cu_cls (hF : 70 ≤ F) (hW : iv_W g N) (hf : f < N) (ht : t < N) : ∀ (d s n : Nat) (l : Int32) (w : am_J), s + d = 2 ^ N → d < n → to_P l → (∀ a b, a ≠ 21 → w a b = w0 a b) →
    ∃ w', f_X7_cut_31 F g (nI f) (nI t) n (nI (2 ^ f ||| 2 ^ t)) l (nI s) w = some (pu_fo (cu_st g N f t) s d l, w') ∧ ∀ a b, a ≠ 21 → w' a b = w0 a b := by
  have hN := hW.1
  have hp := pw_le hN
  intro d
  induction d with
  | zero =>
    intro s n l w hs hn hl hw
    obtain ⟨n, rfl⟩ : ∃ k, n = k + 1 := ⟨n - 1, by omega⟩
    have : s = 2 ^ N := by omega
    subst this
    rw [f_X7_cut_31.eq_2, f_X2_sets, Option.bind_some, hW.2.1, bi_shl N (by omega), if_pos (Int32.le_refl _)]
    exact ⟨w, rfl, hw⟩
  | succ d ih =>
    intro s n l w hs hn hl hw
    obtain ⟨n, rfl⟩ : ∃ k, n = k + 1 := ⟨n - 1, by omega⟩
    have hs64 : s < 64 := by omega
    have e1 : nI s + (1 : Int32) = nI (s + 1) := nI_add s 1
    have hand := cu_and hs64 (show f < 6 by omega) (show t < 6 by omega)
    rw [f_X7_cut_31.eq_2, f_X2_sets, Option.bind_some, hW.2.1, bi_shl N (by omega), if_neg (by rw [pu_le (by omega) (by omega)]; omega)]
    show ∃ w', _ = some (pu_fo (cu_st g N f t) (s + 1) d (cu_st g N f t s l), w') ∧ _
    have hP := cu_P (g := g) (N := N) (f := f) (t := t) hs64 hl
    by_cases h1 : (!s.testBit f && !s.testBit t) = true
    · rw [if_pos (hand.mpr h1), to_fc hs64 hl, Option.bind_some]
      by_cases h2 : to_f s l = true
      · rw [if_pos h2, if_neg pb_10]
        obtain ⟨w1, c1, hw1⟩ := wy_measure (F := F) (by omega) hW hf hs64 w
        have hb := ws_le (g := g) (D := s) hN hf ht
        have hw1' : ∀ a b, a ≠ 21 → w1 a b = w0 a b := fun a b q => (hw1.2 a b q).trans (hw a b q)
        rw [c1, Option.bind_some, wy_comes hW hw1 ht hb, Option.bind_some]
        by_cases h3 : ws_r g N s f t = 1000000000
        · have es : cu_st g N f t s l = nI s := by
            unfold cu_st
            rw [if_pos (by rw [h1, h2, decide_eq_true h3]; rfl)]
          rw [show (if wy_rr (iv_see g) (wy_p g s) (wy_c g) N f t = 1000000000 then (0 : Int32) else 1) = 0 from if_pos h3, if_pos rfl]
          simp only [f_X7_cut_89, f_X7_cut_91, e1]
          rw [es] at hP ⊢
          exact ih (s + 1) n (nI s) w1 (by omega) (by omega) hP hw1'
        · have es : cu_st g N f t s l = l := by
            unfold cu_st
            rw [if_neg (by rw [decide_eq_false h3]; simp)]
          rw [show (if wy_rr (iv_see g) (wy_p g s) (wy_c g) N f t = 1000000000 then (0 : Int32) else 1) = 1 from if_neg h3, if_neg pb_10]
          simp only [f_X7_cut_89, f_X7_cut_91, e1]
          rw [es]
          exact ih (s + 1) n l w1 (by omega) (by omega) hl hw1'
      · have es : cu_st g N f t s l = l := by
          unfold cu_st
          rw [if_neg (by simp [h2])]
        rw [if_neg h2, if_pos rfl]
        simp only [f_X7_cut_91, e1]
        rw [es]
        exact ih (s + 1) n l w (by omega) (by omega) hl hw
    · have es : cu_st g N f t s l = l := by
        unfold cu_st
        rw [if_neg (by rw [Bool.eq_false_iff.mpr h1]; simp)]
      rw [if_neg (fun z => h1 (hand.mp z))]
      simp only [f_X7_cut_91, e1]
      rw [es]
      exact ih (s + 1) n l w (by omega) (by omega) hl hw
theorem cu_ref (hF : 2000 ≤ F) (hW : iv_W g N) (hf : f < N) (ht : t < N) (hft : t ≠ f) : ∀ (d s n : Nat) (l : Int32) (h : am_G), s + d = 2 ^ N → d < n → to_P l → wr_e g h →
    ∃ h', f_X8_cut_32 F (nI f) (nI t) n l (nI s) h = some (pu_fo (cu_st g N f t) s d l, h') ∧ wr_e g h' := by
  have hN := hW.1
  have hp := pw_le hN
  intro d
  induction d with
  | zero =>
    intro s n l h hs hn hl E
    obtain ⟨n, rfl⟩ : ∃ k, n = k + 1 := ⟨n - 1, by omega⟩
    have : s = 2 ^ N := by omega
    subst this
    rw [f_X8_cut_32.eq_2, (E.W hW).2.2.1, bi_shl N (by omega), if_pos (Int32.le_refl _)]
    exact ⟨h, rfl, E⟩
  | succ d ih =>
    intro s n l h hs hn hl E
    obtain ⟨n, rfl⟩ : ∃ k, n = k + 1 := ⟨n - 1, by omega⟩
    have hs64 : s < 64 := by omega
    have hWh := E.W hW
    have e1 : nI s + (1 : Int32) = nI (s + 1) := nI_add s 1
    have hP := cu_P (g := g) (N := N) (f := f) (t := t) hs64 hl
    rw [f_X8_cut_32.eq_2, hWh.2.2.1, bi_shl N (by omega), if_neg (by rw [pu_le (by omega) (by omega)]; omega)]
    show ∃ h', _ = some (pu_fo (cu_st g N f t) (s + 1) d (cu_st g N f t s l), h') ∧ _
    have skip : cu_st g N f t s l = l → ∃ h', f_X8_cut_83 F (nI f) (nI t) (fun l3 l4 g => f_X8_cut_32 F (nI f) (nI t) n l3 l4 g) l (nI s) h = some (pu_fo (cu_st g N f t) (s + 1) d (cu_st g N f t s l), h') ∧ wr_e g h' := by
      intro es
      rw [es, f_X8_cut_83, f_X8_cut_84, if_pos rfl, f_X8_cut_115, e1]
      exact ih (s + 1) n l h (by omega) (by omega) hl E
    have look : (!s.testBit f && !s.testBit t) = true → to_f s l = true → ∃ h', f_X8_cut_79 F (nI f) (nI t) (fun l3 l4 g => f_X8_cut_32 F (nI f) (nI t) n l3 l4 g) l (nI s) h = some (pu_fo (cu_st g N f t) (s + 1) d (cu_st g N f t s l), h') ∧ wr_e g h' := by
      intro h1 h2
      obtain ⟨k, c1, E1, Q⟩ := ws_both hF hWh hf ht hft hs64
      have hr : ws_r h N s f = ws_r g N s f := by unfold ws_r; rw [E.see, E.p, E.c]
      rw [hr, E.see, E.p, E.c] at Q
      rw [f_X8_cut_79, f_X8_cut_84, if_neg pb_10, c1, Option.bind_some]
      rcases Q with ⟨q20, qr⟩ | ⟨L, qB, ⟨q20, q21, q22⟩, qr⟩
      · have es : cu_st g N f t s l = nI s := by
          unfold cu_st
          rw [if_pos (by rw [h1, h2, decide_eq_true qr]; rfl)]
        rw [if_pos q20, f_X8_cut_114, f_X8_cut_115, e1]
        rw [es] at hP ⊢
        exact ih (s + 1) n (nI s) k (by omega) (by omega) hP (E.trans E1)
      · obtain ⟨k1, k2, k3⟩ := wy_le (wy_c1 g) hN hf ht hft qB.1
        have hnv : ¬ ws_r g N s f t = 1000000000 := by rw [qr]; omega
        have es : cu_st g N f t s l = l := by
          unfold cu_st
          rw [if_neg (by rw [decide_eq_false hnv]; simp)]
        rw [q20, if_neg (rd_ne9 _ (by omega)), f_X8_cut_114, f_X8_cut_115, e1]
        rw [es]
        exact ih (s + 1) n l k (by omega) (by omega) hl (E.trans E1)
    have hbf := bi_shr hs64 (show f < 6 by omega)
    have hbt := bi_shr hs64 (show t < 6 by omega)
    simp only [f_X8_has]
    by_cases h1 : s.testBit f = true
    · rw [if_pos (hbf.mpr h1), Option.bind_some, if_neg pb_10]
      exact skip (by unfold cu_st; rw [if_neg (by simp [h1])])
    · rw [if_neg (fun z => h1 (hbf.mp z)), Option.bind_some, if_pos rfl]
      by_cases h2 : s.testBit t = true
      · rw [if_pos (hbt.mpr h2), Option.bind_some, if_neg pb_10]
        exact skip (by unfold cu_st; rw [if_neg (by simp [h2])])
      · rw [if_neg (fun z => h2 (hbt.mp z)), Option.bind_some, if_pos rfl]
        have h12 : (!s.testBit f && !s.testBit t) = true := by simp [h1, h2]
        rcases hl with rfl | ⟨b, hb, rfl⟩
        · rw [if_pos rfl]
          exact look h12 rfl
        · rw [if_neg (to_9 b hb), pc_ones (by omega) hs64, pc_ones (by omega) hb, Option.bind_some, Option.bind_some]
          have hto : to_f s (nI b) = !decide (nI (pc b) ≤ nI (pc s)) := by
            unfold to_f
            rw [decide_eq_false (to_9 b hb), pu_tn (by omega), Bool.false_or]
          by_cases h3 : nI (pc b) ≤ nI (pc s)
          · rw [if_pos h3]
            exact skip (by unfold cu_st; rw [hto, if_neg (by simp [h3])])
          · rw [if_neg h3]
            exact look h12 (by rw [hto]; simp [h3])
end CU
theorem K_cut {F : Nat} (hF : 2000 ≤ F) {g : am_G} {w : am_J} (hI : iv_I g w) (p : Int32) (q : Int32) : ∃ (r : Int32) (w1 : am_J) (g2 : am_G), f_X7_cut F g w p q = some (r, w1) ∧ f_X8_cut F g p q = some (r, g2) ∧ iv_I g2 w1 := by
  obtain ⟨len, N, A, nx, fl, a1, hW, a3, a4, a5, a6, hw⟩ := id hI
  have hN := hW.1
  have hp := pw_le hN
  unfold f_X7_cut f_X8_cut
  rcases ws_ref hW p q with ⟨r1, r2 | ⟨r2, r3⟩⟩ | ⟨r1, r2, r3, r4⟩ | ⟨f, t, hf, ht, hft, rfl, rfl, hne, r1, r2, r3⟩
  · refine ⟨-1, w, g, ?_, ?_, hI⟩
    · rw [r1, Option.bind_some, if_neg (by decide)]
    · rw [r2, Option.bind_some, if_pos rfl]
  · refine ⟨-1, w, g, ?_, ?_, hI⟩
    · rw [r1, Option.bind_some, if_neg (by decide)]
    · rw [r2, Option.bind_some, if_neg pb_10, r3, Option.bind_some, if_pos rfl]
  · refine ⟨-2, w, g, ?_, ?_, hI⟩
    · rw [r1, Option.bind_some, if_neg (by decide)]
    · rw [r3, Option.bind_some, if_neg pb_10, r4, Option.bind_some, if_neg pb_10, if_pos r2]
  · obtain ⟨w1, c1, hw1⟩ := cu_cls (F := F) (g := g) (w0 := w) (by omega) hW hf ht (2 ^ N) 0 F (-9) w (by omega) (by omega) (Or.inl rfl) (fun _ _ _ => rfl)
    obtain ⟨h, c2, E⟩ := cu_ref (g := g) hF hW hf ht hft (2 ^ N) 0 F (-9) g (by omega) (by omega) (Or.inl rfl) (fun _ _ _ => rfl)
    refine ⟨pu_fo (cu_st g N f t) 0 (2 ^ N) (-9), w1, h, ?_, ?_, E.same.I (by rw [hw1 0 10 (by omega), hw1 26 28 (by omega), hw]) hI⟩
    · rw [r1, Option.bind_some, if_pos rfl, bi_shl f (by omega), bi_shl t (by omega), fa_or]
      exact c1
    · rw [r2, Option.bind_some, if_neg pb_10, r3, Option.bind_some, if_neg pb_10, if_neg hne]
      exact c2
