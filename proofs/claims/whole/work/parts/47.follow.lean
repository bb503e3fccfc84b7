/-! FOLLOWED -/
theorem fo_fill {F n : Nat} (hn : 4 < n) (g : am_G) : f_J7_fill_53178_23_5 F 15 n 0 (Int32.ofNat 4) g = some (fun a b => if a = 23 ∧ b < 4 then 15 else g a b) := by
  obtain ⟨m, rfl⟩ : ∃ m, n = m + 5 := ⟨n - 5, by omega⟩
  have e4 : Int32.ofNat 4 = 4 := by decide
  have c : ∀ i : Nat, i < 4 → ∀ h n, f_J7_fill_53178_23_5 F 15 (n + 1) (nI i) 4 h = f_J7_fill_53178_23_5 F 15 n (nI (i + 1)) 4 (am_u h 23 i 15) := fun i hi h n => by
    rw [f_J7_fill_53178_23_5.eq_2, if_neg (show ¬ (4 : Int32) ≤ nI i from nI_ge (b := 4) hi (by decide)), if_pos ((pu_in (by omega)).mpr hi), pu_tn (by omega), show nI i + (1 : Int32) = nI (i + 1) from nI_add i 1]
  have e := c 0 (by omega) g (m + 4)
  rw [e4]
  refine (c 0 (by omega) g (m + 4)).trans ?_
  rw [c 1 (by omega), c 2 (by omega), c 3 (by omega), f_J7_fill_53178_23_5.eq_2, if_pos (show (4 : Int32) ≤ nI 4 from by decide)]
  congr 1
  funext a b
  rw [am_u_at, am_u_at, am_u_at, am_u_at]
  by_cases h : a = 23 ∧ b < 4
  · rw [if_pos h]
    have : b = 0 ∨ b = 1 ∨ b = 2 ∨ b = 3 := by omega
    rcases this with rfl | rfl | rfl | rfl <;> simp [h.1]
  · rw [if_neg h, if_neg (by omega), if_neg (by omega), if_neg (by omega), if_neg (by omega)]
set_option maxHeartbeats 1000000 in
theorem K_unfollow {F : Nat} (hF : 2000 ≤ F) {g : am_G} {w : am_J} (hI : iv_I g w) : ∃ (r : Int32) (g1 : am_G) (g2 : am_G), f_X7_unfollow F g = some (r, g1) ∧ f_X8_unfollow g1 = some (r, g2) ∧ iv_I g2 w := by
  obtain ⟨len, N, A, nx, fl, hX, hW, hS, hA, hSl, hFo, hw⟩ := hI
  obtain ⟨g0, hg0⟩ : ∃ g0 : am_G, g0 = (fun a b => if a = 23 ∧ b < 4 then 15 else g a b) := ⟨_, rfl⟩
  obtain ⟨g1, hg1⟩ : ∃ g1, g1 = am_u g0 22 1 0 := ⟨_, rfl⟩
  obtain ⟨h, hh⟩ : ∃ h, h = am_u g1 26 23 0 := ⟨_, rfl⟩
  have e1 : ∀ a b, a ≠ 23 ∧ a ≠ 22 → g1 a b = g a b := fun a b hab => by
    rw [hg1, am_u_at, if_neg (by omega), hg0]
    show (if a = 23 ∧ b < 4 then _ else _) = _
    rw [if_neg (by omega)]
  have eh : ∀ a b, a ≠ 23 ∧ a ≠ 22 ∧ (a ≠ 26 ∨ b ≠ 23) → h a b = g a b := fun a b hab => by
    rw [hh, am_u_at, if_neg (by omega), e1 a b (by omega)]
  refine ⟨nI fl, g1, h, ?_, ?_, ?_⟩
  · simp only [f_X7_unfollow, f_X1_size, f_X1_clear, f_J7_fill_53178_23, fo_fill (show 4 < F by omega), Option.bind_some, hFo.2.1]
    rw [← hg0, ← hg1]
  · simp only [f_X8_unfollow, e1 26 23 (by omega), hFo.2.2.1, ← hh]
  · refine ⟨len, N, A, nx, 0, hX.of2 fun a b hab => eh a b (by omega), hW.of2 fun a b hab => eh a b (by omega), ⟨?_, ?_⟩, hA.of2 fun a b hab => eh a b (by omega), hSl.of2 fun a b hab => eh a b (by omega), ⟨by omega, ?_, ?_, fun k hk => absurd hk (Nat.not_lt_zero k), fun s hs => ?_⟩, hw⟩
    · rw [iv_C.of2 (fun a b hab => eh a b (by omega)), show h 32 = g 32 from funext fun b => eh 32 b (by omega)]
      exact hS.1
    · rw [show h 32 = g 32 from funext fun b => eh 32 b (by omega)]
      exact hS.2.of2 (funext fun b => eh 27 b (by omega))
    · rw [hh, am_u_at, if_neg (by omega), hg1, am_u_at, if_pos ⟨rfl, rfl⟩]
      rfl
    · rw [hh, am_u_at, if_pos ⟨rfl, rfl⟩]
      rfl
    · rw [hh, am_u_at, if_neg (by omega), hg1, am_u_at, if_neg (by omega), hg0]
      show (if 23 = 23 ∧ s < 4 then _ else _) = _
      rw [if_pos ⟨rfl, hs⟩]
      rfl
theorem fo_and (p q : Nat → Bool) : nI (iv_bits p 4) &&& nI (iv_bits q 4) = nI (iv_bits (fun v => p v && q v) 4) := by
  simp only [iv_bits]
  generalize p 0 = a0
  generalize p 1 = a1
  generalize p 2 = a2
  generalize p 3 = a3
  generalize q 0 = b0
  generalize q 1 = b1
  generalize q 2 = b2
  generalize q 3 = b3
  revert a0 a1 a2 a3 b0 b1 b2 b3
  decide +kernel
theorem fo_mask : ∀ v, v < 4 → (((1 : Int32) <<< (nI v &&& 31)) ||| ((1 : Int32) <<< (nI ((v + 1) % 4) &&& 31))) = nI (iv_bits (fun u => decide (nI v = nI u ∨ nI u = nI ((v + 1) % 4))) 4) ∧ ((1 : Int32) <<< (nI v &&& 31)) = nI (iv_bits (fun u => decide (nI v = nI u)) 4) := by
  decide +kernel
set_option maxHeartbeats 1000000 in
theorem K_follow {F : Nat} (hF : 2000 ≤ F) {g : am_G} {w : am_J} (hI : iv_I g w) (p : Int32) (q : Int32) (b : Int32) (hb : b = 0 ∨ b = 1) : ∃ (r : Int32) (g1 : am_G) (g2 : am_G), f_X7_follow g p q b = some (r, g1) ∧ f_X8_follow g1 p q b = some (r, g2) ∧ iv_I g2 w := by
  have hI0 := hI
  obtain ⟨len, N, A, nx, fl, hX, hW, hS, hA, hSl, hFo, hw⟩ := hI
  rcases pb_isState_cases p with hp | ⟨s, hs, rfl, hp⟩
  · refine ⟨-2, g, g, ?_, ?_, hI0⟩
    · simp only [f_X7_follow, hp, Option.bind_some]
      rfl
    · simp only [f_X8_follow, ← pb_isState, hp, Option.bind_some]
      rfl
  rcases pb_isState_cases q with hq | ⟨v, hv, rfl, hq⟩
  · refine ⟨-2, g, g, ?_, ?_, hI0⟩
    · simp only [f_X7_follow, hp, pb_isWord_eq, hq, Option.bind_some, if_neg pb_10]
      rfl
    · simp only [f_X8_follow, ← pb_isState, hp, hq, Option.bind_some, if_neg pb_10]
      rfl
  obtain ⟨b1, b2, b3, b4, b5⟩ := hFo
  by_cases h6 : fl = 6
  · subst h6
    refine ⟨-4, g, g, ?_, ?_, hI0⟩
    · simp only [f_X7_follow, f_X1_add, hp, pb_isWord_eq, hq, Option.bind_some, if_neg pb_10, b2, if_neg (show ¬ nI 6 < (6 : Int32) by decide)]
      rfl
    · simp only [f_X8_follow, ← pb_isState, hp, hq, Option.bind_some, if_neg pb_10, b3, if_pos (show nI 6 = (6 : Int32) from rfl)]
  · have hfl : fl < 6 := by omega
    have hM : ∃ M, (if b = 0 then (((1 : Int32) <<< (nI v &&& 31)) ||| ((1 : Int32) <<< (nI ((v + 1) % 4) &&& 31))) else ((1 : Int32) <<< (nI v &&& 31))) = M := ⟨_, rfl⟩
    obtain ⟨M, hM⟩ := hM
    obtain ⟨g0, hg0⟩ : ∃ g0, g0 = am_u g 23 s (g 23 s &&& M) := ⟨_, rfl⟩
    obtain ⟨g1, hg1⟩ : ∃ g1, g1 = am_u g0 22 1 (nI (fl + 1)) := ⟨_, rfl⟩
    obtain ⟨h, hh⟩ : ∃ h, h = am_u (am_u (am_u (am_u g1 37 fl (nI s)) 38 fl (nI v)) 39 fl b) 26 23 (nI (fl + 1)) := ⟨_, rfl⟩
    have e1 : ∀ a b, a ≠ 23 ∧ a ≠ 22 → g1 a b = g a b := fun a b hab => by
      rw [hg1, am_u_at, if_neg (by omega), hg0, am_u_at, if_neg (by omega)]
    have eh : ∀ a c, (a ≠ 23 ∧ a ≠ 22 ∧ (a ≠ 26 ∨ c ≠ 23) ∧ ((a ≠ 37 ∧ a ≠ 38 ∧ a ≠ 39) ∨ c ≠ fl)) → h a c = g a c := fun a c hab => by
      rw [hh, am_u_at, if_neg (by omega), am_u_at, if_neg (by omega), am_u_at, if_neg (by omega), am_u_at, if_neg (by omega), e1 a c (by omega)]
    have h37 : h 37 fl = nI s := by
      rw [hh, am_u_at, if_neg (by omega), am_u_at, if_neg (by omega), am_u_at, if_neg (by omega), am_u_at, if_pos ⟨rfl, rfl⟩]
    have h38 : h 38 fl = nI v := by
      rw [hh, am_u_at, if_neg (by omega), am_u_at, if_neg (by omega), am_u_at, if_pos ⟨rfl, rfl⟩]
    have h39 : h 39 fl = b := by
      rw [hh, am_u_at, if_neg (by omega), am_u_at, if_pos ⟨rfl, rfl⟩]
    have hfa : ∀ t u n, n ≤ fl → iv_fa h t u n = iv_fa g t u n := by
      intro t u n
      induction n with
      | zero => intro _; rfl
      | succ n ih =>
        intro hn
        simp only [iv_fa, ih (by omega), iv_f, eh 37 n (by omega), eh 38 n (by omega), eh 39 n (by omega)]
    refine ⟨nI (fl + 1), g1, h, ?_, ?_, ?_⟩
    · have hlt : nI fl < (6 : Int32) := nI_lt (b := 6) hfl (by decide)
      have hmod : (nI v + (1 : Int32)) - (nI v + (1 : Int32)) / (4 : Int32) * (4 : Int32) = nI ((v + 1) % 4) := by
        rw [show nI v + (1 : Int32) = nI (v + 1) from nI_add v 1]
        exact pu_rem (a := v + 1) (b := 4) (by omega) (by decide) (by decide)
      have q1 : g0 22 1 = nI fl := by rw [hg0, am_u_at, if_neg (by omega), b2]
      have q2 : g1 22 1 = nI (fl + 1) := by rw [hg1, am_u_at, if_pos ⟨rfl, rfl⟩]
      have hin : am_in (nI s) 4 := (pu_in (by omega)).mpr hs
      have hadd : f_X1_add g (nI s) (nI v) b = some (1, g1) := by
        simp only [f_X1_add, hp, pb_isWord_eq, hq, Option.bind_some, if_neg pb_10, b2, if_pos hlt, if_pos hin, hmod, f_X1_add_57, pu_tn (show s < 2147483648 by omega)]
        by_cases h0 : b = 0
        · rw [if_pos h0] at hM
          rw [if_pos h0, hM, ← hg0, q1, show nI fl + (1 : Int32) = nI (fl + 1) from nI_add fl 1, ← hg1]
        · rw [if_neg h0] at hM
          rw [if_neg h0, hM, ← hg0, q1, show nI fl + (1 : Int32) = nI (fl + 1) from nI_add fl 1, ← hg1]
      simp only [f_X7_follow, hp, pb_isWord_eq, hq, Option.bind_some, if_neg pb_10, hadd, f_X1_size, q2]
    · have q0 : g1 26 23 = nI fl := by rw [e1 26 23 (by omega), b3]
      have hne : ¬ nI fl = (6 : Int32) := fun e => h6 ((pu_eq (b := 6) (by omega) (by decide)).mp e)
      have hin : am_in (nI fl) 6 := (pu_in (by omega)).mpr hfl
      have qa : am_u g1 37 fl (nI s) 26 23 = nI fl := by rw [am_u_at, if_neg (by omega), q0]
      have qb : am_u (am_u g1 37 fl (nI s)) 38 fl (nI v) 26 23 = nI fl := by rw [am_u_at, if_neg (by omega), qa]
      have qc : am_u (am_u (am_u g1 37 fl (nI s)) 38 fl (nI v)) 39 fl b 26 23 = nI fl := by rw [am_u_at, if_neg (by omega), qb]
      have qn : vp_nar .boolean b = b := by rcases hb with rfl | rfl <;> decide
      have qh : h 26 23 = nI (fl + 1) := by rw [hh, am_u_at, if_pos ⟨rfl, rfl⟩]
      simp only [f_X8_follow, ← pb_isState, hp, hq, Option.bind_some, if_neg pb_10, q0, if_neg hne, if_pos hin, pu_tn (show fl < 2147483648 by omega), qa, qb, f_X8_follow_69, qn, qc, show nI fl + (1 : Int32) = nI (fl + 1) from nI_add fl 1]
      rw [← hh, qh]
    · refine ⟨len, N, A, nx, fl + 1, hX.of2 fun a b hab => eh a b (by omega), hW.of2 fun a b hab => eh a b (by omega), ⟨?_, ?_⟩, hA.of2 fun a b hab => eh a b (by omega), hSl.of2 fun a b hab => eh a b (by omega), ⟨by omega, ?_, ?_, fun k hk => ?_, fun t ht => ?_⟩, hw⟩
      · rw [iv_C.of2 (fun a b hab => eh a b (by omega)), show h 32 = g 32 from funext fun b => eh 32 b (by omega)]
        exact hS.1
      · rw [show h 32 = g 32 from funext fun b => eh 32 b (by omega)]
        exact hS.2.of2 (funext fun b => eh 27 b (by omega))
      · rw [hh, am_u_at, if_neg (by omega), am_u_at, if_neg (by omega), am_u_at, if_neg (by omega), am_u_at, if_neg (by omega), hg1, am_u_at, if_pos ⟨rfl, rfl⟩]
      · rw [hh, am_u_at, if_pos ⟨rfl, rfl⟩]
      · by_cases hkf : k = fl
        · subst hkf
          rw [h37, h38, h39]
          exact ⟨⟨s, hs, rfl⟩, ⟨v, hv, rfl⟩, hb⟩
        · rw [eh 37 k (by omega), eh 38 k (by omega), eh 39 k (by omega)]
          exact b4 k (by omega)
      · have h23 : h 23 t = if t = s then g 23 s &&& M else g 23 t := by
          rw [hh, am_u_at, if_neg (by omega), am_u_at, if_neg (by omega), am_u_at, if_neg (by omega), am_u_at, if_neg (by omega), hg1, am_u_at, if_neg (by omega), hg0, am_u_at]
          by_cases q : t = s
          · rw [if_pos ⟨rfl, q⟩, if_pos q]
          · rw [if_neg (fun z => q z.2), if_neg q]
        rw [h23]
        have hx : ∀ u, iv_fa h t u (fl + 1) = (iv_fa g t u fl && decide (nI s = nI t → (nI v = nI u ∨ (b = 0 ∧ nI u = nI ((v + 1) % 4))))) := fun u => by
          show (iv_fa h t u fl && iv_f h fl t u) = _
          rw [hfa t u fl (Nat.le_refl _)]
          simp only [iv_f, h37, h38, h39, pu_tn (show v < 2147483648 by omega)]
        by_cases hts : t = s
        · subst hts
          rw [if_pos rfl, b5 t ht]
          have hMb : M = nI (iv_bits (fun u => decide (nI t = nI t → (nI v = nI u ∨ (b = 0 ∧ nI u = nI ((v + 1) % 4))))) 4) := by
            rw [← hM]
            rcases hb with rfl | rfl
            · rw [if_pos rfl, (fo_mask v hv).1]
              congr 1
              apply bi_cong
              intro u hu
              simp
            · rw [if_neg (by decide), (fo_mask v hv).2]
              congr 1
              apply bi_cong
              intro u hu
              simp
          rw [hMb, fo_and]
          congr 1
          apply bi_cong
          intro u hu
          exact (hx u).symm
        · rw [if_neg hts, b5 t ht]
          congr 1
          apply bi_cong
          intro u hu
          rw [hx u]
          have : ¬ nI s = nI t := fun e => hts ((pu_eq (by omega) (by omega)).mp e).symm
          simp [this]
