/-! THE TOWN is made anew -/
theorem tw_30 {F : Nat} {g : am_G} (K : am_G → Option (Int32 × am_G)) : ∀ (d s n : Nat) (g' : am_G), s + d = 4 → d < n → (∀ a b, a ≠ 27 → g' a b = g a b) → (∀ t, t < s → g' 27 t = g 33 t) →
    ∃ h, f_X8_town_30 F K n (nI s) g' = K h ∧ (∀ a b, a ≠ 27 → h a b = g a b) ∧ ∀ t, t < 4 → h 27 t = g 33 t := by
  intro d
  induction d with
  | zero =>
    intro s n g' hs hn E V
    obtain ⟨n, rfl⟩ : ∃ k, n = k + 1 := ⟨n - 1, by omega⟩
    have : s = 4 := by omega
    subst this
    rw [f_X8_town_30.eq_2, if_pos (show (4 : Int32) ≤ nI 4 from by decide)]
    exact ⟨g', rfl, E, V⟩
  | succ d ih =>
    intro s n g' hs hn E V
    obtain ⟨n, rfl⟩ : ∃ k, n = k + 1 := ⟨n - 1, by omega⟩
    rw [f_X8_town_30.eq_2, if_neg (show ¬ (4 : Int32) ≤ nI s from nI_ge (b := 4) (by omega) (by decide)), if_pos ((pu_in (by omega)).mpr (by omega)), if_pos ((pu_in (by omega)).mpr (by omega)), pu_tn (by omega), show nI s + (1 : Int32) = nI (s + 1) from nI_add s 1]
    refine ih (s + 1) n _ (by omega) (by omega) (fun a b q => by rw [am_u_at, if_neg (by omega), E a b q]) (fun t ht => ?_)
    rw [am_u_at]
    by_cases h : t = s
    · rw [if_pos ⟨rfl, h⟩, h, E 33 s (by omega)]
    · rw [if_neg (by omega), V t (by omega)]
def tw_c (g h : am_G) (t : Nat) : Prop := h 28 t = g 34 (5 * t) ∧ h 29 t = g 34 (5 * t + 1) ∧ h 30 t = g 34 (5 * t + 2) ∧ h 31 t = g 34 (5 * t + 4) ∧ h 32 t = g 34 (5 * t + 3) ∧ h 32 (6 + t) = -9
theorem tw_55 {F : Nat} {g : am_G} (K : am_G → Option (Int32 × am_G)) : ∀ (d k n : Nat) (g' : am_G), k + d = 6 → d < n → (∀ a b, (a ≠ 28 ∧ a ≠ 29 ∧ a ≠ 30 ∧ a ≠ 31 ∧ (a ≠ 32 ∨ 12 ≤ b)) → g' a b = g a b) → (∀ t, t < k → tw_c g g' t) →
    ∃ h, f_X8_town_55 F K n (nI k) g' = K h ∧ (∀ a b, (a ≠ 28 ∧ a ≠ 29 ∧ a ≠ 30 ∧ a ≠ 31 ∧ (a ≠ 32 ∨ 12 ≤ b)) → h a b = g a b) ∧ ∀ t, t < 6 → tw_c g h t := by
  intro d
  induction d with
  | zero =>
    intro k n g' hk hn E V
    obtain ⟨n, rfl⟩ : ∃ j, n = j + 1 := ⟨n - 1, by omega⟩
    have : k = 6 := by omega
    subst this
    rw [f_X8_town_55.eq_2, if_pos (show (6 : Int32) ≤ nI 6 from by decide)]
    exact ⟨g', rfl, E, V⟩
  | succ d ih =>
    intro k n g' hk hn E V
    obtain ⟨n, rfl⟩ : ∃ j, n = j + 1 := ⟨n - 1, by omega⟩
    have k0 : (5 : Int32) * nI k = nI (5 * k) := pu_mul 5 k
    have k1 : nI (5 * k) + (1 : Int32) = nI (5 * k + 1) := nI_add (5 * k) 1
    have k2 : nI (5 * k) + (2 : Int32) = nI (5 * k + 2) := nI_add (5 * k) 2
    have k3 : nI (5 * k) + (3 : Int32) = nI (5 * k + 3) := nI_add (5 * k) 3
    have k4 : nI (5 * k) + (4 : Int32) = nI (5 * k + 4) := nI_add (5 * k) 4
    have k6 : (6 : Int32) + nI k = nI (6 + k) := nI_add 6 k
    have i0 : am_in (nI (5 * k)) 30 := (pu_in (by omega)).mpr (by omega)
    have i1 : am_in (nI (5 * k + 1)) 30 := (pu_in (by omega)).mpr (by omega)
    have i2 : am_in (nI (5 * k + 2)) 30 := (pu_in (by omega)).mpr (by omega)
    have i3 : am_in (nI (5 * k + 3)) 30 := (pu_in (by omega)).mpr (by omega)
    have i4 : am_in (nI (5 * k + 4)) 30 := (pu_in (by omega)).mpr (by omega)
    have i6 : am_in (nI k) 6 := (pu_in (by omega)).mpr (by omega)
    have i26 : am_in (nI k) 26 := (pu_in (by omega)).mpr (by omega)
    have i62 : am_in (nI (6 + k)) 26 := (pu_in (by omega)).mpr (by omega)
    have v0 := pu_tn (show 5 * k < 2147483648 by omega)
    have v1 := pu_tn (show 5 * k + 1 < 2147483648 by omega)
    have v2 := pu_tn (show 5 * k + 2 < 2147483648 by omega)
    have v3 := pu_tn (show 5 * k + 3 < 2147483648 by omega)
    have v4 := pu_tn (show 5 * k + 4 < 2147483648 by omega)
    have vk := pu_tn (show k < 2147483648 by omega)
    have v6 := pu_tn (show 6 + k < 2147483648 by omega)
    have z : ∀ j, g' 34 j = g 34 j := fun j => E 34 j (by omega)
    obtain ⟨q, hq⟩ : ∃ q, q = am_u (am_u (am_u (am_u (am_u (am_u g' 28 k (g 34 (5 * k))) 29 k (g 34 (5 * k + 1))) 30 k (g 34 (5 * k + 2))) 31 k (g 34 (5 * k + 4))) 32 k (g 34 (5 * k + 3))) 32 (6 + k) (-9) := ⟨_, rfl⟩
    have hst : f_X8_town_55 F K (n + 1) (nI k) g' = f_X8_town_55 F K n (nI (k + 1)) q := by
      rw [f_X8_town_55.eq_2, if_neg (show ¬ (6 : Int32) ≤ nI k from nI_ge (b := 6) (by omega) (by decide)), hq]
      have n34 : ∀ (h : am_G) (a b : Nat) (v : Int32) (j : Nat), a ≠ 34 → am_u h a b v 34 j = h 34 j := fun h a b v j ha => by rw [am_u_at, if_neg (by omega)]
      simp only [k0, k1, k2, k3, k4, k6, if_pos i0, if_pos i1, if_pos i2, if_pos i3, if_pos i4, if_pos i6, if_pos i26, if_pos i62, v0, v1, v2, v3, v4, vk, v6, f_X8_town_91, f_X8_town_123, n34 _ 28 _ _ _ (by decide), n34 _ 29 _ _ _ (by decide), n34 _ 30 _ _ _ (by decide), n34 _ 31 _ _ _ (by decide), z, show nI k + (1 : Int32) = nI (k + 1) from nI_add k 1]
    rw [hst]
    refine ih (k + 1) n q (by omega) (by omega) (fun a b c => ?_) (fun t ht => ?_)
    · rw [hq, am_u_at, if_neg (by omega), am_u_at, if_neg (by omega), am_u_at, if_neg (by omega), am_u_at, if_neg (by omega), am_u_at, if_neg (by omega), am_u_at, if_neg (by omega), E a b c]
    · by_cases h : t = k
      · subst h
        refine ⟨?_, ?_, ?_, ?_, ?_, ?_⟩
        · rw [hq, am_u_at, if_neg (by omega), am_u_at, if_neg (by omega), am_u_at, if_neg (by omega), am_u_at, if_neg (by omega), am_u_at, if_neg (by omega), am_u_at, if_pos ⟨rfl, rfl⟩]
        · rw [hq, am_u_at, if_neg (by omega), am_u_at, if_neg (by omega), am_u_at, if_neg (by omega), am_u_at, if_neg (by omega), am_u_at, if_pos ⟨rfl, rfl⟩]
        · rw [hq, am_u_at, if_neg (by omega), am_u_at, if_neg (by omega), am_u_at, if_neg (by omega), am_u_at, if_pos ⟨rfl, rfl⟩]
        · rw [hq, am_u_at, if_neg (by omega), am_u_at, if_neg (by omega), am_u_at, if_pos ⟨rfl, rfl⟩]
        · rw [hq, am_u_at, if_neg (by omega), am_u_at, if_pos ⟨rfl, rfl⟩]
        · rw [hq, am_u_at, if_pos ⟨rfl, rfl⟩]
      · have r : ∀ a b, (a ≠ 32 → b = t) → (a = 32 → b = t ∨ b = 6 + t) → q a b = g' a b := fun a b h1 h2 => by
          rw [hq, am_u_at, if_neg (by omega), am_u_at, if_neg (by omega), am_u_at, if_neg (by omega), am_u_at, if_neg (by omega), am_u_at, if_neg (by omega), am_u_at, if_neg (by omega)]
        obtain ⟨w1, w2, w3, w4, w5, w6⟩ := V t (by omega)
        exact ⟨(r 28 t (by omega) (by omega)).trans w1, (r 29 t (by omega) (by omega)).trans w2, (r 30 t (by omega) (by omega)).trans w3, (r 31 t (by omega) (by omega)).trans w4, (r 32 t (by omega) (by omega)).trans w5, (r 32 (6 + t) (by omega) (by omega)).trans w6⟩
set_option maxHeartbeats 2000000 in
theorem K_town {F : Nat} (hF : 2000 ≤ F) {g : am_G} {w : am_J} (hI : iv_I g w) : ∃ (r : Int32) (g1 : am_G) (g2 : am_G), f_X7_town F g = some (r, g1) ∧ f_X8_town F g1 = some (r, g2) ∧ iv_I g2 w := by
  obtain ⟨len, N, A, nx, fl, a1, a2, a3, a4, a5, a6, hw⟩ := id hI
  obtain ⟨h0, c0, E0, Z0⟩ := rd_read (F := F) (by omega) a1
  have hft := tx_fault (F := F) (by omega) a1
  by_cases hff : tx_ff g len 0 len = -9
  · obtain ⟨m, hm, hlen, -, ⟨⟨v, v1, v9, v5, -⟩, hH⟩, hV⟩ := Z0 hff
    subst hlen
    obtain ⟨gb, cb, Eb, b36, b37, b4, bV⟩ := bl_build (F := F) (by omega) hm a1 v5 (fun k hk => by
      obtain ⟨x, y, a, b, c, ⟨t1, t2, t3, t4, t5⟩, ⟨u1, u2, u3, u4, u5⟩, -⟩ := hV k hk
      rw [t1, t3]
      exact ⟨⟨x, by omega, rfl⟩, ⟨a, by omega, rfl⟩⟩)
    obtain ⟨Xb, fb⟩ := bl_X (h := gb) (fun a b q => Eb a b (by omega)) a1
    obtain ⟨gc, cc, Ec, Vc⟩ := bl_beg (F := F) hm Xb b37 (fun g => f_X4_begin_37 F (g)) m 0 F gb (by omega) (by omega) (fun _ _ _ => rfl) (fun t ht => absurd ht (Nat.not_lt_zero t))
    obtain ⟨g1, hg1⟩ : ∃ g1, g1 = am_u (am_u (am_u (fun a b => if a = 12 ∧ b < 6 then -9 else gc a b) 10 3 (0 : Int32)) 16 1 (0 : Int32)) 18 1 (0 : Int32) := ⟨_, rfl⟩
    have g1_12 : ∀ b, b < 6 → g1 12 b = -9 := fun b hb => by rw [hg1, am_u_at, if_neg (by omega), am_u_at, if_neg (by omega), am_u_at, if_neg (by omega), if_pos ⟨rfl, hb⟩]
    have g1_103 : g1 10 3 = 0 := by rw [hg1, am_u_at, if_neg (by omega), am_u_at, if_neg (by omega), am_u_at, if_pos ⟨rfl, rfl⟩]
    have g1_161 : g1 16 1 = 0 := by rw [hg1, am_u_at, if_neg (by omega), am_u_at, if_pos ⟨rfl, rfl⟩]
    have g1_181 : g1 18 1 = 0 := by rw [hg1, am_u_at, if_pos ⟨rfl, rfl⟩]
    have g1_c : ∀ a b, (a ≠ 12 ∧ (a ≠ 10 ∨ b ≠ 3) ∧ (a ≠ 16 ∨ b ≠ 1) ∧ (a ≠ 18 ∨ b ≠ 1)) → g1 a b = gc a b := fun a b q => by rw [hg1, am_u_at, if_neg (by omega), am_u_at, if_neg (by omega), am_u_at, if_neg (by omega), if_neg (by omega)]
    have g1_b : ∀ a b, (a ≠ 11 ∧ a ≠ 12 ∧ (a ≠ 10 ∨ b ≠ 3) ∧ (a ≠ 16 ∨ b ≠ 1) ∧ (a ≠ 18 ∨ b ≠ 1)) → g1 a b = gb a b := fun a b q => (g1_c a b q.2).trans (Ec a b q.1)
    have g1_0 : ∀ a b, (a ≠ 4 ∧ a ≠ 5 ∧ a ≠ 6 ∧ a ≠ 7 ∧ a ≠ 8 ∧ a ≠ 9 ∧ (a ≠ 3 ∨ (b ≠ 6 ∧ b ≠ 7)) ∧ a ≠ 11 ∧ a ≠ 12 ∧ (a ≠ 10 ∨ b ≠ 3) ∧ (a ≠ 16 ∨ b ≠ 1) ∧ (a ≠ 18 ∨ b ≠ 1)) → g1 a b = g a b := fun a b q => (g1_b a b (by omega)).trans (Eb a b (by omega))
    have cls : f_X7_town F g = some (nI m, g1) := by
      have cbeg : f_X4_begin F gb = some (am_u (fun a b => if a = 12 ∧ b < 6 then -9 else gc a b) 10 3 (0 : Int32)) := by
        unfold f_X4_begin
        refine cc.trans ?_
        show f_X4_begin_37 F gc = _
        rw [f_X4_begin_37, f_J7_fill_53178_12, bl_fill (by omega), Option.bind_some]
      rw [f_X7_town, hft, Option.bind_some, if_pos hff, cb, Option.bind_some, cbeg, Option.bind_some]
      simp only [f_X0_clear, f_X5_clear, f_X2_windows, Option.bind_some, ← hg1]
      rw [g1_b 3 7 (by omega), b37]
    obtain ⟨X1, f1⟩ := bl_X (h := g1) (fun a b q => g1_0 a b (by omega)) a1
    obtain ⟨h, ch, Eh, Zh⟩ := rd_read (F := F) (by omega) X1
    have hff1 : tx_ff g1 (6 * m + 6) 0 (6 * m + 6) = -9 := by rw [tx_ff.of (funext fun b => g1_0 35 b (by omega)), hff]
    obtain ⟨m', hm', hlen', h11, ⟨⟨v', v1', v9', v5', h10⟩, hH'⟩, hV'⟩ := Zh hff1
    have : m' = m := by omega
    subst this
    rw [f1, v5] at v5'
    cases v5'
    obtain ⟨p0, hp0⟩ : ∃ p0, p0 = am_u (am_u h 26 0 (h 26 11)) 26 1 ((am_u h 26 0 (h 26 11)) 26 10) := ⟨_, rfl⟩
    have p0_0 : p0 26 0 = nI m' := by rw [hp0, am_u_at, if_neg (by omega), am_u_at, if_pos ⟨rfl, rfl⟩, h11]
    have p0_1 : p0 26 1 = nI v := by rw [hp0, am_u_at, if_pos ⟨rfl, rfl⟩, am_u_at, if_neg (by omega), h10]
    have p0_h : ∀ a b, (a ≠ 26 ∨ 2 ≤ b) → p0 a b = h a b := fun a b q => by rw [hp0, am_u_at, if_neg (by omega), am_u_at, if_neg (by omega)]
    obtain ⟨p1, d1, G1, U1⟩ := tw_30 (F := F) (g := p0) (fun g => f_X8_town_53 F (g)) 4 0 F p0 (by omega) (by omega) (fun _ _ _ => rfl) (fun t ht => absurd ht (Nat.not_lt_zero t))
    obtain ⟨p2, d2, G2, U2⟩ := tw_55 (F := F) (g := p1) (fun g => f_X8_town_156 F (g)) 6 0 F p1 (by omega) (by omega) (fun _ _ _ => rfl) (fun t ht => absurd ht (Nat.not_lt_zero t))
    obtain ⟨g2, hg2⟩ : ∃ g2, g2 = am_u (am_u (am_u (am_u p2 32 (Int32.toNatClampNeg (12 : Int32)) (0 : Int32)) 26 17 (0 : Int32)) 41 (Int32.toNatClampNeg (0 : Int32)) (vp_nar .boolean (0 : Int32))) 41 (Int32.toNatClampNeg (1 : Int32)) (vp_nar .boolean (0 : Int32)) := ⟨_, rfl⟩
    have hg2' : g2 = am_u (am_u (am_u (am_u p2 32 12 (0 : Int32)) 26 17 (0 : Int32)) 41 0 (0 : Int32)) 41 1 (0 : Int32) := by
      rw [hg2]
      have q0 : vp_nar .boolean (0 : Int32) = 0 := by decide
      have q1 : Int32.toNatClampNeg (12 : Int32) = 12 := by decide
      have q2 : Int32.toNatClampNeg (0 : Int32) = 0 := by decide
      have q3 : Int32.toNatClampNeg (1 : Int32) = 1 := by decide
      rw [q0, q1, q2, q3]
    have g2_32 : g2 32 12 = 0 := by rw [hg2', am_u_at, if_neg (by omega), am_u_at, if_neg (by omega), am_u_at, if_neg (by omega), am_u_at, if_pos ⟨rfl, rfl⟩]
    have g2_17 : g2 26 17 = 0 := by rw [hg2', am_u_at, if_neg (by omega), am_u_at, if_neg (by omega), am_u_at, if_pos ⟨rfl, rfl⟩]
    have g2_410 : g2 41 0 = 0 := by rw [hg2', am_u_at, if_neg (by omega), am_u_at, if_pos ⟨rfl, rfl⟩]
    have g2_411 : g2 41 1 = 0 := by rw [hg2', am_u_at, if_pos ⟨rfl, rfl⟩]
    have g2_2 : ∀ a b, ((a ≠ 32 ∨ b ≠ 12) ∧ (a ≠ 26 ∨ b ≠ 17) ∧ a ≠ 41) → g2 a b = p2 a b := fun a b q => by rw [hg2', am_u_at, if_neg (by omega), am_u_at, if_neg (by omega), am_u_at, if_neg (by omega), am_u_at, if_neg (by omega)]
    have g2_h : ∀ a b, (a ≠ 27 ∧ a ≠ 28 ∧ a ≠ 29 ∧ a ≠ 30 ∧ a ≠ 31 ∧ a ≠ 32 ∧ a ≠ 41 ∧ (a ≠ 26 ∨ (2 ≤ b ∧ b ≠ 17))) → g2 a b = h a b := fun a b q => by
      rw [g2_2 a b (by omega), G2 a b (by omega), G1 a b (by omega), p0_h a b (by omega)]
    have g2_1 : ∀ a b, (a ≠ 27 ∧ a ≠ 28 ∧ a ≠ 29 ∧ a ≠ 30 ∧ a ≠ 31 ∧ a ≠ 32 ∧ a ≠ 41 ∧ a ≠ 33 ∧ a ≠ 34 ∧ (a ≠ 26 ∨ (2 ≤ b ∧ b ≠ 17 ∧ b ≠ 10 ∧ b ≠ 11 ∧ b ≠ 12 ∧ b ≠ 15 ∧ b ≠ 16))) → g2 a b = g1 a b := fun a b q => by
      rw [g2_h a b (by omega), Eh a b (by omega)]
    have g2_00 : g2 26 0 = nI m' := by rw [g2_2 26 0 (by omega), G2 26 0 (by omega), G1 26 0 (by omega), p0_0]
    have g2_01 : g2 26 1 = nI v := by rw [g2_2 26 1 (by omega), G2 26 1 (by omega), G1 26 1 (by omega), p0_1]
    have ref : f_X8_town F g1 = some (nI m', g2) := by
      rw [f_X8_town, ch, Option.bind_some]
      show (if tx_ff g1 (6 * m' + 6) 0 (6 * m' + 6) = (-9 : Int32) then f_X8_town_30 F (fun g => f_X8_town_53 F (g)) F ((0 : Int32)) (am_u (am_u h 26 0 (h 26 11)) 26 1 ((am_u h 26 0 (h 26 11)) 26 10)) else some ((-3 : Int32), h)) = _
      rw [if_pos hff1, ← hp0]
      refine d1.trans ?_
      show f_X8_town_53 F p1 = _
      rw [f_X8_town_53]
      refine d2.trans ?_
      show f_X8_town_156 F p2 = _
      rw [f_X8_town_156, ← hg2, g2_00]
    refine ⟨nI m', g1, g2, cls, ref, ?_⟩
    -- the town's figures, on both sides
    have wd : ∀ s, s < 4 → g2 4 s = g2 27 s ∧ iv_b (g2 27 s) 4 := by
      intro s hs
      obtain ⟨u, u1, u2, u3⟩ := hH' s hs
      have q1 : g2 27 s = nI u := by rw [g2_2 27 s (by omega), G2 27 s (by omega), U1 s hs, p0_h 33 s (by omega), u3]
      have q2 : g2 4 s = nI u := by
        rw [g2_1 4 s (by omega), g1_b 4 s (by omega), b4 s hs, ← f1, u2]
        rfl
      exact ⟨q2.trans q1.symm, u, by omega, q1⟩
    have wn : ∀ k, k < m' → ∃ x y a b c, (x ≤ 9 ∧ y ≤ 1 ∧ a ≤ 3 ∧ b ≤ 3 ∧ c ≤ 3) ∧ (gb 5 k = nI x ∧ gb 6 k = nI y ∧ gb 7 k = nI a ∧ gb 8 k = nI c) ∧ (g2 28 k = nI x ∧ g2 29 k = nI y ∧ g2 30 k = nI a ∧ g2 31 k = nI c) ∧ g1 11 k = nI b ∧ g2 32 k = nI b ∧ g2 32 (6 + k) = -9 := by
      intro k hk
      obtain ⟨x, y, a, b, c, ⟨t1, t2, t3, t4, t5⟩, us, w1, w2, w3, w4, w5⟩ := hV' k hk
      obtain ⟨⟨z1, z2, z3, z4⟩, -⟩ := bV k hk
      obtain ⟨y1, y2, y3, y4, y5, y6⟩ := U2 k (by omega)
      have p34 : ∀ j, p1 34 j = h 34 j := fun j => by rw [G1 34 j (by omega), p0_h 34 j (by omega)]
      rw [f1] at t1 t2 t3 t4 t5
      refine ⟨x, y, a, b, c, us, ⟨?_, ?_, ?_, ?_⟩, ⟨?_, ?_, ?_, ?_⟩, ?_, ?_, ?_⟩
      · rw [z1, t1]; rfl
      · rw [z2, t2]; rfl
      · rw [z3, t3]; rfl
      · rw [z4, t5]; rfl
      · rw [g2_2 28 k (by omega), y1, p34, w1]
      · rw [g2_2 29 k (by omega), y2, p34, w2]
      · rw [g2_2 30 k (by omega), y3, p34, w3]
      · rw [g2_2 31 k (by omega), y4, p34, w5]
      · rw [g1_c 11 k (by omega), Vc k hk, fb, t4]; rfl
      · rw [g2_2 32 k (by omega), y5, p34, w4]
      · rw [g2_2 32 (6 + k) (by omega), y6]
    have hsee : ∀ k, k < m' → g2 9 k = nI (iv_bits (iv_see g2 k) m') := by
      intro k hk
      obtain ⟨x, y, a, b, c, -, ⟨z1, z2, z3, z4⟩, ⟨y1, y2, y3, y4⟩, -⟩ := wn k hk
      rw [g2_1 9 k (by omega), g1_b 9 k (by omega), (bV k hk).2]
      congr 1
      apply bi_cong
      intro o ho
      obtain ⟨x', y', a', b', c', -, ⟨z1', z2', z3', z4'⟩, ⟨y1', y2', y3', y4'⟩, -⟩ := wn o ho
      unfold bl_see iv_see
      rw [z1, z2, z3, z1', z2', z3', y1, y2, y3, y1', y2', y3', b36, g2_01]
    refine ⟨6 * m' + 6, m', 0, nx, fl, ?_, ⟨hm, ?_, g2_00, ?_, ⟨v, v1, v9, g2_01⟩, wd, ?_⟩, ⟨?_, ?_⟩, ?_, ?_, ?_, hw⟩
    · exact iv_X.of2 (fun a b q => g2_1 a b (by omega)) X1
    · rw [g2_1 3 7 (by omega), g1_b 3 7 (by omega), b37]
    · rw [g2_1 3 6 (by omega), g1_b 3 6 (by omega), b36, g2_01]
    · intro k hk
      obtain ⟨x, y, a, b, c, ⟨u1, u2, u3, u4, u5⟩, ⟨z1, z2, z3, z4⟩, ⟨y1, y2, y3, y4⟩, -⟩ := wn k hk
      refine ⟨⟨?_, x, by omega, y1⟩, ⟨?_, y, by omega, y2⟩, ⟨?_, a, by omega, y3⟩, ⟨?_, c, by omega, y4⟩, hsee k hk⟩
      · rw [g2_1 5 k (by omega), g1_b 5 k (by omega), z1, y1]
      · rw [g2_1 6 k (by omega), g1_b 6 k (by omega), z2, y2]
      · rw [g2_1 7 k (by omega), g1_b 7 k (by omega), z3, y3]
      · rw [g2_1 8 k (by omega), g1_b 8 k (by omega), z4, y4]
    · refine iv_nowI hm (fun k hk => ?_) ?_
      · obtain ⟨x, y, a, b, c, -, -, -, s1, s2, s3⟩ := wn k hk
        refine ⟨?_, ?_⟩
        · rw [g2_1 11 k (by omega), s1, s2]
        · rw [g2_1 12 k (by omega), g1_12 k (by omega), s3]
      · rw [g2_1 10 3 (by omega), g1_103, g2_32]
    · intro k hk
      obtain ⟨x, y, a, b, c, ⟨u1, u2, u3, u4, u5⟩, -, -, s1, s2, s3⟩ := wn k hk
      exact ⟨⟨b, by omega, s2⟩, Or.inl s3⟩
    · refine ⟨by omega, a4.2.1, ?_, ?_, ?_, fun j hj => absurd hj (Nat.not_lt_zero j)⟩
      · rw [g2_1 16 1 (by omega), g1_161]; rfl
      · rw [g2_17]; rfl
      · rw [g2_1 26 18 (by omega), g1_0 26 18 (by omega), a4.2.2.2.2.1]
    · refine ⟨Or.inl g2_410, Or.inl g2_411, ?_, fun s hs h1 => ?_⟩
      · rw [g2_1 18 1 (by omega), g1_181, g2_410, g2_411]; rfl
      · have : s = 0 ∨ s = 1 := by omega
        rcases this with rfl | rfl
        · rw [g2_410] at h1; exact absurd h1 (by decide)
        · rw [g2_411] at h1; exact absurd h1 (by decide)
    · exact iv_F.of2 (fun a b q => by rw [g2_1 a b (by omega), g1_0 a b (by omega)]) a6
  · refine ⟨-3, g, h0, ?_, ?_, E0.same.I hw hI⟩
    · rw [f_X7_town, hft, Option.bind_some, if_neg hff]
    · rw [f_X8_town, c0, Option.bind_some]
      show (if tx_ff g len 0 len = (-9 : Int32) then _ else some ((-3 : Int32), h0)) = _
      rw [if_neg hff]
