/-! A TRIAL: the class's and the reference's side by side -/
def tr_C (g : am_G) (N : Nat) : Prop := iv_W g N ∧ ∀ k, k < N → iv_b (g 14 k) 4 ∧ (g 15 k = -9 ∨ ∃ s, s < 4 ∧ g 15 k = g 27 s)
def tr_R (g h : am_G) (N : Nat) : Prop := iv_W h N ∧ h 27 = g 27 ∧ (∀ k o, iv_see h k o = iv_see g k o) ∧ ∀ k, k < N → g 14 k = h 32 (13 + k) ∧ g 15 k = h 32 (19 + k) ∧ h 31 k = g 8 k
def tr_o (g g1 : am_G) : Prop := ∀ a b, a ≠ 13 ∧ a ≠ 14 ∧ a ≠ 15 → g1 a b = g a b
def tr_p (h h1 : am_G) : Prop := ∀ a b, a ≠ 32 ∨ b < 13 → h1 a b = h a b
theorem tr_o.refl (g : am_G) : tr_o g g := fun _ _ _ => rfl
theorem tr_p.refl (g : am_G) : tr_p g g := fun _ _ _ => rfl
theorem tr_o.trans {a b c : am_G} (h1 : tr_o a b) (h2 : tr_o b c) : tr_o a c := fun x y h => (h2 x y h).trans (h1 x y h)
theorem tr_p.trans {a b c : am_G} (h1 : tr_p a b) (h2 : tr_p b c) : tr_p a c := fun x y h => (h2 x y h).trans (h1 x y h)
theorem tr_o.W {g g1 : am_G} {N : Nat} (h : tr_o g g1) (hW : iv_W g N) : iv_W g1 N := hW.of2 fun a b hab => h a b (by omega)
theorem tr_p.W {g g1 : am_G} {N : Nat} (h : tr_p g g1) (hW : iv_W g N) : iv_W g1 N := hW.of2 fun a b hab => h a b (by omega)
theorem tr_o.see {g g1 : am_G} (h : tr_o g g1) (k o : Nat) : iv_see g1 k o = iv_see g k o := by
  simp only [iv_see, h 29 _ (by omega), h 28 _ (by omega), h 30 _ (by omega), h 26 1 (by omega)]
theorem tr_p.see {g g1 : am_G} (h : tr_p g g1) (k o : Nat) : iv_see g1 k o = iv_see g k o := by
  simp only [iv_see, h 29 k (by omega), h 28 k (by omega), h 30 k (by omega), h 29 o (by omega), h 28 o (by omega), h 30 o (by omega), h 26 1 (by omega)]
/-- the relation behind a step on both sides -/
theorem tr_R.step {g h g1 h1 : am_G} {N : Nat} (hR : tr_R g h N) (o : tr_o g g1) (p : tr_p h h1) (hk : ∀ k, k < N → g1 14 k = h1 32 (13 + k) ∧ g1 15 k = h1 32 (19 + k)) : tr_R g1 h1 N := by
  obtain ⟨r1, r2, r3, r4⟩ := hR
  refine ⟨p.W r1, ?_, fun k o' => ?_, fun k hk' => ⟨(hk k hk').1, (hk k hk').2, ?_⟩⟩
  · rw [show h1 27 = h 27 from funext fun b => p 27 b (by omega), r2, show g1 27 = g 27 from funext fun b => o 27 b (by omega)]
  · rw [p.see, r3, o.see]
  · rw [p 31 k (by omega), (r4 k hk').2.2, o 8 k (by omega)]
def tr_step (N : Nat) (fc fr : am_G → Option (Int32 × am_G)) : Prop := ∀ g, tr_C g N → ∃ r g', fc g = some (r, g') ∧ tr_o g g' ∧ tr_C g' N ∧ ∀ h, tr_R g h N → ∃ h', fr h = some (r, h') ∧ tr_p h h' ∧ tr_R g' h' N
theorem tr_blow {F N : Nat} (hF : 7 ≤ F) : tr_step N (fun g => f_X4_blow_13 F g) (fun h => f_X8_windOn F h 1) := by
  intro g hC
  have hW := hC.1
  have hN := hW.1
  have ho : tr_o g (wd_b g 14 N) := fun a b hab => by simp only [wd_b]; rw [if_neg (by omega)]
  have e14 : ∀ k, k < N → wd_b g 14 N 14 k = if g 8 k = 2 then g 14 k ^^^ 1 else g 14 k := fun k hk => by
    simp only [wd_b]
    by_cases h : g 8 k = 2
    · rw [if_pos ⟨trivial, hk, h⟩, if_pos h]
    · rw [if_neg (fun z => h z.2.2), if_neg h]
  have e15 : ∀ k, wd_b g 14 N 15 k = g 15 k := fun k => by simp only [wd_b]; rw [if_neg (by omega)]
  refine ⟨_, _, wd_blow_13 hF hW, ho, ⟨ho.W hW, fun k hk => ?_⟩, fun h hR => ?_⟩
  · rw [e14 k hk, e15, show wd_b g 14 N 27 = g 27 from funext fun b => ho 27 b (by omega)]
    refine ⟨?_, (hC.2 k hk).2⟩
    split
    · exact wd_xor (hC.2 k hk).1
    · exact (hC.2 k hk).1
  · have hp : tr_p h (wd_w h 13 N) := fun a b hab => by simp only [wd_w]; rw [if_neg (by omega)]
    refine ⟨wd_w h 13 N, ?_, hp, hR.step ho hp fun k hk => ?_⟩
    · refine (wd_windOn hF hR.1 1 (by decide)).trans ?_
      congr 3
      apply bi_cong
      intro k hk
      rw [(hR.2.2.2 k hk).2.2]
    · rw [e14 k hk, e15]
      obtain ⟨c1, c2, c3⟩ := hR.2.2.2 k hk
      constructor
      · simp only [wd_w]
        rw [Nat.add_sub_cancel_left, c3, c1]
        by_cases h : g 8 k = 2
        · rw [if_pos h, if_pos ⟨trivial, by omega, by omega, h⟩]
        · rw [if_neg h, if_neg (fun z => h z.2.2.2)]
      · simp only [wd_w]
        rw [if_neg (by omega), c2]
theorem tr_strike {F N : Nat} (hF : 7 ≤ F) : tr_step N (fun g => f_X4_strike_13 F g) (fun h => f_X8_hourOn F h 1) := by
  intro g hC
  have hW := hC.1
  have hN := hW.1
  obtain ⟨g1, hg1⟩ : ∃ g1, g1 = am_u (hr_c g 14 15 N) 13 3 (g 13 3 + 1) := ⟨_, rfl⟩
  have ho : tr_o g g1 := fun a b hab => by rw [hg1, am_u_at, if_neg (by omega)]; simp only [hr_c]; rw [if_neg (by omega), if_neg (by omega)]
  have z1 : ∀ a b, a = 14 ∨ a = 15 → g1 a b = hr_c g 14 15 N a b := fun a b hb => by rw [hg1, am_u_at, if_neg (by omega)]
  refine ⟨nI (iv_bits (hr_p g 14 15) N), g1, ?_, ho, ⟨ho.W hW, fun k hk => ?_⟩, fun h hR => ?_⟩
  · rw [hg1]
    exact hr_strike_13 hF hW (fun k hk => (hC.2 k hk).1) (fun k hk => (hC.2 k hk).2)
  · rw [z1 14 k (by omega), z1 15 k (by omega), hr_c_st g (by decide) hk, hr_c_du g (by decide) hk]
    refine ⟨?_, Or.inl rfl⟩
    split
    · exact (hC.2 k hk).1
    · exact ⟨_, ls_lt _ _, rfl⟩
  · obtain ⟨r1, r2, r3, r4⟩ := hR
    obtain ⟨h1, hh1⟩ : ∃ h1, h1 = am_u (hr_r h 13 N) 32 25 (h 32 25 + 1) := ⟨_, rfl⟩
    have hp : tr_p h h1 := fun a b hab => by rw [hh1, am_u_at, if_neg (by omega)]; simp only [hr_r]; rw [if_neg (by omega), if_neg (by omega)]
    have y1 : ∀ b, b ≠ 25 → h1 32 b = hr_r h 13 N 32 b := fun b hb => by rw [hh1, am_u_at, if_neg (by omega)]
    refine ⟨h1, ?_, hp, tr_R.step ⟨r1, r2, r3, r4⟩ ho hp fun k hk => ?_⟩
    · have := hr_ref hF r1 1 (by decide) (fun k hk => by rw [show 13 * 1 + k = 13 + k by omega, ← (r4 k hk).1]; exact (hC.2 k hk).1) (fun k hk => by rw [show 13 * 1 + 6 + k = 19 + k by omega, ← (r4 k hk).2.1, r2]; exact (hC.2 k hk).2)
      refine this.trans ?_
      rw [hh1]
      congr 3
      apply bi_cong
      intro k hk
      simp only [hr_p, hr_q, Nat.mul_one, show 13 + 6 + k = 19 + k by omega, ← (r4 k hk).1, ← (r4 k hk).2.1, r2]
    · rw [z1 14 k (by omega), z1 15 k (by omega), hr_c_st g (by decide) hk, hr_c_du g (by decide) hk, y1 (13 + k) (by omega), y1 (19 + k) (by omega)]
      have q1 := hr_r_st h (off := 13) hk hN
      have q2 := hr_r_du h (off := 13) hk hN
      rw [show 13 + 6 + k = 19 + k by omega] at q1 q2
      rw [q1, q2, ← (r4 k hk).1, ← (r4 k hk).2.1, r2]
      exact ⟨rfl, rfl⟩
def tr_mv (g : am_G) (p q : Int32) : Option (Int32 × am_G) := (f_X4_canShift_13 g p q).bind fun c => if c = 0 then some (0, g) else (f_X4_shift_13 g p q).bind fun g' => some (1, g')
theorem tr_move {N : Nat} (p q : Int32) : tr_step N (fun g => tr_mv g p q) (fun h => f_X8_tryMove h p q) := by
  intro g hC
  have hW := hC.1
  have hN := hW.1
  have hno : ∀ h, f_X8_tryMove_47 p q h = some (0, h) := fun h => rfl
  rcases pb_range hN p with hp | ⟨k, hk, rfl⟩
  · refine ⟨0, g, ?_, tr_o.refl g, hC, fun h hR => ⟨h, ?_, tr_p.refl h, hR⟩⟩
    · simp only [tr_mv, f_X4_canShift_13, (pb_no hW hp).1, Option.bind_some, if_pos]
    · simp only [f_X8_tryMove, (pb_no hR.1 hp).2, Option.bind_some, if_pos, hno]
  rcases pb_isState_cases q with hq | ⟨s, hs, rfl, hq⟩
  · refine ⟨0, g, ?_, tr_o.refl g, hC, fun h hR => ⟨h, ?_, tr_p.refl h, hR⟩⟩
    · simp only [tr_mv, f_X4_canShift_13, (pb_yes hW hk).1, hq, Option.bind_some, if_neg pb_10, if_pos]
    · simp only [f_X8_tryMove, (pb_yes hR.1 hk).2, ← pb_isState, hq, Option.bind_some, if_neg pb_10, if_pos, hno]
  have h6 : am_in (nI k) 6 := pb_i6 (by omega)
  have tk := pu_tn (show k < 2147483648 by omega)
  have e13 : (13 : Int32) + nI k = nI (13 + k) := nI_add 13 k
  have t13 := pu_tn (show 13 + k < 2147483648 by omega)
  have i13 : am_in (nI (13 + k)) 26 := (pu_in (by omega)).mpr (by omega)
  by_cases hd : g 8 k = 3
  · refine ⟨0, g, ?_, tr_o.refl g, hC, fun h hR => ⟨h, ?_, tr_p.refl h, hR⟩⟩
    · simp only [tr_mv, f_X4_canShift_13, (pb_yes hW hk).1, hq, pb_kind hW hk, Option.bind_some, if_neg pb_10, if_pos hd, if_pos]
    · simp only [f_X8_tryMove, (pb_yes hR.1 hk).2, ← pb_isState, hq, Option.bind_some, if_neg pb_10, if_pos h6, tk, (hR.2.2.2 k hk).2.2, if_pos hd, hno]
  by_cases he : g 14 k = nI s
  · refine ⟨0, g, ?_, tr_o.refl g, hC, fun h hR => ⟨h, ?_, tr_p.refl h, hR⟩⟩
    · simp only [tr_mv, f_X4_canShift_13, (pb_yes hW hk).1, hq, pb_kind hW hk, Option.bind_some, if_neg pb_10, if_neg hd, if_pos h6, tk, if_pos he, if_pos]
    · simp only [f_X8_tryMove, (pb_yes hR.1 hk).2, ← pb_isState, hq, Option.bind_some, if_neg pb_10, if_pos h6, tk, (hR.2.2.2 k hk).2.2, if_neg hd, e13, t13, if_pos i13, ← (hR.2.2.2 k hk).1, if_pos he, hno]
  obtain ⟨g1, hg1⟩ : ∃ g1, g1 = am_u g 14 k (nI s) := ⟨_, rfl⟩
  have ho : tr_o g g1 := fun a b hab => by rw [hg1, am_u_at, if_neg (by omega)]
  have e14 : ∀ j, g1 14 j = if j = k then nI s else g 14 j := fun j => by
    rw [hg1, am_u_at]
    by_cases hj : j = k
    · rw [if_pos ⟨rfl, hj⟩, if_pos hj]
    · rw [if_neg (fun z => hj z.2), if_neg hj]
  have e15 : ∀ j, g1 15 j = g 15 j := fun j => by rw [hg1, am_u_at, if_neg (by omega)]
  refine ⟨1, g1, ?_, ho, ⟨ho.W hW, fun j hj => ?_⟩, fun h hR => ?_⟩
  · simp only [tr_mv, f_X4_canShift_13, (pb_yes hW hk).1, hq, pb_kind hW hk, Option.bind_some, if_neg pb_10, if_neg hd, if_pos h6, tk, if_neg he, sh_13 hW hk hs, ← hg1]
  · rw [e14, e15, show g1 27 = g 27 from funext fun b => ho 27 b (by omega)]
    refine ⟨?_, (hC.2 j hj).2⟩
    split
    · exact ⟨s, hs, rfl⟩
    · exact (hC.2 j hj).1
  · obtain ⟨h1, hh1⟩ : ∃ h1, h1 = am_u h 32 (13 + k) (nI s) := ⟨_, rfl⟩
    have hp : tr_p h h1 := fun a b hab => by rw [hh1, am_u_at, if_neg (by omega)]
    refine ⟨h1, ?_, hp, hR.step ho hp fun j hj => ?_⟩
    · simp only [f_X8_tryMove, (pb_yes hR.1 hk).2, ← pb_isState, hq, Option.bind_some, if_neg pb_10, if_pos h6, tk, (hR.2.2.2 k hk).2.2, if_neg hd, e13, t13, if_pos i13, ← (hR.2.2.2 k hk).1, if_neg he, f_X8_tryMove_48, ← hh1]
      rw [if_pos (Or.inr trivial)]
    · rw [e14, e15, hh1, am_u_at, am_u_at, if_neg (show ¬ (32 = 32 ∧ 19 + j = 13 + k) by omega), (hR.2.2.2 j hj).1, (hR.2.2.2 j hj).2.1]
      refine ⟨?_, rfl⟩
      by_cases hj2 : j = k
      · rw [if_pos hj2, if_pos ⟨rfl, by omega⟩]
      · rw [if_neg hj2, if_neg (by omega)]
theorem tr_alike {F N : Nat} (hF : 7 ≤ F) {g h : am_G} (hC : tr_C g N) (hR : tr_R g h N) : f_X8_alike F h 1 = some (nI (al_n g (g 14) N)) := by
  have := al_ref hF hR.1 (lv := 1) (by decide) (fun k hk => by rw [show 13 * 1 + k = 13 + k by omega, ← (hR.2.2.2 k hk).1]; exact (hC.2 k hk).1)
  refine Eq.trans (show _ = f_X8_alike F h (nI 1) from rfl) (this.trans ?_)
  congr 2
  refine al_cong hR.2.2.1 hR.2.1 (fun k hk => ?_)
  show h 32 (13 * 1 + k) = g 14 k
  rw [show 13 * 1 + k = 13 + k by omega, ← (hR.2.2.2 k hk).1]
theorem tr_copy (g : am_G) : ∃ g1, f_X4_copy g = some g1 ∧ tr_o g g1 ∧ (∀ k, k < 6 → g1 14 k = g 11 k ∧ g1 15 k = g 12 k) := by
  have t0 : Int32.toNatClampNeg (0 : Int32) = 0 := by decide
  have t6 : Int32.toNatClampNeg (6 : Int32) = 6 := by decide
  refine ⟨_, rfl, fun a b hab => ?_, fun k hk => ?_⟩
  · rw [t0, t6, am_u_at, if_neg (by omega), am_cp_at, if_neg (by omega), am_cp_at, if_neg (by omega)]
  · rw [t0, t6]
    constructor
    · rw [am_u_at, if_neg (by omega), am_cp_at, if_neg (by omega), am_cp_at, if_pos (by omega), Nat.zero_add, Nat.sub_zero]
    · rw [am_u_at, if_neg (by omega), am_cp_at, if_pos (by omega), am_cp_at, if_neg (by omega), Nat.zero_add, Nat.sub_zero]
theorem tr_lay {F n : Nat} (hn : 13 < n) (g : am_G) : f_X8_layTrial_2 F n 0 g = some (am_cp g 32 32 0 13 13) := by
  have := (pu_loop (fun n i h => f_X8_layTrial_2 F n (nI i) h) (fun h => some h) (fun i h => am_u h 32 (13 + i) (g 32 i)) 13 (fun i h => h = am_cp g 32 32 0 13 i) (fun n i h hi hh => ?_) (fun n h hh => ?_) 13 0 g n (by omega) (by omega) (ac_cp0 ..).symm)
  · obtain ⟨e, e2⟩ := this
    refine e.trans ?_
    rw [e2]
  · subst hh
    have e2 : (13 : Int32) + nI i = nI (13 + i) := nI_add 13 i
    have e3 : am_cp g 32 32 0 13 i 32 i = g 32 i := by rw [am_cp_at, if_neg (by omega)]
    constructor
    · show f_X8_layTrial_2 F (n + 1) (nI i) _ = f_X8_layTrial_2 F n (nI (i + 1)) _
      rw [f_X8_layTrial_2.eq_2]
      simp only [e2, pu_tn (show i < 2147483648 by omega), pu_tn (show 13 + i < 2147483648 by omega), e3]
      rw [if_neg (show ¬ (13 : Int32) ≤ nI i from nI_ge (b := 13) hi (by decide)), if_pos ((pu_in (by omega)).mpr (by omega)), if_pos ((pu_in (by omega)).mpr (by omega)), show nI i + (1 : Int32) = nI (i + 1) from nI_add i 1]
    · have := ac_cpS g 32 32 0 13 i
      rwa [Nat.zero_add] at this
  · show f_X8_layTrial_2 F (n + 1) (nI 13) _ = _
    rw [f_X8_layTrial_2.eq_2, if_pos (show (13 : Int32) ≤ nI 13 from by decide)]
/-- the class copies, anything goes on in its trial, the reference lays its own: they are alike -/
theorem tr_start {g : am_G} {w : am_J} {N : Nat} (hW : iv_W g N) (hS : iv_E N (iv_C g) (g 32) ∧ iv_O g N (g 32)) : ∃ g0, f_X4_copy g = some g0 ∧ tr_o g g0 ∧ tr_C g0 N ∧ ∀ g1, tr_o g0 g1 → ∀ F, 13 < F → ∃ h0, f_X8_layTrial F g1 = some h0 ∧ tr_p g1 h0 ∧ tr_R g0 h0 N := by
  have hN := hW.1
  obtain ⟨g0, c1, c2, c3⟩ := tr_copy g
  have q27 : g0 27 = g 27 := funext fun b => c2 27 b (by omega)
  refine ⟨g0, c1, c2, ⟨c2.W hW, fun k hk => ?_⟩, fun g1 h1 F hF => ⟨am_cp g1 32 32 0 13 13, tr_lay hF g1, ?_, ?_⟩⟩
  · obtain ⟨d1, d2⟩ := c3 k (by omega)
    obtain ⟨n1, n2⟩ := iv_now hN hk hS.1
    rw [d1, d2, n1, n2, q27]
    exact hS.2 k hk
  · intro a b hab
    rw [am_cp_at, if_neg (by omega)]
  · have hp : tr_p g1 (am_cp g1 32 32 0 13 13) := fun a b hab => by rw [am_cp_at, if_neg (by omega)]
    refine ⟨hp.W (h1.W (c2.W hW)), ?_, fun k o => ?_, fun k hk => ?_⟩
    · rw [show am_cp g1 32 32 0 13 13 27 = g1 27 from funext fun b => hp 27 b (by omega), show g1 27 = g0 27 from funext fun b => h1 27 b (by omega)]
    · rw [hp.see, h1.see]
    · obtain ⟨d1, d2⟩ := c3 k (by omega)
      obtain ⟨n1, n2⟩ := iv_now hN hk hS.1
      rw [d1, d2, n1, n2, am_cp_at, if_pos (by omega), am_cp_at, if_pos (by omega), hp 31 k (by omega), h1 31 k (by omega), c2 31 k (by omega), c2 8 k (by omega), h1 32 _ (by omega), h1 32 _ (by omega), c2 32 _ (by omega), c2 32 _ (by omega), (hW.2.2.2.2.2.2 k hk).2.2.2.1.1]
      refine ⟨?_, ?_, rfl⟩
      · congr 1
        omega
      · congr 1
        omega
theorem tr_end {g g1 h1 : am_G} {w w1 : am_J} (hI : iv_I g w) (o : tr_o g g1) (p : tr_p g1 h1) (hw : w1 0 10 = w1 26 28) : iv_I h1 w1 := by
  have e : ∀ a b, (a ≠ 13 ∧ a ≠ 14 ∧ a ≠ 15) ∧ (a ≠ 32 ∨ b < 13) → h1 a b = g a b := fun a b hab => by rw [p a b hab.2, o a b hab.1]
  refine iv_same.I (g := g) ⟨fun c hc => funext fun b => e c b (by omega), fun k hk => e 32 k (by omega), ⟨e 1 1 (by omega), e 26 14 (by omega), e 3 7 (by omega), e 26 0 (by omega), e 3 6 (by omega), e 26 1 (by omega)⟩, ⟨e 10 3 (by omega), e 16 1 (by omega), e 26 17 (by omega), e 26 18 (by omega)⟩, e 18 1 (by omega), e 22 1 (by omega), e 26 23 (by omega)⟩ hw hI
