/-! SOONEST -/
theorem wr_e.same {g h : am_G} (H : wr_e g h) : iv_same g h := by
  refine ⟨fun c hc => funext fun b => H c b (by omega), fun k hk => H 32 k (by omega), ⟨H 1 1 (by omega), H 26 14 (by omega), H 3 7 (by omega), H 26 0 (by omega), H 3 6 (by omega), H 26 1 (by omega)⟩, ⟨H 10 3 (by omega), H 16 1 (by omega), H 26 17 (by omega), H 26 18 (by omega)⟩, ⟨H 18 1 (by omega), H 22 1 (by omega), H 26 23 (by omega)⟩⟩
/-- the class's ranks in the town as it is -/
def ws_r (g : am_G) (N D f : Nat) : Nat → Nat := wy_rr (iv_see g) (wy_p g D) (wy_c g) N f
section WS
variable {F : Nat} {g : am_G} {N f t D : Nat} {w0 w : am_J}
theorem ws_le (hN : N ≤ 6) (hf : f < N) {v : Nat} (hv : v < N) : ws_r g N D f v ≤ 1000000000 := (wy_all (p := wy_p g D) (wy_see g) (wy_c1 g) hN hf N).1.le (wy_c1 g) hN hf hv
theorem ws_f (hN : N ≤ 6) (hf : f < N) : ws_r g N D f f = f + 1 := (wy_all (p := wy_p g D) (wy_see g) (wy_c1 g) hN hf N).1.1
theorem ws_div (h d : Nat) (hd : d < 10000000) : (h * 10000000 + d) / 10000000 = h ∧ (h * 10000000 + d) % 10000000 = d := by omega
/-- both sides' answer -/
theorem ws_both (hF : 2000 ≤ F) (hW : iv_W g N) (hf : f < N) (ht : t < N) (hft : t ≠ f) (hD : D < 64) : ∃ h, f_X8_layWays F g (nI f) (nI t) (nI D) = some h ∧ wr_e g h ∧
    ((h 26 20 = -9 ∧ ws_r g N D f t = 1000000000) ∨ ∃ L, wy_B (iv_see g) (wy_p g D) (wy_c g) N f t L ∧ (h 26 20 = nI (wy_h (wy_c g) L) ∧ h 26 21 = nI (wy_w L) ∧ h 26 22 = nI L.length) ∧ ws_r g N D f t = wy_R (wy_c g) f t L) := by
  have hN := hW.1
  obtain ⟨h, c, E, Q⟩ := wr_lay hF hW hf ht hft hD
  refine ⟨h, c, E, ?_⟩
  have P := wy_end (p := wy_p g D) (wy_see g) (wy_c1 g) hN hf ht hft
  rcases P with ⟨p1, p2⟩ | ⟨L, p1, p2⟩
  · rcases Q with ⟨q1, q2⟩ | ⟨L, q1, q2⟩
    · exact Or.inl ⟨q1, p1⟩
    · exact absurd q1.1 (p2 L)
  · rcases Q with ⟨q1, q2⟩ | ⟨L', q1, q2⟩
    · exact absurd p1.1 (q2 L)
    · have := p1.one hN hf ht hft q1
      subst this
      exact Or.inr ⟨L, p1, q2, p2⟩
theorem ws_hours (hW : iv_W g N) (hf : f < N) (hw : wy_W (ws_r g N D f) w0 w) (ht : t < N) : f_X6_hoursTo g w (nI t) = some (if ws_r g N D f t = 1000000000 then -9 else nI (ws_r g N D f t / 10000000)) := by
  have hN := hW.1
  have hb := ws_le (g := g) (D := D) hN hf ht
  unfold f_X6_hoursTo
  rw [wy_comes hW hw ht hb, Option.bind_some]
  by_cases h : ws_r g N D f t = 1000000000
  · rw [if_pos h, if_pos rfl, if_pos h]
  · rw [if_neg h, if_neg pb_10, if_neg h, if_pos (pb_i6 (by omega)), pu_tn (by omega), hw.1 t (by omega), wy_ten7, pk_lDiv (by omega) (by decide) (by decide), lN_i]
theorem ws_way (hW : iv_W g N) (hf : f < N) (hw : wy_W (ws_r g N D f) w0 w) (ht : t < N) : f_X6_wayTo g w (nI t) = some (if ws_r g N D f t = 1000000000 then -9 else nI (ws_r g N D f t % 10000000)) := by
  have hN := hW.1
  have hb := ws_le (g := g) (D := D) hN hf ht
  unfold f_X6_wayTo
  rw [wy_comes hW hw ht hb, Option.bind_some]
  by_cases h : ws_r g N D f t = 1000000000
  · rw [if_pos h, if_pos rfl, if_pos h]
  · rw [if_neg h, if_neg pb_10, if_neg h, if_pos (pb_i6 (by omega)), pu_tn (by omega), hw.1 t (by omega), wy_ten7, pk_lRem (by omega) (by decide) (by decide), lN_i]
theorem ws_fig (hF : 10 ≤ F) {L : List Nat} (hL : ∀ x, x ∈ L → x < 6) (hlen : L.length ≤ 4) {h : am_G} (h21 : h 26 21 = nI (wy_w L)) (h22 : h 26 22 = nI L.length) (p3 : Int32) (K : Int32 → am_G → Option (Int32 × am_G)) : ∀ (d k n : Nat) (P : List Nat), k + d = L.length → d < n → P = wy_L k (wy_w L / 6 ^ (L.length - k)) → f_X8_soonest_59 F (nI f) (nI t) p3 K n (nI (wy_d f P)) (nI k) h = K (nI (wy_d f L)) h := by
  have hw6 := wy_w6 hL
  have h6 := (wr_p6 (n := L.length) (by omega)).2
  intro d
  induction d with
  | zero =>
    intro k n P hk hn hP
    obtain ⟨n, rfl⟩ : ∃ j, n = j + 1 := ⟨n - 1, by omega⟩
    have : k = L.length := by omega
    subst this
    rw [Nat.sub_self, Nat.pow_zero, Nat.div_one, wy_LL hL] at hP
    rw [f_X8_soonest_59.eq_2, h22, if_pos (Int32.le_refl _), hP]
  | succ d ih =>
    intro k n P hk hn hP
    obtain ⟨n, rfl⟩ : ∃ j, n = j + 1 := ⟨n - 1, by omega⟩
    obtain ⟨b, hb⟩ : ∃ b, b = wy_w L / 6 ^ (L.length - 1 - k) % 6 := ⟨_, rfl⟩
    have hPn : b :: P = wy_L (k + 1) (wy_w L / 6 ^ (L.length - (k + 1))) := by
      have e1 : L.length - (k + 1) = L.length - 1 - k := by omega
      have e2 : wy_w L / 6 ^ (L.length - 1 - k) / 6 = wy_w L / 6 ^ (L.length - k) := by
        rw [Nat.div_div_eq_div_mul, ← Nat.pow_succ, show (L.length - 1 - k).succ = L.length - k by omega]
      rw [wy_L, e1, e2, ← hb, ← hP]
    have i1 := ih (k + 1) n (b :: P) (by omega) (by omega) hPn
    rw [f_X8_soonest_59.eq_2, h21, h22, if_neg (by rw [pu_le (by omega) (by omega)]; omega), wr_bet hF (by omega) (by omega) (by omega), Option.bind_some, ← hb, show (10 : Int32) * nI (wy_d f P) = nI (10 * wy_d f P) from pu_mul 10 _, nI_add, show nI (10 * wy_d f P + b) + (1 : Int32) = nI (10 * wy_d f P + b + 1) from nI_add _ 1, show nI k + (1 : Int32) = nI (k + 1) from nI_add k 1, Nat.add_assoc]
    exact i1
theorem ws_ref (hW : iv_W g N) (p q : Int32) : (f_X7_refusalOfTwo g p q = some (-1) ∧ ((f_X8_isWindow g p = some 0) ∨ (f_X8_isWindow g p = some 1 ∧ f_X8_isWindow g q = some 0))) ∨ (f_X7_refusalOfTwo g p q = some (-2) ∧ p = q ∧ f_X8_isWindow g p = some 1 ∧ f_X8_isWindow g q = some 1) ∨ ∃ f t, f < N ∧ t < N ∧ t ≠ f ∧ p = nI f ∧ q = nI t ∧ ¬ p = q ∧ f_X7_refusalOfTwo g p q = some (-9) ∧ f_X8_isWindow g p = some 1 ∧ f_X8_isWindow g q = some 1 := by
  have hN := hW.1
  unfold f_X7_refusalOfTwo
  rcases pb_range hN p with hp | ⟨f, hf, rfl⟩
  · left
    rw [(pb_no hW hp).1, Option.bind_some, if_pos rfl]
    exact ⟨rfl, Or.inl (pb_no hW hp).2⟩
  · rw [(pb_yes hW hf).1, Option.bind_some, if_neg pb_10]
    rcases pb_range hN q with hq | ⟨t, ht, rfl⟩
    · left
      rw [(pb_no hW hq).1, Option.bind_some, if_pos rfl]
      exact ⟨rfl, Or.inr ⟨(pb_yes hW hf).2, (pb_no hW hq).2⟩⟩
    · right
      rw [(pb_yes hW ht).1, Option.bind_some, if_neg pb_10]
      by_cases h : nI f = nI t
      · left
        rw [if_pos h]
        exact ⟨rfl, h, (pb_yes hW hf).2, (pb_yes hW ht).2⟩
      · right
        rw [if_neg h]
        exact ⟨f, t, hf, ht, fun e => h (by rw [e]), rfl, rfl, h, rfl, (pb_yes hW hf).2, (pb_yes hW ht).2⟩
end WS
theorem K_soonest {F : Nat} (hF : 2000 ≤ F) {g : am_G} {w : am_J} (hI : iv_I g w) (p : Int32) (q : Int32) (b : Int32) (hb : b = 0 ∨ b = 1) : ∃ (r : Int32) (w1 : am_J) (g2 : am_G), f_X7_soonest F g w p q b = some (r, w1) ∧ f_X8_soonest F g p q b = some (r, g2) ∧ iv_I g2 w1 := by
  obtain ⟨len, N, A, nx, fl, a1, hW, a3, a4, a5, a6, hw⟩ := id hI
  have hN := hW.1
  unfold f_X7_soonest f_X8_soonest
  rcases ws_ref hW p q with ⟨r1, r2 | ⟨r2, r3⟩⟩ | ⟨r1, r2, r3, r4⟩ | ⟨f, t, hf, ht, hft, rfl, rfl, hne, r1, r2, r3⟩
  · refine ⟨-1, w, g, ?_, ?_, hI⟩
    · rw [r1, Option.bind_some, if_neg (by decide)]
    · rw [r2, Option.bind_some, if_pos rfl]
  · refine ⟨-1, w, g, ?_, ?_, hI⟩
    · rw [r1, Option.bind_some, if_neg (by decide)]
    · rw [r2, Option.bind_some, if_neg pb_10, r3, Option.bind_some, if_pos rfl]
  · refine ⟨-2, w, g, ?_, ?_, hI⟩
    · rw [r1, Option.bind_some, if_neg (by decide)]
    · rw [r3, Option.bind_some, if_neg pb_10, r4, Option.bind_some, if_neg pb_10, if_pos r2]
  · obtain ⟨w1, c1, hw1⟩ := wy_measure (F := F) (by omega) hW hf (show 0 < 64 by decide) w
    obtain ⟨h, c2, E, Q⟩ := ws_both hF hW hf ht hft (show 0 < 64 by decide)
    have hI2 : iv_I h w1 := E.same.I (by rw [hw1.2 0 10 (by omega), hw1.2 26 28 (by omega), hw]) hI
    have c1' : f_X6_measure F g w (nI f) 0 = some w1 := c1
    have c2' : f_X8_layWays F g (nI f) (nI t) 0 = some h := c2
    rw [r1, Option.bind_some, if_pos rfl, c1', Option.bind_some, r2, Option.bind_some, if_neg pb_10, r3, Option.bind_some, if_neg pb_10, if_neg hne, c2', Option.bind_some, ws_hours hW hf hw1 ht, ws_way hW hf hw1 ht]
    rcases Q with ⟨q20, qr⟩ | ⟨L, qB, ⟨q20, q21, q22⟩, qr⟩
    · refine ⟨-9, w1, h, ?_, ?_, hI2⟩
      · rw [if_pos qr, if_pos qr]
        rcases hb with rfl | rfl
        · rfl
        · rfl
      · rw [q20]
        rcases hb with rfl | rfl
        · rfl
        · rw [if_neg pb_10, if_pos rfl]
    · obtain ⟨b1, b2, b3, b4⟩ := wy_bnd hN hf ht hft qB.1
      obtain ⟨k1, k2, k3⟩ := wy_le (wy_c1 g) hN hf ht hft qB.1
      obtain ⟨d1, d2⟩ := ws_div (wy_h (wy_c g) L) (10 * wy_d f L + (t + 1)) (by omega)
      have qr' : ws_r g N 0 f t = wy_h (wy_c g) L * 10000000 + (10 * wy_d f L + (t + 1)) := qr
      have hnv : ¬ ws_r g N 0 f t = 1000000000 := by rw [qr]; omega
      rw [if_neg hnv, if_neg hnv, qr', d1, d2]
      rcases hb with rfl | rfl
      · refine ⟨nI (wy_h (wy_c g) L), w1, h, rfl, ?_, hI2⟩
        rw [if_pos rfl, q20]
      · refine ⟨nI (10 * wy_d f L + (t + 1)), w1, h, rfl, ?_, hI2⟩
        rw [if_neg pb_10, q20, if_neg (rd_ne9 _ (by omega)), show nI f + (1 : Int32) = nI (f + 1) from nI_add f 1]
        refine (ws_fig (F := F) (f := f) (t := t) (by omega) b1 b2 q21 q22 1 (fun l4 g => f_X8_soonest_97 F (nI f) (nI t) 1 (l4) (g)) L.length 0 F [] (by omega) (by omega) rfl).trans ?_
        show f_X8_soonest_97 F (nI f) (nI t) 1 (nI (wy_d f L)) h = _
        rw [f_X8_soonest_97, show (10 : Int32) * nI (wy_d f L) = nI (10 * wy_d f L) from pu_mul 10 _, nI_add, show nI (10 * wy_d f L + t) + (1 : Int32) = nI (10 * wy_d f L + t + 1) from nI_add _ 1, Nat.add_assoc]
