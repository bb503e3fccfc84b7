/-! CROSS: the reference's hours -/
theorem cr_f10 {F : Nat} {g : am_G} {base : Nat} (hb : base ≤ 6) (p2 p3 : Int32) (K : am_G → Option am_G) : ∀ (d k n : Nat) (g' : am_G), k + d = 6 → d < n → (∀ a b, (a ≠ 40 ∨ b < base ∨ base + 6 ≤ b) → g' a b = g a b) → (∀ j, j < k → g' 40 (base + j) = -9) →
    ∃ h, f_X8_layHours_10 F (nI base) p2 p3 K n (nI k) g' = K h ∧ (∀ a b, (a ≠ 40 ∨ b < base ∨ base + 6 ≤ b) → h a b = g a b) ∧ ∀ j, j < 6 → h 40 (base + j) = -9 := by
  intro d
  induction d with
  | zero =>
    intro k n g' hk hn E V
    obtain ⟨n, rfl⟩ : ∃ j, n = j + 1 := ⟨n - 1, by omega⟩
    have : k = 6 := by omega
    subst this
    rw [f_X8_layHours_10.eq_2, if_pos (show (6 : Int32) ≤ nI 6 from by decide)]
    exact ⟨g', rfl, E, V⟩
  | succ d ih =>
    intro k n g' hk hn E V
    obtain ⟨n, rfl⟩ : ∃ j, n = j + 1 := ⟨n - 1, by omega⟩
    rw [f_X8_layHours_10.eq_2, if_neg (show ¬ (6 : Int32) ≤ nI k from nI_ge (b := 6) (by omega) (by decide)), nI_add, if_pos ((pu_in (by omega)).mpr (by omega)), pu_tn (by omega), show nI k + (1 : Int32) = nI (k + 1) from nI_add k 1]
    refine ih (k + 1) n _ (by omega) (by omega) (fun a b q => by rw [am_u_at, if_neg (by omega), E a b q]) (fun j hj => ?_)
    rw [am_u_at]
    by_cases h : j = k
    · rw [if_pos ⟨rfl, by omega⟩]
    · rw [if_neg (by omega), V j (by omega)]
theorem cr_l40 {F : Nat} (hF : 10 ≤ F) {g : am_G} {base : Nat} (hb : base ≤ 6) (p2 p3 : Int32) {L : List Nat} (hL : ∀ x, x ∈ L → x < 6) (hlen : L.length ≤ 4) (h20 : ¬ g 26 20 = -9) (h21 : g 26 21 = nI (wy_w L)) (h22 : g 26 22 = nI L.length) : ∀ (d k n : Nat) (P : List Nat) (g' : am_G), k + d = L.length → d < n → P = wy_L k (wy_w L / 6 ^ (L.length - k)) → (∀ a b, (a ≠ 40 ∨ b < base ∨ base + 6 ≤ b) → g' a b = g a b) → (∀ j, j < 6 → g' 40 (base + j) = cr_h (wy_c g) P j) →
    ∃ h, f_X8_layHours_40 F (nI base) p2 p3 n (nI (wy_h (wy_c g) P)) (nI k) g' = some h ∧ (∀ a b, (a ≠ 40 ∨ b < base ∨ base + 6 ≤ b) → h a b = g a b) ∧ ∀ j, j < 6 → h 40 (base + j) = cr_h (wy_c g) L j := by
  have hw6 := wy_w6 hL
  have h6 := (wr_p6 (n := L.length) (by omega)).2
  intro d
  induction d with
  | zero =>
    intro k n P g' hk hn hP E V
    obtain ⟨n, rfl⟩ : ∃ j, n = j + 1 := ⟨n - 1, by omega⟩
    have : k = L.length := by omega
    subst this
    rw [Nat.sub_self, Nat.pow_zero, Nat.div_one, wy_LL hL] at hP
    subst hP
    rw [f_X8_layHours_40.eq_2, E 26 22 (by omega), h22, if_pos (Int32.le_refl _)]
    exact ⟨g', rfl, E, V⟩
  | succ d ih =>
    intro k n P g' hk hn hP E V
    obtain ⟨n, rfl⟩ : ∃ j, n = j + 1 := ⟨n - 1, by omega⟩
    obtain ⟨b, hbb⟩ : ∃ b, b = wy_w L / 6 ^ (L.length - 1 - k) % 6 := ⟨_, rfl⟩
    have hb6 : b < 6 := by rw [hbb]; exact Nat.mod_lt _ (by decide)
    have hPn : b :: P = wy_L (k + 1) (wy_w L / 6 ^ (L.length - (k + 1))) := by
      have e1 : L.length - (k + 1) = L.length - 1 - k := by omega
      have e2 : wy_w L / 6 ^ (L.length - 1 - k) / 6 = wy_w L / 6 ^ (L.length - k) := by
        rw [Nat.div_div_eq_div_mul, ← Nat.pow_succ, show (L.length - 1 - k).succ = L.length - k by omega]
      rw [wy_L, e1, e2, ← hbb, ← hP]
    rw [f_X8_layHours_40.eq_2, E 26 22 (by omega), h22, if_neg (by rw [pu_le (by omega) (by omega)]; omega), E 26 20 (by omega), if_neg h20, E 26 21 (by omega), h21, wr_bet hF (by omega) (by omega) (by omega), Option.bind_some, ← hbb, if_pos (pb_i6 hb6)]
    have e31 : g' 31 (Int32.toNatClampNeg (nI b)) = g 31 b := by rw [pu_tn (by omega), E 31 b (by omega)]
    rw [e31]
    have fin : ∃ h, f_X8_layHours_40 F (nI base) p2 p3 n (nI (wy_h (wy_c g) (b :: P))) (nI (k + 1)) (am_u g' 40 (base + b) (nI (wy_h (wy_c g) (b :: P)))) = some h ∧ (∀ a b, (a ≠ 40 ∨ b < base ∨ base + 6 ≤ b) → h a b = g a b) ∧ ∀ j, j < 6 → h 40 (base + j) = cr_h (wy_c g) L j := by
      refine ih (k + 1) n (b :: P) _ (by omega) (by omega) hPn (fun a c q => by rw [am_u_at, if_neg (by omega), E a c q]) (fun j hj => ?_)
      rw [am_u_at, cr_h]
      by_cases h : j = b
      · rw [if_pos ⟨rfl, by omega⟩, if_pos h]
      · rw [if_neg (by omega), if_neg h, V j hj]
    by_cases hq : g 31 b = 1
    · have hc : wy_h (wy_c g) (b :: P) = wy_h (wy_c g) P + 0 := by simp [wy_h, wy_c, hq]
      rw [hc] at fin
      rw [if_pos hq]
      simp only [f_X8_layHours_91, nI_add, if_pos ((pu_in (a := base + b) (n := 12) (by omega)).mpr (by omega)), pu_tn (show base + b < 2147483648 by omega), show nI (wy_h (wy_c g) P) + (0 : Int32) = nI (wy_h (wy_c g) P + 0) from nI_add _ 0, show nI k + (1 : Int32) = nI (k + 1) from nI_add k 1]
      exact fin
    · have hc : wy_h (wy_c g) (b :: P) = wy_h (wy_c g) P + 1 := by simp [wy_h, wy_c, hq]
      rw [hc] at fin
      rw [if_neg hq]
      simp only [f_X8_layHours_91, nI_add, if_pos ((pu_in (a := base + b) (n := 12) (by omega)).mpr (by omega)), pu_tn (show base + b < 2147483648 by omega), show nI (wy_h (wy_c g) P) + (1 : Int32) = nI (wy_h (wy_c g) P + 1) from nI_add _ 1, show nI k + (1 : Int32) = nI (k + 1) from nI_add k 1]
      exact fin
theorem cr_ref {F : Nat} (hF : 2000 ≤ F) {g : am_G} {N f t base : Nat} (hW : iv_W g N) (hf : f < N) (ht : t < N) (hft : t ≠ f) (hb : base ≤ 6) : ∃ h, f_X8_layHours F g (nI base) (nI f) (nI t) = some h ∧ (∀ a b, ((a ≠ 26 ∨ (b ≠ 20 ∧ b ≠ 21 ∧ b ≠ 22)) ∧ (a ≠ 40 ∨ b < base ∨ base + 6 ≤ b)) → h a b = g a b) ∧ cr_T g N f t (fun k => h 40 (base + k)) := by
  have hN := hW.1
  obtain ⟨h0, c0, E0, Q⟩ := wr_lay hF hW hf ht hft (show 0 < 64 by decide)
  have c0' : f_X8_layWays F g (nI f) (nI t) 0 = some h0 := c0
  obtain ⟨h1, c1, E1, V1⟩ := cr_f10 (F := F) (g := h0) hb (nI f) (nI t) (fun g => f_X8_layHours_34 F (nI base) (nI f) (nI t) (g)) 6 0 F h0 (by omega) (by omega) (fun _ _ _ => rfl) (fun j hj => absurd hj (Nat.not_lt_zero j))
  have E01 : ∀ a b, ((a ≠ 26 ∨ (b ≠ 20 ∧ b ≠ 21 ∧ b ≠ 22)) ∧ (a ≠ 40 ∨ b < base ∨ base + 6 ≤ b)) → h1 a b = g a b := fun a b q => (E1 a b q.2).trans (E0 a b q.1)
  have hc1 : wy_c h1 = wy_c g := by
    funext b
    unfold wy_c
    rw [E01 31 b (by omega)]
  unfold f_X8_layHours
  rw [c0', Option.bind_some]
  rcases Q with ⟨q1, q2⟩ | ⟨L, q1, q20, q21, q22⟩
  · refine ⟨h1, ?_, E01, Or.inl ⟨q2, V1⟩⟩
    refine c1.trans ?_
    show f_X8_layHours_34 F (nI base) (nI f) (nI t) h1 = _
    obtain ⟨n, rfl⟩ : ∃ n, F = n + 1 := ⟨F - 1, by omega⟩
    rw [f_X8_layHours_34, f_X8_layHours_40.eq_2]
    split
    · rfl
    · rw [if_pos (by rw [E1 26 20 (by omega), q1])]
  · obtain ⟨b1, b2, b3, b4⟩ := wy_bnd hN hf ht hft q1.1
    obtain ⟨k1, k2, k3⟩ := wy_le (wy_c1 g) hN hf ht hft q1.1
    obtain ⟨h2, c2, E2, V2⟩ := cr_l40 (F := F) (by omega) (g := h1) hb (nI f) (nI t) b1 b2 (by rw [E1 26 20 (by omega), q20]; exact rd_ne9 _ (by omega)) ((E1 26 21 (by omega)).trans q21) ((E1 26 22 (by omega)).trans q22) L.length 0 F [] h1 (by omega) (by omega) rfl (fun _ _ _ => rfl) V1
    rw [hc1] at V2
    refine ⟨h2, ?_, fun a b q => (E2 a b q.2).trans (E01 a b q), Or.inr ⟨L, q1, V2⟩⟩
    refine c1.trans ?_
    show f_X8_layHours_34 F (nI base) (nI f) (nI t) h1 = _
    rw [f_X8_layHours_34]
    exact c2
/-- both loops, side by side -/
def cr_R (l l' : Int32) : Prop := (l = -9 ∧ l' = 99) ∨ ∃ x, x ≤ 4 ∧ l = nI x ∧ l' = nI x
theorem cr_two {F : Nat} {g h : am_G} {w : am_J} (p1 p2 : Int32) (K : Int32 → am_G → Option (Int32 × am_G)) (ha : ∀ k, k < 6 → h 40 k = g 24 k) (hb : ∀ k, k < 6 → h 40 (6 + k) = g 25 k) (hv : ∀ k, k < 6 → g 24 k = -9 ∨ ∃ x, x ≤ 4 ∧ g 24 k = nI x) : ∀ (d k n : Nat) (l l' : Int32), k + d = 6 → d < n → cr_R l l' → ∃ m m', f_X7_cross_48 F p1 p2 n l (nI k) g w = some (m, g, w) ∧ f_X8_cross_47 F p1 p2 K n l' (nI k) h = K m' h ∧ cr_R m m' := by
  intro d
  induction d with
  | zero =>
    intro k n l l' hk hn hR
    obtain ⟨n, rfl⟩ : ∃ j, n = j + 1 := ⟨n - 1, by omega⟩
    have : k = 6 := by omega
    subst this
    rw [f_X7_cross_48.eq_2, f_X8_cross_47.eq_2, if_pos (show (6 : Int32) ≤ nI 6 from by decide), if_pos (show (6 : Int32) ≤ nI 6 from by decide)]
    exact ⟨l, l', rfl, rfl, hR⟩
  | succ d ih =>
    intro k n l l' hk hn hR
    obtain ⟨n, rfl⟩ : ∃ j, n = j + 1 := ⟨n - 1, by omega⟩
    have hk6 : k < 6 := by omega
    have e1 : nI k + (1 : Int32) = nI (k + 1) := nI_add k 1
    have e6 : (6 : Int32) + nI k = nI (6 + k) := nI_add 6 k
    have i12 : am_in (nI k) 12 := (pu_in (by omega)).mpr (by omega)
    have i12' : am_in (nI (6 + k)) 12 := (pu_in (by omega)).mpr (by omega)
    have v1 := pu_tn (show k < 2147483648 by omega)
    have v2 := pu_tn (show 6 + k < 2147483648 by omega)
    have nx : ∀ m m', cr_R m m' → ∃ r r', f_X7_cross_48 F p1 p2 n m (nI (k + 1)) g w = some (r, g, w) ∧ f_X8_cross_47 F p1 p2 K n m' (nI (k + 1)) h = K r' h ∧ cr_R r r' := fun m m' q => ih (k + 1) n m m' (by omega) (by omega) q
    rw [f_X7_cross_48.eq_2, f_X8_cross_47.eq_2, if_neg (show ¬ (6 : Int32) ≤ nI k from nI_ge (b := 6) hk6 (by decide)), if_neg (show ¬ (6 : Int32) ≤ nI k from nI_ge (b := 6) hk6 (by decide))]
    simp only [if_pos (pb_i6 hk6), if_pos i12, e6, if_pos i12', v1, v2, ha k hk6, hb k hk6, f_X7_cross_101, f_X7_cross_97, f_X8_cross_90, f_X8_cross_91, f_X8_cross_119, f_X8_cross_120, e1, if_neg pb_10, if_true]
    rcases hv k hk6 with q | ⟨x, hx, q⟩
    · rw [if_pos q, if_pos q]
      exact nx l l' hR
    · have hn9 : ¬ g 24 k = -9 := by rw [q]; exact rd_ne9 x (by omega)
      rw [if_neg hn9, if_neg hn9]
      by_cases hq : g 24 k = g 25 k
      · rw [if_pos hq, if_pos hq, q]
        rcases hR with ⟨rfl, rfl⟩ | ⟨y, hy, rfl, rfl⟩
        · rw [if_pos rfl, if_neg (show ¬ (99 : Int32) ≤ nI x from nI_ge (b := 99) (by omega) (by decide))]
          exact nx _ _ (Or.inr ⟨x, hx, rfl, rfl⟩)
        · rw [if_neg (rd_ne9 y (by omega))]
          by_cases hle : nI y ≤ nI x
          · rw [if_pos hle, if_pos hle]
            exact nx _ _ (Or.inr ⟨y, hy, rfl, rfl⟩)
          · rw [if_neg hle, if_neg hle]
            exact nx _ _ (Or.inr ⟨x, hx, rfl, rfl⟩)
      · rw [if_neg hq, if_neg hq]
        exact nx l l' hR
theorem cr_T.of {g h : am_G} {N f t : Nat} {v : Nat → Int32} (H : ∀ a b, (a = 29 ∨ a = 28 ∨ a = 30 ∨ a = 31 ∨ (a = 26 ∧ b = 1)) → h a b = g a b) (z : cr_T h N f t v) : cr_T g N f t v := by
  have hsee : iv_see h = iv_see g := by
    funext k o
    unfold iv_see
    rw [H 29 k (by omega), H 29 o (by omega), H 26 1 (by omega), H 28 k (by omega), H 28 o (by omega), H 30 k (by omega), H 30 o (by omega)]
  have hp : wy_p h 0 = wy_p g 0 := by
    funext b
    unfold wy_p
    rw [H 31 b (by omega)]
  have hc : wy_c h = wy_c g := by
    funext b
    unfold wy_c
    rw [H 31 b (by omega)]
  unfold cr_T at z ⊢
  rw [hsee, hp, hc] at z
  exact z
theorem K_cross {F : Nat} (hF : 2000 ≤ F) {g : am_G} {w : am_J} (hI : iv_I g w) (p : Int32) (q : Int32) : ∃ (r : Int32) (g1 : am_G) (w1 : am_J) (g2 : am_G), f_X7_cross F g w p q = some (r, g1, w1) ∧ f_X8_cross F g1 p q = some (r, g2) ∧ iv_I g2 w1 := by
  obtain ⟨len, N, A, nx, fl, a1, hW, a3, a4, a5, a6, hw⟩ := id hI
  have hN := hW.1
  rcases ws_ref hW p q with ⟨r1, r2 | ⟨r2, r3⟩⟩ | ⟨r1, r2, r3, r4⟩ | ⟨f, t, hf, ht, hft, rfl, rfl, hne, r1, r2, r3⟩
  · refine ⟨-1, g, w, g, ?_, ?_, hI⟩
    · rw [f_X7_cross, r1, Option.bind_some, if_neg (by decide)]
    · rw [f_X8_cross, r2, Option.bind_some, if_pos rfl]
  · refine ⟨-1, g, w, g, ?_, ?_, hI⟩
    · rw [f_X7_cross, r1, Option.bind_some, if_neg (by decide)]
    · rw [f_X8_cross, r2, Option.bind_some, if_neg pb_10, r3, Option.bind_some, if_pos rfl]
  · refine ⟨-2, g, w, g, ?_, ?_, hI⟩
    · rw [f_X7_cross, r1, Option.bind_some, if_neg (by decide)]
    · rw [f_X8_cross, r3, Option.bind_some, if_neg pb_10, r4, Option.bind_some, if_neg pb_10, if_pos r2]
  · obtain ⟨ga, wa, ca, Ea, Wa, Ta⟩ := cr_cls24 (F := F) (by omega) hW hf ht hft w
    have hWa : iv_W ga N := iv_W.of2 (fun a b z => Ea a b (by omega)) hW
    obtain ⟨gb, wb, cb, Eb, Wb, Tb⟩ := cr_cls25 (F := F) (by omega) hWa ht hf (Ne.symm hft) wa
    have hWb : iv_W gb N := iv_W.of2 (fun a b z => Eb a b (by omega)) hWa
    have Eg : ∀ a b, (a ≠ 24 ∧ a ≠ 25) → gb a b = g a b := fun a b z => (Eb a b z.2).trans (Ea a b z.1)
    obtain ⟨h1, c1, E1, T1⟩ := cr_ref hF hWb hf ht hft (show 0 ≤ 6 by omega)
    have hW1 : iv_W h1 N := iv_W.of2 (fun a b z => E1 a b (by omega)) hWb
    obtain ⟨h2, c2, E2, T2⟩ := cr_ref hF hW1 ht hf (Ne.symm hft) (show 6 ≤ 6 by omega)
    have T24 : cr_T g N f t (gb 24) := by
      have : gb 24 = ga 24 := funext fun b => Eb 24 b (by omega)
      rw [this]
      exact Ta
    have T25 : cr_T g N t f (gb 25) := Tb.of (fun a b z => Ea a b (by omega))
    have T1' : cr_T g N f t (fun k => h1 40 (0 + k)) := T1.of (fun a b z => Eg a b (by omega))
    have T2' : cr_T g N t f (fun k => h2 40 (6 + k)) := (T2.of (fun a b z => E1 a b (by omega))).of (fun a b z => Eg a b (by omega))
    have ha : ∀ k, k < 6 → h2 40 k = gb 24 k := fun k hk => by
      rw [E2 40 k (by omega)]
      have := T1'.one hN hf ht hft T24 k hk
      have e : h1 40 (0 + k) = gb 24 k := this
      rw [Nat.zero_add] at e
      exact e
    have hb : ∀ k, k < 6 → h2 40 (6 + k) = gb 25 k := fun k hk => T2'.one hN ht hf (Ne.symm hft) T25 k hk
    obtain ⟨m, m', d1, d2, hR⟩ := cr_two (F := F) (g := gb) (h := h2) (w := wb) (nI f) (nI t) (fun l3 g => f_X8_cross_127 F (nI f) (nI t) (l3) (g)) ha hb (fun k hk => cr_val hN hf ht hft T24 hk) 6 0 F (-9) 99 (by omega) (by omega) (Or.inl ⟨rfl, rfl⟩)
    have Eall : ∀ a b, (a ≠ 24 ∧ a ≠ 25 ∧ a ≠ 40 ∧ (a ≠ 26 ∨ (b ≠ 20 ∧ b ≠ 21 ∧ b ≠ 22))) → h2 a b = g a b := fun a b z => by
      rw [E2 a b (by omega), E1 a b (by omega), Eg a b (by omega)]
    have hsame : iv_same g h2 := by
      refine ⟨fun c hc => funext fun b => Eall c b (by omega), fun k hk => Eall 32 k (by omega), ⟨Eall 1 1 (by omega), Eall 26 14 (by omega), Eall 3 7 (by omega), Eall 26 0 (by omega), Eall 3 6 (by omega), Eall 26 1 (by omega)⟩, ⟨Eall 10 3 (by omega), Eall 16 1 (by omega), Eall 26 17 (by omega), Eall 26 18 (by omega)⟩, ⟨Eall 18 1 (by omega), Eall 22 1 (by omega), Eall 26 23 (by omega)⟩⟩
    refine ⟨m, gb, wb, h2, ?_, ?_, hsame.I (by rw [Wb 0 10 (by omega), Wb 26 28 (by omega), Wa 0 10 (by omega), Wa 26 28 (by omega), hw]) hI⟩
    · rw [f_X7_cross, r1, Option.bind_some, if_pos rfl, ca, Option.bind_some]
      show (f_X6_hoursBetween_20_25 F ga wa (nI t) (nI f)).bind _ = _
      rw [cb, Option.bind_some]
      exact d1
    · rw [f_X8_cross, (pb_yes hWb hf).2, Option.bind_some, if_neg pb_10, (pb_yes hWb ht).2, Option.bind_some, if_neg pb_10, if_neg hne, show f_X8_layHours F gb 0 (nI f) (nI t) = _ from c1, Option.bind_some, show f_X8_layHours F h1 6 (nI t) (nI f) = _ from c2, Option.bind_some]
      refine d2.trans ?_
      show f_X8_cross_127 F (nI f) (nI t) m' h2 = _
      unfold f_X8_cross_127
      rcases hR with ⟨rfl, rfl⟩ | ⟨x, hx, rfl, rfl⟩
      · rw [if_pos rfl]
      · rw [if_neg (show ¬ nI x = (99 : Int32) from fun z => by have := (pu_eq (b := 99) (by omega) (by decide)).mp z; omega)]
