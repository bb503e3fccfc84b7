/-! THE TOWN is made anew: the class's side -/
section BL
variable {F : Nat} {g : am_G} {len : Nat}
/-- cells that the text is read from -/
theorem bl_X {g h : am_G} (H : ∀ a b, (a = 1 ∨ a = 2 ∨ a = 35 ∨ a = 26) → h a b = g a b) (hX : iv_X g len) : iv_X h len ∧ ∀ k, tx_f h len k = tx_f g len k :=
  ⟨iv_X.of2 (fun a b q => H a b (by omega)) hX, tx_f.of (funext fun b => H 35 b (by omega)) len⟩
theorem bl_2 (hX : iv_X g len) (K : am_G → Option am_G) : ∀ (d s n : Nat) (g' : am_G), s + d = 4 → d < n → (∀ a b, a ≠ 4 → g' a b = g a b) → (∀ t, t < s → g' 4 t = tx_i (tx_f g len (1 + t))) →
    ∃ h, f_X2_build_2 F K n (nI s) g' = K h ∧ (∀ a b, a ≠ 4 → h a b = g a b) ∧ ∀ t, t < 4 → h 4 t = tx_i (tx_f g len (1 + t)) := by
  intro d
  induction d with
  | zero =>
    intro s n g' hs hn E V
    obtain ⟨n, rfl⟩ : ∃ k, n = k + 1 := ⟨n - 1, by omega⟩
    have : s = 4 := by omega
    subst this
    rw [f_X2_build_2.eq_2, if_pos (show (4 : Int32) ≤ nI 4 from by decide)]
    exact ⟨g', rfl, E, V⟩
  | succ d ih =>
    intro s n g' hs hn E V
    obtain ⟨n, rfl⟩ : ∃ k, n = k + 1 := ⟨n - 1, by omega⟩
    obtain ⟨X', f'⟩ := bl_X (h := g') (fun a b q => E a b (by omega)) hX
    rw [f_X2_build_2.eq_2, if_neg (show ¬ (4 : Int32) ≤ nI s from nI_ge (b := 4) (by omega) (by decide)), show (1 : Int32) + nI s = nI (1 + s) from nI_add 1 s, tx_fig X' (by omega), Option.bind_some, if_pos ((pu_in (by omega)).mpr (by omega)), pu_tn (by omega), show nI s + (1 : Int32) = nI (s + 1) from nI_add s 1, f']
    refine ih (s + 1) n _ (by omega) (by omega) (fun a b q => ?_) (fun t ht => ?_)
    · rw [am_u_at, if_neg (by omega), E a b q]
    · rw [am_u_at]
      by_cases h : t = s
      · rw [if_pos ⟨rfl, h⟩, h]
      · rw [if_neg (by omega), V t (by omega)]
theorem bl_59 {m : Nat} (hm : m ≤ 6) (hX : iv_X g len) (h37 : g 3 7 = nI m) (K : am_G → Option am_G) : ∀ (d k n : Nat) (g' : am_G), k + d = m → d < n → (∀ a b, (a ≠ 5 ∧ a ≠ 6 ∧ a ≠ 7 ∧ a ≠ 8) → g' a b = g a b) → (∀ t, t < k → g' 5 t = tx_i (tx_f g len (6 * t + 7)) ∧ g' 6 t = tx_i (tx_f g len (6 * t + 8)) ∧ g' 7 t = tx_i (tx_f g len (6 * t + 9)) ∧ g' 8 t = tx_i (tx_f g len (6 * t + 11))) →
    ∃ h, f_X2_build_59 F K n (nI k) g' = K h ∧ (∀ a b, (a ≠ 5 ∧ a ≠ 6 ∧ a ≠ 7 ∧ a ≠ 8) → h a b = g a b) ∧ ∀ t, t < m → h 5 t = tx_i (tx_f g len (6 * t + 7)) ∧ h 6 t = tx_i (tx_f g len (6 * t + 8)) ∧ h 7 t = tx_i (tx_f g len (6 * t + 9)) ∧ h 8 t = tx_i (tx_f g len (6 * t + 11)) := by
  intro d
  induction d with
  | zero =>
    intro k n g' hk hn E V
    obtain ⟨n, rfl⟩ : ∃ j, n = j + 1 := ⟨n - 1, by omega⟩
    have : k = m := by omega
    subst this
    rw [f_X2_build_59.eq_2, E 3 7 (by omega), h37, if_pos (Int32.le_refl _)]
    exact ⟨g', rfl, E, V⟩
  | succ d ih =>
    intro k n g' hk hn E V
    obtain ⟨n, rfl⟩ : ∃ j, n = j + 1 := ⟨n - 1, by omega⟩
    obtain ⟨X1, f1⟩ := bl_X (h := g') (fun a b q => E a b (by omega)) hX
    have e6 : (6 : Int32) * nI (k + 1) = nI (6 * k + 6) := by
      rw [show (6 : Int32) * nI (k + 1) = nI (6 * (k + 1)) from pu_mul 6 (k + 1)]
      congr 1
    have e1 : nI (6 * k + 6) + (1 : Int32) = nI (6 * k + 7) := nI_add (6 * k + 6) 1
    have e2 : nI (6 * k + 6) + (2 : Int32) = nI (6 * k + 8) := nI_add (6 * k + 6) 2
    have e3 : nI (6 * k + 6) + (3 : Int32) = nI (6 * k + 9) := nI_add (6 * k + 6) 3
    have e5 : nI (6 * k + 6) + (5 : Int32) = nI (6 * k + 11) := nI_add (6 * k + 6) 5
    have i6 : am_in (nI k) 6 := (pu_in (by omega)).mpr (by omega)
    have tn := pu_tn (show k < 2147483648 by omega)
    obtain ⟨g1, hg1⟩ : ∃ g1, g1 = am_u g' 5 k (tx_i (tx_f g len (6 * k + 7))) := ⟨_, rfl⟩
    have E1 : ∀ a b, (a ≠ 5 ∧ a ≠ 6 ∧ a ≠ 7 ∧ a ≠ 8) → g1 a b = g a b := fun a b q => by rw [hg1, am_u_at, if_neg (by omega), E a b q]
    obtain ⟨X2, f2⟩ := bl_X (h := g1) (fun a b q => E1 a b (by omega)) hX
    obtain ⟨g2, hg2⟩ : ∃ g2, g2 = am_u g1 6 k (tx_i (tx_f g len (6 * k + 8))) := ⟨_, rfl⟩
    have E2 : ∀ a b, (a ≠ 5 ∧ a ≠ 6 ∧ a ≠ 7 ∧ a ≠ 8) → g2 a b = g a b := fun a b q => by rw [hg2, am_u_at, if_neg (by omega), E1 a b q]
    obtain ⟨X3, f3⟩ := bl_X (h := g2) (fun a b q => E2 a b (by omega)) hX
    obtain ⟨g3, hg3⟩ : ∃ g3, g3 = am_u g2 7 k (tx_i (tx_f g len (6 * k + 9))) := ⟨_, rfl⟩
    have E3 : ∀ a b, (a ≠ 5 ∧ a ≠ 6 ∧ a ≠ 7 ∧ a ≠ 8) → g3 a b = g a b := fun a b q => by rw [hg3, am_u_at, if_neg (by omega), E2 a b q]
    obtain ⟨X4, f4⟩ := bl_X (h := g3) (fun a b q => E3 a b (by omega)) hX
    obtain ⟨g4, hg4⟩ : ∃ g4, g4 = am_u g3 8 k (tx_i (tx_f g len (6 * k + 11))) := ⟨_, rfl⟩
    have c1 : f_X3_figure g' (nI (6 * k + 7)) = some (tx_i (tx_f g len (6 * k + 7))) := by rw [tx_fig X1 (by omega), f1]
    have c2 : f_X3_figure g1 (nI (6 * k + 8)) = some (tx_i (tx_f g len (6 * k + 8))) := by rw [tx_fig X2 (by omega), f2]
    have c3 : f_X3_figure g2 (nI (6 * k + 9)) = some (tx_i (tx_f g len (6 * k + 9))) := by rw [tx_fig X3 (by omega), f3]
    have c4 : f_X3_figure g3 (nI (6 * k + 11)) = some (tx_i (tx_f g len (6 * k + 11))) := by rw [tx_fig X4 (by omega), f4]
    have hst : f_X2_build_59 F K (n + 1) (nI k) g' = f_X2_build_59 F K n (nI (k + 1)) g4 := by
      rw [f_X2_build_59.eq_2, E 3 7 (by omega), h37, if_neg (by rw [pu_le (by omega) (by omega)]; omega)]
      simp only [e6, e1, e2, e3, e5, c1, Option.bind_some, if_pos i6, tn, ← hg1, c2, ← hg2, c3, ← hg3, c4, ← hg4, show nI k + (1 : Int32) = nI (k + 1) from nI_add k 1]
    rw [hst]
    refine ih (k + 1) n g4 (by omega) (by omega) (fun a b q => by rw [hg4, am_u_at, if_neg (by omega), E3 a b q]) (fun t ht => ?_)
    by_cases h : t = k
    · subst h
      refine ⟨?_, ?_, ?_, ?_⟩
      · rw [hg4, am_u_at, if_neg (by omega), hg3, am_u_at, if_neg (by omega), hg2, am_u_at, if_neg (by omega), hg1, am_u_at, if_pos ⟨rfl, rfl⟩]
      · rw [hg4, am_u_at, if_neg (by omega), hg3, am_u_at, if_neg (by omega), hg2, am_u_at, if_pos ⟨rfl, rfl⟩]
      · rw [hg4, am_u_at, if_neg (by omega), hg3, am_u_at, if_pos ⟨rfl, rfl⟩]
      · rw [hg4, am_u_at, if_pos ⟨rfl, rfl⟩]
    · obtain ⟨v1, v2, v3, v4⟩ := V t (by omega)
      have r : ∀ a, g4 a t = g' a t := fun a => by
        rw [hg4, am_u_at, if_neg (by omega), hg3, am_u_at, if_neg (by omega), hg2, am_u_at, if_neg (by omega), hg1, am_u_at, if_neg (by omega)]
      rw [r, r, r, r]
      exact ⟨v1, v2, v3, v4⟩
end BL
/-- who sees whom, by the class's cells -/
def bl_see (g : am_G) (k o : Nat) : Bool := decide (¬ g 6 k = g 6 o ∧ (-(g 3 6) ≤ g 5 k - g 5 o ∧ g 5 k - g 5 o ≤ g 3 6) ∧ (-1 ≤ g 7 k - g 7 o ∧ g 7 k - g 7 o ≤ 1))
theorem bl_abs : ∀ v, v < 10 → ∀ p, p < 10 → ∀ q, q < 10 → ((nI v < am_abs (nI p - nI q)) ↔ ¬ (-(nI v) ≤ nI p - nI q ∧ nI p - nI q ≤ nI v)) := by decide +kernel
theorem bl_has {g : am_G} {m k : Nat} (hm : m ≤ 6) (h37 : g 3 7 = nI m) (hk : k < m) : f_X2_has g (nI k) = some 1 := by
  unfold f_X2_has
  rw [if_neg (pu_nn (by omega)), h37, if_neg (by rw [pu_le (by omega) (by omega)]; omega), if_neg (by rw [pu_ler (by omega) (by omega)]; omega)]
theorem bl_side {g : am_G} {m k : Nat} (hm : m ≤ 6) (h37 : g 3 7 = nI m) (hk : k < m) : f_X2_side g (nI k) = some (g 6 k) ∧ f_X2_place g (nI k) = some (g 5 k) ∧ f_X2_floor g (nI k) = some (g 7 k) := by
  refine ⟨?_, ?_, ?_⟩
  · simp only [f_X2_side, bl_has hm h37 hk, Option.bind_some, if_neg pb_10, if_pos (pb_i6 (show k < 6 by omega)), pu_tn (show k < 2147483648 by omega)]
  · simp only [f_X2_place, bl_has hm h37 hk, Option.bind_some, if_neg pb_10, if_pos (pb_i6 (show k < 6 by omega)), pu_tn (show k < 2147483648 by omega)]
  · simp only [f_X2_floor, bl_has hm h37 hk, Option.bind_some, if_neg pb_10, if_pos (pb_i6 (show k < 6 by omega)), pu_tn (show k < 2147483648 by omega)]
theorem bl_facing {F : Nat} (hF : 7 ≤ F) {g : am_G} {m k v : Nat} (hm : m ≤ 6) (h37 : g 3 7 = nI m) (h36 : g 3 6 = nI v) (hv : v < 10) (hp : ∀ k, k < m → iv_b (g 5 k) 10 ∧ iv_b (g 7 k) 10) (hk : k < m) : f_X2_facing F g (nI k) = some (nI (iv_bits (bl_see g k) m)) := by
  unfold f_X2_facing
  obtain ⟨s1, s2, s3⟩ := bl_side hm h37 hk
  obtain ⟨⟨pk, pk1, pk2⟩, ⟨fk, fk1, fk2⟩⟩ := hp k hk
  refine bi_loop (fun n a b => f_X2_facing_4 F g (nI k) n a b) some (bl_see g k) m hm (fun n i s hi => ?_) (fun n s => ?_) F hF
  · show f_X2_facing_4 F g (nI k) (n + 1) s (nI i) = _
    obtain ⟨t1, t2, t3⟩ := bl_side hm h37 hi
    obtain ⟨⟨pi, pi1, pi2⟩, ⟨fi, fi1, fi2⟩⟩ := hp i hi
    have a1 := bl_abs v hv pk pk1 pi pi1
    have a2 := bl_abs 1 (by omega) fk fk1 fi fi1
    rw [← pk2, ← pi2, ← h36] at a1
    rw [← fk2, ← fi2] at a2
    have a2' : ((1 : Int32) < am_abs (g 7 k - g 7 i)) ↔ ¬ (-1 ≤ g 7 k - g 7 i ∧ g 7 k - g 7 i ≤ 1) := a2
    rw [f_X2_facing_4.eq_2, h37, if_neg (by rw [pu_le (by omega) (by omega)]; omega)]
    simp only [s1, t1, Option.bind_some, f_X2_facing_30, s2, t2, f_X2_facing_58, s3, t3, a1, a2', f_X2_facing_83, f_X2_facing_107, f_X2_facing_108, show nI i + (1 : Int32) = nI (i + 1) from nI_add i 1, bl_see]
    by_cases q1 : g 6 k = g 6 i
    · simp [q1]
    · by_cases q2 : (-(g 3 6) ≤ g 5 k - g 5 i ∧ g 5 k - g 5 i ≤ g 3 6)
      · by_cases q3 : (-1 ≤ g 7 k - g 7 i ∧ g 7 k - g 7 i ≤ 1)
        · simp [q1, q2, q3]
        · simp only [if_neg q1, q2, q3, not_true, not_false_iff, if_true, if_false, and_false, and_true, decide_false, pb_10]
          rfl
      · simp only [if_neg q1, q2, not_true, not_false_iff, if_true, if_false, false_and, and_false, and_true, decide_false, pb_10]
        by_cases q3 : (-1 ≤ g 7 k - g 7 i ∧ g 7 k - g 7 i ≤ 1)
        · simp only [q3, not_true, if_false, pb_10, and_true, if_true]
          rfl
        · simp only [q3, not_false_iff, if_true]
          rfl
  · show f_X2_facing_4 F g (nI k) (n + 1) s (nI m) = _
    rw [f_X2_facing_4.eq_2, h37, if_pos (Int32.le_refl _)]
theorem bl_134 {F : Nat} (hF : 7 ≤ F) {g : am_G} {m v : Nat} (hm : m ≤ 6) (h37 : g 3 7 = nI m) (h36 : g 3 6 = nI v) (hv : v < 10) (hp : ∀ k, k < m → iv_b (g 5 k) 10 ∧ iv_b (g 7 k) 10) : ∀ (d k n : Nat) (g' : am_G), k + d = m → d < n → (∀ a b, a ≠ 9 → g' a b = g a b) → (∀ t, t < k → g' 9 t = nI (iv_bits (bl_see g t) m)) →
    ∃ h, f_X2_build_134 F n (nI k) g' = some h ∧ (∀ a b, a ≠ 9 → h a b = g a b) ∧ ∀ t, t < m → h 9 t = nI (iv_bits (bl_see g t) m) := by
  intro d
  induction d with
  | zero =>
    intro k n g' hk hn E V
    obtain ⟨n, rfl⟩ : ∃ j, n = j + 1 := ⟨n - 1, by omega⟩
    have : k = m := by omega
    subst this
    rw [f_X2_build_134.eq_2, E 3 7 (by omega), h37, if_pos (Int32.le_refl _)]
    exact ⟨g', rfl, E, V⟩
  | succ d ih =>
    intro k n g' hk hn E V
    obtain ⟨n, rfl⟩ : ∃ j, n = j + 1 := ⟨n - 1, by omega⟩
    have hsee : bl_see g' = bl_see g := by
      funext a b
      unfold bl_see
      rw [E 6 a (by omega), E 6 b (by omega), E 3 6 (by omega), E 5 a (by omega), E 5 b (by omega), E 7 a (by omega), E 7 b (by omega)]
    have hfa := bl_facing hF (g := g') hm ((E 3 7 (by omega)).trans h37) ((E 3 6 (by omega)).trans h36) hv (fun k hk => by rw [E 5 k (by omega), E 7 k (by omega)]; exact hp k hk) (show k < m by omega)
    rw [hsee] at hfa
    rw [f_X2_build_134.eq_2, E 3 7 (by omega), h37, if_neg (by rw [pu_le (by omega) (by omega)]; omega), hfa, Option.bind_some, if_pos ((pu_in (by omega)).mpr (by omega)), pu_tn (by omega), show nI k + (1 : Int32) = nI (k + 1) from nI_add k 1]
    refine ih (k + 1) n _ (by omega) (by omega) (fun a b q => by rw [am_u_at, if_neg (by omega), E a b q]) (fun t ht => ?_)
    rw [am_u_at]
    by_cases h : t = k
    · rw [if_pos ⟨rfl, h⟩, h]
    · rw [if_neg (by omega), V t (by omega)]
theorem bl_cnt : ∀ m, m ≤ 6 → am_max 0 (am_min 6 (nI (6 * m + 6) / 6 - 1)) = nI m := by decide
theorem bl_build {F : Nat} (hF : 10 ≤ F) {g : am_G} {m v : Nat} (hm : m ≤ 6) (hX : iv_X g (6 * m + 6)) (h5 : tx_f g (6 * m + 6) 5 = some v) (hp : ∀ k, k < m → iv_b (tx_i (tx_f g (6 * m + 6) (6 * k + 7))) 10 ∧ iv_b (tx_i (tx_f g (6 * m + 6) (6 * k + 9))) 10) :
    ∃ h, f_X2_build F g = some h ∧ (∀ a b, (a ≠ 4 ∧ a ≠ 5 ∧ a ≠ 6 ∧ a ≠ 7 ∧ a ≠ 8 ∧ a ≠ 9 ∧ (a ≠ 3 ∨ (b ≠ 6 ∧ b ≠ 7))) → h a b = g a b) ∧ h 3 6 = nI v ∧ h 3 7 = nI m ∧ (∀ t, t < 4 → h 4 t = tx_i (tx_f g (6 * m + 6) (1 + t))) ∧
      ∀ t, t < m → (h 5 t = tx_i (tx_f g (6 * m + 6) (6 * t + 7)) ∧ h 6 t = tx_i (tx_f g (6 * m + 6) (6 * t + 8)) ∧ h 7 t = tx_i (tx_f g (6 * m + 6) (6 * t + 9)) ∧ h 8 t = tx_i (tx_f g (6 * m + 6) (6 * t + 11))) ∧ h 9 t = nI (iv_bits (bl_see h t) m) := by
  have hv := (tx_lt h5).1
  obtain ⟨g1, c1, E1, V1⟩ := bl_2 (F := F) hX (fun g => f_X2_build_26 F (g)) 4 0 F g (by omega) (by omega) (fun _ _ _ => rfl) (fun t ht => absurd ht (Nat.not_lt_zero t))
  obtain ⟨X1, f1⟩ := bl_X (h := g1) (fun a b q => E1 a b (by omega)) hX
  obtain ⟨g2, hg2⟩ : ∃ g2, g2 = am_u (am_u g1 3 6 (nI v)) 3 7 (nI m) := ⟨_, rfl⟩
  have E2 : ∀ a b, (a ≠ 3 ∨ (b ≠ 6 ∧ b ≠ 7)) → g2 a b = g1 a b := fun a b q => by rw [hg2, am_u_at, if_neg (by omega), am_u_at, if_neg (by omega)]
  have h37 : g2 3 7 = nI m := by rw [hg2, am_u_at, if_pos ⟨rfl, rfl⟩]
  have h36 : g2 3 6 = nI v := by rw [hg2, am_u_at, if_neg (by omega), am_u_at, if_pos ⟨rfl, rfl⟩]
  have E02 : ∀ a b, (a ≠ 4 ∧ (a ≠ 3 ∨ (b ≠ 6 ∧ b ≠ 7))) → g2 a b = g a b := fun a b q => (E2 a b q.2).trans (E1 a b q.1)
  obtain ⟨X2, f2⟩ := bl_X (h := g2) (fun a b q => E02 a b (by omega)) hX
  obtain ⟨g3, c3, E3, V3⟩ := bl_59 (F := F) hm X2 h37 (fun g => f_X2_build_132 F (g)) m 0 F g2 (by omega) (by omega) (fun _ _ _ => rfl) (fun t ht => absurd ht (Nat.not_lt_zero t))
  simp only [f2] at V3
  have h37b : g3 3 7 = nI m := (E3 3 7 (by omega)).trans h37
  have h36b : g3 3 6 = nI v := (E3 3 6 (by omega)).trans h36
  obtain ⟨g4, c4, E4, V4⟩ := bl_134 (F := F) (by omega) hm h37b h36b (by omega) (fun k hk => by rw [(V3 k hk).1, (V3 k hk).2.2.1]; exact hp k hk) m 0 F g3 (by omega) (by omega) (fun _ _ _ => rfl) (fun t ht => absurd ht (Nat.not_lt_zero t))
  have hsee : bl_see g4 = bl_see g3 := by
    funext a b
    unfold bl_see
    rw [E4 6 a (by omega), E4 6 b (by omega), E4 3 6 (by omega), E4 5 a (by omega), E4 5 b (by omega), E4 7 a (by omega), E4 7 b (by omega)]
  refine ⟨g4, ?_, ?_, ?_, ?_, ?_, ?_⟩
  · unfold f_X2_build
    refine c1.trans ?_
    have q5 : f_X3_figure g1 5 = some (nI v) := by
      have := tx_fig X1 (show 5 < 2147483648 by omega)
      rw [f1, h5] at this
      exact this
    have q6 : (am_u g1 3 6 (nI v)) 1 1 = nI (6 * m + 6) := by
      rw [am_u_at, if_neg (by omega)]
      exact X1.2.1
    show f_X2_build_26 F g1 = some g4
    simp only [f_X2_build_26, q5, Option.bind_some, f_X3_size, q6, bl_cnt m hm, ← hg2]
    refine c3.trans ?_
    exact c4
  · intro a b q
    rw [E4 a b (by omega), E3 a b (by omega), E02 a b (by omega)]
  · rw [E4 3 6 (by omega), h36b]
  · rw [E4 3 7 (by omega), h37b]
  · intro t ht
    rw [E4 4 t (by omega), E3 4 t (by omega), E2 4 t (by omega), V1 t ht]
  · intro t ht
    rw [hsee, E4 5 t (by omega), E4 6 t (by omega), E4 7 t (by omega), E4 8 t (by omega)]
    exact ⟨V3 t ht, V4 t ht⟩
theorem bl_fill {F n : Nat} (hn : 6 < n) (g : am_G) : f_J7_fill_53178_12_5 F (-9) n 0 (Int32.ofNat 6) g = some (fun a b => if a = 12 ∧ b < 6 then -9 else g a b) := by
  obtain ⟨m, rfl⟩ : ∃ m, n = m + 7 := ⟨n - 7, by omega⟩
  have e4 : Int32.ofNat 6 = 6 := by decide
  have c : ∀ i : Nat, i < 6 → ∀ h n, f_J7_fill_53178_12_5 F (-9) (n + 1) (nI i) 6 h = f_J7_fill_53178_12_5 F (-9) n (nI (i + 1)) 6 (am_u h 12 i (-9)) := fun i hi h n => by
    rw [f_J7_fill_53178_12_5.eq_2, if_neg (show ¬ (6 : Int32) ≤ nI i from nI_ge (b := 6) hi (by decide)), if_pos ((pu_in (by omega)).mpr hi), pu_tn (by omega), show nI i + (1 : Int32) = nI (i + 1) from nI_add i 1]
  rw [e4]
  refine (c 0 (by omega) g (m + 6)).trans ?_
  rw [c 1 (by omega), c 2 (by omega), c 3 (by omega), c 4 (by omega), c 5 (by omega), f_J7_fill_53178_12_5.eq_2, if_pos (show (6 : Int32) ≤ nI 6 from by decide)]
  congr 1
  funext a b
  rw [am_u_at, am_u_at, am_u_at, am_u_at, am_u_at, am_u_at]
  by_cases h : a = 12 ∧ b < 6
  · rw [if_pos h]
    have : b = 0 ∨ b = 1 ∨ b = 2 ∨ b = 3 ∨ b = 4 ∨ b = 5 := by omega
    rcases this with rfl | rfl | rfl | rfl | rfl | rfl <;> simp [h.1]
  · rw [if_neg h, if_neg (by omega), if_neg (by omega), if_neg (by omega), if_neg (by omega), if_neg (by omega), if_neg (by omega)]
theorem bl_beg {F : Nat} {g : am_G} {len m : Nat} (hm : m ≤ 6) (hX : iv_X g len) (h37 : g 3 7 = nI m) (K : am_G → Option am_G) : ∀ (d k n : Nat) (g' : am_G), k + d = m → d < n → (∀ a b, a ≠ 11 → g' a b = g a b) → (∀ t, t < k → g' 11 t = tx_i (tx_f g len (6 * t + 10))) →
    ∃ h, f_X4_begin_2 F K n (nI k) g' = K h ∧ (∀ a b, a ≠ 11 → h a b = g a b) ∧ ∀ t, t < m → h 11 t = tx_i (tx_f g len (6 * t + 10)) := by
  intro d
  induction d with
  | zero =>
    intro k n g' hk hn E V
    obtain ⟨n, rfl⟩ : ∃ j, n = j + 1 := ⟨n - 1, by omega⟩
    have : k = m := by omega
    subst this
    rw [f_X4_begin_2.eq_2, f_X2_windows, Option.bind_some, E 3 7 (by omega), h37, if_pos (Int32.le_refl _)]
    exact ⟨g', rfl, E, V⟩
  | succ d ih =>
    intro k n g' hk hn E V
    obtain ⟨n, rfl⟩ : ∃ j, n = j + 1 := ⟨n - 1, by omega⟩
    obtain ⟨X', f'⟩ := bl_X (h := g') (fun a b q => E a b (by omega)) hX
    have e6 : (6 : Int32) * (nI k + 1) + 4 = nI (6 * k + 10) := by
      rw [show nI k + (1 : Int32) = nI (k + 1) from nI_add k 1, show (6 : Int32) * nI (k + 1) = nI (6 * (k + 1)) from pu_mul 6 (k + 1), show nI (6 * (k + 1)) + (4 : Int32) = nI (6 * (k + 1) + 4) from nI_add _ 4]
      congr 1
    rw [f_X4_begin_2.eq_2, f_X2_windows, Option.bind_some, E 3 7 (by omega), h37, if_neg (by rw [pu_le (by omega) (by omega)]; omega), e6, tx_fig X' (by omega), Option.bind_some, if_pos ((pu_in (by omega)).mpr (by omega)), pu_tn (by omega), show nI k + (1 : Int32) = nI (k + 1) from nI_add k 1, f']
    refine ih (k + 1) n _ (by omega) (by omega) (fun a b q => by rw [am_u_at, if_neg (by omega), E a b q]) (fun t ht => ?_)
    rw [am_u_at]
    by_cases h : t = k
    · rw [if_pos ⟨rfl, h⟩, h]
    · rw [if_neg (by omega), V t (by omega)]
