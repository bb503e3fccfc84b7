/-! WAYS: the reference's best -/
def wr_e (g h : am_G) : Prop := ∀ a b, (a ≠ 26 ∨ (b ≠ 20 ∧ b ≠ 21 ∧ b ≠ 22)) → h a b = g a b
theorem wr_e.W {g h : am_G} {N : Nat} (H : wr_e g h) (hW : iv_W g N) : iv_W h N := iv_W.of2 (fun a b q => H a b (by omega)) hW
theorem wr_e.see {g h : am_G} (H : wr_e g h) : iv_see h = iv_see g := by
  funext k o
  unfold iv_see
  rw [H 29 k (by omega), H 29 o (by omega), H 26 1 (by omega), H 28 k (by omega), H 28 o (by omega), H 30 k (by omega), H 30 o (by omega)]
theorem wr_e.p {g h : am_G} (H : wr_e g h) (D : Nat) : wy_p h D = wy_p g D := by
  funext b
  unfold wy_p
  rw [H 31 b (by omega)]
theorem wr_e.c {g h : am_G} (H : wr_e g h) : wy_c h = wy_c g := by
  funext b
  unfold wy_c
  rw [H 31 b (by omega)]
theorem wr_e.trans {g h i : am_G} (H : wr_e g h) (H2 : wr_e h i) : wr_e g i := fun a b c => (H2 a b c).trans (H a b c)
/-- those that have been looked at -/
def wr_v (n way : Nat) (L : List Nat) : Prop := (∀ x, x ∈ L → x < 6) ∧ (L.length < n ∨ (L.length = n ∧ wy_w L < way))
def wr_Q (S : Nat → Nat → Bool) (p : Nat → Bool) (c : Nat → Nat) (N f t n way : Nat) (h : am_G) : Prop := (h 26 20 = -9 ∧ ∀ L, wr_v n way L → ¬ wy_V S p N f t L) ∨ ∃ L, wr_v n way L ∧ wy_V S p N f t L ∧ (h 26 20 = nI (wy_h c L) ∧ h 26 21 = nI (wy_w L) ∧ h 26 22 = nI L.length) ∧ ∀ L', wr_v n way L' → wy_V S p N f t L' → wy_R c f t L ≤ wy_R c f t L'
theorem wr_vS {n way : Nat} {L : List Nat} (hw : way < 6 ^ n) : wr_v n (way + 1) L ↔ (wr_v n way L ∨ L = wy_L n way) := by
  constructor
  · rintro ⟨h1, h2 | ⟨h2, h3⟩⟩
    · exact Or.inl ⟨h1, Or.inl h2⟩
    · rcases Nat.lt_or_ge (wy_w L) way with q | q
      · exact Or.inl ⟨h1, Or.inr ⟨h2, q⟩⟩
      · right
        have e : wy_w L = way := by omega
        have := wy_LL h1
        rw [← this, h2, e]
  · rintro (⟨h1, h2 | ⟨h2, h3⟩⟩ | h)
    · exact ⟨h1, Or.inl h2⟩
    · exact ⟨h1, Or.inr ⟨h2, by omega⟩⟩
    · subst h
      exact ⟨wy_Llt n way, Or.inr ⟨wy_Llen n way, by rw [wy_Lw n way hw]; omega⟩⟩
theorem wr_vN {n : Nat} {L : List Nat} : wr_v (n + 1) 0 L ↔ wr_v n (6 ^ n) L := by
  constructor
  · rintro ⟨h1, h2 | ⟨h2, h3⟩⟩
    · rcases Nat.lt_or_ge L.length n with q | q
      · exact ⟨h1, Or.inl q⟩
      · have e : L.length = n := by omega
        exact ⟨h1, Or.inr ⟨e, by have := wy_w6 h1; rw [e] at this; exact this⟩⟩
    · exact absurd h3 (Nat.not_lt_zero _)
  · rintro ⟨h1, h2 | ⟨h2, h3⟩⟩
    · exact ⟨h1, Or.inl (by omega)⟩
    · exact ⟨h1, Or.inl (by omega)⟩
theorem wr_ar6 (M a a' d d' : Nat) (h : a ≤ a') (h2 : d ≤ d') : a * M + d ≤ a' * M + d' := Nat.add_le_add (Nat.mul_le_mul_right M h) h2
theorem wr_ar7 (M a a' d d' : Nat) (h : a < a') (h2 : d ≤ M) : a * M + d ≤ a' * M + d' := by
  have h6 : (a + 1) * M ≤ a' * M := Nat.mul_le_mul_right _ h
  rw [Nat.succ_mul] at h6
  generalize a * M = A at *
  generalize a' * M = A' at *
  omega
theorem wr_ord {f n way : Nat} (hf : f < 6) (hway : way < 6 ^ n) {L : List Nat} (h : wr_v n way L) : wy_d f L < wy_d f (wy_L n way) := by
  obtain ⟨h1, h2⟩ := h
  have b1 := wy_dlt hf h1
  have b2 := wy_dlt (f := f) hf (wy_Llt n way)
  rw [wy_Llen] at b2
  rcases h2 with h2 | ⟨h2, h3⟩
  · have h4 : 10 ^ (L.length + 1) ≤ 10 ^ n := Nat.pow_le_pow_right (by decide) h2
    rw [Nat.pow_succ] at h4
    omega
  · exact wy_wlt h1 (wy_Llt n way) (by rw [wy_Llen, h2]) (by rw [wy_Lw n way hway]; exact h3)
section WB
variable {F : Nat} {g : am_G} {N f t D : Nat}
theorem wr_in (hF : 2000 ≤ F) (hW : iv_W g N) (hf : f < N) (ht : t < N) (hft : t ≠ f) (hD : D < 64) {n : Nat} (hn : n ≤ 4) (K : Int32 → am_G → Option am_G) : ∀ (d way m : Nat) (h : am_G), way + d = 6 ^ n → d < m → wr_e g h → wr_Q (iv_see g) (wy_p g D) (wy_c g) N f t n way h →
    ∃ h', f_X8_layWays_18 F (nI f) (nI t) (nI D) K m (nI n) (nI way) h = K (nI n) h' ∧ wr_e g h' ∧ wr_Q (iv_see g) (wy_p g D) (wy_c g) N f t n (6 ^ n) h' := by
  have hN := hW.1
  obtain ⟨p1, p2⟩ := wr_p6 (n := n) (by omega)
  intro d
  induction d with
  | zero =>
    intro way m h hw hm E Q
    obtain ⟨m, rfl⟩ : ∃ j, m = j + 1 := ⟨m - 1, by omega⟩
    have : way = 6 ^ n := by omega
    subst this
    rw [f_X8_layWays_18.eq_2, wr_six (by omega) (by omega), Option.bind_some, if_pos (Int32.le_refl _)]
    exact ⟨h, rfl, E, Q⟩
  | succ d ih =>
    intro way m h hw hm E Q
    obtain ⟨m, rfl⟩ : ∃ j, m = j + 1 := ⟨m - 1, by omega⟩
    have hway : way < 6 ^ n := by omega
    have e1 : nI way + (1 : Int32) = nI (way + 1) := nI_add way 1
    rw [f_X8_layWays_18.eq_2, wr_six (by omega) (by omega), Option.bind_some, if_neg (by rw [pu_le (by omega) (by omega)]; omega)]
    have hh := wr_hours (F := F) (by omega) (E.W hW) hf ht hD hn hway
    rw [E.see, E.p, E.c] at hh
    obtain ⟨L0, hL0⟩ : ∃ L0, L0 = wy_L n way := ⟨_, rfl⟩
    rw [← hL0] at hh
    have hlen0 : L0.length = n := by rw [hL0, wy_Llen]
    have hw0 : wy_w L0 = way := by rw [hL0, wy_Lw n way hway]
    have vis0 : wr_v n (way + 1) L0 := (wr_vS hway).mpr (Or.inr hL0)
    rcases hh with ⟨hV0, c0⟩ | ⟨hV0, c0⟩
    · rw [c0, Option.bind_some]
      obtain ⟨k1, k2, k3⟩ := wy_le (wy_c1 g) hN hf ht hft hV0
      rw [if_neg (rd_ne9 _ (by omega))]
      -- the new one is taken
      have take : (∀ L', wr_v n way L' → wy_V (iv_see g) (wy_p g D) N f t L' → wy_R (wy_c g) f t L0 ≤ wy_R (wy_c g) f t L') → ∃ h', f_X8_layWays_66 F (nI f) (nI t) (nI D) (fun l4 l5 g => f_X8_layWays_18 F (nI f) (nI t) (nI D) K m l4 l5 g) K (nI n) (nI way) (nI (wy_h (wy_c g) L0)) h = K (nI n) h' ∧ wr_e g h' ∧ wr_Q (iv_see g) (wy_p g D) (wy_c g) N f t n (6 ^ n) h' := by
        intro hmin
        simp only [f_X8_layWays_66, f_X8_layWays_84, e1]
        refine ih (way + 1) m _ (by omega) (by omega) (E.trans fun a b q => by rw [am_u_at, if_neg (by omega), am_u_at, if_neg (by omega), am_u_at, if_neg (by omega)]) (Or.inr ⟨L0, vis0, hV0, ⟨?_, ?_, ?_⟩, fun L' hv hV => ?_⟩)
        · rw [am_u_at, if_neg (by omega), am_u_at, if_neg (by omega), am_u_at, if_pos ⟨rfl, rfl⟩]
        · rw [am_u_at, if_neg (by omega), am_u_at, if_pos ⟨rfl, rfl⟩, hw0]
        · rw [am_u_at, if_pos ⟨rfl, rfl⟩, hlen0]
        · rcases (wr_vS hway).mp hv with q | q
          · exact hmin L' q hV
          · rw [q, hL0]; exact Nat.le_refl _
      rcases Q with ⟨q20, qno⟩ | ⟨L, qv, qV, ⟨q20, q21, q22⟩, qmin⟩
      · rw [if_pos q20]
        exact take (fun L' hv hV => absurd hV (qno L' hv))
      · obtain ⟨k1', k2', k3'⟩ := wy_le (wy_c1 g) hN hf ht hft qV
        rw [q20, if_neg (rd_ne9 _ (by omega))]
        by_cases hcmp : wy_h (wy_c g) L ≤ wy_h (wy_c g) L0
        · rw [if_pos (nI_le hcmp (by omega))]
          simp only [f_X8_layWays_84, e1]
          refine ih (way + 1) m h (by omega) (by omega) E (Or.inr ⟨L, (wr_vS hway).mpr (Or.inl qv), qV, ⟨q20, q21, q22⟩, fun L' hv hV => ?_⟩)
          rcases (wr_vS hway).mp hv with q | q
          · exact qmin L' q hV
          · have ho := wr_ord (f := f) (by omega) hway qv
            rw [q]
            unfold wy_R
            rw [hL0] at hcmp
            exact wr_ar6 _ _ _ _ _ hcmp (by omega)
        · rw [if_neg (fun z => hcmp ((pu_le (by omega) (by omega)).mp z))]
          refine take (fun L' hv hV => Nat.le_trans ?_ (qmin L' hv hV))
          unfold wy_R
          exact wr_ar7 _ _ _ _ _ (by omega) (by omega)
    · rw [c0, Option.bind_some, if_pos rfl]
      simp only [f_X8_layWays_84, e1]
      refine ih (way + 1) m h (by omega) (by omega) E ?_
      rcases Q with ⟨q20, qno⟩ | ⟨L, qv, qV, qc, qmin⟩
      · refine Or.inl ⟨q20, fun L hv => ?_⟩
        rcases (wr_vS hway).mp hv with q | q
        · exact qno L q
        · rw [q, ← hL0]; exact hV0
      · refine Or.inr ⟨L, (wr_vS hway).mpr (Or.inl qv), qV, qc, fun L' hv hV => ?_⟩
        rcases (wr_vS hway).mp hv with q | q
        · exact qmin L' q hV
        · rw [q, ← hL0] at hV; exact absurd hV hV0
theorem wr_out (hF : 2000 ≤ F) (hW : iv_W g N) (hf : f < N) (ht : t < N) (hft : t ≠ f) (hD : D < 64) : ∀ (d n m : Nat) (h : am_G), n + d = 5 → d < m → wr_e g h → wr_Q (iv_see g) (wy_p g D) (wy_c g) N f t n 0 h →
    ∃ h', f_X8_layWays_9 F (nI f) (nI t) (nI D) m (nI n) h = some h' ∧ wr_e g h' ∧ wr_Q (iv_see g) (wy_p g D) (wy_c g) N f t 5 0 h' := by
  intro d
  induction d with
  | zero =>
    intro n m h hn hm E Q
    obtain ⟨m, rfl⟩ : ∃ j, m = j + 1 := ⟨m - 1, by omega⟩
    have : n = 5 := by omega
    subst this
    rw [f_X8_layWays_9.eq_2, if_pos (show (5 : Int32) ≤ nI 5 from by decide)]
    exact ⟨h, rfl, E, Q⟩
  | succ d ih =>
    intro n m h hn hm E Q
    obtain ⟨m, rfl⟩ : ∃ j, m = j + 1 := ⟨m - 1, by omega⟩
    have p2 : 6 ^ n ≤ 6 ^ 4 := Nat.pow_le_pow_right (by decide) (by omega)
    obtain ⟨h1, c1, E1, Q1⟩ := wr_in hF hW hf ht hft hD (show n ≤ 4 by omega) (fun l4 g => f_X8_layWays_90 F (nI f) (nI t) (nI D) (fun l4 g => f_X8_layWays_9 F (nI f) (nI t) (nI D) m l4 g) (l4) (g)) (6 ^ n) 0 F h (by omega) (by omega) E Q
    have Q2 : wr_Q (iv_see g) (wy_p g D) (wy_c g) N f t (n + 1) 0 h1 := by
      rcases Q1 with ⟨q20, qno⟩ | ⟨L, qv, qV, qc, qmin⟩
      · exact Or.inl ⟨q20, fun L hv => qno L (wr_vN.mp hv)⟩
      · exact Or.inr ⟨L, wr_vN.mpr qv, qV, qc, fun L' hv => qmin L' (wr_vN.mp hv)⟩
    obtain ⟨h2, c2, E2, Q3⟩ := ih (n + 1) m h1 (by omega) (by omega) E1 Q2
    refine ⟨h2, ?_, E2, Q3⟩
    rw [f_X8_layWays_9.eq_2, if_neg (show ¬ (5 : Int32) ≤ nI n from nI_ge (b := 5) (by omega) (by decide))]
    refine c1.trans ?_
    show f_X8_layWays_9 F (nI f) (nI t) (nI D) m (nI n + 1) h1 = _
    rw [show nI n + (1 : Int32) = nI (n + 1) from nI_add n 1, c2]
theorem wr_lay (hF : 2000 ≤ F) (hW : iv_W g N) (hf : f < N) (ht : t < N) (hft : t ≠ f) (hD : D < 64) : ∃ h, f_X8_layWays F g (nI f) (nI t) (nI D) = some h ∧ wr_e g h ∧ ((h 26 20 = -9 ∧ ∀ L, ¬ wy_V (iv_see g) (wy_p g D) N f t L) ∨ ∃ L, wy_B (iv_see g) (wy_p g D) (wy_c g) N f t L ∧ h 26 20 = nI (wy_h (wy_c g) L) ∧ h 26 21 = nI (wy_w L) ∧ h 26 22 = nI L.length) := by
  have hN := hW.1
  obtain ⟨h, c, E, Q⟩ := wr_out hF hW hf ht hft hD 5 0 F (am_u g 26 20 (-9)) (by omega) (by omega) (fun a b q => by rw [am_u_at, if_neg (by omega)]) (Or.inl ⟨by rw [am_u_at, if_pos ⟨rfl, rfl⟩], fun L hv => by
    obtain ⟨-, q | ⟨-, q⟩⟩ := hv
    · exact absurd q (Nat.not_lt_zero _)
    · exact absurd q (Nat.not_lt_zero _)⟩)
  have vis : ∀ L, wy_V (iv_see g) (wy_p g D) N f t L → wr_v 5 0 L := fun L hL => by
    obtain ⟨b1, b2, -⟩ := wy_bnd hN hf ht hft hL
    exact ⟨b1, Or.inl (by omega)⟩
  refine ⟨h, c, E, ?_⟩
  rcases Q with ⟨q20, qno⟩ | ⟨L, qv, qV, qc, qmin⟩
  · exact Or.inl ⟨q20, fun L hL => qno L (vis L hL) hL⟩
  · exact Or.inr ⟨L, ⟨qV, fun L' hL' => qmin L' (vis L' hL') hL'⟩, qc⟩
end WB
