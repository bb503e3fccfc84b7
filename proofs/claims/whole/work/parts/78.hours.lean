/-! CROSS: the hours at which those between say the word -/
def cr_h (c : Nat → Nat) : List Nat → Nat → Int32
  | [], _ => -9
  | b :: L, k => if k = b then nI (wy_h c (b :: L)) else cr_h c L k
theorem cr_no {c : Nat → Nat} {k : Nat} : ∀ {L : List Nat}, k ∉ L → cr_h c L k = -9
  | [], _ => rfl
  | b :: L, h => by
    unfold cr_h
    rw [if_neg (fun e => h (by rw [e]; exact List.mem_cons_self)), cr_no (fun q => h (List.mem_cons_of_mem b q))]
/-- what stands in the row of hours of a way -/
def cr_T (g : am_G) (N f t : Nat) (v : Nat → Int32) : Prop := ((∀ L, ¬ wy_V (iv_see g) (wy_p g 0) N f t L) ∧ ∀ k, k < 6 → v k = -9) ∨ ∃ L, wy_B (iv_see g) (wy_p g 0) (wy_c g) N f t L ∧ ∀ k, k < 6 → v k = cr_h (wy_c g) L k
theorem cr_T.one {g : am_G} {N f t : Nat} {v v' : Nat → Int32} (hN : N ≤ 6) (hf : f < N) (ht : t < N) (hft : t ≠ f) (h : cr_T g N f t v) (h' : cr_T g N f t v') : ∀ k, k < 6 → v k = v' k := by
  intro k hk
  rcases h with ⟨h1, h2⟩ | ⟨L, h1, h2⟩
  · rcases h' with ⟨h1', h2'⟩ | ⟨L', h1', h2'⟩
    · rw [h2 k hk, h2' k hk]
    · exact absurd h1'.1 (h1 L')
  · rcases h' with ⟨h1', h2'⟩ | ⟨L', h1', h2'⟩
    · exact absurd h1.1 (h1' L)
    · rw [h2 k hk, h2' k hk, h1.one hN hf ht hft h1']
theorem cr_val {g : am_G} {N f t : Nat} {v : Nat → Int32} (hN : N ≤ 6) (hf : f < N) (ht : t < N) (hft : t ≠ f) (h : cr_T g N f t v) {k : Nat} (hk : k < 6) : v k = -9 ∨ ∃ x, x ≤ 4 ∧ v k = nI x := by
  rcases h with ⟨h1, h2⟩ | ⟨L, h1, h2⟩
  · exact Or.inl (h2 k hk)
  · rw [h2 k hk]
    obtain ⟨-, b2, -⟩ := wy_bnd hN hf ht hft h1.1
    clear h1 h2
    induction L with
    | nil => exact Or.inl rfl
    | cons b L ih =>
      unfold cr_h
      split
      · right
        have := wy_hle (wy_c1 g) (b :: L)
        exact ⟨_, by omega, rfl⟩
      · exact ih (by simp at b2; omega)
theorem cr_loop24 {F : Nat} {g : am_G} {N f : Nat} (hW : iv_W g N) (hf : f < 6) (p1 p2 : Int32) (w : am_J) : ∀ (L : List Nat) (s n : Nat) (g' : am_G), (∀ x, x ∈ L → x < N) → L.Nodup → s + L.length ≤ 4 → L.length < n → (∀ a b, a ≠ 24 → g' a b = g a b) →
    ∃ h, f_X6_hoursBetween_20_24_41 F p1 p2 n (nI (wy_h (wy_c g) L)) (nI (wy_d f L)) (nI s) g' w = some (h, w) ∧ (∀ a b, a ≠ 24 → h a b = g a b) ∧ ∀ k, h 24 k = if k ∈ L then cr_h (wy_c g) L k else g' 24 k := by
  have hN := hW.1
  intro L
  induction L with
  | nil =>
    intro s n g' hx hnd hs hn E
    obtain ⟨n, rfl⟩ : ∃ k, n = k + 1 := ⟨n - 1, by omega⟩
    refine ⟨g', ?_, E, fun k => ?_⟩
    · rw [f_X6_hoursBetween_20_24_41.eq_2, if_neg (show ¬ (6 : Int32) ≤ nI s from nI_ge (b := 6) (by simp at hs; omega) (by decide)), if_pos (show nI (wy_d f []) < (10 : Int32) from nI_lt (a := f + 1) (b := 10) (by omega) (by decide))]
    · rw [if_neg List.not_mem_nil]
  | cons b L ih =>
    intro s n g' hx hnd hs hn E
    obtain ⟨n, rfl⟩ : ∃ k, n = k + 1 := ⟨n - 1, by omega⟩
    rw [List.length_cons] at hs hn
    have hbN := hx b List.mem_cons_self
    have hx' : ∀ x, x ∈ L → x < N := fun x h => hx x (List.mem_cons_of_mem b h)
    obtain ⟨hbL, hnd'⟩ := List.nodup_cons.mp hnd
    have hd := wy_dlt (f := f) hf (L := L) (fun x h => by have := hx' x h; omega)
    have h4 : 10 ^ L.length ≤ 10 ^ 3 := Nat.pow_le_pow_right (by decide) (by omega)
    have h5 : 1 ≤ 10 ^ L.length := Nat.one_le_pow _ _ (by decide)
    have hl5 : wy_d f (b :: L) = 10 * wy_d f L + (b + 1) := rfl
    have hl4 : wy_h (wy_c g) (b :: L) = wy_h (wy_c g) L + wy_c g b := rfl
    have hmod : nI (wy_d f (b :: L)) - nI (wy_d f (b :: L)) / (10 : Int32) * (10 : Int32) - (1 : Int32) = nI b := by
      rw [show nI (wy_d f (b :: L)) - nI (wy_d f (b :: L)) / (10 : Int32) * (10 : Int32) = nI (wy_d f (b :: L) % 10) from pu_rem (a := wy_d f (b :: L)) (b := 10) (by omega) (by decide) (by decide), show nI (wy_d f (b :: L) % 10) - (1 : Int32) = nI (wy_d f (b :: L) % 10 - 1) from pu_sub (a := wy_d f (b :: L) % 10) (b := 1) (by omega)]
      congr 1
      omega
    have hdiv : nI (wy_d f (b :: L)) / (10 : Int32) = nI (wy_d f L) := by
      rw [show nI (wy_d f (b :: L)) / (10 : Int32) = nI (wy_d f (b :: L) / 10) from pu_div (a := wy_d f (b :: L)) (b := 10) (by omega) (by decide) (by decide)]
      congr 1
      omega
    have e6 : Int32.ofNat 6 = 6 := by decide
    have hc1 := wy_c1 g b
    have E' : ∀ a c, a ≠ 24 → (am_u g' 24 b (nI (wy_h (wy_c g) (b :: L)))) a c = g a c := fun a c q => by rw [am_u_at, if_neg (by omega), E a c q]
    have hW' : iv_W (am_u g' 24 b (nI (wy_h (wy_c g) (b :: L)))) N := iv_W.of2 (fun a c q => E' a c (by omega)) hW
    have hcg : ∀ h : am_G, h 31 b = g 31 b → wy_c h b = wy_c g b := fun h z => by
      unfold wy_c
      rw [z]
    have hcc : wy_c (am_u g' 24 b (nI (wy_h (wy_c g) (b :: L)))) b = wy_c g b := hcg _ (E' 31 b (by omega))
    have hat := wy_hat hW' hbN
    rw [hcc] at hat
    obtain ⟨h, c1, E1, V1⟩ := ih (s + 1) n (am_u g' 24 b (nI (wy_h (wy_c g) (b :: L)))) hx' hnd' (by omega) (by omega) E'
    refine ⟨h, ?_, E1, fun k => ?_⟩
    · rw [f_X6_hoursBetween_20_24_41.eq_2, if_neg (show ¬ (6 : Int32) ≤ nI s from nI_ge (b := 6) (by omega) (by decide)), if_neg (show ¬ nI (wy_d f (b :: L)) < (10 : Int32) from fun z => by have := (pu_lt (b := 10) (by omega) (by decide)).mp z; omega), hmod, if_neg (pu_nn (by omega)), e6, if_neg (show ¬ (6 : Int32) ≤ nI b from nI_ge (b := 6) (by omega) (by decide)), if_pos (pb_i6 (by omega)), pu_tn (by omega)]
      simp only [f_X6_hoursBetween_20_24_82, hat, Option.bind_some, hdiv, show nI s + (1 : Int32) = nI (s + 1) from nI_add s 1]
      rw [hl4, pu_sub (show wy_c g b ≤ wy_h (wy_c g) L + wy_c g b by omega), Nat.add_sub_cancel]
      exact c1
    · rw [V1 k, am_u_at]
      by_cases hk : k = b
      · subst hk
        rw [if_neg hbL, if_pos ⟨rfl, rfl⟩, if_pos List.mem_cons_self]
        simp only [cr_h, if_pos]
      · by_cases hkL : k ∈ L
        · rw [if_pos hkL, if_pos (List.mem_cons_of_mem b hkL)]
          simp only [cr_h, if_neg hk]
        · rw [if_neg hkL, if_neg (fun z => hk z.2), if_neg (fun z => by rcases List.mem_cons.mp z with q | q; exact hk q; exact hkL q)]
theorem cr_fill24 {F n : Nat} (hn : 6 < n) (g : am_G) : f_J7_fill_53178_24_5 F (-9) n 0 (Int32.ofNat 6) g = some (fun a b => if a = 24 ∧ b < 6 then -9 else g a b) := by
  obtain ⟨m, rfl⟩ : ∃ m, n = m + 7 := ⟨n - 7, by omega⟩
  have e4 : Int32.ofNat 6 = 6 := by decide
  have c : ∀ i : Nat, i < 6 → ∀ h n, f_J7_fill_53178_24_5 F (-9) (n + 1) (nI i) 6 h = f_J7_fill_53178_24_5 F (-9) n (nI (i + 1)) 6 (am_u h 24 i (-9)) := fun i hi h n => by
    rw [f_J7_fill_53178_24_5.eq_2, if_neg (show ¬ (6 : Int32) ≤ nI i from nI_ge (b := 6) hi (by decide)), if_pos ((pu_in (by omega)).mpr hi), pu_tn (by omega), show nI i + (1 : Int32) = nI (i + 1) from nI_add i 1]
  rw [e4]
  refine (c 0 (by omega) g (m + 6)).trans ?_
  rw [c 1 (by omega), c 2 (by omega), c 3 (by omega), c 4 (by omega), c 5 (by omega), f_J7_fill_53178_24_5.eq_2, if_pos (show (6 : Int32) ≤ nI 6 from by decide)]
  congr 1
  funext a b
  rw [am_u_at, am_u_at, am_u_at, am_u_at, am_u_at, am_u_at]
  by_cases h : a = 24 ∧ b < 6
  · rw [if_pos h]
    have : b = 0 ∨ b = 1 ∨ b = 2 ∨ b = 3 ∨ b = 4 ∨ b = 5 := by omega
    rcases this with rfl | rfl | rfl | rfl | rfl | rfl <;> simp [h.1]
  · rw [if_neg h, if_neg (by omega), if_neg (by omega), if_neg (by omega), if_neg (by omega), if_neg (by omega), if_neg (by omega)]
theorem cr_cls24 {F : Nat} (hF : 20 ≤ F) {g : am_G} {N f t : Nat} (hW : iv_W g N) (hf : f < N) (ht : t < N) (hft : t ≠ f) (w : am_J) : ∃ h w1, f_X6_hoursBetween_20_24 F g w (nI f) (nI t) = some (h, w1) ∧ (∀ a b, a ≠ 24 → h a b = g a b) ∧ (∀ a b, a ≠ 21 → w1 a b = w a b) ∧ cr_T g N f t (h 24) := by
  have hN := hW.1
  obtain ⟨q, hq⟩ : ∃ q : am_G, q = fun a b => if a = 24 ∧ b < 6 then -9 else g a b := ⟨_, rfl⟩
  have Eq : ∀ a b, a ≠ 24 → q a b = g a b := fun a b z => by rw [hq]; exact if_neg (fun y => z y.1)
  have q9 : ∀ k, k < 6 → q 24 k = -9 := fun k hk => by rw [hq]; exact if_pos ⟨rfl, hk⟩
  have hWq : iv_W q N := iv_W.of2 (fun a b z => Eq a b (by omega)) hW
  have hsee : iv_see q = iv_see g := by
    funext k o
    unfold iv_see
    rw [Eq 29 k (by omega), Eq 29 o (by omega), Eq 26 1 (by omega), Eq 28 k (by omega), Eq 28 o (by omega), Eq 30 k (by omega), Eq 30 o (by omega)]
  have hp : wy_p q 0 = wy_p g 0 := by
    funext b
    unfold wy_p
    rw [Eq 31 b (by omega)]
  have hc : wy_c q = wy_c g := by
    funext b
    unfold wy_c
    rw [Eq 31 b (by omega)]
  obtain ⟨w1, c1, hw1⟩ := wy_measure (F := F) (by omega) hWq hf (show 0 < 64 by decide) w
  have c1' : f_X6_measure F q w (nI f) 0 = some w1 := c1
  have hb := ws_le (g := q) (D := 0) hN hf ht
  unfold f_X6_hoursBetween_20_24 f_J7_fill_53178_24
  rw [cr_fill24 (by omega), Option.bind_some, ← hq, c1', Option.bind_some, wy_comes hWq hw1 ht hb, Option.bind_some, ws_hours hWq hf hw1 ht, ws_way hWq hf hw1 ht]
  have hrr : wy_rr (iv_see q) (wy_p q 0) (wy_c q) N f t = ws_r q N 0 f t := rfl
  have hT : ∀ v, cr_T q N f t v → cr_T g N f t v := fun v z => by
    unfold cr_T at z ⊢
    rw [hsee, hp, hc] at z
    exact z
  rcases wy_end (p := wy_p q 0) (wy_see q) (wy_c1 q) hN hf ht hft with ⟨p1, p2⟩ | ⟨L, p1, p2⟩
  · rw [hrr] at p1
    rw [hrr, if_pos p1, if_pos rfl]
    exact ⟨q, w1, rfl, Eq, hw1.2, hT _ (Or.inl ⟨p2, q9⟩)⟩
  · obtain ⟨b1, b2, b3, b4⟩ := wy_bnd hN hf ht hft p1.1
    obtain ⟨k1, k2, k3⟩ := wy_le (wy_c1 q) hN hf ht hft p1.1
    obtain ⟨d1, d2⟩ := ws_div (wy_h (wy_c q) L) (10 * wy_d f L + (t + 1)) (by omega)
    have qr' : ws_r q N 0 f t = wy_h (wy_c q) L * 10000000 + (10 * wy_d f L + (t + 1)) := p2
    have hnv : ¬ ws_r q N 0 f t = 1000000000 := by
      have : ws_r q N 0 f t = wy_R (wy_c q) f t L := p2
      rw [this]
      omega
    obtain ⟨h, c2, E2, V2⟩ := cr_loop24 (F := F) (g := q) (f := f) hWq (by omega) (nI f) (nI t) w1 L 0 F q (fun x hx => p1.1.1.nodup.2.2 x hx) p1.1.1.nodup.1 (by omega) (by omega) (fun _ _ _ => rfl)
    rw [hrr, if_neg hnv, if_neg pb_10, if_neg hnv, if_neg hnv, Option.bind_some, Option.bind_some, qr', d1, d2, show nI (10 * wy_d f L + (t + 1)) / (10 : Int32) = nI ((10 * wy_d f L + (t + 1)) / 10) from pu_div (a := 10 * wy_d f L + (t + 1)) (b := 10) (by omega) (by decide) (by decide), show (10 * wy_d f L + (t + 1)) / 10 = wy_d f L by omega]
    refine ⟨h, w1, c2, fun a b z => (E2 a b z).trans (Eq a b z), hw1.2, hT _ (Or.inr ⟨L, p1, fun k hk => ?_⟩)⟩
    rw [V2 k]
    by_cases hkL : k ∈ L
    · rw [if_pos hkL]
    · rw [if_neg hkL, q9 k hk, cr_no hkL]
theorem cr_loop25 {F : Nat} {g : am_G} {N f : Nat} (hW : iv_W g N) (hf : f < 6) (p1 p2 : Int32) (w : am_J) : ∀ (L : List Nat) (s n : Nat) (g' : am_G), (∀ x, x ∈ L → x < N) → L.Nodup → s + L.length ≤ 4 → L.length < n → (∀ a b, a ≠ 25 → g' a b = g a b) →
    ∃ h, f_X6_hoursBetween_20_25_41 F p1 p2 n (nI (wy_h (wy_c g) L)) (nI (wy_d f L)) (nI s) g' w = some (h, w) ∧ (∀ a b, a ≠ 25 → h a b = g a b) ∧ ∀ k, h 25 k = if k ∈ L then cr_h (wy_c g) L k else g' 25 k := by
  have hN := hW.1
  intro L
  induction L with
  | nil =>
    intro s n g' hx hnd hs hn E
    obtain ⟨n, rfl⟩ : ∃ k, n = k + 1 := ⟨n - 1, by omega⟩
    refine ⟨g', ?_, E, fun k => ?_⟩
    · rw [f_X6_hoursBetween_20_25_41.eq_2, if_neg (show ¬ (6 : Int32) ≤ nI s from nI_ge (b := 6) (by simp at hs; omega) (by decide)), if_pos (show nI (wy_d f []) < (10 : Int32) from nI_lt (a := f + 1) (b := 10) (by omega) (by decide))]
    · rw [if_neg List.not_mem_nil]
  | cons b L ih =>
    intro s n g' hx hnd hs hn E
    obtain ⟨n, rfl⟩ : ∃ k, n = k + 1 := ⟨n - 1, by omega⟩
    rw [List.length_cons] at hs hn
    have hbN := hx b List.mem_cons_self
    have hx' : ∀ x, x ∈ L → x < N := fun x h => hx x (List.mem_cons_of_mem b h)
    obtain ⟨hbL, hnd'⟩ := List.nodup_cons.mp hnd
    have hd := wy_dlt (f := f) hf (L := L) (fun x h => by have := hx' x h; omega)
    have h4 : 10 ^ L.length ≤ 10 ^ 3 := Nat.pow_le_pow_right (by decide) (by omega)
    have h5 : 1 ≤ 10 ^ L.length := Nat.one_le_pow _ _ (by decide)
    have hl5 : wy_d f (b :: L) = 10 * wy_d f L + (b + 1) := rfl
    have hl4 : wy_h (wy_c g) (b :: L) = wy_h (wy_c g) L + wy_c g b := rfl
    have hmod : nI (wy_d f (b :: L)) - nI (wy_d f (b :: L)) / (10 : Int32) * (10 : Int32) - (1 : Int32) = nI b := by
      rw [show nI (wy_d f (b :: L)) - nI (wy_d f (b :: L)) / (10 : Int32) * (10 : Int32) = nI (wy_d f (b :: L) % 10) from pu_rem (a := wy_d f (b :: L)) (b := 10) (by omega) (by decide) (by decide), show nI (wy_d f (b :: L) % 10) - (1 : Int32) = nI (wy_d f (b :: L) % 10 - 1) from pu_sub (a := wy_d f (b :: L) % 10) (b := 1) (by omega)]
      congr 1
      omega
    have hdiv : nI (wy_d f (b :: L)) / (10 : Int32) = nI (wy_d f L) := by
      rw [show nI (wy_d f (b :: L)) / (10 : Int32) = nI (wy_d f (b :: L) / 10) from pu_div (a := wy_d f (b :: L)) (b := 10) (by omega) (by decide) (by decide)]
      congr 1
      omega
    have e6 : Int32.ofNat 6 = 6 := by decide
    have hc1 := wy_c1 g b
    have E' : ∀ a c, a ≠ 25 → (am_u g' 25 b (nI (wy_h (wy_c g) (b :: L)))) a c = g a c := fun a c q => by rw [am_u_at, if_neg (by omega), E a c q]
    have hW' : iv_W (am_u g' 25 b (nI (wy_h (wy_c g) (b :: L)))) N := iv_W.of2 (fun a c q => E' a c (by omega)) hW
    have hcg : ∀ h : am_G, h 31 b = g 31 b → wy_c h b = wy_c g b := fun h z => by
      unfold wy_c
      rw [z]
    have hcc : wy_c (am_u g' 25 b (nI (wy_h (wy_c g) (b :: L)))) b = wy_c g b := hcg _ (E' 31 b (by omega))
    have hat := wy_hat hW' hbN
    rw [hcc] at hat
    obtain ⟨h, c1, E1, V1⟩ := ih (s + 1) n (am_u g' 25 b (nI (wy_h (wy_c g) (b :: L)))) hx' hnd' (by omega) (by omega) E'
    refine ⟨h, ?_, E1, fun k => ?_⟩
    · rw [f_X6_hoursBetween_20_25_41.eq_2, if_neg (show ¬ (6 : Int32) ≤ nI s from nI_ge (b := 6) (by omega) (by decide)), if_neg (show ¬ nI (wy_d f (b :: L)) < (10 : Int32) from fun z => by have := (pu_lt (b := 10) (by omega) (by decide)).mp z; omega), hmod, if_neg (pu_nn (by omega)), e6, if_neg (show ¬ (6 : Int32) ≤ nI b from nI_ge (b := 6) (by omega) (by decide)), if_pos (pb_i6 (by omega)), pu_tn (by omega)]
      simp only [f_X6_hoursBetween_20_25_82, hat, Option.bind_some, hdiv, show nI s + (1 : Int32) = nI (s + 1) from nI_add s 1]
      rw [hl4, pu_sub (show wy_c g b ≤ wy_h (wy_c g) L + wy_c g b by omega), Nat.add_sub_cancel]
      exact c1
    · rw [V1 k, am_u_at]
      by_cases hk : k = b
      · subst hk
        rw [if_neg hbL, if_pos ⟨rfl, rfl⟩, if_pos List.mem_cons_self]
        simp only [cr_h, if_pos]
      · by_cases hkL : k ∈ L
        · rw [if_pos hkL, if_pos (List.mem_cons_of_mem b hkL)]
          simp only [cr_h, if_neg hk]
        · rw [if_neg hkL, if_neg (fun z => hk z.2), if_neg (fun z => by rcases List.mem_cons.mp z with q | q; exact hk q; exact hkL q)]
theorem cr_fill25 {F n : Nat} (hn : 6 < n) (g : am_G) : f_J7_fill_53178_25_5 F (-9) n 0 (Int32.ofNat 6) g = some (fun a b => if a = 25 ∧ b < 6 then -9 else g a b) := by
  obtain ⟨m, rfl⟩ : ∃ m, n = m + 7 := ⟨n - 7, by omega⟩
  have e4 : Int32.ofNat 6 = 6 := by decide
  have c : ∀ i : Nat, i < 6 → ∀ h n, f_J7_fill_53178_25_5 F (-9) (n + 1) (nI i) 6 h = f_J7_fill_53178_25_5 F (-9) n (nI (i + 1)) 6 (am_u h 25 i (-9)) := fun i hi h n => by
    rw [f_J7_fill_53178_25_5.eq_2, if_neg (show ¬ (6 : Int32) ≤ nI i from nI_ge (b := 6) hi (by decide)), if_pos ((pu_in (by omega)).mpr hi), pu_tn (by omega), show nI i + (1 : Int32) = nI (i + 1) from nI_add i 1]
  rw [e4]
  refine (c 0 (by omega) g (m + 6)).trans ?_
  rw [c 1 (by omega), c 2 (by omega), c 3 (by omega), c 4 (by omega), c 5 (by omega), f_J7_fill_53178_25_5.eq_2, if_pos (show (6 : Int32) ≤ nI 6 from by decide)]
  congr 1
  funext a b
  rw [am_u_at, am_u_at, am_u_at, am_u_at, am_u_at, am_u_at]
  by_cases h : a = 25 ∧ b < 6
  · rw [if_pos h]
    have : b = 0 ∨ b = 1 ∨ b = 2 ∨ b = 3 ∨ b = 4 ∨ b = 5 := by omega
    rcases this with rfl | rfl | rfl | rfl | rfl | rfl <;> simp [h.1]
  · rw [if_neg h, if_neg (by omega), if_neg (by omega), if_neg (by omega), if_neg (by omega), if_neg (by omega), if_neg (by omega)]
theorem cr_cls25 {F : Nat} (hF : 20 ≤ F) {g : am_G} {N f t : Nat} (hW : iv_W g N) (hf : f < N) (ht : t < N) (hft : t ≠ f) (w : am_J) : ∃ h w1, f_X6_hoursBetween_20_25 F g w (nI f) (nI t) = some (h, w1) ∧ (∀ a b, a ≠ 25 → h a b = g a b) ∧ (∀ a b, a ≠ 21 → w1 a b = w a b) ∧ cr_T g N f t (h 25) := by
  have hN := hW.1
  obtain ⟨q, hq⟩ : ∃ q : am_G, q = fun a b => if a = 25 ∧ b < 6 then -9 else g a b := ⟨_, rfl⟩
  have Eq : ∀ a b, a ≠ 25 → q a b = g a b := fun a b z => by rw [hq]; exact if_neg (fun y => z y.1)
  have q9 : ∀ k, k < 6 → q 25 k = -9 := fun k hk => by rw [hq]; exact if_pos ⟨rfl, hk⟩
  have hWq : iv_W q N := iv_W.of2 (fun a b z => Eq a b (by omega)) hW
  have hsee : iv_see q = iv_see g := by
    funext k o
    unfold iv_see
    rw [Eq 29 k (by omega), Eq 29 o (by omega), Eq 26 1 (by omega), Eq 28 k (by omega), Eq 28 o (by omega), Eq 30 k (by omega), Eq 30 o (by omega)]
  have hp : wy_p q 0 = wy_p g 0 := by
    funext b
    unfold wy_p
    rw [Eq 31 b (by omega)]
  have hc : wy_c q = wy_c g := by
    funext b
    unfold wy_c
    rw [Eq 31 b (by omega)]
  obtain ⟨w1, c1, hw1⟩ := wy_measure (F := F) (by omega) hWq hf (show 0 < 64 by decide) w
  have c1' : f_X6_measure F q w (nI f) 0 = some w1 := c1
  have hb := ws_le (g := q) (D := 0) hN hf ht
  unfold f_X6_hoursBetween_20_25 f_J7_fill_53178_25
  rw [cr_fill25 (by omega), Option.bind_some, ← hq, c1', Option.bind_some, wy_comes hWq hw1 ht hb, Option.bind_some, ws_hours hWq hf hw1 ht, ws_way hWq hf hw1 ht]
  have hrr : wy_rr (iv_see q) (wy_p q 0) (wy_c q) N f t = ws_r q N 0 f t := rfl
  have hT : ∀ v, cr_T q N f t v → cr_T g N f t v := fun v z => by
    unfold cr_T at z ⊢
    rw [hsee, hp, hc] at z
    exact z
  rcases wy_end (p := wy_p q 0) (wy_see q) (wy_c1 q) hN hf ht hft with ⟨p1, p2⟩ | ⟨L, p1, p2⟩
  · rw [hrr] at p1
    rw [hrr, if_pos p1, if_pos rfl]
    exact ⟨q, w1, rfl, Eq, hw1.2, hT _ (Or.inl ⟨p2, q9⟩)⟩
  · obtain ⟨b1, b2, b3, b4⟩ := wy_bnd hN hf ht hft p1.1
    obtain ⟨k1, k2, k3⟩ := wy_le (wy_c1 q) hN hf ht hft p1.1
    obtain ⟨d1, d2⟩ := ws_div (wy_h (wy_c q) L) (10 * wy_d f L + (t + 1)) (by omega)
    have qr' : ws_r q N 0 f t = wy_h (wy_c q) L * 10000000 + (10 * wy_d f L + (t + 1)) := p2
    have hnv : ¬ ws_r q N 0 f t = 1000000000 := by
      have : ws_r q N 0 f t = wy_R (wy_c q) f t L := p2
      rw [this]
      omega
    obtain ⟨h, c2, E2, V2⟩ := cr_loop25 (F := F) (g := q) (f := f) hWq (by omega) (nI f) (nI t) w1 L 0 F q (fun x hx => p1.1.1.nodup.2.2 x hx) p1.1.1.nodup.1 (by omega) (by omega) (fun _ _ _ => rfl)
    rw [hrr, if_neg hnv, if_neg pb_10, if_neg hnv, if_neg hnv, Option.bind_some, Option.bind_some, qr', d1, d2, show nI (10 * wy_d f L + (t + 1)) / (10 : Int32) = nI ((10 * wy_d f L + (t + 1)) / 10) from pu_div (a := 10 * wy_d f L + (t + 1)) (b := 10) (by omega) (by decide) (by decide), show (10 * wy_d f L + (t + 1)) / 10 = wy_d f L by omega]
    refine ⟨h, w1, c2, fun a b z => (E2 a b z).trans (Eq a b z), hw1.2, hT _ (Or.inr ⟨L, p1, fun k hk => ?_⟩)⟩
    rw [V2 k]
    by_cases hkL : k ∈ L
    · rw [if_pos hkL]
    · rw [if_neg hkL, q9 k hk, cr_no hkL]
