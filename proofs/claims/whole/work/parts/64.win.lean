/-! a WINDOW is read: all five figures -/
/-- the reader's own cells -/
def rd_E (g h : am_G) : Prop := ∀ a b, (a ≠ 33 ∧ a ≠ 34 ∧ (a ≠ 26 ∨ (b ≠ 10 ∧ b ≠ 11 ∧ b ≠ 12 ∧ b ≠ 15 ∧ b ≠ 16))) → h a b = g a b
theorem rd_E.trans {g h i : am_G} (H : rd_E g h) (H2 : rd_E h i) : rd_E g i := fun a b c => (H2 a b c).trans (H a b c)
theorem rd_E.X {g h : am_G} {len : Nat} (H : rd_E g h) (hX : iv_X g len) : iv_X h len := iv_X.of2 (fun a b hab => H a b (by omega)) hX
theorem rd_E.f {g h : am_G} (H : rd_E g h) (len k : Nat) : tx_f h len k = tx_f g len k := tx_f.of (funext fun b => H 35 b (by omega)) len k
theorem rd_e.E {g h : am_G} (H : rd_e g h) : rd_E g h := fun a b c => H a b (by omega)
theorem rd_u34 (g : am_G) (k : Nat) (v : Int32) : rd_E g (am_u g 34 k v) := fun a b c => by rw [am_u_at, if_neg (by omega)]
theorem rd_n_none {st : Option Nat} {ok : Bool} {i : Nat} (h : rd_n st ok i = none) : st = none ∧ ok = true := by
  cases st with
  | some f => cases h
  | none =>
    cases ok with
    | false => cases h
    | true => exact ⟨rfl, rfl⟩
set_option maxHeartbeats 1000000 in
theorem rd_win {F : Nat} (hF : 20 ≤ F) {g : am_G} {len m M : Nat} (hX : iv_X g len) (hm : m < 6) (h15 : g 26 15 = nI (6 * m + 6)) (h16 : g 26 16 = -9) (h11 : g 26 11 = nI m) (h12 : g 26 12 = nI M) (hM : M < 2147483648) :
    ∃ x y a b c h st, f_X8_readWindow F g = some h ∧ rd_E g h ∧ (∀ s, h 33 s = g 33 s) ∧ h 26 10 = g 26 10 ∧ (∀ k, (k < 5 * m ∨ 5 * m + 5 ≤ k) → h 34 k = g 34 k) ∧ h 26 11 = nI (m + 1) ∧ rd_s h (6 * m + 12) st ∧
      st = rd_n (rd_n (rd_n (rd_n (rd_n none (rd_m (tx_f g len (6 * m + 7)) (iv_bits (rd_p M) 10)) (6 * m + 7)) (rd_m (tx_f g len (6 * m + 8)) (3 - M / 4 ^ x % 4)) (6 * m + 8)) (tx_b (tx_f g len (6 * m + 9)) 0 3) (6 * m + 9)) (tx_b (tx_f g len (6 * m + 10)) 0 3) (6 * m + 10)) (tx_b (tx_f g len (6 * m + 11)) 0 3) (6 * m + 11) ∧
      (rd_m (tx_f g len (6 * m + 7)) (iv_bits (rd_p M) 10) = true → tx_f g len (6 * m + 7) = some x) ∧
      (st = none → (tx_f g len (6 * m + 7) = some x ∧ tx_f g len (6 * m + 8) = some y ∧ tx_f g len (6 * m + 9) = some a ∧ tx_f g len (6 * m + 10) = some b ∧ tx_f g len (6 * m + 11) = some c) ∧ (x ≤ 9 ∧ y ≤ 9 ∧ a ≤ 3 ∧ b ≤ 3 ∧ c ≤ 3) ∧ (h 34 (5 * m) = nI x ∧ h 34 (5 * m + 1) = nI y ∧ h 34 (5 * m + 2) = nI a ∧ h 34 (5 * m + 3) = nI b ∧ h 34 (5 * m + 4) = nI c) ∧ h 26 12 = nI (M ||| 2 ^ (2 * x + y))) := by
  have e15 : g 26 15 + (1 : Int32) = nI (6 * m + 7) := by rw [h15]; exact nI_add (6 * m + 6) 1
  -- the state behind the letter
  obtain ⟨g1, hg1⟩ : ∃ g1, g1 = am_u g 26 15 (g 26 15 + (1 : Int32)) := ⟨_, rfl⟩
  have E1 : rd_e g g1 := fun a b c => by rw [hg1, am_u_at, if_neg (by omega)]
  have s1 : rd_s g1 (6 * m + 7) none := ⟨by rw [hg1, am_u_at, if_pos ⟨rfl, rfl⟩, e15], by rw [hg1, am_u_at, if_neg (by omega), h16]⟩
  have x1 : iv_X g1 len := E1.E.X hX
  have p12 : g1 26 12 = nI M := (E1 26 12 (by omega)).trans h12
  have p11 : g1 26 11 = nI m := (E1 26 11 (by omega)).trans h11
  have hpl := rd_left hF hM p12
  have hlt : iv_bits (rd_p M) 10 < 1024 := bi_lt (rd_p M) 10
  obtain ⟨x, q1, c1, bx, f1, t1, n1⟩ := rd_mstep x1 (show 6 * m + 7 ≤ 48 by omega) hlt s1
  rw [E1.E.f len] at t1 n1
  obtain ⟨g2, hg2⟩ : ∃ g2, g2 = am_u q1 34 (5 * m) (nI x) := ⟨_, rfl⟩
  have E2 : rd_E q1 g2 := hg2 ▸ rd_u34 q1 (5 * m) (nI x)
  have A2 : rd_E g g2 := E1.E.trans (f1.E.trans E2)
  have z2 : ∀ b, g2 26 b = q1 26 b := fun b => by rw [hg2, am_u_at, if_neg (by omega)]
  have s2 := t1.mono (z2 15) (z2 16)
  have p12b : g2 26 12 = nI M := by rw [z2, f1 26 12 (by omega), p12]
  have p34 : g2 34 (5 * m) = nI x := by rw [hg2, am_u_at, if_pos ⟨rfl, rfl⟩]
  obtain ⟨y, q2, c2, by_, f2, t2, n2⟩ := rd_mstep (m := 3 - M / 4 ^ x % 4) (A2.X hX) (show 6 * m + 8 ≤ 48 by omega) (by omega) s2
  rw [A2.f len] at t2 n2
  obtain ⟨g3, hg3⟩ : ∃ g3, g3 = am_u q2 34 (5 * m + 1) (nI y) := ⟨_, rfl⟩
  have E3 : rd_E q2 g3 := hg3 ▸ rd_u34 q2 (5 * m + 1) (nI y)
  have A3 : rd_E g g3 := A2.trans (f2.E.trans E3)
  have z3 : ∀ b, g3 26 b = q2 26 b := fun b => by rw [hg3, am_u_at, if_neg (by omega)]
  have s3 := t2.mono (z3 15) (z3 16)
  obtain ⟨a, q3, c3, ba, f3, t3, n3⟩ := rd_fstep (a := 0) (b := 3) (A3.X hX) (show 6 * m + 9 ≤ 48 by omega) (by omega) (by omega) s3
  rw [A3.f len] at t3 n3
  obtain ⟨g4, hg4⟩ : ∃ g4, g4 = am_u q3 34 (5 * m + 2) (nI a) := ⟨_, rfl⟩
  have E4 : rd_E q3 g4 := hg4 ▸ rd_u34 q3 (5 * m + 2) (nI a)
  have A4 : rd_E g g4 := A3.trans (f3.E.trans E4)
  have z4 : ∀ b, g4 26 b = q3 26 b := fun b => by rw [hg4, am_u_at, if_neg (by omega)]
  have s4 := t3.mono (z4 15) (z4 16)
  obtain ⟨b, q4, c4, bb, f4, t4, n4⟩ := rd_fstep (a := 0) (b := 3) (A4.X hX) (show 6 * m + 10 ≤ 48 by omega) (by omega) (by omega) s4
  rw [A4.f len] at t4 n4
  obtain ⟨g5, hg5⟩ : ∃ g5, g5 = am_u q4 34 (5 * m + 3) (nI b) := ⟨_, rfl⟩
  have E5 : rd_E q4 g5 := hg5 ▸ rd_u34 q4 (5 * m + 3) (nI b)
  have A5 : rd_E g g5 := A4.trans (f4.E.trans E5)
  have z5 : ∀ b, g5 26 b = q4 26 b := fun b => by rw [hg5, am_u_at, if_neg (by omega)]
  have s5 := t4.mono (z5 15) (z5 16)
  obtain ⟨c, q5, c5, bc, f5, t5, n5⟩ := rd_fstep (a := 0) (b := 3) (A5.X hX) (show 6 * m + 11 ≤ 48 by omega) (by omega) (by omega) s5
  rw [A5.f len] at t5 n5
  obtain ⟨g6, hg6⟩ : ∃ g6, g6 = am_u q5 34 (5 * m + 4) (nI c) := ⟨_, rfl⟩
  have E6 : rd_E q5 g6 := hg6 ▸ rd_u34 q5 (5 * m + 4) (nI c)
  have A6 : rd_E g g6 := A5.trans (f5.E.trans E6)
  have z6 : ∀ b, g6 26 b = q5 26 b := fun b => by rw [hg6, am_u_at, if_neg (by omega)]
  -- what stands in the row of figures
  have r34 : ∀ k, g6 34 k = if k = 5 * m then nI x else if k = 5 * m + 1 then nI y else if k = 5 * m + 2 then nI a else if k = 5 * m + 3 then nI b else if k = 5 * m + 4 then nI c else g 34 k := by
    intro k
    have w6 : g6 34 k = if k = 5 * m + 4 then nI c else g5 34 k := by
      rw [hg6, am_u_at, f5 34 k (by omega)]
      simp
    have w5 : g5 34 k = if k = 5 * m + 3 then nI b else g4 34 k := by
      rw [hg5, am_u_at, f4 34 k (by omega)]
      simp
    have w4 : g4 34 k = if k = 5 * m + 2 then nI a else g3 34 k := by
      rw [hg4, am_u_at, f3 34 k (by omega)]
      simp
    have w3 : g3 34 k = if k = 5 * m + 1 then nI y else g2 34 k := by
      rw [hg3, am_u_at, f2 34 k (by omega)]
      simp
    have w2 : g2 34 k = if k = 5 * m then nI x else g 34 k := by
      rw [hg2, am_u_at, f1 34 k (by omega), E1 34 k (by omega)]
      simp
    rw [w6, w5, w4, w3, w2]
    repeat' split
    all_goals first | rfl | (exfalso; omega)
  have r26 : ∀ k, k ≠ 15 → k ≠ 16 → g6 26 k = g 26 k := by
    intro k h1 h2
    rw [z6, f5 26 k (by omega), z5, f4 26 k (by omega), z4, f3 26 k (by omega), z3, f2 26 k (by omega), z2, f1 26 k (by omega), E1 26 k (by omega)]
  have r33 : ∀ k, g6 33 k = g 33 k := by
    intro k
    rw [hg6, am_u_at, if_neg (by omega), f5 33 k (by omega), hg5, am_u_at, if_neg (by omega), f4 33 k (by omega), hg4, am_u_at, if_neg (by omega), f3 33 k (by omega), hg3, am_u_at, if_neg (by omega), f2 33 k (by omega), hg2, am_u_at, if_neg (by omega), f1 33 k (by omega), E1 33 k (by omega)]
  have sh : (1 : Int32) <<< ((((2 : Int32) * nI x) + nI y) &&& 31) = nI (2 ^ (2 * x + y)) := by
    rw [show (2 : Int32) * nI x = nI (2 * x) from pu_mul 2 x, nI_add]
    exact rd_pow _ (by omega)
  have hM12 : g6 26 12 = nI M := (r26 12 (by decide) (by decide)).trans h12
  have h11b : g6 26 11 = nI m := (r26 11 (by decide) (by decide)).trans h11
  have k0 : (5 : Int32) * nI m = nI (5 * m) := pu_mul 5 m
  have k1 : nI (5 * m) + (1 : Int32) = nI (5 * m + 1) := nI_add (5 * m) 1
  have k2 : nI (5 * m) + (2 : Int32) = nI (5 * m + 2) := nI_add (5 * m) 2
  have k3 : nI (5 * m) + (3 : Int32) = nI (5 * m + 3) := nI_add (5 * m) 3
  have k4 : nI (5 * m) + (4 : Int32) = nI (5 * m + 4) := nI_add (5 * m) 4
  have i0 : am_in (nI (5 * m)) 30 := (pu_in (by omega)).mpr (by omega)
  have i1 : am_in (nI (5 * m + 1)) 30 := (pu_in (by omega)).mpr (by omega)
  have i2 : am_in (nI (5 * m + 2)) 30 := (pu_in (by omega)).mpr (by omega)
  have i3 : am_in (nI (5 * m + 3)) 30 := (pu_in (by omega)).mpr (by omega)
  have i4 : am_in (nI (5 * m + 4)) 30 := (pu_in (by omega)).mpr (by omega)
  have v0 := pu_tn (show 5 * m < 2147483648 by omega)
  have v1 := pu_tn (show 5 * m + 1 < 2147483648 by omega)
  have v2 := pu_tn (show 5 * m + 2 < 2147483648 by omega)
  have v3 := pu_tn (show 5 * m + 3 < 2147483648 by omega)
  have v4 := pu_tn (show 5 * m + 4 < 2147483648 by omega)
  have c3' : f_X8_figure g3 0 3 = some (nI a, q3) := c3
  have c4' : f_X8_figure g4 0 3 = some (nI b, q4) := c4
  have c5' : f_X8_figure g5 0 3 = some (nI c, q5) := c5
  have sd := rd_side hM (show x < 10 by omega)
  have r0 : g6 34 (5 * m) = nI x := by rw [r34, if_pos rfl]
  have r1 : g6 34 (5 * m + 1) = nI y := by rw [r34, if_neg (by omega), if_pos rfl]
  have r2 : g6 34 (5 * m + 2) = nI a := by rw [r34, if_neg (by omega), if_neg (by omega), if_pos rfl]
  have r3 : g6 34 (5 * m + 3) = nI b := by rw [r34, if_neg (by omega), if_neg (by omega), if_neg (by omega), if_pos rfl]
  have r4 : g6 34 (5 * m + 4) = nI c := by rw [r34, if_neg (by omega), if_neg (by omega), if_neg (by omega), if_neg (by omega), if_pos rfl]
  refine ⟨x, y, a, b, c, am_u (am_u g6 26 12 (nI (M ||| 2 ^ (2 * x + y)))) 26 11 (nI (m + 1)), _, ?_, ?_, ?_, ?_, ?_, ?_, ?_, rfl, ?_, ?_⟩
  · unfold f_X8_readWindow
    simp only [← hg1, hpl, Option.bind_some, c1, p11, k0, if_pos i0, v0, ← hg2, p12b, p34, sd, c2, k1, if_pos i1, v1, ← hg3, c3', k2, if_pos i2, v2, ← hg4, c4', k3, if_pos i3, v3, ← hg5, c5', k4, if_pos i4, v4, ← hg6, r0, r1, sh, hM12, fa_or, f_X8_readWindow_130]
    congr 2
    rw [am_u_at, if_neg (by omega), h11b]
    exact nI_add m 1
  · intro p q h
    rw [am_u_at, if_neg (by omega), am_u_at, if_neg (by omega)]
    exact A6 p q h
  · intro s
    rw [am_u_at, if_neg (by omega), am_u_at, if_neg (by omega), r33]
  · rw [am_u_at, if_neg (by omega), am_u_at, if_neg (by omega), r26 10 (by decide) (by decide)]
  · intro k hk
    rw [am_u_at, if_neg (by omega), am_u_at, if_neg (by omega), r34, if_neg (by omega), if_neg (by omega), if_neg (by omega), if_neg (by omega), if_neg (by omega)]
  · rw [am_u_at, if_pos ⟨rfl, rfl⟩]
  · refine rd_s.mono ?_ ?_ t5
    · rw [am_u_at, if_neg (by omega), am_u_at, if_neg (by omega), z6]
    · rw [am_u_at, if_neg (by omega), am_u_at, if_neg (by omega), z6]
  · intro h
    exact (n1 (by simp [rd_n, h])).1
  · intro h
    obtain ⟨d5, -⟩ := rd_n_none h
    obtain ⟨d4, -⟩ := rd_n_none d5
    obtain ⟨d3, -⟩ := rd_n_none d4
    obtain ⟨d2, -⟩ := rd_n_none d3
    have m5 := n5 h
    have m4 := n4 d5
    have m3 := n3 d4
    refine ⟨⟨(n1 d2).1, (n2 d3).1, m3.1, m4.1, m5.1⟩, ⟨bx, by_, m3.2.2, m4.2.2, m5.2.2⟩, ⟨?_, ?_, ?_, ?_, ?_⟩, ?_⟩
    · rw [am_u_at, if_neg (by omega), am_u_at, if_neg (by omega), r0]
    · rw [am_u_at, if_neg (by omega), am_u_at, if_neg (by omega), r1]
    · rw [am_u_at, if_neg (by omega), am_u_at, if_neg (by omega), r2]
    · rw [am_u_at, if_neg (by omega), am_u_at, if_neg (by omega), r3]
    · rw [am_u_at, if_neg (by omega), am_u_at, if_neg (by omega), r4]
    · rw [am_u_at, if_neg (by omega), am_u_at, if_pos ⟨rfl, rfl⟩]
