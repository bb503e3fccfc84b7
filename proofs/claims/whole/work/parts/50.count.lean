/-! HOW MANY PAIRS SAY THE SAME -/
def sm (v : Nat → Nat) : Nat → Nat → Nat
  | _, 0 => 0
  | i, d + 1 => v i + sm v (i + 1) d
theorem sm_cong {v u : Nat → Nat} : ∀ {d i : Nat}, (∀ k, i ≤ k → k < i + d → v k = u k) → sm v i d = sm u i d
  | 0, _, _ => rfl
  | d + 1, i, h => by
    simp only [sm]
    rw [h i (by omega) (by omega), sm_cong (fun k h1 h2 => h k (by omega) (by omega))]
theorem ct_loop {R : Type} (f : Nat → Nat → Nat → Option R) (k : Nat → Option R) (v : Nat → Nat) (N : Nat) (h1 : ∀ n i c, i < N → f (n + 1) i c = f n (i + 1) (c + v i)) (h2 : ∀ n c, f (n + 1) N c = k c) :
    ∀ (d i c n : Nat), i + d = N → d < n → f n i c = k (c + sm v i d) := by
  intro d
  induction d with
  | zero =>
    intro i c n hi hn
    obtain ⟨m, rfl⟩ : ∃ m, n = m + 1 := ⟨n - 1, by omega⟩
    have : i = N := by omega
    subst this
    exact h2 m c
  | succ d ih =>
    intro i c n hi hn
    obtain ⟨m, rfl⟩ : ∃ m, n = m + 1 := ⟨n - 1, by omega⟩
    rw [h1 m i c (by omega), ih (i + 1) _ m (by omega) (by omega)]
    simp only [sm, Nat.add_assoc]
theorem al_tri (N : Nat) (hN : N ≤ 6) (q : Nat → Nat → Nat) (hq : ∀ k o, k < N → o < N → q k o = q o k) : sm (fun k => sm (fun o => q k o) (k + 1) (N - (k + 1))) 0 N = sm (fun k => sm (fun o => q k o) 0 k) 0 N := by
  have : N = 0 ∨ N = 1 ∨ N = 2 ∨ N = 3 ∨ N = 4 ∨ N = 5 ∨ N = 6 := by omega
  rcases this with rfl | rfl | rfl | rfl | rfl | rfl | rfl
  · rfl
  · rfl
  · have := hq 0 1 (by decide) (by decide)
    simp only [sm, Nat.reduceAdd, Nat.reduceSub] at *
    omega
  · have a1 := hq 0 1 (by decide) (by decide)
    have a2 := hq 0 2 (by decide) (by decide)
    have a3 := hq 1 2 (by decide) (by decide)
    simp only [sm, Nat.reduceAdd, Nat.reduceSub] at *
    omega
  · have a1 := hq 0 1 (by decide) (by decide)
    have a2 := hq 0 2 (by decide) (by decide)
    have a3 := hq 1 2 (by decide) (by decide)
    have a4 := hq 0 3 (by decide) (by decide)
    have a5 := hq 1 3 (by decide) (by decide)
    have a6 := hq 2 3 (by decide) (by decide)
    simp only [sm, Nat.reduceAdd, Nat.reduceSub] at *
    omega
  · have a1 := hq 0 1 (by decide) (by decide)
    have a2 := hq 0 2 (by decide) (by decide)
    have a3 := hq 1 2 (by decide) (by decide)
    have a4 := hq 0 3 (by decide) (by decide)
    have a5 := hq 1 3 (by decide) (by decide)
    have a6 := hq 2 3 (by decide) (by decide)
    have b1 := hq 0 4 (by decide) (by decide)
    have b2 := hq 1 4 (by decide) (by decide)
    have b3 := hq 2 4 (by decide) (by decide)
    have b4 := hq 3 4 (by decide) (by decide)
    simp only [sm, Nat.reduceAdd, Nat.reduceSub] at *
    omega
  · have a1 := hq 0 1 (by decide) (by decide)
    have a2 := hq 0 2 (by decide) (by decide)
    have a3 := hq 1 2 (by decide) (by decide)
    have a4 := hq 0 3 (by decide) (by decide)
    have a5 := hq 1 3 (by decide) (by decide)
    have a6 := hq 2 3 (by decide) (by decide)
    have b1 := hq 0 4 (by decide) (by decide)
    have b2 := hq 1 4 (by decide) (by decide)
    have b3 := hq 2 4 (by decide) (by decide)
    have b4 := hq 3 4 (by decide) (by decide)
    have c1 := hq 0 5 (by decide) (by decide)
    have c2 := hq 1 5 (by decide) (by decide)
    have c3 := hq 2 5 (by decide) (by decide)
    have c4 := hq 3 5 (by decide) (by decide)
    have c5 := hq 4 5 (by decide) (by decide)
    simp only [sm, Nat.reduceAdd, Nat.reduceSub] at *
    omega
theorem al_near : ∀ s, s < 10 → ∀ i, i < 10 → ∀ j, j < 10 → ((-(nI s) ≤ nI i - nI j ∧ nI i - nI j ≤ nI s) ↔ (-(nI s) ≤ nI j - nI i ∧ nI j - nI i ≤ nI s)) := by decide +kernel
theorem al_sym {g : am_G} {N k o : Nat} (hW : iv_W g N) (hk : k < N) (ho : o < N) : iv_see g k o = iv_see g o k := by
  obtain ⟨s, hs1, hs2, hs⟩ := hW.2.2.2.2.1
  obtain ⟨⟨-, i, hi, ei⟩, -, ⟨-, u, hu, eu⟩, -⟩ := hW.2.2.2.2.2.2 k hk
  obtain ⟨⟨-, j, hj, ej⟩, -, ⟨-, v, hv, ev⟩, -⟩ := hW.2.2.2.2.2.2 o ho
  simp only [iv_see, hs, ei, ej, eu, ev]
  have h1 := al_near s (by omega) i hi j hj
  have h2 := al_near 1 (by omega) u (by omega) v (by omega)
  have e1 : nI 1 = 1 := rfl
  rw [e1] at h2
  rw [decide_eq_decide, h1, h2]
  constructor
  · rintro ⟨z1, z2⟩
    exact ⟨fun e => z1 e.symm, z2⟩
  · rintro ⟨z1, z2⟩
    exact ⟨fun e => z1 e.symm, z2⟩
def al_P (g : am_G) (st : Nat → Int32) (k o : Nat) : Nat := if iv_see g k o = true ∧ g 27 (st k).toNatClampNeg = g 27 (st o).toNatClampNeg then 1 else 0
theorem al_Psym {g : am_G} {N : Nat} (hW : iv_W g N) (st : Nat → Int32) (k o : Nat) (hk : k < N) (ho : o < N) : al_P g st k o = al_P g st o k := by
  unfold al_P
  rw [al_sym hW hk ho]
  by_cases h : iv_see g o k = true ∧ g 27 (st k).toNatClampNeg = g 27 (st o).toNatClampNeg
  · rw [if_pos h, if_pos ⟨h.1, h.2.symm⟩]
  · rw [if_neg h, if_neg (fun z => h ⟨z.1, z.2.symm⟩)]
def al_n (g : am_G) (st : Nat → Int32) (N : Nat) : Nat := sm (fun k => sm (fun o => al_P g st k o) 0 k) 0 N
theorem al_in_10 {F : Nat} {g : am_G} {N : Nat} (hW : iv_W g N) (hst : ∀ k, k < N → iv_b (g 11 k) 4) (k69 : Int32 → Int32 → Option Int32) (a : Nat) (ha : a < N) : ∀ (n c : Nat), N - (a + 1) < n → f_X4_pairsAlike_10_19 F g k69 n (nI c) (nI a) (nI (a + 1)) = k69 (nI (c + sm (fun o => al_P g (g 11) a o) (a + 1) (N - (a + 1)))) (nI a) := by
  intro n c hn
  have hN := hW.1
  have h37 := hW.2.1
  refine ct_loop (fun n i c => f_X4_pairsAlike_10_19 F g k69 n (nI c) (nI a) (nI i)) (fun c => k69 (nI c) (nI a)) (fun o => al_P g (g 11) a o) N (fun n i c hi => ?_) (fun n c => ?_) (N - (a + 1)) (a + 1) c n (by omega) hn
  · show f_X4_pairsAlike_10_19 F g k69 (n + 1) (nI c) (nI a) (nI i) = _
    obtain ⟨ta, -⟩ := (hst a ha).tn (by decide)
    obtain ⟨ti, -⟩ := (hst i hi).tn (by decide)
    rw [f_X4_pairsAlike_10_19.eq_2]
    simp only [f_X2_windows, Option.bind_some, h37, bi_facing hW ha hi, pb_word hW ha (hst a ha), pb_word hW hi (hst i hi), (hW.2.2.2.2.2.1 _ ta).1, (hW.2.2.2.2.2.1 _ ti).1, f_X4_pairsAlike_10_60, f_X4_pairsAlike_10_61]
    rw [if_neg (by rw [pu_le (by omega) (by omega)]; omega), show nI i + (1 : Int32) = nI (i + 1) from nI_add i 1]
    by_cases hs : iv_see g a i = true
    · rw [if_pos hs, if_neg pb_10]
      by_cases hw : g 27 (g 11 a).toNatClampNeg = g 27 (g 11 i).toNatClampNeg
      · rw [if_pos hw, show al_P g (g 11) a i = 1 from if_pos ⟨hs, hw⟩, show nI c + (1 : Int32) = nI (c + 1) from nI_add c 1]
      · rw [if_neg hw, show al_P g (g 11) a i = 0 from if_neg (fun z => hw z.2), show nI c + (0 : Int32) = nI (c + 0) from nI_add c 0]
    · rw [if_neg hs, if_pos rfl, show al_P g (g 11) a i = 0 from if_neg (fun z => hs z.1), show nI c + (0 : Int32) = nI (c + 0) from nI_add c 0]
  · show f_X4_pairsAlike_10_19 F g k69 (n + 1) (nI c) (nI a) (nI N) = _
    rw [f_X4_pairsAlike_10_19.eq_2]
    simp only [f_X2_windows, Option.bind_some, h37]
    rw [if_pos (Int32.le_refl _)]
theorem al_10 {F : Nat} (hF : 7 ≤ F) {g : am_G} {N : Nat} (hW : iv_W g N) (hst : ∀ k, k < N → iv_b (g 11 k) 4) : f_X4_pairsAlike_10 F g = some (nI (al_n g (g 11) N)) := by
  have hN := hW.1
  have h37 := hW.2.1
  unfold f_X4_pairsAlike_10 al_n
  rw [← al_tri N hN (al_P g (g 11)) (al_Psym hW _)]
  have key := ct_loop (fun n i c => f_X4_pairsAlike_10_4 F g n (nI c) (nI i)) (fun c => some (nI c)) (fun k => sm (fun o => al_P g (g 11) k o) (k + 1) (N - (k + 1))) N (fun n i c hi => ?_) (fun n c => ?_) N 0 0 F (by omega) (by omega)
  · rw [Nat.zero_add] at key
    exact key
  · show f_X4_pairsAlike_10_4 F g (n + 1) (nI c) (nI i) = _
    rw [f_X4_pairsAlike_10_4.eq_2]
    simp only [f_X2_windows, Option.bind_some, h37]
    rw [if_neg (by rw [pu_le (by omega) (by omega)]; omega), show nI i + (1 : Int32) = nI (i + 1) from nI_add i 1, al_in_10 hW hst _ i hi F c (by omega)]
    simp only [f_X4_pairsAlike_10_69]
    rw [show nI i + (1 : Int32) = nI (i + 1) from nI_add i 1]
  · show f_X4_pairsAlike_10_4 F g (n + 1) (nI c) (nI N) = _
    rw [f_X4_pairsAlike_10_4.eq_2]
    simp only [f_X2_windows, Option.bind_some, h37]
    rw [if_pos (Int32.le_refl _)]
theorem al_in_13 {F : Nat} {g : am_G} {N : Nat} (hW : iv_W g N) (hst : ∀ k, k < N → iv_b (g 14 k) 4) (k69 : Int32 → Int32 → Option Int32) (a : Nat) (ha : a < N) : ∀ (n c : Nat), N - (a + 1) < n → f_X4_pairsAlike_13_19 F g k69 n (nI c) (nI a) (nI (a + 1)) = k69 (nI (c + sm (fun o => al_P g (g 14) a o) (a + 1) (N - (a + 1)))) (nI a) := by
  intro n c hn
  have hN := hW.1
  have h37 := hW.2.1
  refine ct_loop (fun n i c => f_X4_pairsAlike_13_19 F g k69 n (nI c) (nI a) (nI i)) (fun c => k69 (nI c) (nI a)) (fun o => al_P g (g 14) a o) N (fun n i c hi => ?_) (fun n c => ?_) (N - (a + 1)) (a + 1) c n (by omega) hn
  · show f_X4_pairsAlike_13_19 F g k69 (n + 1) (nI c) (nI a) (nI i) = _
    obtain ⟨ta, -⟩ := (hst a ha).tn (by decide)
    obtain ⟨ti, -⟩ := (hst i hi).tn (by decide)
    rw [f_X4_pairsAlike_13_19.eq_2]
    simp only [f_X2_windows, Option.bind_some, h37, bi_facing hW ha hi, pb_word13 hW ha (hst a ha), pb_word13 hW hi (hst i hi), (hW.2.2.2.2.2.1 _ ta).1, (hW.2.2.2.2.2.1 _ ti).1, f_X4_pairsAlike_13_60, f_X4_pairsAlike_13_61]
    rw [if_neg (by rw [pu_le (by omega) (by omega)]; omega), show nI i + (1 : Int32) = nI (i + 1) from nI_add i 1]
    by_cases hs : iv_see g a i = true
    · rw [if_pos hs, if_neg pb_10]
      by_cases hw : g 27 (g 14 a).toNatClampNeg = g 27 (g 14 i).toNatClampNeg
      · rw [if_pos hw, show al_P g (g 14) a i = 1 from if_pos ⟨hs, hw⟩, show nI c + (1 : Int32) = nI (c + 1) from nI_add c 1]
      · rw [if_neg hw, show al_P g (g 14) a i = 0 from if_neg (fun z => hw z.2), show nI c + (0 : Int32) = nI (c + 0) from nI_add c 0]
    · rw [if_neg hs, if_pos rfl, show al_P g (g 14) a i = 0 from if_neg (fun z => hs z.1), show nI c + (0 : Int32) = nI (c + 0) from nI_add c 0]
  · show f_X4_pairsAlike_13_19 F g k69 (n + 1) (nI c) (nI a) (nI N) = _
    rw [f_X4_pairsAlike_13_19.eq_2]
    simp only [f_X2_windows, Option.bind_some, h37]
    rw [if_pos (Int32.le_refl _)]
theorem al_13 {F : Nat} (hF : 7 ≤ F) {g : am_G} {N : Nat} (hW : iv_W g N) (hst : ∀ k, k < N → iv_b (g 14 k) 4) : f_X4_pairsAlike_13 F g = some (nI (al_n g (g 14) N)) := by
  have hN := hW.1
  have h37 := hW.2.1
  unfold f_X4_pairsAlike_13 al_n
  rw [← al_tri N hN (al_P g (g 14)) (al_Psym hW _)]
  have key := ct_loop (fun n i c => f_X4_pairsAlike_13_4 F g n (nI c) (nI i)) (fun c => some (nI c)) (fun k => sm (fun o => al_P g (g 14) k o) (k + 1) (N - (k + 1))) N (fun n i c hi => ?_) (fun n c => ?_) N 0 0 F (by omega) (by omega)
  · rw [Nat.zero_add] at key
    exact key
  · show f_X4_pairsAlike_13_4 F g (n + 1) (nI c) (nI i) = _
    rw [f_X4_pairsAlike_13_4.eq_2]
    simp only [f_X2_windows, Option.bind_some, h37]
    rw [if_neg (by rw [pu_le (by omega) (by omega)]; omega), show nI i + (1 : Int32) = nI (i + 1) from nI_add i 1, al_in_13 hW hst _ i hi F c (by omega)]
    simp only [f_X4_pairsAlike_13_69]
    rw [show nI i + (1 : Int32) = nI (i + 1) from nI_add i 1]
  · show f_X4_pairsAlike_13_4 F g (n + 1) (nI c) (nI N) = _
    rw [f_X4_pairsAlike_13_4.eq_2]
    simp only [f_X2_windows, Option.bind_some, h37]
    rw [if_pos (Int32.le_refl _)]
theorem al_inr {F : Nat} {g : am_G} {N : Nat} (hW : iv_W g N) {lv : Nat} (hl : lv < 2) (hst : ∀ k, k < N → iv_b (g 32 (13 * lv + k)) 4) (k61 : Int32 → Int32 → Option Int32) (a : Nat) (ha : a < N) : ∀ (n c : Nat), a < n → f_X8_alike_15 F g (nI lv) k61 n (nI c) (nI a) 0 = k61 (nI (c + sm (fun o => al_P g (fun k => g 32 (13 * lv + k)) a o) 0 a)) (nI a) := by
  intro n c hn
  have hN := hW.1
  refine ct_loop (fun n i c => f_X8_alike_15 F g (nI lv) k61 n (nI c) (nI a) (nI i)) (fun c => k61 (nI c) (nI a)) (fun o => al_P g (fun k => g 32 (13 * lv + k)) a o) a (fun n i c hi => ?_) (fun n c => ?_) a 0 c n (by omega) hn
  · show f_X8_alike_15 F g (nI lv) k61 (n + 1) (nI c) (nI a) (nI i) = _
    rw [f_X8_alike_15.eq_2]
    simp only [Option.bind_some, pb_sees8 (g := g) (show a < 6 by omega) (show i < 6 by omega), pb_word8n hl (show a < 6 by omega) (hst a ha), pb_word8n hl (show i < 6 by omega) (hst i (by omega)), f_X8_alike_52, f_X8_alike_53]
    rw [if_neg (by rw [pu_le (by omega) (by omega)]; omega), show nI i + (1 : Int32) = nI (i + 1) from nI_add i 1]
    by_cases hs : iv_see g a i = true
    · rw [if_pos hs, if_neg pb_10]
      by_cases hw : g 27 (g 32 (13 * lv + a)).toNatClampNeg = g 27 (g 32 (13 * lv + i)).toNatClampNeg
      · rw [if_pos hw, show al_P g (fun k => g 32 (13 * lv + k)) a i = 1 from if_pos ⟨hs, hw⟩, show nI c + (1 : Int32) = nI (c + 1) from nI_add c 1]
      · rw [if_neg hw, show al_P g (fun k => g 32 (13 * lv + k)) a i = 0 from if_neg (fun z => hw z.2), show nI c + (0 : Int32) = nI (c + 0) from nI_add c 0]
    · rw [if_neg hs, if_pos rfl, show al_P g (fun k => g 32 (13 * lv + k)) a i = 0 from if_neg (fun z => hs z.1), show nI c + (0 : Int32) = nI (c + 0) from nI_add c 0]
  · show f_X8_alike_15 F g (nI lv) k61 (n + 1) (nI c) (nI a) (nI a) = _
    rw [f_X8_alike_15.eq_2]
    rw [if_pos (Int32.le_refl _)]
theorem al_ref {F : Nat} (hF : 7 ≤ F) {g : am_G} {N : Nat} (hW : iv_W g N) {lv : Nat} (hl : lv < 2) (hst : ∀ k, k < N → iv_b (g 32 (13 * lv + k)) 4) : f_X8_alike F g (nI lv) = some (nI (al_n g (fun k => g 32 (13 * lv + k)) N)) := by
  have hN := hW.1
  have h260 := hW.2.2.1
  unfold f_X8_alike al_n
  have key := ct_loop (fun n i c => f_X8_alike_4 F g (nI lv) n (nI c) (nI i)) (fun c => some (nI c)) (fun k => sm (fun o => al_P g (fun k => g 32 (13 * lv + k)) k o) 0 k) N (fun n i c hi => ?_) (fun n c => ?_) N 0 0 F (by omega) (by omega)
  · rw [Nat.zero_add] at key
    exact key
  · show f_X8_alike_4 F g (nI lv) (n + 1) (nI c) (nI i) = _
    rw [f_X8_alike_4.eq_2]
    simp only [h260]
    rw [if_neg (by rw [pu_le (by omega) (by omega)]; omega), al_inr hW hl hst _ i hi F c (by omega)]
    simp only [f_X8_alike_61]
    rw [show nI i + (1 : Int32) = nI (i + 1) from nI_add i 1]
  · show f_X8_alike_4 F g (nI lv) (n + 1) (nI c) (nI N) = _
    rw [f_X8_alike_4.eq_2]
    simp only [h260]
    rw [if_pos (Int32.le_refl _)]
theorem al_cong {g h : am_G} {st su : Nat → Int32} {N : Nat} (hs : ∀ k o, iv_see h k o = iv_see g k o) (h27 : h 27 = g 27) (hst : ∀ k, k < N → st k = su k) : al_n h st N = al_n g su N := by
  unfold al_n
  apply sm_cong
  intro k _ hk
  apply sm_cong
  intro o _ ho
  unfold al_P
  rw [hs, h27, hst k (by omega), hst o (by omega)]
def du_n (g : am_G) (N : Nat) : Nat := sm (fun k => if g 32 (6 + k) = -9 then 0 else 1) 0 N
theorem du_c {F : Nat} (hF : 7 ≤ F) {g : am_G} {N : Nat} (hW : iv_W g N) (hE : iv_E N (iv_C g) (g 32)) : f_X4_dueCount F g = some (nI (du_n g N)) := by
  have hN := hW.1
  have h37 := hW.2.1
  unfold f_X4_dueCount du_n
  have key := ct_loop (fun n i c => f_X4_dueCount_4 F g n (nI c) (nI i)) (fun c => some (nI c)) (fun k => if g 32 (6 + k) = -9 then 0 else 1) N (fun n i c hi => ?_) (fun n c => ?_) N 0 0 F (by omega) (by omega)
  · rw [Nat.zero_add] at key
    exact key
  · show f_X4_dueCount_4 F g (n + 1) (nI c) (nI i) = _
    rw [f_X4_dueCount_4.eq_2]
    simp only [f_X2_windows, Option.bind_some, h37, f_X4_dueCount_32, pu_tn (show i < 2147483648 by omega), (iv_now hN hi hE).2]
    rw [if_neg (by rw [pu_le (by omega) (by omega)]; omega), if_pos (pb_i6 (by omega)), show nI i + (1 : Int32) = nI (i + 1) from nI_add i 1]
    by_cases h : g 32 (6 + i) = -9
    · rw [if_pos h, if_pos h, show nI c + (0 : Int32) = nI (c + 0) from nI_add c 0]
    · rw [if_neg h, if_neg h, show nI c + (1 : Int32) = nI (c + 1) from nI_add c 1]
  · show f_X4_dueCount_4 F g (n + 1) (nI c) (nI N) = _
    rw [f_X4_dueCount_4.eq_2]
    simp only [f_X2_windows, Option.bind_some, h37]
    rw [if_pos (Int32.le_refl _)]
theorem du_r {F : Nat} (hF : 7 ≤ F) {g : am_G} {N : Nat} (hW : iv_W g N) (p : Int32) : f_X8_count F g p = f_X8_count_40 F g p (nI (du_n g N)) := by
  have hN := hW.1
  have h260 := hW.2.2.1
  unfold f_X8_count du_n
  have key := ct_loop (fun n i c => f_X8_count_4 F g p (fun l2 => f_X8_count_40 F g p (l2)) n (nI c) (nI i)) (fun c => f_X8_count_40 F g p (nI c)) (fun k => if g 32 (6 + k) = -9 then 0 else 1) N (fun n i c hi => ?_) (fun n c => ?_) N 0 0 F (by omega) (by omega)
  · rw [Nat.zero_add] at key
    exact key
  · show f_X8_count_4 F g p _ (n + 1) (nI c) (nI i) = _
    rw [f_X8_count_4.eq_2]
    simp only [h260, f_X8_count_32, show (6 : Int32) + nI i = nI (6 + i) from nI_add 6 i, pu_tn (show 6 + i < 2147483648 by omega)]
    rw [if_neg (by rw [pu_le (by omega) (by omega)]; omega), if_pos ((pu_in (by omega)).mpr (by omega)), show nI i + (1 : Int32) = nI (i + 1) from nI_add i 1]
    by_cases h : g 32 (6 + i) = -9
    · rw [if_pos h, if_pos h, show nI c + (0 : Int32) = nI (c + 0) from nI_add c 0]
    · rw [if_neg h, if_neg h, show nI c + (1 : Int32) = nI (c + 1) from nI_add c 1]
  · show f_X8_count_4 F g p _ (n + 1) (nI c) (nI N) = _
    rw [f_X8_count_4.eq_2]
    simp only [h260]
    rw [if_pos (Int32.le_refl _)]
theorem wf_c {F : Nat} (hF : 7 ≤ F) {g : am_G} : f_X2_wordsAsFigures F g = some (10 * (10 * (10 * (10 * 0 + g 4 0) + g 4 1) + g 4 2) + g 4 3) := by
  obtain ⟨n, rfl⟩ : ∃ n, F = n + 5 := ⟨F - 5, by omega⟩
  have c : ∀ (G i n : Nat) (x : Int32), i < 4 → f_X2_wordsAsFigures_4 G g (n + 1) x (nI i) = f_X2_wordsAsFigures_4 G g n (10 * x + g 4 i) (nI (i + 1)) := fun G i n x hi => by
    rw [f_X2_wordsAsFigures_4.eq_2, if_neg (show ¬ (4 : Int32) ≤ nI i from nI_ge (b := 4) hi (by decide)), if_pos ((pu_in (by omega)).mpr hi), pu_tn (by omega), show nI i + (1 : Int32) = nI (i + 1) from nI_add i 1]
  unfold f_X2_wordsAsFigures
  refine (c (n + 5) 0 (n + 4) 0 (by omega)).trans ?_
  rw [c (n + 5) 1 (n + 3) _ (by omega), c (n + 5) 2 (n + 2) _ (by omega), c (n + 5) 3 (n + 1) _ (by omega), f_X2_wordsAsFigures_4.eq_2, if_pos (show (4 : Int32) ≤ nI (3 + 1) from by decide)]
theorem wf_e : ∀ a, a < 4 → ∀ b, b < 4 → ∀ c, c < 4 → ∀ d, d < 4 → (10 * (10 * (10 * (10 * 0 + nI a) + nI b) + nI c) + nI d : Int32) = (1000 * nI a + 100 * nI b + 10 * nI c + nI d : Int32) := by decide +kernel
theorem K_count {F : Nat} (hF : 2000 ≤ F) {g : am_G} {w : am_J} (hI : iv_I g w) (p : Int32) : ∃ (r : Int32), f_X7_count F g p = some r ∧ f_X8_count F g p = some r := by
  obtain ⟨len, N, A, nx, fl, hX, hW, hS, hA, hSl, hFo, hw⟩ := hI
  have hN := hW.1
  rw [du_r (show 7 ≤ F by omega) hW]
  have h8 : f_X8_alike F g 0 = some (nI (al_n g (g 11) N)) := by
    have := al_ref (show 7 ≤ F by omega) hW (lv := 0) (by decide) (fun k hk => by rw [Nat.mul_zero, Nat.zero_add]; exact (hS.2 k hk).1)
    refine Eq.trans (show _ = f_X8_alike F g (nI 0) from rfl) (this.trans ?_)
    congr 2
    refine al_cong (fun _ _ => rfl) rfl (fun k hk => ?_)
    rw [Nat.mul_zero, Nat.zero_add, (iv_now hN hk hS.1).1]
  have h7 := al_10 (show 7 ≤ F by omega) hW (fun k hk => by rw [(iv_now hN hk hS.1).1]; exact (hS.2 k hk).1)
  unfold f_X7_count f_X8_count_40
  by_cases c0 : p = 0
  · rw [if_pos c0, if_pos c0]
    exact ⟨nI len, by rw [f_X3_size, hX.2.1]; rfl, by rw [hX.2.2.1]⟩
  rw [if_neg c0, if_neg c0]
  by_cases c1 : p = 1
  · rw [if_pos c1, if_pos c1]
    exact ⟨nI N, by rw [f_X2_windows, hW.2.1]; rfl, by rw [hW.2.2.1]⟩
  rw [if_neg c1, if_neg c1]
  by_cases c2 : p = 2
  · rw [if_pos c2, if_pos c2]
    exact ⟨g 26 1, by rw [f_X2_sight, hW.2.2.2.1]; rfl, rfl⟩
  rw [if_neg c2, if_neg c2]
  by_cases c3 : p = 3
  · rw [if_pos c3, if_pos c3]
    exact ⟨g 32 12, by rw [f_X4_theHour, iv_now12 hS.1]; rfl, rfl⟩
  rw [if_neg c3, if_neg c3]
  by_cases c4 : p = 4
  · rw [if_pos c4, if_pos c4, wf_c (by omega)]
    obtain ⟨a0, a, ha, ea⟩ := hW.2.2.2.2.2.1 0 (by decide)
    obtain ⟨b0, b, hb, eb⟩ := hW.2.2.2.2.2.1 1 (by decide)
    obtain ⟨d0, c, hc, ec⟩ := hW.2.2.2.2.2.1 2 (by decide)
    obtain ⟨f0, d, hd, ed⟩ := hW.2.2.2.2.2.1 3 (by decide)
    rw [a0, b0, d0, f0]
    refine ⟨_, rfl, ?_⟩
    have t0 : Int32.toNatClampNeg (0 : Int32) = 0 := by decide
    have t1 : Int32.toNatClampNeg (1 : Int32) = 1 := by decide
    have t2 : Int32.toNatClampNeg (2 : Int32) = 2 := by decide
    have t3 : Int32.toNatClampNeg (3 : Int32) = 3 := by decide
    rw [t0, t1, t2, t3, ea, eb, ec, ed, wf_e a ha b hb c hc d hd]
  rw [if_neg c4, if_neg c4]
  by_cases c5 : p = 5
  · rw [if_pos c5, if_pos c5, du_c (by omega) hW hS.1]
    exact ⟨_, rfl, rfl⟩
  rw [if_neg c5, if_neg c5]
  by_cases c6 : p = 6
  · rw [if_pos c6, if_pos c6]
    exact ⟨nI A, by rw [f_X0_size, hA.2.2.1]; rfl, by rw [hA.2.2.2.1]⟩
  rw [if_neg c6, if_neg c6]
  by_cases c7 : p = 7
  · rw [if_pos c7, if_pos c7]
    exact ⟨nI fl, by rw [f_X1_size, hFo.2.1]; rfl, by rw [hFo.2.2.1]⟩
  rw [if_neg c7, if_neg c7]
  by_cases c8 : p = 8
  · rw [if_pos c8, if_pos c8, h7, h8]
    exact ⟨_, rfl, rfl⟩
  rw [if_neg c8, if_neg c8]
  exact ⟨_, rfl, rfl⟩
