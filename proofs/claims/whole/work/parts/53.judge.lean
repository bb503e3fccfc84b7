/-! JUDGED -/
/-- one behind the greatest row of j things -/
def am_bt (j : Nat) : Int64 := match j with
  | 0 => 1
  | 1 => 100
  | 2 => 10000
  | 3 => 1000000
  | 4 => 100000000
  | 5 => 10000000000
  | _ => 0
theorem lc_lt (x y : Int64) : lg_cmp x y < 0 ↔ x < y := by
  unfold lg_cmp
  rw [Int64.lt_iff_toInt_lt]
  by_cases h1 : y < x
  · have h1' := Int64.lt_iff_toInt_lt.mp h1
    rw [if_pos h1]
    constructor
    · intro z; exact absurd z (by decide)
    · intro z; omega
  · have h1' : ¬ y.toInt < x.toInt := fun z => h1 (Int64.lt_iff_toInt_lt.mpr z)
    by_cases h2 : x = y
    · subst h2
      simp only [h1]
      constructor
      · intro z; exact absurd z (by decide)
      · intro z; omega
    · have h3 : x.toInt ≠ y.toInt := fun e => h2 (Int64.toInt_inj.mp e)
      simp only [h1, h2]
      constructor
      · intro z; omega
      · intro z; decide
theorem lc_gt (x y : Int64) : 0 < lg_cmp x y ↔ y < x := by
  unfold lg_cmp
  by_cases h1 : y < x
  · rw [if_pos h1]
    exact ⟨fun _ => h1, fun _ => by decide⟩
  · by_cases h2 : x = y
    · simp only [h2, Int64.lt_irrefl]
      decide
    · simp only [h1, h2]
      decide
/-- the class's row without its last things -/
theorem wl_nn {j : Int64} (a : ¬ j < 0) : 0 ≤ j.toInt := by
  have h : ¬ j.toInt < (0 : Int64).toInt := fun z => a (Int64.lt_iff_toInt_lt.mpr z)
  rw [show (0 : Int64).toInt = 0 from rfl] at h
  omega
theorem wl_d (j B : Int64) (hj : 0 ≤ j.toInt) (hB : B ≠ -1) : (j / B).toInt = j.toInt / B.toInt := by
  rw [Int64.toInt_div_of_ne_right _ _ hB, Int.tdiv_eq_ediv_of_nonneg hj]
theorem wl_c (j B C : Int64) (hj : 0 ≤ j.toInt) (hB : B ≠ -1 ∧ 0 ≤ B.toInt) (hC : C ≠ -1 ∧ C.toInt = B.toInt * 100) : j / B / 100 = j / C := by
  have h1 := wl_d j B hj hB.1
  have h0 : 0 ≤ (j / B).toInt := by rw [h1]; exact Int.ediv_nonneg hj hB.2
  apply Int64.toInt_inj.mp
  rw [wl_d _ 100 h0 (by decide), h1, wl_d j C hj hC.1, hC.2, show (100 : Int64).toInt = 100 from rfl, Int.ediv_ediv_of_nonneg hB.2]
theorem wl_bt : ∀ e, e < 5 → (am_bt e ≠ -1 ∧ 0 ≤ (am_bt e).toInt) ∧ (am_bt (e + 1) ≠ -1 ∧ (am_bt (e + 1)).toInt = (am_bt e).toInt * 100) := by decide
theorem wl_bp : ∀ e, e < 6 → am_bt e ≠ -1 ∧ 0 < (am_bt e).toInt := by decide
theorem wl_loop {F e : Nat} (j : Int64) (hj : 0 ≤ j.toInt) (he : e < 6) : ∀ (d n i : Nat), i + d = e → d < n → f_X7_withoutLast_5 F j (nI e) n (j / am_bt i) (nI i) = some (j / am_bt e) := by
  intro d
  induction d with
  | zero =>
    intro n i hi hn
    obtain ⟨n, rfl⟩ : ∃ k, n = k + 1 := ⟨n - 1, by omega⟩
    have : i = e := by omega
    subst this
    rw [f_X7_withoutLast_5.eq_2, if_pos (Int32.le_refl _)]
  | succ d ih =>
    intro n i hi hn
    obtain ⟨n, rfl⟩ : ∃ k, n = k + 1 := ⟨n - 1, by omega⟩
    have hb := wl_bt i (by omega)
    rw [f_X7_withoutLast_5.eq_2, if_neg (by rw [pu_le (by omega) (by omega)]; omega), show nI i + (1 : Int32) = nI (i + 1) from nI_add i 1, wl_c j (am_bt i) (am_bt (i + 1)) hj hb.1 hb.2, ih n (i + 1) (by omega) (by omega)]
theorem wl_last {F e : Nat} (hF : 20 ≤ F) (j : Int64) (hj : 0 ≤ j.toInt) (he : e < 6) : f_X7_withoutLast F j (nI e) = some (j / am_bt e) := by
  have h := wl_loop (F := F) j hj he e F 0 (by omega) (by omega)
  rw [show am_bt 0 = 1 from rfl, Int64.div_one] at h
  exact h
theorem wl_cmp (j : Int64) (hj : 0 ≤ j.toInt) {m : Nat} (hm : m < 6) : lg_cmp (j / am_bt m) 0 ≤ 0 ↔ j < am_bt m := by
  have hb := wl_bp m hm
  rw [← Int32.not_lt, lc_gt, Int64.lt_iff_toInt_lt, Int64.lt_iff_toInt_lt, wl_d j _ hj hb.1, show (0 : Int64).toInt = 0 from rfl]
  have hB := hb.2
  constructor
  · intro h
    by_cases z : j.toInt < (am_bt m).toInt
    · exact z
    · have : 1 ≤ j.toInt / (am_bt m).toInt := (Int.le_ediv_iff_mul_le hB).mpr (by omega)
      omega
  · intro h
    rw [Int.ediv_eq_zero_of_lt hj h]
    decide
def tp_t : Nat → Int64 → Int64
  | 0, x => x
  | d + 1, x => tp_t d (x * 10)
theorem tp_loop {F t : Nat} (ht : t < 2147483648) : ∀ (d n i : Nat) (x : Int64), i + d = t → d < n → f_X8_tenTo_4 F (nI t) n x (nI i) = some (tp_t d x) := by
  intro d
  induction d with
  | zero =>
    intro n i x hi hn
    obtain ⟨n, rfl⟩ : ∃ k, n = k + 1 := ⟨n - 1, by omega⟩
    have : i = t := by omega
    subst this
    rw [f_X8_tenTo_4.eq_2, if_pos (Int32.le_refl _)]
    rfl
  | succ d ih =>
    intro n i x hi hn
    obtain ⟨n, rfl⟩ : ∃ k, n = k + 1 := ⟨n - 1, by omega⟩
    rw [f_X8_tenTo_4.eq_2, if_neg (by rw [pu_le (by omega) (by omega)]; omega), show nI i + (1 : Int32) = nI (i + 1) from nI_add i 1, ih n (i + 1) _ (by omega) (by omega)]
    rfl
theorem tp_bt : ∀ e, e < 6 → tp_t (2 * e) 1 = am_bt e ∧ ¬ am_bt e = 0 := by decide
theorem tp_tenTo {F e : Nat} (hF : 20 ≤ F) (he : e < 6) : f_X8_tenTo F (2 * nI e) = some (am_bt e) := by
  rw [show (2 : Int32) * nI e = nI (2 * e) from pu_mul 2 e]
  refine (tp_loop (by omega) (2 * e) F 0 1 (by omega) (by omega)).trans ?_
  rw [(tp_bt e he).1]
def jd_r (F : Nat) (T : Int32) (h : am_G) : Option (Int32 × am_G) := if T = 90 then (f_X8_windOn F h 1).bind fun q => some (1, q.2) else if T = 91 then (f_X8_hourOn F h 1).bind fun q => some (1, q.2) else f_X8_tryMove h (T / 10) (T - T / 10 * 10)
theorem jd_T (T : Int32) : (T / 10 = 9 ∧ T - T / 10 * 10 = 0 ↔ T = 90) ∧ (T / 10 = 9 ∧ T - T / 10 * 10 = 1 ↔ T = 91) := by
  have e : T = (T - T / 10 * 10) + T / 10 * 10 := (Int32.sub_add_cancel T (T / 10 * 10)).symm
  constructor
  · constructor
    · rintro ⟨a, b⟩
      rw [b, a] at e
      rw [e]
      decide
    · rintro rfl
      decide
  · constructor
    · rintro ⟨a, b⟩
      rw [b, a] at e
      rw [e]
      decide
    · rintro rfl
      decide
theorem jd_41 (F : Nat) (a b : Int32) (g : am_G) : f_X7_happens_41 F a b g = tr_mv g a b := rfl
theorem jd_step {F N : Nat} (hF : 7 ≤ F) (T : Int32) : tr_step N (fun g => f_X7_happens F g (T / 10) (T - T / 10 * 10)) (fun h => jd_r F T h) := by
  obtain ⟨j1, j2⟩ := jd_T T
  intro g hC
  by_cases h90 : T = 90
  · obtain ⟨a, b⟩ := j1.mpr h90
    obtain ⟨r, g1, b1, b2, b3, b4⟩ := tr_blow (N := N) hF g hC
    refine ⟨1, g1, ?_, b2, b3, fun h hR => ?_⟩
    · show f_X7_happens F g (T / 10) (T - T / 10 * 10) = _
      rw [f_X7_happens, if_pos a, if_pos b, show f_X4_blow_13 F g = some (r, g1) from b1]
      rfl
    · obtain ⟨h1, c1, c2, c3⟩ := b4 h hR
      refine ⟨h1, ?_, c2, c3⟩
      show jd_r F T h = _
      rw [jd_r, if_pos h90, show f_X8_windOn F h 1 = some (r, h1) from c1]
      rfl
  have hn0 : ¬ (T / 10 = 9 ∧ T - T / 10 * 10 = 0) := fun z => h90 (j1.mp z)
  have hh : f_X7_happens F g (T / 10) (T - T / 10 * 10) = f_X7_happens_20 F (T / 10) (T - T / 10 * 10) g := by
    unfold f_X7_happens
    by_cases a : T / 10 = 9
    · rw [if_pos a, if_neg (fun b => hn0 ⟨a, b⟩)]
    · rw [if_neg a]
  by_cases h91 : T = 91
  · obtain ⟨a, b⟩ := j2.mpr h91
    obtain ⟨r, g1, b1, b2, b3, b4⟩ := tr_strike (N := N) hF g hC
    refine ⟨1, g1, ?_, b2, b3, fun h hR => ?_⟩
    · show f_X7_happens F g (T / 10) (T - T / 10 * 10) = _
      rw [hh, f_X7_happens_20, if_pos a, if_pos b, show f_X4_strike_13 F g = some (r, g1) from b1]
      rfl
    · obtain ⟨h1, c1, c2, c3⟩ := b4 h hR
      refine ⟨h1, ?_, c2, c3⟩
      show jd_r F T h = _
      rw [jd_r, if_neg h90, if_pos h91, show f_X8_hourOn F h 1 = some (r, h1) from c1]
      rfl
  have hn1 : ¬ (T / 10 = 9 ∧ T - T / 10 * 10 = 1) := fun z => h91 (j2.mp z)
  obtain ⟨r, g1, b1, b2, b3, b4⟩ := tr_move (N := N) (T / 10) (T - T / 10 * 10) g hC
  refine ⟨r, g1, ?_, b2, b3, fun h hR => ?_⟩
  · show f_X7_happens F g (T / 10) (T - T / 10 * 10) = _
    rw [hh, f_X7_happens_20]
    by_cases a : T / 10 = 9
    · rw [if_pos a, if_neg (fun b => hn1 ⟨a, b⟩), jd_41]
      exact b1
    · rw [if_neg a, jd_41]
      exact b1
  · obtain ⟨h1, c1, c2, c3⟩ := b4 h hR
    refine ⟨h1, ?_, c2, c3⟩
    show jd_r F T h = _
    rw [jd_r, if_neg h90, if_neg h91]
    exact c1
/-- the reference's middle of the loop -/
theorem jd_mid {F : Nat} (p1 : Int32) (p2 : Int64) (k38 : Int32 → am_G → Option (Int32 × am_G)) (l4 T : Int32) (h : am_G) (r : Int32) (h1 : am_G) (e : jd_r F T h = some (r, h1)) :
    (if T = 90 then f_X8_judge_95 F p1 p2 k38 l4 T h else if T = 91 then f_X8_judge_95 F p1 p2 k38 l4 T h else (f_X8_tryMove h (T / 10) (T - T / 10 * 10)).bind fun q10 => if q10.1 = 0 then f_X8_judge_100 F p1 p2 k38 l4 T 0 q10.2 else f_X8_judge_95 F p1 p2 k38 l4 T q10.2) = f_X8_judge_131 F p1 p2 k38 l4 (if r = 0 then 0 else 1) h1 := by
  unfold jd_r at e
  simp only [f_X8_judge_95, f_X8_judge_100]
  by_cases h90 : T = 90
  · rw [if_pos h90] at e ⊢
    rw [if_pos h90]
    cases hq : f_X8_windOn F h 1 with
    | none => rw [hq] at e; cases e
    | some q =>
      rw [hq] at e
      cases e
      rfl
  rw [if_neg h90] at e ⊢
  simp only [if_neg h90]
  by_cases h91 : T = 91
  · rw [if_pos h91] at e ⊢
    rw [if_pos h91]
    cases hq : f_X8_hourOn F h 1 with
    | none => rw [hq] at e; cases e
    | some q =>
      rw [hq] at e
      cases e
      rfl
  rw [if_neg h91] at e ⊢
  simp only [if_neg h91]
  rw [e, Option.bind_some]
  by_cases h0 : r = 0
  · rw [if_pos h0, if_pos h0]
  · rw [if_neg h0, if_neg h0]
theorem jd_loop {F N m : Nat} (hF : 20 ≤ F) (hm : m < 6) (row : Int64) (hj : 0 ≤ row.toInt) : ∀ (d n i : Nat) (g : am_G), i + d = m → d < n → tr_C g N → ∃ r g1, f_X7_judge_43 F (nI m) row n (nI i) g = some (r, g1) ∧ tr_o g g1 ∧
    ∀ (h : am_G), tr_R g h N → ∃ h1, f_X8_judge_38 F (nI m) row n (nI i) h = some (r, h1) ∧ tr_p h h1 := by
  intro d
  induction d with
  | zero =>
    intro n i g hi hn hC
    obtain ⟨n, rfl⟩ : ∃ k, n = k + 1 := ⟨n - 1, by omega⟩
    have : i = m := by omega
    subst this
    refine ⟨-9, g, ?_, tr_o.refl g, fun h hR => ⟨h, ?_, tr_p.refl h⟩⟩
    · rw [f_X7_judge_43.eq_2, if_pos (Int32.le_refl _)]
    · rw [f_X8_judge_38.eq_2, if_pos (Int32.le_refl _)]
  | succ d ih =>
    intro n i g hi hn hC
    obtain ⟨n, rfl⟩ : ∃ k, n = k + 1 := ⟨n - 1, by omega⟩
    have hlt : ¬ nI m ≤ nI i := by rw [pu_le (by omega) (by omega)]; omega
    have e1 : nI i + (1 : Int32) = nI (i + 1) := nI_add i 1
    obtain ⟨e, he⟩ : ∃ e, e = m - 1 - i := ⟨_, rfl⟩
    have ee : nI m - (1 : Int32) - nI i = nI e := by
      rw [show nI m - (1 : Int32) = nI (m - 1) from pu_sub (a := m) (b := 1) (by omega), pu_sub (by omega), he]
    have he6 : e < 6 := by omega
    obtain ⟨T, hT⟩ : ∃ T, T = Int64.toInt32 ((row / am_bt e) - (row / am_bt e) / (100 : Int64) * (100 : Int64)) := ⟨_, rfl⟩
    obtain ⟨r, g1, b1, b2, b3, b4⟩ := jd_step (N := N) (show 7 ≤ F by omega) T g hC
    have hne := (tp_bt e he6).2
    have hcl : f_X7_judge_43 F (nI m) row (n + 1) (nI i) g = if r = 0 then some (nI i, g1) else if nI (al_n g1 (g1 14) N) ≤ 0 then f_X7_judge_43 F (nI m) row n (nI (i + 1)) g1 else some (nI i, g1) := by
      rw [f_X7_judge_43.eq_2, if_neg hlt, ee, wl_last hF row hj he6, Option.bind_some, ← hT, show f_X7_happens F g (T / 10) (T - T / 10 * 10) = some (r, g1) from b1]
      simp only [Option.bind_some, al_13 (show 7 ≤ F by omega) b3.1 (fun k hk => (b3.2 k hk).1), e1]
    have hrf : ∀ h h1, jd_r F T h = some (r, h1) → tr_R g1 h1 N → f_X8_judge_38 F (nI m) row (n + 1) (nI i) h = if r = 0 then some (nI i, h1) else if nI (al_n g1 (g1 14) N) ≤ 0 then f_X8_judge_38 F (nI m) row n (nI (i + 1)) h1 else some (nI i, h1) := fun h h1 q1 q2 => by
      rw [f_X8_judge_38.eq_2, if_neg hlt, ee, tp_tenTo hF he6]
      simp only [Option.bind_some, if_pos hne, ← hT]
      rw [jd_mid _ _ _ _ _ _ r h1 q1]
      unfold f_X8_judge_131
      by_cases h0 : r = 0
      · rw [if_pos h0, if_pos rfl, if_pos h0]
      · rw [if_neg h0, if_neg pb_10, if_neg h0, tr_alike (by omega) b3 q2]
        simp only [Option.bind_some, e1]
    rw [hcl]
    by_cases h0 : r = 0
    · refine ⟨nI i, g1, by rw [if_pos h0], b2, fun h hR => ?_⟩
      obtain ⟨h1, c1, c2, c3⟩ := b4 h hR
      exact ⟨h1, by rw [hrf h h1 c1 c3, if_pos h0], c2⟩
    by_cases hz : nI (al_n g1 (g1 14) N) ≤ 0
    · obtain ⟨r', g2, d1, d2, d3⟩ := ih n (i + 1) g1 (by omega) (by omega) b3
      refine ⟨r', g2, by rw [if_neg h0, if_pos hz]; exact d1, b2.trans d2, fun h hR => ?_⟩
      obtain ⟨h1, c1, c2, c3⟩ := b4 h hR
      obtain ⟨h2, f1, f2⟩ := d3 h1 c3
      exact ⟨h2, by rw [hrf h h1 c1 c3, if_neg h0, if_pos hz]; exact f1, c2.trans f2⟩
    · refine ⟨nI i, g1, by rw [if_neg h0, if_neg hz], b2, fun h hR => ?_⟩
      obtain ⟨h1, c1, c2, c3⟩ := b4 h hR
      exact ⟨h1, by rw [hrf h h1 c1 c3, if_neg h0, if_neg hz], c2⟩
theorem jd_last (j : Int64) : ∀ m, m < 6 → ((am_bt m - 1 < j) ↔ ¬ j < am_bt m) := by
  have h : ∀ B : Int64, (B - 1).toInt = B.toInt - 1 → ((B - 1 < j) ↔ ¬ j < B) := fun B hB => by
    rw [Int64.lt_iff_toInt_lt, Int64.lt_iff_toInt_lt, hB]
    omega
  intro m hm
  apply h
  revert m
  decide
theorem K_judge {F : Nat} (hF : 2000 ≤ F) {g : am_G} {w : am_J} (hI : iv_I g w) (p : Int32) (j : Int64) : ∃ (r : Int32) (g1 : am_G) (g2 : am_G), f_X7_judge F g p j = some (r, g1) ∧ f_X8_judge F g1 p j = some (r, g2) ∧ iv_I g2 w := by
  have hI0 := hI
  obtain ⟨len, N, A, nx, fl, hX, hW, hS, hA, hSl, hFo, hw⟩ := hI
  have hin : f_X8_in (Int32.toInt64 p) (1 : Int64) (5 : Int64) = some (if 1 ≤ p ∧ p ≤ 5 then 1 else 0) := by rw [pu_l1, pu_l5, pu_in64]
  by_cases h1 : p < 1
  · refine ⟨-2, g, g, by rw [f_X7_judge, if_pos h1], ?_, hI0⟩
    have : ¬ (1 ≤ p ∧ p ≤ 5) := fun z => Int32.lt_irrefl (Int32.lt_of_lt_of_le h1 z.1)
    rw [f_X8_judge, hin, if_neg this]
    rfl
  by_cases h5 : 5 < p
  · refine ⟨-2, g, g, by rw [f_X7_judge, if_neg h1, if_pos h5], ?_, hI0⟩
    have : ¬ (1 ≤ p ∧ p ≤ 5) := fun z => Int32.lt_irrefl (Int32.lt_of_lt_of_le h5 z.2)
    rw [f_X8_judge, hin, if_neg this]
    rfl
  have hb : 1 ≤ p ∧ p ≤ 5 := ⟨Int32.not_lt.mp h1, Int32.not_lt.mp h5⟩
  rw [if_pos hb] at hin
  obtain ⟨m, hm, rfl⟩ : ∃ m, m < 6 ∧ p = nI m := by
    rcases pu_cases p 6 (by decide) with h | ⟨h, h'⟩ | ⟨k, hk, rfl⟩
    · exact absurd (Int32.lt_trans h (by decide)) h1
    · exact absurd (Int32.le_trans h' hb.2) (by decide)
    · exact ⟨k, hk, rfl⟩
  have hrf : ∀ h, f_X8_judge F h (nI m) j = if j < 0 then some (-2, h) else if j < am_bt m then (f_X8_layTrial F h).bind fun q18 => f_X8_judge_38 F (nI m) j F 0 q18 else some (-2, h) := fun h => by
    rw [f_X8_judge, hin]
    simp only [Option.bind_some, if_neg pb_10, tp_tenTo (show 20 ≤ F by omega) hm, f_X8_in, lc_lt, lc_gt, jd_last j m hm]
    by_cases a : j < 0
    · rw [if_pos a, if_pos a]
      rfl
    · rw [if_neg a, if_neg a]
      by_cases b : j < am_bt m
      · rw [if_neg (fun z => z b), if_pos b]
        rfl
      · rw [if_pos b, if_neg b]
        rfl
  have hcl : f_X7_judge F g (nI m) j = if j < 0 then some (-2, g) else if j < am_bt m then (f_X4_copy g).bind fun q9 => f_X7_judge_43 F (nI m) j F 0 q9 else some (-2, g) := by
    rw [f_X7_judge, if_neg h1, if_neg h5]
    simp only [lc_lt]
    by_cases a : j < 0
    · rw [if_pos a, if_pos a]
    · have hj : 0 ≤ j.toInt := wl_nn a
      rw [if_neg a, if_neg a, wl_last (show 20 ≤ F by omega) j hj hm]
      simp only [Option.bind_some, wl_cmp j hj hm]
  by_cases a : j < 0
  · exact ⟨-2, g, g, by rw [hcl, if_pos a], by rw [hrf, if_pos a], hI0⟩
  have hj : 0 ≤ j.toInt := wl_nn a
  by_cases b : j < am_bt m
  · obtain ⟨g0, s1, s2, s3, s4⟩ := tr_start (w := w) hW hS
    obtain ⟨r, g1, c1, c2, c4⟩ := jd_loop (F := F) (N := N) (m := m) (by omega) hm j hj m F 0 g0 (by omega) (by omega) s3
    obtain ⟨h0, l1, l2, l3⟩ := s4 g1 c2 F (by omega)
    obtain ⟨h1', k1, k2⟩ := c4 h0 l3
    refine ⟨r, g1, h1', ?_, ?_, tr_end hI0 (s2.trans c2) (l2.trans k2) hw⟩
    · rw [hcl, if_neg a, if_pos b, s1]
      exact c1
    · rw [hrf, if_neg a, if_pos b, l1]
      exact k1
  · exact ⟨-2, g, g, by rw [hcl, if_neg a, if_neg b], by rw [hrf, if_neg a, if_neg b], hI0⟩
