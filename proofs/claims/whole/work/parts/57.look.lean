/-! WHERE TO LOOK -/
def cx_c (q : Nat → Nat → Bool) (c : Nat) : Bool := q 0 (cd_d 0 c) && q 1 (cd_d 1 c) && q 2 (cd_d 2 c) && q 3 (cd_d 3 c)
theorem cx_prod (q : Nat → Nat → Bool) : sm (fun c => if cx_c q c = true then 1 else 0) 0 256 = s4 (fun v => (q 0 v).toNat) * s4 (fun v => (q 1 v).toNat) * s4 (fun v => (q 2 v).toNat) * s4 (fun v => (q 3 v).toNat) := by
  rw [sm_256]
  have e : ∀ a, a < 4 → ∀ b, b < 4 → ∀ c, c < 4 → ∀ d, d < 4 → (if cx_c q (64 * a + 16 * b + 4 * c + d) = true then 1 else 0) = (q 0 a).toNat * (q 1 b).toNat * (q 2 c).toNat * (q 3 d).toNat := fun a ha b hb c hc d hd => by
    have d0 : cd_d 0 (64 * a + 16 * b + 4 * c + d) = a := by simp only [cd_d]; omega
    have d1 : cd_d 1 (64 * a + 16 * b + 4 * c + d) = b := by simp only [cd_d]; omega
    have d2 : cd_d 2 (64 * a + 16 * b + 4 * c + d) = c := by simp only [cd_d]; omega
    have d3 : cd_d 3 (64 * a + 16 * b + 4 * c + d) = d := by simp only [cd_d]; omega
    unfold cx_c
    rw [d0, d1, d2, d3]
    cases q 0 a <;> cases q 1 b <;> cases q 2 c <;> cases q 3 d <;> rfl
  have : ∀ a, a < 4 → (s4 fun b => s4 fun c => s4 fun d => if cx_c q (64 * a + 16 * b + 4 * c + d) = true then 1 else 0) = (q 0 a).toNat * (s4 (fun v => (q 1 v).toNat) * s4 (fun v => (q 2 v).toNat) * s4 (fun v => (q 3 v).toNat)) := fun a ha => by
    have h1 : ∀ b, b < 4 → (s4 fun c => s4 fun d => if cx_c q (64 * a + 16 * b + 4 * c + d) = true then 1 else 0) = (q 0 a).toNat * (q 1 b).toNat * (s4 (fun v => (q 2 v).toNat) * s4 (fun v => (q 3 v).toNat)) := fun b hb => by
      have h2 : ∀ c, c < 4 → (s4 fun d => if cx_c q (64 * a + 16 * b + 4 * c + d) = true then 1 else 0) = (q 0 a).toNat * (q 1 b).toNat * (q 2 c).toNat * s4 (fun v => (q 3 v).toNat) := fun c hc => by
        rw [s4_cong (fun d hd => e a ha b hb c hc d hd), s4_mul]
      rw [s4_cong h2, s4_mulr, s4_mul, Nat.mul_assoc]
    rw [s4_cong h1, s4_mulr, s4_mul, Nat.mul_assoc, Nat.mul_assoc]
  rw [s4_cong this, s4_mulr, Nat.mul_assoc, Nat.mul_assoc, Nat.mul_assoc]
def lk_R (g : am_G) (fl s : Nat) : Nat := if s = 0 then cd_m g fl 1 * cd_m g fl 2 * cd_m g fl 3 else if s = 1 then cd_m g fl 0 * cd_m g fl 2 * cd_m g fl 3 else if s = 2 then cd_m g fl 0 * cd_m g fl 1 * cd_m g fl 3 else cd_m g fl 0 * cd_m g fl 1 * cd_m g fl 2
def lk_v (g : am_G) (fl s v i : Nat) : Nat := if cd_c g fl i = true ∧ cd_d s i = v then 1 else 0
theorem lk_one (q : Nat → Bool) (v : Nat) (hv : v < 4) : s4 (fun u => (q u && decide (u = v)).toNat) = (q v).toNat := by
  have : v = 0 ∨ v = 1 ∨ v = 2 ∨ v = 3 := by omega
  rcases this with rfl | rfl | rfl | rfl <;> simp [s4]
theorem lk_pt (g : am_G) (fl s v : Nat) (hs : s < 4) (hv : v < 4) : sm (lk_v g fl s v) 0 256 = (cd_q g fl s v).toNat * lk_R g fl s := by
  have key := cx_prod (fun t u => cd_q g fl t u && (!decide (t = s) || decide (u = v)))
  have e : sm (lk_v g fl s v) 0 256 = sm (fun c => if cx_c (fun t u => cd_q g fl t u && (!decide (t = s) || decide (u = v))) c = true then 1 else 0) 0 256 := by
    apply sm_cong
    intro c _ _
    have hx : (cx_c (fun t u => cd_q g fl t u && (!decide (t = s) || decide (u = v))) c = true) ↔ (cd_c g fl c = true ∧ cd_d s c = v) := by
      have hb : cx_c (fun t u => cd_q g fl t u && (!decide (t = s) || decide (u = v))) c = (cd_c g fl c && decide (cd_d s c = v)) := by
        simp only [cx_c, cd_c]
        have : s = 0 ∨ s = 1 ∨ s = 2 ∨ s = 3 := by omega
        clear key
        generalize cd_q g fl 0 (cd_d 0 c) = a0
        generalize cd_q g fl 1 (cd_d 1 c) = a1
        generalize cd_q g fl 2 (cd_d 2 c) = a2
        generalize cd_q g fl 3 (cd_d 3 c) = a3
        rcases this with rfl | rfl | rfl | rfl
        all_goals
          generalize decide (cd_d 0 c = v) = x0
          generalize decide (cd_d 1 c = v) = x1
          generalize decide (cd_d 2 c = v) = x2
          generalize decide (cd_d 3 c = v) = x3
          cases a0 <;> cases a1 <;> cases a2 <;> cases a3 <;> cases x0 <;> cases x1 <;> cases x2 <;> cases x3 <;> rfl
      rw [hb, Bool.and_eq_true, decide_eq_true_iff]
    unfold lk_v
    by_cases h : cd_c g fl c = true ∧ cd_d s c = v
    · rw [if_pos h, if_pos (hx.mpr h)]
    · rw [if_neg h, if_neg (fun z => h (hx.mp z))]
  rw [e, key]
  have hone := lk_one (cd_q g fl s) v hv
  have hoth : ∀ t, t ≠ s → s4 (fun u => (cd_q g fl t u && (!decide (t = s) || decide (u = v))).toNat) = cd_m g fl t := fun t ht => by
    simp [ht, cd_m]
  have hown : s4 (fun u => (cd_q g fl s u && (!decide (s = s) || decide (u = v))).toNat) = (cd_q g fl s v).toNat := by
    rw [← hone]
    simp
  have : s = 0 ∨ s = 1 ∨ s = 2 ∨ s = 3 := by omega
  unfold lk_R
  rcases this with rfl | rfl | rfl | rfl
  · rw [hown, hoth 1 (by decide), hoth 2 (by decide), hoth 3 (by decide), if_pos rfl, Nat.mul_assoc, Nat.mul_assoc, Nat.mul_assoc]
  · rw [hown, hoth 0 (by decide), hoth 2 (by decide), hoth 3 (by decide), if_neg (by decide), if_pos rfl]
    generalize (cd_q g fl 1 v).toNat = x
    rw [Nat.mul_comm (cd_m g fl 0) x, Nat.mul_assoc, Nat.mul_assoc, Nat.mul_assoc]
  · rw [hown, hoth 0 (by decide), hoth 1 (by decide), hoth 3 (by decide), if_neg (by decide), if_neg (by decide), if_pos rfl]
    generalize (cd_q g fl 2 v).toNat = x
    rw [Nat.mul_comm (cd_m g fl 0 * cd_m g fl 1) x, Nat.mul_assoc, Nat.mul_assoc]
  · rw [hown, hoth 0 (by decide), hoth 1 (by decide), hoth 2 (by decide), if_neg (by decide), if_neg (by decide), if_neg (by decide)]
    exact Nat.mul_comm _ _
theorem lk_T (g : am_G) (fl s : Nat) (hs : s < 4) : cd_m g fl s * lk_R g fl s = sm (cd_n g fl) 0 256 := by
  rw [cd_prod]
  have : s = 0 ∨ s = 1 ∨ s = 2 ∨ s = 3 := by omega
  unfold lk_R
  rcases this with rfl | rfl | rfl | rfl
  · rw [if_pos rfl]
    simp only [Nat.mul_assoc]
  · rw [if_neg (by decide), if_pos rfl]
    generalize cd_m g fl 1 = x
    rw [Nat.mul_comm (cd_m g fl 0) x]
    simp only [Nat.mul_assoc]
  · rw [if_neg (by decide), if_neg (by decide), if_pos rfl]
    generalize cd_m g fl 2 = x
    rw [Nat.mul_comm (cd_m g fl 0 * cd_m g fl 1) x]
    simp only [Nat.mul_assoc]
  · rw [if_neg (by decide), if_neg (by decide), if_neg (by decide)]
    exact Nat.mul_comm _ _
theorem lk_Rle (g : am_G) (fl s : Nat) : lk_R g fl s ≤ 64 := by
  have h := cd_mle g fl
  have t : ∀ a b c, cd_m g fl a * cd_m g fl b * cd_m g fl c ≤ 64 := fun a b c => Nat.mul_le_mul (Nat.mul_le_mul (h a) (h b)) (h c)
  unfold lk_R
  split
  · exact t _ _ _
  · split
    · exact t _ _ _
    · split
      · exact t _ _ _
      · exact t _ _ _
def lk_x (x y : Nat) : Nat := if y ≤ x then x else y
def lk_M (g : am_G) (fl s : Nat) : Nat := lk_x (lk_x (lk_x (lk_x 0 ((cd_q g fl s 0).toNat * lk_R g fl s)) ((cd_q g fl s 1).toNat * lk_R g fl s)) ((cd_q g fl s 2).toNat * lk_R g fl s)) ((cd_q g fl s 3).toNat * lk_R g fl s)
theorem lk_xle {x y n : Nat} (h1 : x ≤ n) (h2 : y ≤ n) : lk_x x y ≤ n := by
  unfold lk_x
  split
  · exact h1
  · exact h2
theorem lk_b (b : Bool) (R : Nat) : b.toNat * R ≤ R := by
  cases b <;> simp
theorem lk_MR {g : am_G} {fl s : Nat} (h : 0 < cd_m g fl s) : lk_M g fl s = lk_R g fl s := by
  unfold lk_M
  simp only [cd_m, s4] at h
  generalize lk_R g fl s = R
  revert h
  cases cd_q g fl s 0 <;> cases cd_q g fl s 1 <;> cases cd_q g fl s 2 <;> cases cd_q g fl s 3 <;> intro h <;> simp [lk_x] at h ⊢ <;> omega
theorem lk_part {F : Nat} (hF : 300 ≤ F) {g : am_G} {fl : Nat} (hFo : iv_F g fl) {s v : Nat} (hs : s < 4) (hv : v < 4) (K : Int32 → Int32 → Int32 → Option Int32) (l2 : Int32) : f_X8_greatestPart_15 F g (nI s) K F l2 (nI v) 0 0 = K l2 (nI v) (nI ((cd_q g fl s v).toNat * lk_R g fl s)) := by
  have key := ct_loop (fun n i c => f_X8_greatestPart_15 F g (nI s) K n l2 (nI v) (nI c) (nI i)) (fun c => K l2 (nI v) (nI c)) (lk_v g fl s v) 256 (fun n i c hi => ?_) (fun n c => ?_) 256 0 0 F (by omega) (by omega)
  · rw [Nat.zero_add, lk_pt g fl s v hs hv] at key
    exact key
  · show f_X8_greatestPart_15 F g (nI s) K (n + 1) l2 (nI v) (nI c) (nI i) = _
    rw [f_X8_greatestPart_15.eq_2, if_neg (show ¬ (256 : Int32) ≤ nI i from nI_ge (b := 256) hi (by decide)), cd_is (by omega) hFo hi, cd_by0 i hi s hs]
    simp only [Option.bind_some, f_X8_greatestPart_48, f_X8_greatestPart_49, show nI i + (1 : Int32) = nI (i + 1) from nI_add i 1]
    unfold lk_v
    have hd := cd_lt s i
    by_cases hc : cd_c g fl i = true
    · rw [if_pos hc, if_neg pb_10]
      by_cases he : cd_d s i = v
      · rw [if_pos (by rw [he]), if_pos ⟨hc, he⟩, show nI c + (1 : Int32) = nI (c + 1) from nI_add c 1]
      · rw [if_neg (fun z => he ((pu_eq (by omega) (by omega)).mp z)), if_neg (fun z => he z.2), show nI c + (0 : Int32) = nI (c + 0) from nI_add c 0]
    · rw [if_neg hc, if_pos rfl, if_neg (fun z => hc z.1), show nI c + (0 : Int32) = nI (c + 0) from nI_add c 0]
  · show f_X8_greatestPart_15 F g (nI s) K (n + 1) l2 (nI v) (nI c) (nI 256) = _
    rw [f_X8_greatestPart_15.eq_2, if_pos (show (256 : Int32) ≤ nI 256 from by decide)]
theorem lk_gp {F : Nat} (hF : 300 ≤ F) {g : am_G} {fl : Nat} (hFo : iv_F g fl) {s : Nat} (hs : s < 4) : f_X8_greatestPart F g (nI s) = some (nI (lk_M g fl s)) ∧ lk_M g fl s ≤ 64 := by
  have hR := lk_Rle g fl s
  have hb : ∀ v, (cd_q g fl s v).toNat * lk_R g fl s ≤ 64 := fun v => Nat.le_trans (lk_b _ _) hR
  refine ⟨?_, lk_xle (lk_xle (lk_xle (lk_xle (by omega) (hb 0)) (hb 1)) (hb 2)) (hb 3)⟩
  obtain ⟨G, hG⟩ : ∃ G, G = F := ⟨_, rfl⟩
  have c : ∀ (v n x : Nat), v < 4 → x ≤ 64 → f_X8_greatestPart_4 F g (nI s) (n + 1) (nI x) (nI v) = f_X8_greatestPart_4 F g (nI s) n (nI (lk_x x ((cd_q g fl s v).toNat * lk_R g fl s))) (nI (v + 1)) := fun v n x hv hx => by
    have := hb v
    rw [f_X8_greatestPart_4.eq_2, if_neg (show ¬ (4 : Int32) ≤ nI v from nI_ge (b := 4) hv (by decide)), lk_part hF hFo hs hv]
    simp only [f_X8_greatestPart_58, f_X8_greatestPart_70, show nI v + (1 : Int32) = nI (v + 1) from nI_add v 1]
    unfold lk_x
    by_cases h : (cd_q g fl s v).toNat * lk_R g fl s ≤ x
    · rw [if_pos ((pu_le (by omega) (by omega)).mpr h), if_pos h]
    · rw [if_neg (fun z => h ((pu_le (by omega) (by omega)).mp z)), if_neg h]
  obtain ⟨n, hn⟩ : ∃ n, F = n + 5 := ⟨F - 5, by omega⟩
  have e : f_X8_greatestPart F g (nI s) = f_X8_greatestPart_4 F g (nI s) (n + 5) (nI 0) (nI 0) := by
    rw [← hn]
    rfl
  rw [e, c 0 (n + 4) 0 (by omega) (by omega), c 1 (n + 3) _ (by omega) (lk_xle (by omega) (hb 0)), c 2 (n + 2) _ (by omega) (lk_xle (lk_xle (by omega) (hb 0)) (hb 1)), c 3 (n + 1) _ (by omega) (lk_xle (lk_xle (lk_xle (by omega) (hb 0)) (hb 1)) (hb 2)), f_X8_greatestPart_4.eq_2, if_pos (show (4 : Int32) ≤ nI (3 + 1) from by decide)]
  rfl
theorem lk_ref {F : Nat} (hF : 300 ≤ F) {g : am_G} {fl : Nat} (hFo : iv_F g fl) (st : Nat → Nat → Nat) (hst : ∀ i l, i < 4 → l < 4 → st i l = if lk_M g fl l ≤ lk_M g fl i then l else i) : ∃ r, r = pu_fo st 1 3 0 ∧ f_X8_look F g = f_X8_look_34 F g (nI r) := by
  have key := (pu_loop (fun n i l => f_X8_look_4 F g (fun l1 => f_X8_look_34 F g (l1)) n (nI l) (nI i)) (fun l => f_X8_look_34 F g (nI l)) st 4 (fun _ l => l < 4) (fun n i l hi hl => ?_) (fun n l _ => ?_) 3 1 0 F (by omega) (by omega) (by decide)).1
  · exact ⟨_, rfl, key⟩
  · obtain ⟨g1, k1⟩ := lk_gp hF hFo hi
    obtain ⟨g2, k2⟩ := lk_gp hF hFo hl
    constructor
    · show f_X8_look_4 F g _ (n + 1) (nI l) (nI i) = _
      rw [f_X8_look_4.eq_2, if_neg (show ¬ (4 : Int32) ≤ nI i from nI_ge (b := 4) hi (by decide)), g1, g2, hst i l hi hl]
      simp only [Option.bind_some, f_X8_look_27, show nI i + (1 : Int32) = nI (i + 1) from nI_add i 1]
      by_cases h : lk_M g fl l ≤ lk_M g fl i
      · rw [if_pos ((pu_le (by omega) (by omega)).mpr h), if_pos h]
      · rw [if_neg (fun z => h ((pu_le (by omega) (by omega)).mp z)), if_neg h]
    · rw [hst i l hi hl]
      split
      · exact hl
      · exact hi
  · show f_X8_look_4 F g _ (n + 1) (nI l) (nI 4) = _
    rw [f_X8_look_4.eq_2, if_pos (show (4 : Int32) ≤ nI 4 from by decide)]
theorem lk_cls {F : Nat} (hF : 300 ≤ F) {g : am_G} {fl : Nat} (hFo : iv_F g fl) : f_X1_bestState_14 F g F 0 1 = some (nI (pu_fo (fun i l => if cd_m g fl i ≤ cd_m g fl l then l else i) 1 3 0)) := by
  refine (pu_loop (fun n i l => f_X1_bestState_14 F g n (nI l) (nI i)) (fun l => some (nI l)) (fun i l => if cd_m g fl i ≤ cd_m g fl l then l else i) 4 (fun _ l => l < 4) (fun n i l hi hl => ⟨?_, ?_⟩) (fun n l _ => ?_) 3 1 0 F (by omega) (by omega) (by decide)).1
  · show f_X1_bestState_14 F g (n + 1) (nI l) (nI i) = _
    have m1 := cd_mle g fl i
    have m2 := cd_mle g fl l
    rw [f_X1_bestState_14.eq_2, if_neg (show ¬ (4 : Int32) ≤ nI i from nI_ge (b := 4) hi (by decide)), if_pos ((pu_in (by omega)).mpr hi), pu_tn (by omega), cd_bit hFo hi, Option.bind_some, if_pos ((pu_in (by omega)).mpr hl), pu_tn (by omega), cd_bit hFo hl]
    simp only [Option.bind_some, f_X1_bestState_42, show nI i + (1 : Int32) = nI (i + 1) from nI_add i 1]
    by_cases h : cd_m g fl i ≤ cd_m g fl l
    · rw [if_pos ((pu_le (by omega) (by omega)).mpr h), if_pos h]
    · rw [if_neg (fun z => h ((pu_le (by omega) (by omega)).mp z)), if_neg h]
  · show (if _ then _ else _) < 4
    split
    · exact hl
    · exact hi
  · show f_X1_bestState_14 F g (n + 1) (nI l) (nI 4) = _
    rw [f_X1_bestState_14.eq_2, if_pos (show (4 : Int32) ≤ nI 4 from by decide)]
theorem lk_cmp {a b x y T : Nat} (h1 : a * x = T) (h2 : b * y = T) (hT : 0 < T) : x ≤ y ↔ b ≤ a := by
  have ha : 0 < a := Nat.pos_of_ne_zero fun e => by rw [e, Nat.zero_mul] at h1; omega
  have hy : 0 < y := Nat.pos_of_ne_zero fun e => by rw [e, Nat.mul_zero] at h2; omega
  constructor
  · intro h
    refine Nat.le_of_not_lt fun hc => ?_
    have q1 : a * x ≤ a * y := Nat.mul_le_mul_left a h
    have q2 : a * y < b * y := Nat.mul_lt_mul_of_pos_right hc hy
    omega
  · intro h
    refine Nat.le_of_not_lt fun hc => ?_
    have q1 : b * y ≤ a * y := Nat.mul_le_mul_right y h
    have q2 : a * y < a * x := Nat.mul_lt_mul_of_pos_left hc ha
    omega
theorem K_look {F : Nat} (hF : 2000 ≤ F) {g : am_G} {w : am_J} (hI : iv_I g w) : ∃ (r : Int32), f_X7_look F g = some r ∧ f_X8_look F g = some r := by
  obtain ⟨len, N, A, nx, fl, hX, hW, hS, hA, hSl, hFo, hw⟩ := hI
  obtain ⟨s, ⟨p1, p2, -⟩, e⟩ := cd_ref (F := F) (by omega) hFo 0
  rw [if_pos rfl, p1] at e
  by_cases hT : sm (cd_n g fl) 0 256 = 0
  · obtain ⟨r, -, hr⟩ := lk_ref (F := F) (by omega) hFo (fun i l => if lk_M g fl l ≤ lk_M g fl i then l else i) (fun _ _ _ _ => rfl)
    refine ⟨-9, ?_, ?_⟩
    · rw [f_X7_look, f_X1_bestState, cd_left (by omega) hFo, hT]
      rfl
    · rw [hr, f_X8_look_34, e, hT]
      rfl
  · have hne : ¬ nI (sm (cd_n g fl) 0 256) = (0 : Int32) := fun z => hT ((pu_eq (b := 0) (by omega) (by decide)).mp z)
    have hpos : ∀ s, s < 4 → 0 < cd_m g fl s := fun s hs => Nat.pos_of_ne_zero fun z => by
      have := lk_T g fl s hs
      rw [z, Nat.zero_mul] at this
      omega
    obtain ⟨r, hr1, hr⟩ := lk_ref (F := F) (by omega) hFo (fun i l => if cd_m g fl i ≤ cd_m g fl l then l else i) (fun i l hi hl => by
      have hc := lk_cmp (lk_T g fl l hl) (lk_T g fl i hi) (by omega)
      rw [lk_MR (hpos l hl), lk_MR (hpos i hi)]
      by_cases h : cd_m g fl i ≤ cd_m g fl l
      · rw [if_pos h, if_pos (hc.mpr h)]
      · rw [if_neg h, if_neg (fun z => h (hc.mp z))])
    refine ⟨nI r, ?_, ?_⟩
    · rw [f_X7_look, f_X1_bestState, cd_left (by omega) hFo, Option.bind_some, if_neg hne, lk_cls (by omega) hFo, ← hr1]
      rfl
    · rw [hr, f_X8_look_34, e, Option.bind_some, if_neg hne]
