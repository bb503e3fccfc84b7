/-! STRAIGHT RUNS -/
def am_yk (y : am_Y) : Bool := decide (y.length ≤ 98) && y.all (fun sh => match sh with
  | .inr (ci, ks) => ks.zipIdx.all (fun q => match q.1 with
    | .inl 0 => decide (am_yc ci q.2 = .int)
    | .inl 1 => decide (am_yc ci q.2 = .long)
    | _ => true)
  | _ => true)
theorem am_yk_len {y : am_Y} (h : am_yk y = true) : y.length ≤ 98 := by
  simp only [am_yk, Bool.and_eq_true, decide_eq_true_eq] at h
  exact h.1
theorem am_yk_ty {y : am_Y} (h : am_yk y = true) {ci k : Nat} : ∀ (i : Nat) (ks : List am_Kd), y[i]? = some (Sum.inr (ci, ks)) → (ks[k]? = some (Sum.inl 0) → am_yc ci k = .int) ∧ (ks[k]? = some (Sum.inl 1) → am_yc ci k = .long) := by
  simp only [am_yk, Bool.and_eq_true, decide_eq_true_eq] at h
  intro i ks hi
  have h1 := List.all_eq_true.mp h.2 _ (List.mem_of_getElem? hi)
  simp only at h1
  refine ⟨fun hk => ?_, fun hk => ?_⟩
  · have h2 := List.all_eq_true.mp h1 (Sum.inl 0, k) (List.mem_zipIdx_iff_getElem?.mpr hk)
    simpa using h2
  · have h2 := List.all_eq_true.mp h1 (Sum.inl 1, k) (List.mem_zipIdx_iff_getElem?.mpr hk)
    simpa using h2
section AMB
variable {x : am_X} {own : Nat} {cc : ByteArray} {nL : Nat} {cs : Nat × Nat} {Q : State → Prop} {pc : Nat} {L L' : List (Option Value)} {st st' : List Value} {y : am_Y} {g g' : am_G} {w w' : am_J}
theorem am_c1_cat {v : Value} (h : am_c1 v = true) : v.category = 1 := by
  cases v <;> first | rfl | (simp [am_c1] at h)
set_option maxHeartbeats 4000000 in
theorem am_one (C0 : am_Cx x own cc nL) (hy : am_yk y = true) (a : am_AI) (hdec : decode cc pc = .ok (a.1, am_ln a.1)) (hok : am_ok own a = true) {r : am_S × Option Prop} (hs : am_st y a L st g w = some r) (hc : ∀ c, r.2 = some c → c)
    (kk : am_Ev x nL cs Q (pc + am_ln a.1) r.1.1 r.1.2.1 y r.1.2.2.1 r.1.2.2.2) : am_Ev x nL cs Q pc L st y g w := by
  have hyl := am_yk_len hy
  obtain ⟨ins, ci, k, v⟩ := a
  have hx := C0.hx
  have hb := C0.hb
  cases ins <;> first | (cases hs; done) | skip
  case iconst n =>
    cases hs
    have hv : v = .int (Int32.ofInt n) := of_decide_eq_true hok
    subst hv
    exact fun H locs ls hP hS hl => lv_iconst hx hb hdec rfl (kk H locs ls hP hS hl)
  case bipush n =>
    cases hs
    have hv : v = .int (Int8.ofInt n).toInt32 := of_decide_eq_true hok
    subst hv
    exact fun H locs ls hP hS hl => lv_bipush hx hb hdec rfl (kk H locs ls hP hS hl)
  case sipush n =>
    cases hs
    have hv : v = .int (Int16.ofInt n).toInt32 := of_decide_eq_true hok
    subst hv
    exact fun H locs ls hP hS hl => lv_sipush hx hb hdec rfl (kk H locs ls hP hS hl)
  case lconst n =>
    cases hs
    have hv : v = .long (Int64.ofNat n.val) := of_decide_eq_true hok
    subst hv
    exact fun H locs ls hP hS hl => lv_lconst hx hb hdec rfl (kk H locs ls hP hS hl)
  case ldc_w idx =>
    cases hs
    obtain ⟨z, hz, hm⟩ := am_kcb_ok hok
    have hz : v = .int z := hz
    subst hz
    exact fun H locs ls hP hS hl => lv_ldcw hx hb C0.hown (C0.hts _ hm) hdec (kk H locs ls hP hS hl)
  case ldc2_w idx =>
    cases hs
    obtain ⟨z, hz, hm⟩ := am_klb_ok hok
    have hz : v = .long z := hz
    subst hz
    exact fun H locs ls hP hS hl => lv_ldc2 hx hb C0.hown (C0.hts _ hm) hdec (kk H locs ls hP hS hl)
  case iload_n i => exact am_ldi_ok C0 (Or.inl ⟨i, rfl, rfl, rfl⟩) hdec hs kk
  case iload i => exact am_ldi_ok C0 (Or.inr ⟨rfl, rfl⟩) hdec hs kk
  case lload_n i => exact am_ldl_ok C0 (Or.inl ⟨i, rfl, rfl, rfl⟩) hdec hs kk
  case lload i => exact am_ldl_ok C0 (Or.inr ⟨rfl, rfl⟩) hdec hs kk
  case aload_n i => exact am_lda_ok C0 (Or.inl ⟨i, rfl, rfl, rfl⟩) hdec hs kk
  case aload i => exact am_lda_ok C0 (Or.inr ⟨rfl, rfl⟩) hdec hs kk
  case istore_n i => exact am_sti_ok C0 (Or.inl ⟨i, rfl, rfl, rfl⟩) hdec hs kk
  case istore i => exact am_sti_ok C0 (Or.inr ⟨rfl, rfl⟩) hdec hs kk
  case lstore_n i => exact am_stl_ok C0 (Or.inl ⟨i, rfl, rfl, rfl⟩) hdec hs kk
  case lstore i => exact am_stl_ok C0 (Or.inr ⟨rfl, rfl⟩) hdec hs kk
  case astore_n i => exact am_sta_ok C0 (Or.inl ⟨i, rfl, rfl, rfl⟩) hdec hs kk
  case astore i => exact am_sta_ok C0 (Or.inr ⟨rfl, rfl⟩) hdec hs kk
  case iinc i n => exact am_inc_ok C0 (of_decide_eq_true hok) hdec hs kk
  case iadd => obtain ⟨s1, h1, rfl⟩ := am_mk_inv hs; obtain ⟨a, b, r, rfl, rfl⟩ := am_b_inv h1; exact fun H locs ls hP hS hl => lv_iadd hx hb hdec (kk H locs ls hP hS hl)
  case isub => obtain ⟨s1, h1, rfl⟩ := am_mk_inv hs; obtain ⟨a, b, r, rfl, rfl⟩ := am_b_inv h1; exact fun H locs ls hP hS hl => lv_isub hx hb hdec (kk H locs ls hP hS hl)
  case imul => obtain ⟨s1, h1, rfl⟩ := am_mk_inv hs; obtain ⟨a, b, r, rfl, rfl⟩ := am_b_inv h1; exact fun H locs ls hP hS hl => lv_imul hx hb hdec (kk H locs ls hP hS hl)
  case iand => obtain ⟨s1, h1, rfl⟩ := am_mk_inv hs; obtain ⟨a, b, r, rfl, rfl⟩ := am_b_inv h1; exact fun H locs ls hP hS hl => lv_iand hx hb hdec (kk H locs ls hP hS hl)
  case ior => obtain ⟨s1, h1, rfl⟩ := am_mk_inv hs; obtain ⟨a, b, r, rfl, rfl⟩ := am_b_inv h1; exact fun H locs ls hP hS hl => lv_ior hx hb hdec (kk H locs ls hP hS hl)
  case ixor => obtain ⟨s1, h1, rfl⟩ := am_mk_inv hs; obtain ⟨a, b, r, rfl, rfl⟩ := am_b_inv h1; exact fun H locs ls hP hS hl => lv_ixor hx hb hdec (kk H locs ls hP hS hl)
  case ishl => obtain ⟨s1, h1, rfl⟩ := am_mk_inv hs; obtain ⟨a, b, r, rfl, rfl⟩ := am_b_inv h1; exact fun H locs ls hP hS hl => lv_ishl hx hb hdec (kk H locs ls hP hS hl)
  case ishr => obtain ⟨s1, h1, rfl⟩ := am_mk_inv hs; obtain ⟨a, b, r, rfl, rfl⟩ := am_b_inv h1; exact fun H locs ls hP hS hl => lv_ishr hx hb hdec (kk H locs ls hP hS hl)
  case iushr => obtain ⟨s1, h1, rfl⟩ := am_mk_inv hs; obtain ⟨a, b, r, rfl, rfl⟩ := am_b_inv h1; exact fun H locs ls hP hS hl => lv_iushr hx hb hdec rfl (kk H locs ls hP hS hl)
  case ladd => obtain ⟨s1, h1, rfl⟩ := am_mk_inv hs; obtain ⟨a, b, r, rfl, rfl⟩ := am_bl_inv h1; exact fun H locs ls hP hS hl => lv_ladd hx hb hdec (kk H locs ls hP hS hl)
  case lsub => obtain ⟨s1, h1, rfl⟩ := am_mk_inv hs; obtain ⟨a, b, r, rfl, rfl⟩ := am_bl_inv h1; exact fun H locs ls hP hS hl => lv_lsub hx hb hdec (kk H locs ls hP hS hl)
  case lmul => obtain ⟨s1, h1, rfl⟩ := am_mk_inv hs; obtain ⟨a, b, r, rfl, rfl⟩ := am_bl_inv h1; exact fun H locs ls hP hS hl => lv_lmul hx hb hdec (kk H locs ls hP hS hl)
  case land => obtain ⟨s1, h1, rfl⟩ := am_mk_inv hs; obtain ⟨a, b, r, rfl, rfl⟩ := am_bl_inv h1; exact fun H locs ls hP hS hl => lv_land hx hb hdec (kk H locs ls hP hS hl)
  case lor => obtain ⟨s1, h1, rfl⟩ := am_mk_inv hs; obtain ⟨a, b, r, rfl, rfl⟩ := am_bl_inv h1; exact fun H locs ls hP hS hl => lv_lor hx hb hdec (kk H locs ls hP hS hl)
  case lshl => obtain ⟨s1, h1, rfl⟩ := am_mk_inv hs; obtain ⟨a, b, r, rfl, rfl⟩ := am_bs_inv h1; exact fun H locs ls hP hS hl => lv_lshl hx hb hdec rfl (kk H locs ls hP hS hl)
  case lushr => obtain ⟨s1, h1, rfl⟩ := am_mk_inv hs; obtain ⟨a, b, r, rfl, rfl⟩ := am_bs_inv h1; exact fun H locs ls hP hS hl => lv_lushr hx hb hdec rfl (kk H locs ls hP hS hl)
  case idiv =>
    replace hs : am_dv _ L st g w = some r := hs
    unfold am_dv at hs
    split at hs
    · cases hs
      exact fun H locs ls hP hS hl => lv_idiv hx hb hdec (hc _ rfl) (kk H locs ls hP hS hl)
    · cases hs
  case irem =>
    replace hs : am_dv _ L st g w = some r := hs
    unfold am_dv at hs
    split at hs
    · cases hs
      exact fun H locs ls hP hS hl => lv_irem hx hb hdec (hc _ rfl) (kk H locs ls hP hS hl)
    · cases hs
  case ldiv =>
    replace hs : am_dvl _ L st g w = some r := hs
    unfold am_dvl at hs
    split at hs
    · cases hs
      exact fun H locs ls hP hS hl => lv_ldiv hx hb hdec (hc _ rfl) (kk H locs ls hP hS hl)
    · cases hs
  case lrem =>
    replace hs : am_dvl _ L st g w = some r := hs
    unfold am_dvl at hs
    split at hs
    · cases hs
      exact fun H locs ls hP hS hl => lv_lrem hx hb hdec (hc _ rfl) (kk H locs ls hP hS hl)
    · cases hs
  case ineg =>
    obtain ⟨s1, h1, rfl⟩ := am_mk_inv hs
    unfold am_i1 at h1
    split at h1
    · cases h1
      exact fun H locs ls hP hS hl => lv_ineg hx hb hdec (kk H locs ls hP hS hl)
    · cases h1
  case i2l =>
    obtain ⟨s1, h1, rfl⟩ := am_mk_inv hs
    unfold am_i1 at h1
    split at h1
    · cases h1
      exact fun H locs ls hP hS hl => lv_i2l hx hb hdec rfl (kk H locs ls hP hS hl)
    · cases h1
  case l2i =>
    obtain ⟨s1, h1, rfl⟩ := am_mk_inv hs
    unfold am_l1 at h1
    split at h1
    · cases h1
      exact fun H locs ls hP hS hl => lv_l2i hx hb hdec rfl (kk H locs ls hP hS hl)
    · cases h1
  case lcmp =>
    obtain ⟨s1, h1, rfl⟩ := am_mk_inv hs
    unfold am_lc at h1
    split at h1
    · cases h1
      exact fun H locs ls hP hS hl => W.lcmp hx hb hdec (kk H locs ls hP hS hl)
    · cases h1
  case dup =>
    obtain ⟨s1, h1, rfl⟩ := am_mk_inv hs
    unfold am_dup at h1
    split at h1
    · rename_i v0 r0
      split at h1
      · rename_i h2
        cases h1
        exact fun H locs ls hP hS hl => lv_dup hx hb hdec (by rw [am_v_cat]; exact am_c1_cat h2) (kk H locs ls hP hS hl)
      · cases h1
    · cases h1
  case pop =>
    obtain ⟨s1, h1, rfl⟩ := am_mk_inv hs
    unfold am_pop at h1
    split at h1
    · rename_i v0 r0
      split at h1
      · rename_i h2
        cases h1
        exact fun H locs ls hP hS hl => lv_pop hx hb hdec (by rw [am_v_cat]; exact am_c1_cat h2) (kk H locs ls hP hS hl)
      · cases h1
    · cases h1
  case dup2 =>
    obtain ⟨s1, h1, rfl⟩ := am_mk_inv hs
    unfold am_dup2 at h1
    split at h1
    · rename_i v0 u0 r0
      split at h1
      · rename_i h2
        simp only [Bool.and_eq_true] at h2
        cases h1
        exact fun H locs ls hP hS hl => lv_dup2_11 hx hb hdec (by rw [am_v_cat]; exact am_c1_cat h2.1) (by rw [am_v_cat]; exact am_c1_cat h2.2) (kk H locs ls hP hS hl)
      · cases h1
    · cases h1
  case iaload => exact am_ald_ok C0 hyl (Or.inl ⟨rfl, rfl⟩) hdec hs hc kk
  case baload => exact am_ald_ok C0 hyl (Or.inr (Or.inl ⟨rfl, rfl⟩)) hdec hs hc kk
  case laload => exact am_ald_ok C0 hyl (Or.inr (Or.inr ⟨rfl, rfl⟩)) hdec hs hc kk
  case iastore => exact am_ast_ok C0 hyl (Or.inl ⟨rfl, rfl, rfl⟩) hdec hs hc kk
  case bastore => exact am_ast_ok C0 hyl (Or.inr ⟨rfl, rfl, rfl⟩) hdec hs hc kk
  case lastore => exact am_lst_ok C0 hyl hdec hs hc kk
  case arraylength => exact am_len_ok C0 hyl hdec hs kk
  case getfield idx => exact am_gf_ok C0 hyl hok hdec hs kk
  case putfield idx =>
    have hok2 : (am_flb own idx ci k && am_wr ci k) = true := hok
    simp only [Bool.and_eq_true] at hok2
    exact am_pf_ok C0 hyl hok2.1 hok2.2 hdec hs kk (am_yk_ty hy)
end AMB
