/-! SOUNDNESS of the abstract step -/
theorem am_Cx.hx {x : am_X} {own : Nat} {cc : ByteArray} {nL : Nat} (h : am_Cx x own cc nL) : (am_p x).tables.exec = Jvm.exec := h.1
theorem am_Cx.hb {x : am_X} {own : Nat} {cc : ByteArray} {nL : Nat} (h : am_Cx x own cc nL) : (am_c x).code = cc := h.2.1
theorem am_Cx.hml {x : am_X} {own : Nat} {cc : ByteArray} {nL : Nat} (h : am_Cx x own cc nL) : (am_c x).maxLocals = nL := h.2.2.1
theorem am_Cx.hown {x : am_X} {own : Nat} {cc : ByteArray} {nL : Nat} (h : am_Cx x own cc nL) : (am_s x).vm.findClass (am_cn own) = some (am_m x).cls := h.2.2.2.1
theorem am_Cx.hts {x : am_X} {own : Nat} {cc : ByteArray} {nL : Nat} (h : am_Cx x own cc nL) : ∀ w ∈ am_tbl, w.before (am_a x) (am_s x) = true := h.2.2.2.2.1
theorem am_Cx.hlk {x : am_X} {own : Nat} {cc : ByteArray} {nL : Nat} (h : am_Cx x own cc nL) : (am_me x).locks = false := h.2.2.2.2.2.1
theorem am_Cx.hK {x : am_X} {own : Nat} {cc : ByteArray} {nL : Nat} (h : am_Cx x own cc nL) : va_K (am_Dg x) vwCl (am_ty (am_c3 x)) (am_s x) := h.2.2.2.2.2.2.1
theorem am_Cx.hT {x : am_X} {own : Nat} {cc : ByteArray} {nL : Nat} (h : am_Cx x own cc nL) : am_T (am_ba x) (am_tt x) (am_s x) := h.2.2.2.2.2.2.2.1
theorem am_Cx.hN {x : am_X} {own : Nat} {cc : ByteArray} {nL : Nat} (h : am_Cx x own cc nL) : am_N (am_s x) := h.2.2.2.2.2.2.2.2
theorem am_mk_inv {L : List (Option Value)} {g : am_G} {w : am_J} {o : Option (List Value)} {r : am_S × Option Prop} (h : am_mk L g w o = some r) : ∃ st', o = some st' ∧ r = ((L, st', g, w), none) := by
  unfold am_mk at h
  split at h
  · cases h; exact ⟨_, rfl, rfl⟩
  · cases h
/-- the address of a cell -/
theorem am_ad_lt {base tt b i n : Nat} (hi : i < n) (hn : n ≤ 98) : am_ad base tt b i = base + i := by
  unfold am_ad
  rw [if_neg (by omega), if_neg (by omega)]
section AMS
variable {x : am_X} {own : Nat} {cc : ByteArray} {nL : Nat} {cs : Nat × Nat} {Q : State → Prop} {pc : Nat} {L L' : List (Option Value)} {st st' : List Value} {y : am_Y} {g g' : am_G} {w w' : am_J}
theorem am_ev_ldi {i : Nat} {r : am_S × Option Prop} (hs : am_ldi L st g w i = some r)
    (kk : ∀ z, L[i]? = some (some (.int z)) → r = ((L, .int z :: st, g, w), none) → am_Ev x nL cs Q pc L st y g w) : am_Ev x nL cs Q pc L st y g w := by
  unfold am_ldi at hs
  split at hs
  · rename_i z hz
    cases hs
    exact kk z hz rfl
  · cases hs
theorem am_in_vp {i : Int32} {n : Nat} (h : am_in i n) : vp_in i n := h
/-- loads -/
theorem am_ldi_ok (C0 : am_Cx x own cc nL) {i n : Nat} {ins : Instr} (hins : (∃ k : Fin 4, ins = .iload_n k ∧ k.val = i ∧ n = 1) ∨ (ins = .iload i ∧ n = 2)) (hdec : decode cc pc = .ok (ins, n)) {r : am_S × Option Prop} (hs : am_ldi L st g w i = some r)
    (kk : am_Ev x nL cs Q (pc + n) r.1.1 r.1.2.1 y r.1.2.2.1 r.1.2.2.2) : am_Ev x nL cs Q pc L st y g w := by
  unfold am_ldi at hs
  split at hs
  · rename_i z hz
    cases hs
    intro H locs ls hP hS hl
    have h1 := hl.2.2.2 i _ hz
    rcases hins with ⟨k, rfl, hk, rfl⟩ | ⟨rfl, rfl⟩
    · exact lv_iload_n C0.hx C0.hb hdec hk h1 (kk H locs ls hP hS hl)
    · exact lv_iload C0.hx C0.hb hdec h1 (kk H locs ls hP hS hl)
  · cases hs
theorem am_ldl_ok (C0 : am_Cx x own cc nL) {i n : Nat} {ins : Instr} (hins : (∃ k : Fin 4, ins = .lload_n k ∧ k.val = i ∧ n = 1) ∨ (ins = .lload i ∧ n = 2)) (hdec : decode cc pc = .ok (ins, n)) {r : am_S × Option Prop} (hs : am_ldl L st g w i = some r)
    (kk : am_Ev x nL cs Q (pc + n) r.1.1 r.1.2.1 y r.1.2.2.1 r.1.2.2.2) : am_Ev x nL cs Q pc L st y g w := by
  unfold am_ldl at hs
  split at hs
  · rename_i z hz
    cases hs
    intro H locs ls hP hS hl
    have h1 := hl.2.2.2 i _ hz
    rcases hins with ⟨k, rfl, hk, rfl⟩ | ⟨rfl, rfl⟩
    · exact lv_lload_n C0.hx C0.hb hdec hk h1 (kk H locs ls hP hS hl)
    · exact lv_lload C0.hx C0.hb hdec h1 (kk H locs ls hP hS hl)
  · cases hs
theorem am_lda_ok (C0 : am_Cx x own cc nL) {i n : Nat} {ins : Instr} (hins : (∃ k : Fin 4, ins = .aload_n k ∧ k.val = i ∧ n = 1) ∨ (ins = .aload i ∧ n = 2)) (hdec : decode cc pc = .ok (ins, n)) {r : am_S × Option Prop} (hs : am_lda L st g w i = some r)
    (kk : am_Ev x nL cs Q (pc + n) r.1.1 r.1.2.1 y r.1.2.2.1 r.1.2.2.2) : am_Ev x nL cs Q pc L st y g w := by
  unfold am_lda at hs
  split at hs
  · rename_i z hz
    cases hs
    intro H locs ls hP hS hl
    have h1 := hl.2.2.2 i _ hz
    rcases hins with ⟨k, rfl, hk, rfl⟩ | ⟨rfl, rfl⟩
    · exact lv_aload_n C0.hx C0.hb hdec hk h1 (kk H locs ls hP hS hl)
    · exact lv_aload C0.hx C0.hb hdec h1 (kk H locs ls hP hS hl)
  · cases hs
theorem am_s1_lt {i : Nat} {v : Value} (h : am_s1 L i v = some L') : i < L.length := by
  unfold am_s1 at h
  split at h
  · assumption
  · cases h
theorem am_s2_lt {i : Nat} {v : Value} (h : am_s2 L i v = some L') : i + 1 < L.length := by
  unfold am_s2 at h
  split at h
  · assumption
  · cases h
theorem am_sti_ok (C0 : am_Cx x own cc nL) {i n : Nat} {ins : Instr} (hins : (∃ k : Fin 4, ins = .istore_n k ∧ k.val = i ∧ n = 1) ∨ (ins = .istore i ∧ n = 2)) (hdec : decode cc pc = .ok (ins, n)) {r : am_S × Option Prop} (hs : am_sti L st g w i = some r)
    (kk : am_Ev x nL cs Q (pc + n) r.1.1 r.1.2.1 y r.1.2.2.1 r.1.2.2.2) : am_Ev x nL cs Q pc L st y g w := by
  unfold am_sti at hs
  split at hs
  · rename_i z r0
    split at hs
    · rename_i L1 hL1
      cases hs
      intro H locs ls hP hS hl
      have hlt : i < nL := Nat.lt_of_lt_of_le (am_s1_lt hL1) hl.2.2.1
      rcases hins with ⟨k, rfl, hk, rfl⟩ | ⟨rfl, rfl⟩
      · exact lv_istore_n C0.hx C0.hb hdec hk hl.has hlt rfl (fun ls2 hl2 => kk H locs ls2 hP hS (am_l.s1 hl.2.2.1 hL1 hl2))
      · exact lv_istore C0.hx C0.hb hdec hl.has hlt rfl (fun ls2 hl2 => kk H locs ls2 hP hS (am_l.s1 hl.2.2.1 hL1 hl2))
    · cases hs
  · cases hs
theorem am_sta_ok (C0 : am_Cx x own cc nL) {i n : Nat} {ins : Instr} (hins : (∃ k : Fin 4, ins = .astore_n k ∧ k.val = i ∧ n = 1) ∨ (ins = .astore i ∧ n = 2)) (hdec : decode cc pc = .ok (ins, n)) {r : am_S × Option Prop} (hs : am_sta L st g w i = some r)
    (kk : am_Ev x nL cs Q (pc + n) r.1.1 r.1.2.1 y r.1.2.2.1 r.1.2.2.2) : am_Ev x nL cs Q pc L st y g w := by
  unfold am_sta at hs
  split at hs
  · rename_i z r0
    split at hs
    · rename_i L1 hL1
      cases hs
      intro H locs ls hP hS hl
      have hlt : i < nL := Nat.lt_of_lt_of_le (am_s1_lt hL1) hl.2.2.1
      rcases hins with ⟨k, rfl, hk, rfl⟩ | ⟨rfl, rfl⟩
      · exact lv_astore_n C0.hx C0.hb hdec hk hl.has hlt rfl (fun ls2 hl2 => kk H locs ls2 hP hS (am_l.s1 hl.2.2.1 hL1 hl2))
      · exact lv_astore C0.hx C0.hb hdec hl.has hlt rfl (fun ls2 hl2 => kk H locs ls2 hP hS (am_l.s1 hl.2.2.1 hL1 hl2))
    · cases hs
  · cases hs
theorem am_stl_ok (C0 : am_Cx x own cc nL) {i n : Nat} {ins : Instr} (hins : (∃ k : Fin 4, ins = .lstore_n k ∧ k.val = i ∧ n = 1) ∨ (ins = .lstore i ∧ n = 2)) (hdec : decode cc pc = .ok (ins, n)) {r : am_S × Option Prop} (hs : am_stl L st g w i = some r)
    (kk : am_Ev x nL cs Q (pc + n) r.1.1 r.1.2.1 y r.1.2.2.1 r.1.2.2.2) : am_Ev x nL cs Q pc L st y g w := by
  unfold am_stl at hs
  split at hs
  · rename_i z r0
    split at hs
    · rename_i L1 hL1
      cases hs
      intro H locs ls hP hS hl
      have hlt : i + 1 < nL := Nat.lt_of_lt_of_le (am_s2_lt hL1) hl.2.2.1
      rcases hins with ⟨k, rfl, hk, rfl⟩ | ⟨rfl, rfl⟩
      · exact lv_lstore_n C0.hx C0.hb hdec hk hl.has hlt rfl (fun ls2 hl2 => kk H locs ls2 hP hS (am_l.s2 hl.2.2.1 hL1 hl2))
      · exact lv_lstore C0.hx C0.hb hdec hl.has hlt rfl (fun ls2 hl2 => kk H locs ls2 hP hS (am_l.s2 hl.2.2.1 hL1 hl2))
    · cases hs
  · cases hs
theorem am_inc_ok (C0 : am_Cx x own cc nL) {i : Nat} {n : Int} {v : Value} (hv : v = .int (Int32.ofInt n)) (hdec : decode cc pc = .ok (.iinc i n, 3)) {r : am_S × Option Prop} (hs : am_inc L st g w i v = some r)
    (kk : am_Ev x nL cs Q (pc + 3) r.1.1 r.1.2.1 y r.1.2.2.1 r.1.2.2.2) : am_Ev x nL cs Q pc L st y g w := by
  subst hv
  unfold am_inc at hs
  split at hs
  · rename_i z hz
    simp only at hs
    split at hs
    · rename_i L1 hL1
      cases hs
      intro H locs ls hP hS hl
      have hlt : i < nL := Nat.lt_of_lt_of_le (am_s1_lt hL1) hl.2.2.1
      obtain ⟨k, hk⟩ := List.getElem?_of_mem (am_as_mem (ad := am_xa x) (L := L) (q := (i, .int z)).mpr ⟨_, hz, rfl⟩)
      exact lv_iinc (v := z + Int32.ofInt n) C0.hx C0.hb hdec hl.has hk rfl hlt rfl (fun ls2 hl2 => kk H locs ls2 hP hS (am_l.s1 hl.2.2.1 hL1 hl2))
    · cases hs
  · cases hs
/-- arrays -/
theorem am_ald_ok (C0 : am_Cx x own cc nL) (hy : y.length ≤ 98) {t : Nat} {ins : Instr} (hins : (t = 0 ∧ ins = .iaload) ∨ (t = 1 ∧ ins = .baload) ∨ (t = 2 ∧ ins = .laload)) (hdec : decode cc pc = .ok (ins, 1)) {r : am_S × Option Prop} (hs : am_ald y t L st g w = some r) (hc : ∀ c, r.2 = some c → c)
    (kk : am_Ev x nL cs Q (pc + 1) r.1.1 r.1.2.1 y r.1.2.2.1 r.1.2.2.2) : am_Ev x nL cs Q pc L st y g w := by
  unfold am_ald at hs
  split at hs
  · rename_i j i r0
    split at hs
    · rename_i t' n hyi
      split at hs
      · rename_i ht
        subst ht
        cases hs
        have hin := hc _ rfl
        have hlt := (List.getElem?_eq_some_iff.mp hyi).1
        intro H locs ls hP hS hl
        have ha := am_ad_lt (base := am_ba x) (tt := am_tt x) (b := am_sc x) hlt hy
        have hw := am_w_at (c3 := am_c3 x) (ad := am_xa x) (base := am_ba x) (g := g) (w := w) hyi
        have k2 := kk H locs ls hP hS hl
        show W _ _ _ _ _ _ _ _ _ _ _ _ _ _ _ (F0 _ _ _ (.int j :: .ref (am_xa x i) :: _))
        rw [show am_xa x i = am_ba x + i from ha]
        rcases hins with ⟨rfl, rfl⟩ | ⟨rfl, rfl⟩ | ⟨rfl, rfl⟩
        · exact va_iald C0.hx C0.hb C0.hK hP.2 i 0 hw rfl hin hdec k2
        · exact va_zald C0.hx C0.hb C0.hK hP.2 i 1 hw rfl hin hdec k2
        · exact va_lald C0.hx C0.hb C0.hK hP.2 i 2 hw rfl hin hdec k2
      · cases hs
    · cases hs
  · cases hs
theorem am_len_ok (C0 : am_Cx x own cc nL) (hy : y.length ≤ 98) (hdec : decode cc pc = .ok (.arraylength, 1)) {r : am_S × Option Prop} (hs : am_len y L st g w = some r)
    (kk : am_Ev x nL cs Q (pc + 1) r.1.1 r.1.2.1 y r.1.2.2.1 r.1.2.2.2) : am_Ev x nL cs Q pc L st y g w := by
  unfold am_len at hs
  split at hs
  · rename_i i r0
    split at hs
    · rename_i t n hyi
      cases hs
      have hlt := (List.getElem?_eq_some_iff.mp hyi).1
      intro H locs ls hP hS hl
      have ha := am_ad_lt (base := am_ba x) (tt := am_tt x) (b := am_sc x) hlt hy
      have hw := am_w_at (c3 := am_c3 x) (ad := am_xa x) (base := am_ba x) (g := g) (w := w) hyi
      have k2 := kk H locs ls hP hS hl
      show W _ _ _ _ _ _ _ _ _ _ _ _ _ _ _ (F0 _ _ _ (.ref (am_xa x i) :: _))
      rw [show am_xa x i = am_ba x + i from ha]
      match t with
      | 0 => exact va_alen C0.hx C0.hb C0.hK hP.2 i 0 hw (ty := .int) rfl rfl hdec k2
      | 1 => exact va_alen C0.hx C0.hb C0.hK hP.2 i 1 hw (ty := .boolean) rfl rfl hdec k2
      | (t + 2) => exact va_alen C0.hx C0.hb C0.hK hP.2 i 2 hw (ty := .long) rfl rfl hdec k2
    · cases hs
  · cases hs
theorem am_P.put {D : va_G} {c3 : ClassId × ClassId × ClassId} {base tt b i : Nat} {sh : am_Sh} {e : va_E} {H H1 : Heap} (h0 : am_P D c3 base tt b y g w H) (hz : H1.size = H.size) (hP : va_P D vwCl ((am_w c3 (am_ad base tt b) base y g w).set i (base + i, e)) H1) (hi : y[i]? = some sh) (hg : ∀ a, a ≠ i → g' a = g a) (hw : ∀ a, a ≠ i → w' a = w a) (he : e = am_e c3 (am_ad base tt b) g' w' i sh) : am_P D c3 base tt b y g' w' H1 := by
  refine ⟨hz.trans h0.1, ?_⟩
  rw [am_w_set hi hg hw he] at hP
  exact hP
end AMS
