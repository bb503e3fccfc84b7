/-! the static row, arraycopy, what constructors do -/
section AMW
variable {p : Program} {l : Launch} {e : Env} {R : Room} {s : State} {m : MethodId} {args : Array Value} {below : List Frame} {meth : Method} {c : Code} {H : Heap} {locs : List Loc} {cells slots : Nat} {Q : State → Prop}
variable {cc : ByteArray} {pc : Nat} {ls : Array Slot} {rest : List Value} {D : va_G} {cl : List vw_C} {A : Nat → Prop} {a : Nat} {tys : List (ClassId × FieldType)} {ws : va_W} {H0 : Heap}
theorem am_copyW {cc : ByteArray} (hexec : p.tables.exec = Jvm.exec) (hb : c.code = cc) (hml : c.maxLocals = ls.size) {own : String} {index : Nat} (hown : s.vm.findClass own = some m.cls) (hlink : (Cond.methodLink own index arraycopyName).before args s = true) (hnat : (Cond.native arraycopyName).before args s = true) (hstat : (Cond.static arraycopyName).before args s = true) (hini : (Cond.initialized "java/lang/System").before args s = true)
    (hK : va_K D cl tys s) (hP : va_P D cl ws H) (hD : va_D A ws) (hS : va_S A H0 H locs) (q0 q1 t0 t1 : Nat) {a0 : Nat} {c0 c1 : ClassId} {n0 n1 : Nat} {f g : Nat → Int32} {ty : FieldType} (ha0 : ws[q0]? = some (a0, .inl (c0, n0, .inl f))) (ha1 : ws[q1]? = some (a, .inl (c1, n1, .inl g))) (ht0 : tys[t0]? = some (c0, ty)) (ht1 : tys[t1]? = some (c1, ty)) (hprim : refKind ty = false)
    {sp dp n : Int32} (h1 : ¬ sp < 0) (h2 : ¬ dp < 0) (h3 : ¬ n < 0) (h4 : sp.toNatClampNeg + n.toNatClampNeg ≤ n0) (h5 : dp.toNatClampNeg + n.toNatClampNeg ≤ n1) (hfit : ∀ i, i < n.toNatClampNeg → fits ty (.int (f (sp.toNatClampNeg + i))) = true)
    (hframes : 1 ≤ R.frames) (hlocals : (rest.map fun v => v.category).sum + (nativeFrameWords "java/lang/System" "arraycopy" 5 + 11) ≤ R.locals) (hdg : decode cc pc = .ok (.invokestatic index, 3))
    (kk : ∀ (H1 : Heap) (locs1 : List Loc), H1.size = H.size → va_P D cl (ws.set q1 (a, .inl (c1, n1, .inl (va_cpy f g sp.toNatClampNeg dp.toNatClampNeg n.toNatClampNeg)))) H1 → va_S A H0 H1 locs1 → W p l e R s m args below meth c H1 locs1 cells slots Q (F0 m (pc + 3) ls rest)) : W p l e R s m args below meth c H locs cells slots Q (F0 m pc ls (.int n :: .int dp :: .ref a :: .int sp :: .ref a0 :: rest)) := by
  have nn : ∀ z : Int32, ¬ z < 0 → z.toInt = (z.toNatClampNeg : Int) := by
    intro z hz
    have hz0 : (0 : Int) ≤ z.toInt := by
      have := Int32.not_lt.mp hz
      simpa using Int32.le_iff_toInt_le.mp this
    show z.toInt = ((z.toInt.toNat : Nat) : Int)
    omega
  intro T hT X
  have hc0 : H[a0]? = some (vp_cell c0 (n0, .inl f)) := hP q0 _ ha0
  have hc1 : H[a]? = some (vp_cell c1 (n1, .inl g)) := hP q1 _ ha1
  obtain ⟨-, k0, hk0, cm0, hkk0⟩ := (hK.2 t0 _ ht0).1 n0 (fun j => .int (f j))
  obtain ⟨-, k1, hk1, cm1, hkk1⟩ := (hK.2 t1 _ ht1).1 n1 (fun j => .int (g j))
  obtain ⟨vm', X', step⟩ := X.arraycopy hexec hown hlink hnat hstat hini (src := a0) (dst := a) (cs := vp_cell c0 (n0, .inl f)) (cd := vp_cell c1 (n1, .inl g)) (srcPos := sp) (destPos := dp) (n := n) (by rw [hT]; exact hc0) (by rw [hT]; exact hc1)
    (fun _ h => by cases h) (fun _ h => by cases h) (fun h => by cases h) (fun h => by cases h) hk0 hk1 hkk0 hkk1 (by simp [hprim]) h1 h2 h3
    (by rw [nn sp h1, nn n h3]; show ¬ _ > ((arrV c0 n0 (fun j => .int (f j))).slots.size : Int); rw [arrV_size]; omega)
    (by rw [nn dp h2, nn n h3]; show ¬ _ > ((arrV c1 n1 (fun j => .int (g j))).slots.size : Int); rw [arrV_size]; omega)
    (fun vm₁ _ i hi => by
      have e : (vp_cell c0 (n0, .inl f)).slots.getD (sp.toNatClampNeg + i) .null = .int (f (sp.toNatClampNeg + i)) := by
        show (arrV c0 n0 (fun j => .int (f j))).slots.getD _ _ = _
        rw [Array.getD_eq_getD_getElem?, arrV_read _ _ (by omega)]
        rfl
      refine ⟨?_, ?_⟩
      · rw [e]
        exact hfit i hi
      · rw [e]
        exact trivial)
    (g := F0 m pc ls (.int n :: .int dp :: .ref a :: .int sp :: .ref a0 :: rest)) rfl (by rw [hml]) (rest := rest) rfl (by rw [hb]; exact hdg) hframes (by show 2 * 0 + _ + _ ≤ _; omega)
  have e1 : copied (vp_cell c0 (n0, .inl f)) (vp_cell c1 (n1, .inl g)) sp dp n = vp_cell c1 (n1, .inl (va_cpy f g sp.toNatClampNeg dp.toNatClampNeg n.toNatClampNeg)) := va_copied (fun z => .int z) c0 c1 f g h4
  rw [e1] at X' step
  have hl : a < H.size := (Array.getElem?_eq_some_iff.mp hc1).1
  have hheap : ((T.setVm vm').setCell a (vp_cell c1 (n1, .inl (va_cpy f g sp.toNatClampNeg dp.toNatClampNeg n.toNatClampNeg)))).heap = H.setIfInBounds a (vp_cell c1 (n1, .inl (va_cpy f g sp.toNatClampNeg dp.toNatClampNeg n.toNatClampNeg))) := by rw [← hT]; rfl
  have oq : ∀ q : Nat, q ≠ a → (H.setIfInBounds a (vp_cell c1 (n1, .inl (va_cpy f g sp.toNatClampNeg dp.toNatClampNeg n.toNatClampNeg))))[q]? = H[q]? := fun q hq => by simp [Array.getElem?_setIfInBounds, Ne.symm hq]
  obtain ⟨t, a1, b1⟩ := kk _ _ (by simp) (hP.set hD ha1 (show (H.setIfInBounds a _)[a]? = some _ by simp [Array.getElem?_setIfInBounds, hl]) oq) ⟨by simp; exact hS.1, fun q g1 g2 => by
      rw [oq q (fun e => g2 (by rw [e]; exact hD.2 q1 _ ha1))]
      exact hS.2.1 q g1 g2, fun q hq => by
      rcases List.mem_append.mp hq with h | h
      · exact hS.2.2 q h
      · obtain ⟨z, -, hz⟩ := List.mem_map.mp h
        rw [← hz]
        exact hD.2 q1 _ ha1⟩ _ hheap X'
  exact ⟨t, step t a1, b1⟩
end AMW
def am_cp (g : am_G) (s0 d sp dp n : Nat) : am_G := fun a => if a = d then va_cpy (g s0) (g d) sp dp n else g a
theorem am_cp_at (g : am_G) (s0 d sp dp n a k : Nat) : am_cp g s0 d sp dp n a k = if a = d ∧ dp ≤ k ∧ k < dp + n then g s0 (sp + (k - dp)) else g a k := by
  unfold am_cp
  by_cases h : a = d
  · subst h
    simp [va_cpy]
  · simp [h]
section AMM
variable {x : am_X} {own : Nat} {cc : ByteArray} {nL : Nat} {cs : Nat × Nat} {Q : State → Prop} {pc : Nat} {L L' : List (Option Value)} {st st' : List Value} {y y' : am_Y} {g g' : am_G} {w w' : am_J} {ret : Option FieldType}
theorem am_copy (C0 : am_Cx x own cc nL) (hy : y.length ≤ 98) {idx s0 d n0 n1 : Nat} {sp dp n : Int32} {rest : List Value} (hs0 : y[s0]? = some (.inl (0, n0))) (hd1 : y[d]? = some (.inl (0, n1))) (hw : Cond.methodLink (am_cn own) idx arraycopyName ∈ am_tbl ∧ Cond.native arraycopyName ∈ am_tbl ∧ Cond.static arraycopyName ∈ am_tbl ∧ Cond.initialized "java/lang/System" ∈ am_tbl)
    (hc : (¬ sp < 0 ∧ ¬ dp < 0) ∧ ¬ n < 0 ∧ sp.toNatClampNeg + n.toNatClampNeg ≤ n0 ∧ dp.toNatClampNeg + n.toNatClampNeg ≤ n1) (hR : 1 ≤ (am_R x).frames ∧ 8 + (nativeFrameWords "java/lang/System" "arraycopy" 5 + 11) ≤ (am_R x).locals) (hsum : (rest.map fun v => v.category).sum ≤ 8) (hd : am_dec cc pc (.invokestatic idx) 3 = true)
    (kk : am_Ev x nL cs Q (pc + 3) L rest y (am_cp g s0 d sp.toNatClampNeg dp.toNatClampNeg n.toNatClampNeg) w) : am_Ev x nL cs Q pc L (.int n :: .int dp :: .ref d :: .int sp :: .ref s0 :: rest) y g w := by
  intro H locs ls hP hS hl
  have ha0 : am_xa x s0 = am_ba x + s0 := am_ad_lt (List.getElem?_eq_some_iff.mp hs0).1 hy
  have ha1 : am_xa x d = am_ba x + d := am_ad_lt (List.getElem?_eq_some_iff.mp hd1).1 hy
  have hw0 := am_w_at (c3 := am_c3 x) (ad := am_xa x) (base := am_ba x) (g := g) (w := w) hs0
  have hw1 := am_w_at (c3 := am_c3 x) (ad := am_xa x) (base := am_ba x) (g := g) (w := w) hd1
  have e : (List.map (am_v (am_xa x)) (.int n :: .int dp :: .ref d :: .int sp :: .ref s0 :: rest)) = .int n :: .int dp :: .ref (am_ba x + d) :: .int sp :: .ref (am_ba x + s0) :: rest.map (am_v (am_xa x)) := by simp [am_v, ha0, ha1]
  rw [e]
  refine am_copyW C0.hx C0.hb (by rw [C0.hml, hl.1]) C0.hown (C0.hts _ hw.1) (C0.hts _ hw.2.1) (C0.hts _ hw.2.2.1) (C0.hts _ hw.2.2.2) C0.hK hP.2 am_D hS s0 d 0 0 hw0 hw1 rfl rfl rfl hc.1.1 hc.1.2 hc.2.1 hc.2.2.1 hc.2.2.2 (fun _ _ => rfl) hR.1 (by rw [am_sum]; omega) (am_dec_ok hd) (fun H1 locs1 z hP1 hS1 => kk H1 locs1 ls (hP.put z hP1 hd1 (fun a h => by simp [am_cp, h]) (fun _ _ => rfl) ?_) hS1 hl)
  simp [am_e, am_cp]
theorem am_obj (C0 : am_Cx x own cc nL) (hy : y.length ≤ 98) {idx i : Nat} {rest : List Value} (hi : i < y.length) (hw : Cond.methodLink (am_cn own) idx objectInit ∈ am_tbl ∧ Cond.instanceMethod objectInit ∈ am_tbl ∧ Cond.code objectInit ⟨#[0xb1]⟩ 1 none ∈ am_tbl) (hR : 1 ≤ (am_R x).frames ∧ 20 ≤ (am_R x).locals) (hsum : (rest.map fun v => v.category).sum ≤ 8) (hd : am_dec cc pc (.invokespecial idx) 3 = true)
    (kk : am_Ev x nL cs Q (pc + 3) L rest y g w) : am_Ev x nL cs Q pc L (.ref i :: rest) y g w := by
  intro H locs ls hP hS hl
  have ha0 : am_xa x i = am_ba x + i := am_ad_lt hi hy
  have e : (List.map (am_v (am_xa x)) (.ref i :: rest)) = .ref (am_ba x + i) :: rest.map (am_v (am_xa x)) := by simp [am_v, ha0]
  rw [e]
  have hr := lv_room (m := am_m x) (pc := pc) (ls := ls) (rest := .ref (am_ba x + i) :: rest.map (am_v (am_xa x))) (st := rest.map (am_v (am_xa x))) (by rw [am_sum]; exact hsum)
  exact W.objInit C0.hx C0.hb C0.hown (C0.hts _ hw.1) (C0.hts _ hw.2.1) (C0.hts _ hw.2.2) rfl (by rw [C0.hml]; exact hl.1) rfl (am_dec_ok hd) hR.1 (by omega) (kk H locs ls hP hS hl)
/-- one more cell -/
theorem am_w_app {c3 : ClassId × ClassId × ClassId} {ad : Nat → Nat} {base : Nat} {sh : am_Sh} : am_w c3 ad base (y ++ [sh]) g w = am_w c3 ad base y g w ++ [(base + y.length, am_e c3 ad g w y.length sh)] := by
  simp [am_w, List.zipIdx_append]
def am_k0 (ty : FieldType) : am_Kd := match ty with
  | .int => .inl 0
  | .long => .inl 1
  | _ => .inr none
def am_o0 (ci : Nat) : am_Sh := .inr (ci, (List.range (am_Nc ci)).map (fun k => am_k0 (am_yc ci k)))
def am_tys (ci : Nat) : Bool := (List.range (am_Nc ci)).all (fun k => match am_yc ci k with
  | .int => true
  | .long => true
  | .object _ => true
  | .array _ => true
  | _ => false)
theorem am_new (C0 : am_Cx x own cc nL) {idx ci : Nat} (hci : ci < 9) (hty : am_tys ci = true) (hz : ∀ k, g y.length k = 0 ∧ w y.length k = 0) (hy : y.length < 98) (hw : Cond.classLink (am_cn own) idx (am_Rc ci) ∈ am_tbl ∧ Cond.instantiable (am_Rc ci) (am_Nc ci) ∈ am_tbl ∧ Cond.initialized (am_Rc ci) ∈ am_tbl) (hR : cs.1 + 1 ≤ (am_R x).cells ∧ cs.2 + am_Nc ci ≤ (am_R x).slots) (hd : am_dec cc pc (.new idx) 3 = true)
    (kk : am_Ev x nL (cs.1 + 1, cs.2 + am_Nc ci) Q (pc + 3) L (.ref y.length :: st) (y ++ [am_o0 ci]) g w) : am_Ev x nL cs Q pc L st y g w := by
  intro H locs ls hP hS hl
  have hKn := C0.hK.1 ci _ (am_clc ci hci)
  have ha : am_xa x y.length = am_ba x + y.length := am_ad_lt (n := y.length + 1) (by omega) (by omega)
  refine W.newcK C0.hx C0.hb C0.hown (C0.hts _ hw.1) (C0.hts _ hw.2.1) (C0.hts _ hw.2.2) rfl (am_dec_ok hd) hR.1 hR.2 hKn.2.1 hP.1 fun H1 kC hkC e1 z1 o1 => ?_
  have hk : ∀ (k : Nat) (q : Nat × va_E), (am_w (am_c3 x) (am_xa x) (am_ba x) y g w)[k]? = some q → H1[q.1]? = H[q.1]? := fun k q hq => o1 q.1 (by rw [← hP.1]; exact (hP.2 k q hq).lt)
  have k2 := kk H1 locs ls ⟨by rw [z1, List.length_append]; simp; omega, by
    rw [am_w_app]
    refine (hP.2.kept hk).app (fun k q hq => ?_)
    have hz0 : k < 1 := (List.getElem?_eq_some_iff.mp hq).1
    rw [show k = 0 by omega] at hq
    cases hq
    refine ⟨_, am_clc ci hci, (u_born (am_yc ci) C0.hts (am_wic ci hci) hKn hkC e1 (am_tyc ci hci)).to (fun j hj => ?_)⟩
    show defaultValue (am_yc ci j) = vp_V (am_fs (am_xa x) g w y.length _) j
    have hget : (((List.range (am_Nc ci)).map (fun k => am_k0 (am_yc ci k))))[j]? = some (am_k0 (am_yc ci j)) := by
      have hj' : j < am_Nc ci := hj
      rw [List.getElem?_map, List.getElem?_range hj']
      rfl
    have hty2 := List.all_eq_true.mp hty j (List.mem_range.mpr hj)
    simp only [vp_V, List.getD_eq_getElem?_getD, am_fs_at hget, Option.getD_some]
    cases hyc : am_yc ci j <;> simp [am_k0, am_fv, am_v, hz, defaultValue, hyc] at hty2 ⊢⟩ ⟨Nat.le_trans hS.1 (by rw [z1, hP.1]; omega), fun q h1 h2 => (o1 q (by have h3 : q < (am_s x).heap.size := h1; have := hS.1; rw [hP.1] at this; omega)).trans (hS.2.1 q h1 h2), hS.2.2⟩ hl
  have e : (List.map (am_v (am_xa x)) (.ref y.length :: st)) = .ref (am_ba x + y.length) :: st.map (am_v (am_xa x)) := by simp [am_v, ha]
  rw [e] at k2
  exact k2
end AMM
