/-! constructors: new arrays, final fields -/
section AMI
variable {x : am_X} {own : Nat} {cc : ByteArray} {nL : Nat} {cs : Nat × Nat} {Q : State → Prop} {pc : Nat} {L L' : List (Option Value)} {st st' : List Value} {y y' : am_Y} {g g' : am_G} {w w' : am_J} {ret : Option FieldType}
def am_at0 (t : Nat) : ArrayType := match t with
  | 0 => .int
  | 1 => .boolean
  | _ => .long
def am_ft (t : Nat) : FieldType := match t with
  | 0 => .int
  | 1 => .boolean
  | _ => .long
theorem am_newa (C0 : am_Cx x own cc nL) {t N : Nat} {n : Int32} (ht : t < 3) (hn : ¬ n < 0) (hN : n.toNatClampNeg = N) (hz : ∀ k, g y.length k = 0 ∧ w y.length k = 0) (hy : y.length < 98) (hw : Cond.arrayClass (am_ft t) ∈ am_tbl) (hsm : N ≤ 1000) (hR : cs.1 + 1 ≤ (am_R x).cells ∧ cs.2 + N ≤ (am_R x).slots) (hd : am_dec cc pc (.newarray (am_at0 t)) 2 = true)
    (kk : am_Ev x nL (cs.1 + 1, cs.2 + N) Q (pc + 2) L (.ref y.length :: st) (y ++ [.inl (t, N)]) g w) : am_Ev x nL cs Q pc L (.int n :: st) y g w := by
  intro H locs ls hP hS hl
  have ha : am_xa x y.length = am_ba x + y.length := am_ad_lt (n := y.length + 1) (by omega) (by omega)
  have hft : newarray.typeOf (am_at0 t) = am_ft t := by
    match t, ht with
    | 0, _ => rfl
    | 1, _ => rfl
    | 2, _ => rfl
  have hwb : (Cond.arrayClass (newarray.typeOf (am_at0 t))).before (am_a x) (am_s x) = true := by rw [hft]; exact C0.hts _ hw
  refine va_newaK C0.hx C0.hb hwb rfl (am_dec_ok hd) rfl hn hN (by rw [hft]; match t, ht with
    | 0, _ => simp only [am_ft, componentBytes]; omega
    | 1, _ => simp only [am_ft, componentBytes]; omega
    | 2, _ => simp only [am_ft, componentBytes]; omega) hR.1 hR.2 hP.1 fun H1 cA e1 z1 o1 hAr hNm => ?_
  rw [hft] at e1 hNm
  have hk : ∀ (k : Nat) (q : Nat × va_E), (am_w (am_c3 x) (am_xa x) (am_ba x) y g w)[k]? = some q → H1[q.1]? = H[q.1]? := fun k q hq => o1 q.1 (by rw [← hP.1]; exact (hP.2 k q hq).lt)
  have k2 := kk H1 locs ls ⟨by rw [z1, List.length_append]; simp; omega, by
    rw [am_w_app]
    refine (hP.2.kept hk).app (fun k q hq => ?_)
    have hz0 : k < 1 := (List.getElem?_eq_some_iff.mp hq).1
    rw [show k = 0 by omega] at hq
    cases hq
    have hg0 : g y.length = fun _ => 0 := funext fun k => (hz k).1
    have hw0 : w y.length = fun _ => 0 := funext fun k => (hz k).2
    match t, ht with
    | 0, _ =>
      have hc : cA = (am_c3 x).1 := Option.some.inj (hNm.symm.trans (C0.hK.2 0 _ rfl).2)
      show H1[_]? = some (vp_cell _ _)
      rw [← hc, vp_cell_i, hg0]
      exact e1
    | 1, _ =>
      have hc : cA = (am_c3 x).2.1 := Option.some.inj (hNm.symm.trans (C0.hK.2 1 _ rfl).2)
      show H1[_]? = some (vp_cell _ _)
      rw [← hc, vp_cell_i, hg0]
      exact e1
    | 2, _ =>
      have hc : cA = (am_c3 x).2.2 := Option.some.inj (hNm.symm.trans (C0.hK.2 2 _ rfl).2)
      show H1[_]? = some (vp_cell _ _)
      rw [← hc, vp_cell_l, hw0]
      exact e1⟩ ⟨Nat.le_trans hS.1 (by rw [z1, hP.1]; omega), fun q h1 h2 => (o1 q (by have h3 : q < (am_s x).heap.size := h1; have := hS.1; rw [hP.1] at this; omega)).trans (hS.2.1 q h1 h2), hS.2.2⟩ hl
  have e : (List.map (am_v (am_xa x)) (.ref y.length :: st)) = .ref (am_ba x + y.length) :: st.map (am_v (am_xa x)) := by simp [am_v, ha]
  rw [e] at k2
  exact k2
theorem am_w_setY {c3 : ClassId × ClassId × ClassId} {ad : Nat → Nat} {base i : Nat} {sh : am_Sh} : (am_w c3 ad base y g w).set i (base + i, am_e c3 ad g w i sh) = am_w c3 ad base (y.set i sh) g w := by
  apply List.ext_getElem?
  intro k
  by_cases hk : k = i
  · subst hk
    by_cases hl : k < y.length
    · rw [List.getElem?_set_self (by rw [am_w_len]; exact hl), am_w_at (List.getElem?_set_self hl)]
    · rw [List.getElem?_eq_none (by rw [List.length_set, am_w_len]; omega), List.getElem?_eq_none (by rw [am_w_len, List.length_set]; omega)]
  · rw [List.getElem?_set_ne (Ne.symm hk)]
    cases h : y[k]? with
    | none =>
      have h1 : y.length ≤ k := by simpa using h
      rw [List.getElem?_eq_none (by rw [am_w_len]; exact h1), List.getElem?_eq_none (by rw [am_w_len, List.length_set]; exact h1)]
    | some s2 => rw [am_w_at h, am_w_at (show (y.set i sh)[k]? = some s2 by rw [List.getElem?_set_ne (Ne.symm hk)]; exact h)]
theorem am_fs_setK {ad : Nat → Nat} {i k r : Nat} {ks : List am_Kd} (hk : k < ks.length) : (am_fs ad g w i ks).set k (.ref (ad r)) = am_fs ad g w i (ks.set k (.inr (some r))) := by
  apply List.ext_getElem?
  intro j
  by_cases hj : j = k
  · subst hj
    rw [List.getElem?_set_self (by rw [am_fs_len]; exact hk), am_fs_at (List.getElem?_set_self hk)]
    rfl
  · rw [List.getElem?_set_ne (Ne.symm hj)]
    cases h : ks[j]? with
    | none =>
      have h1 : ks.length ≤ j := by simpa using h
      rw [List.getElem?_eq_none (by rw [am_fs_len]; exact h1), List.getElem?_eq_none (by rw [am_fs_len, List.length_set]; exact h1)]
    | some d2 => rw [am_fs_at h, am_fs_at (show (ks.set k (.inr (some r)))[j]? = some d2 by rw [List.getElem?_set_ne (Ne.symm hj)]; exact h)]
def am_isr (ty : FieldType) : Bool := match ty with
  | .object _ => true
  | .array _ => true
  | _ => false
theorem am_pfF (C0 : am_Cx x own cc nL) (hy : y.length ≤ 98) (hnm : (am_me x).name = "<init>") {ci k idx i r : Nat} {ks : List am_Kd} {rest : List Value} (hf : am_flb own idx ci k = true) (hfin : (am_Tc ci k).2.2.2 = true) (hown : (am_Tc ci k).1 = am_cn own) (hr : am_isr (am_yc ci k) = true) (hi : y[i]? = some (.inr (ci, ks))) (hk : k < ks.length) (hd : am_dec cc pc (.putfield idx) 3 = true)
    (kk : am_Ev x nL cs Q (pc + 3) L rest (y.set i (.inr (ci, ks.set k (.inr (some r))))) g w) : am_Ev x nL cs Q pc L (.ref r :: .ref i :: rest) y g w := by
  obtain ⟨h1, h2, h3⟩ := am_flb_ok hf
  intro H locs ls hP hS hl
  have ha : am_xa x i = am_ba x + i := am_ad_lt (List.getElem?_eq_some_iff.mp hi).1 hy
  have hw := am_w_at (c3 := am_c3 x) (ad := am_xa x) (base := am_ba x) (g := g) (w := w) hi
  have e : (List.map (am_v (am_xa x)) (.ref r :: .ref i :: rest)) = .ref (am_xa x r) :: .ref (am_ba x + i) :: rest.map (am_v (am_xa x)) := by simp [am_v, ha]
  rw [e]
  refine am_putFW C0.hx C0.hb C0.hts (am_wic ci h1) (am_yc ci) (am_tyc ci h1) (am_nmc ci h1) C0.hown C0.hK hP.2 am_D hS i hw (am_clc ci h1) k h2 (C0.hts _ h3) (fun _ h9 => h9) hfin hnm hown (am_tyc ci h1 k h2) ?_ ?_ (by rw [am_fs_len]; exact hk) (am_dec_ok hd) (fun H1 locs1 hz hP1 hS1 => kk H1 locs1 ls ⟨by rw [hz, List.length_set]; exact hP.1, ?_⟩ hS1 hl)
  · cases hyc : am_yc ci k <;> first | rfl | (rw [hyc] at hr; cases hr)
  · cases hyc : am_yc ci k <;> first | rfl | (rw [hyc] at hr; cases hr)
  · rw [am_fs_setK hk] at hP1
    have := am_w_setY (c3 := am_c3 x) (ad := am_xa x) (base := am_ba x) (y := y) (g := g) (w := w) (i := i) (sh := .inr (ci, ks.set k (.inr (some r))))
    rw [← this]
    exact hP1
end AMI
