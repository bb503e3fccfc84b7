/-! STORES: the kit's rows for stores once more, with the heap's size in the end -/
section AMT
variable {p : Program} {l : Launch} {e : Env} {R : Room} {s : State} {m : MethodId} {args : Array Value} {below : List Frame} {meth : Method} {c : Code} {H : Heap} {locs : List Loc} {cells slots : Nat} {Q : State → Prop}
variable {cc : ByteArray} {pc : Nat} {ls : Array Slot} {rest : List Value} {D : va_G} {cl : List vw_C} {A : Nat → Prop} {a : Nat} {tys : List (ClassId × FieldType)} {ws : va_W} {H0 : Heap}
theorem am_iastW (hexec : p.tables.exec = Jvm.exec) (hb : c.code = cc) (hK : va_K D cl tys s) (hP : va_P D cl ws H) (hD : va_D A ws) (hS : va_S A H0 H locs) (q0 t0 : Nat) {cA : ClassId} {n : Nat} {f : Nat → Int32} (ha : ws[q0]? = some (a, .inl (cA, n, .inl f))) (ht : tys[t0]? = some (cA, .int)) {i : Int32} {x : Int32} (hin : vp_in i n) (hdg : decode cc pc = .ok (.iastore, 1))
    (kk : ∀ (H1 : Heap) (locs1 : List Loc), H1.size = H.size → va_P D cl (ws.set q0 (a, .inl (cA, n, .inl (upd f i.toNatClampNeg x)))) H1 → va_S A H0 H1 locs1 → W p l e R s m args below meth c H1 locs1 cells slots Q (F0 m (pc + 1) ls rest)) : W p l e R s m args below meth c H locs cells slots Q (F0 m pc ls (.int x :: .int i :: .ref a :: rest)) := by
  refine W.iast hexec hb (hP q0 _ ha) ((hK.2 t0 _ ht).1 n (fun j => .int (f j))) (fun q => by cases q) (by show ¬ (i < 0 ∨ (arrV _ _ _).slots.size ≤ _); rw [arrV_size]; exact hin) rfl rfl hdg fun H1 e z oq => ?_
  refine kk H1 _ z (hP.set hD ha ?_ oq) (hS.put z oq (hD.2 q0 _ ha))
  show H1[a]? = some (vp_cell _ _)
  rw [e]
  rw [vp_cell_i, vp_cell_i, arrV_store]
  congr 2
  funext q
  by_cases hq : q = i.toNatClampNeg
  · subst hq
    simp [updV, upd]
  · simp [updV, upd, hq]
theorem am_zastW (hexec : p.tables.exec = Jvm.exec) (hb : c.code = cc) (hK : va_K D cl tys s) (hP : va_P D cl ws H) (hD : va_D A ws) (hS : va_S A H0 H locs) (q0 t0 : Nat) {cA : ClassId} {n : Nat} {f : Nat → Int32} (ha : ws[q0]? = some (a, .inl (cA, n, .inl f))) (ht : tys[t0]? = some (cA, .boolean)) {i : Int32} {x : Int32} (hin : vp_in i n) (hdg : decode cc pc = .ok (.bastore, 1))
    (kk : ∀ (H1 : Heap) (locs1 : List Loc), H1.size = H.size → va_P D cl (ws.set q0 (a, .inl (cA, n, .inl (upd f i.toNatClampNeg (vp_nar .boolean x))))) H1 → va_S A H0 H1 locs1 → W p l e R s m args below meth c H1 locs1 cells slots Q (F0 m (pc + 1) ls rest)) : W p l e R s m args below meth c H locs cells slots Q (F0 m pc ls (.int x :: .int i :: .ref a :: rest)) := by
  refine W.zast hexec hb (hP q0 _ ha) ((hK.2 t0 _ ht).1 n (fun j => .int (f j))) (fun q => by cases q) (by show ¬ (i < 0 ∨ (arrV _ _ _).slots.size ≤ _); rw [arrV_size]; exact hin) rfl rfl hdg fun H1 e z oq => ?_
  refine kk H1 _ z (hP.set hD ha ?_ oq) (hS.put z oq (hD.2 q0 _ ha))
  show H1[a]? = some (vp_cell _ _)
  rw [e]
  rw [vp_cell_i, vp_cell_i, arrV_store]
  congr 2
  funext q
  by_cases hq : q = i.toNatClampNeg
  · subst hq
    simp [updV, upd, vp_nar]
    try rfl
  · simp [updV, upd, hq]
theorem am_lastW (hexec : p.tables.exec = Jvm.exec) (hb : c.code = cc) (hK : va_K D cl tys s) (hP : va_P D cl ws H) (hD : va_D A ws) (hS : va_S A H0 H locs) (q0 t0 : Nat) {cA : ClassId} {n : Nat} {f : Nat → Int64} (ha : ws[q0]? = some (a, .inl (cA, n, .inr (.inl f)))) (ht : tys[t0]? = some (cA, .long)) {i : Int32} {x : Int64} (hin : vp_in i n) (hdg : decode cc pc = .ok (.lastore, 1))
    (kk : ∀ (H1 : Heap) (locs1 : List Loc), H1.size = H.size → va_P D cl (ws.set q0 (a, .inl (cA, n, .inr (.inl (vp_updL f i.toNatClampNeg x))))) H1 → va_S A H0 H1 locs1 → W p l e R s m args below meth c H1 locs1 cells slots Q (F0 m (pc + 1) ls rest)) : W p l e R s m args below meth c H locs cells slots Q (F0 m pc ls (.long x :: .int i :: .ref a :: rest)) := by
  refine W.last hexec hb (hP q0 _ ha) ((hK.2 t0 _ ht).1 n (fun j => .long (f j))) (fun q => by cases q) (by show ¬ (i < 0 ∨ (arrV _ _ _).slots.size ≤ _); rw [arrV_size]; exact hin) rfl rfl hdg fun H1 e z oq => ?_
  refine kk H1 _ z (hP.set hD ha ?_ oq) (hS.put z oq (hD.2 q0 _ ha))
  show H1[a]? = some (vp_cell _ _)
  rw [e]
  rw [vp_cell_l, vp_cell_l, arrV_store]
  congr 2
  funext q
  by_cases hq : q = i.toNatClampNeg
  · subst hq
    simp [updV, vp_updL]
  · simp [updV, vp_updL, hq]
theorem am_putW (hexec : p.tables.exec = Jvm.exec) (hb : c.code = cc) {own ref C : String} {T : u_T} {N ci index : Nat} {Ts : List Cond} (hts : ∀ w ∈ Ts, w.before args s = true) (hin : ∀ w ∈ u_ws C T N, w ∈ Ts) (ty0 : Nat → FieldType) (hty : ∀ k, k < N → parseFieldDescriptor (T k).2.2.1 = some (ty0 k)) (hnm : ∀ a, a < N → ∀ b, b < N → a ≠ b → (T a).2.1 ≠ (T b).2.1) (hown : s.vm.findClass own = some m.cls) (hK : va_K D cl tys s) (hP : va_P D cl ws H) (hD : va_D A ws) (hS0 : va_S A H0 H locs) (q0 : Nat) {fs : List Value} (he : ws[q0]? = some (a, .inr (ci, fs))) (hc : cl[ci]? = some (C, T, N)) (k : Nat) (hk : k < N) (hlink : (Cond.fieldLink own index ref (T k).2.1 (T k).2.2.1).before args s = true) (hsame : ∀ x, s.fieldFound? (T k).1 (T k).2.1 (T k).2.2.1 = some x → s.fieldFound? ref (T k).2.1 (T k).2.2.1 = some x) (hfin : (T k).2.2.2 = false) {ty : FieldType} {v : Value} (hd : parseFieldDescriptor (T k).2.2.1 = some ty) (hn : narrow ty v = v) (hfit : fits ty v = true) (hl : k < fs.length)
    (hdg : decode cc pc = .ok (.putfield index, 3)) (kk : ∀ (H1 : Heap) (locs1 : List Loc), H1.size = H.size → va_P D cl (ws.set q0 (a, .inr (ci, fs.set k v))) H1 → va_S A H0 H1 locs1 → W p l e R s m args below meth c H1 locs1 cells slots Q (F0 m (pc + 3) ls rest)) : W p l e R s m args below meth c H locs cells slots Q (F0 m pc ls (v :: .ref a :: rest)) := by
  have hap := va_apart (own := own) hts hin ty0 hty hnm hK hc
  obtain ⟨r, h1, cell, q1, q2, q3, q4⟩ := hP q0 _ he
  have hr : r = (C, T, N) := Option.some.inj (h1.symm.trans hc)
  subst hr
  obtain ⟨hS, hfc, kC, hkC, hkind⟩ := hK.1 ci _ hc
  obtain ⟨cf, kf, fi, f, hi, hsl⟩ := hS k hk
  have hlay := hts _ (hin _ (u_in_lay hk))
  unfold u_lay at hlay
  rw [if_neg (by rw [hfin]; decide)] at hlay
  have hst := (u_facts hfc hkC (u_lays hts hin hk) hi).1
  have h6 := u_store hfc hkC hkind hlay hi hd hn hfit
  refine W.putK hexec hb (f := f) ⟨hown, hlink, ⟨_, _, _, hsame _ hi⟩, hst⟩ (by rw [q2]; exact h6) q1 q3 (by rw [hsl]; exact k2_hasslot (q4 k hk)) rfl rfl hdg fun H' e1 e2 e3 => ?_
  rw [hsl] at e1 ⊢
  exact kk H' _ e2 (hP.set hD he ⟨_, hc, t_OB.to (V := updV (vp_V fs) k v) ⟨_, e1, q2, q3, t_set q4 hap hk v⟩ (fun j _ => vp_updV_set hl v j)⟩ e3) (hS0.put e2 e3 (hD.2 q0 _ he))
theorem am_putFW (hexec : p.tables.exec = Jvm.exec) (hb : c.code = cc) {own ref C : String} {T : u_T} {N ci index : Nat} {Ts : List Cond} (hts : ∀ w ∈ Ts, w.before args s = true) (hin : ∀ w ∈ u_ws C T N, w ∈ Ts) (ty0 : Nat → FieldType) (hty : ∀ k, k < N → parseFieldDescriptor (T k).2.2.1 = some (ty0 k)) (hnm : ∀ a, a < N → ∀ b, b < N → a ≠ b → (T a).2.1 ≠ (T b).2.1) (hown : s.vm.findClass own = some m.cls) (hK : va_K D cl tys s) (hP : va_P D cl ws H) (hD : va_D A ws) (hS0 : va_S A H0 H locs) (q0 : Nat) {fs : List Value} (he : ws[q0]? = some (a, .inr (ci, fs))) (hc : cl[ci]? = some (C, T, N)) (k : Nat) (hk : k < N) (hlink : (Cond.fieldLink own index ref (T k).2.1 (T k).2.2.1).before args s = true) (hsame : ∀ x, s.fieldFound? (T k).1 (T k).2.1 (T k).2.2.1 = some x → s.fieldFound? ref (T k).2.1 (T k).2.2.1 = some x) (hfin : (T k).2.2.2 = true) (hin2 : meth.name = "<init>") (hdecl : (T k).1 = own) {ty : FieldType} {v : Value} (hd : parseFieldDescriptor (T k).2.2.1 = some ty) (hn : narrow ty v = v) (hfit : fits ty v = true) (hl : k < fs.length)
    (hdg : decode cc pc = .ok (.putfield index, 3)) (kk : ∀ (H1 : Heap) (locs1 : List Loc), H1.size = H.size → va_P D cl (ws.set q0 (a, .inr (ci, fs.set k v))) H1 → va_S A H0 H1 locs1 → W p l e R s m args below meth c H1 locs1 cells slots Q (F0 m (pc + 3) ls rest)) : W p l e R s m args below meth c H locs cells slots Q (F0 m pc ls (v :: .ref a :: rest)) := by
  have hap := va_apart (own := own) hts hin ty0 hty hnm hK hc
  obtain ⟨r, h1, cell, q1, q2, q3, q4⟩ := hP q0 _ he
  have hr : r = (C, T, N) := Option.some.inj (h1.symm.trans hc)
  subst hr
  obtain ⟨hS, hfc, kC, hkC, hkind⟩ := hK.1 ci _ hc
  obtain ⟨cf, kf, fi, f, hi, hsl⟩ := hS k hk
  have hlay := hts _ (hin _ (u_in_lay hk))
  unfold u_lay at hlay
  rw [if_pos hfin] at hlay
  have hst := (u_facts hfc hkC (u_lays hts hin hk) hi).1
  have hcf : m.cls = cf := by
    obtain ⟨_, _, c', _, _, _, -, -, hf', -, -, -, hown2, -⟩ := Cond.laysFinal_spec hlay
    have e1 : c' = cf := by have := hi.symm.trans hf'; simp at this; exact this.1.symm
    rw [hdecl] at hown2
    rw [← e1]; exact Option.some.inj (hown.symm.trans hown2)
  have h6 := u_fits hfc hkC hkind (Or.inr hlay) hi hd hn hfit
  refine W.putFinK hexec hb hown hlink (hsame _ hi) hst hcf hin2 (by rw [q2]; exact h6) q1 q3 (by rw [hsl]; exact k2_hasslot (q4 k hk)) rfl rfl hdg fun H' e1 e2 e3 => ?_
  rw [hsl] at e1 ⊢
  exact kk H' _ e2 (hP.set hD he ⟨_, hc, t_OB.to (V := updV (vp_V fs) k v) ⟨_, e1, q2, q3, t_set q4 hap hk v⟩ (fun j _ => vp_updV_set hl v j)⟩ e3) (hS0.put e2 e3 (hD.2 q0 _ he))
end AMT
section AMU
variable {x : am_X} {own : Nat} {cc : ByteArray} {nL : Nat} {cs : Nat × Nat} {Q : State → Prop} {pc : Nat} {L L' : List (Option Value)} {st st' : List Value} {y : am_Y} {g g' : am_G} {w w' : am_J}
theorem am_u_self (g : am_G) (i j : Nat) (v : Int32) : am_u g i j v i = upd (g i) j v := by simp [am_u]
theorem am_ul_self (w : am_J) (i j : Nat) (v : Int64) : am_ul w i j v i = vp_updL (w i) j v := by simp [am_ul]
theorem am_ast_ok (C0 : am_Cx x own cc nL) (hy : y.length ≤ 98) {t : Nat} {nf : Int32 → Int32} {ins : Instr} (hins : (t = 0 ∧ ins = .iastore ∧ nf = fun v => v) ∨ (t = 1 ∧ ins = .bastore ∧ nf = fun v => vp_nar .boolean v)) (hdec : decode cc pc = .ok (ins, 1)) {r : am_S × Option Prop} (hs : am_ast y t nf L st g w = some r) (hc : ∀ c, r.2 = some c → c)
    (kk : am_Ev x nL cs Q (pc + 1) r.1.1 r.1.2.1 y r.1.2.2.1 r.1.2.2.2) : am_Ev x nL cs Q pc L st y g w := by
  unfold am_ast at hs
  split at hs
  · rename_i v j i r0
    split at hs
    · rename_i t' n hyi
      split at hs
      · rename_i ht
        subst ht
        cases hs
        have hin := hc _ rfl
        have hlt := (List.getElem?_eq_some_iff.mp hyi).1
        intro H locs ls hP hS hl
        have ha := am_ad_lt (base := am_ba x) (tt := am_tt x) (b := am_sc x) hlt hy
        have hw := am_w_at (c3 := am_c3 x) (ad := am_xa x) (base := am_ba x) (g := g) (w := w) hyi
        show W _ _ _ _ _ _ _ _ _ _ _ _ _ _ _ (F0 _ _ _ (.int v :: .int j :: .ref (am_xa x i) :: _))
        rw [show am_xa x i = am_ba x + i from ha]
        rcases hins with ⟨rfl, rfl, rfl⟩ | ⟨rfl, rfl, rfl⟩
        · refine am_iastW C0.hx C0.hb C0.hK hP.2 am_D hS i 0 hw rfl hin hdec (fun H1 locs1 z hP1 hS1 => kk H1 locs1 ls (hP.put z hP1 hyi am_u_ne (fun _ _ => rfl) ?_) hS1 hl)
          simp [am_e, am_u_self]
        · refine am_zastW C0.hx C0.hb C0.hK hP.2 am_D hS i 1 hw rfl hin hdec (fun H1 locs1 z hP1 hS1 => kk H1 locs1 ls (hP.put z hP1 hyi am_u_ne (fun _ _ => rfl) ?_) hS1 hl)
          simp [am_e, am_u_self]
      · cases hs
    · cases hs
  · cases hs
theorem am_lst_ok (C0 : am_Cx x own cc nL) (hy : y.length ≤ 98) (hdec : decode cc pc = .ok (.lastore, 1)) {r : am_S × Option Prop} (hs : am_lst y L st g w = some r) (hc : ∀ c, r.2 = some c → c)
    (kk : am_Ev x nL cs Q (pc + 1) r.1.1 r.1.2.1 y r.1.2.2.1 r.1.2.2.2) : am_Ev x nL cs Q pc L st y g w := by
  unfold am_lst at hs
  split at hs
  · rename_i v j i r0
    split at hs
    · rename_i n hyi
      cases hs
      have hin := hc _ rfl
      have hlt := (List.getElem?_eq_some_iff.mp hyi).1
      intro H locs ls hP hS hl
      have ha := am_ad_lt (base := am_ba x) (tt := am_tt x) (b := am_sc x) hlt hy
      have hw := am_w_at (c3 := am_c3 x) (ad := am_xa x) (base := am_ba x) (g := g) (w := w) hyi
      show W _ _ _ _ _ _ _ _ _ _ _ _ _ _ _ (F0 _ _ _ (.long v :: .int j :: .ref (am_xa x i) :: _))
      rw [show am_xa x i = am_ba x + i from ha]
      refine am_lastW C0.hx C0.hb C0.hK hP.2 am_D hS i 2 hw rfl hin hdec (fun H1 locs1 z hP1 hS1 => kk H1 locs1 ls (hP.put z hP1 hyi (fun _ _ => rfl) am_ul_ne ?_) hS1 hl)
      simp [am_e, am_ul_self]
    · cases hs
  · cases hs
theorem am_gf_ok (C0 : am_Cx x own cc nL) (hy : y.length ≤ 98) {ci k idx : Nat} (hf : am_flb own idx ci k = true) (hdec : decode cc pc = .ok (.getfield idx, 3)) {r : am_S × Option Prop} (hs : am_gf y ci k L st g w = some r)
    (kk : am_Ev x nL cs Q (pc + 3) r.1.1 r.1.2.1 y r.1.2.2.1 r.1.2.2.2) : am_Ev x nL cs Q pc L st y g w := by
  unfold am_gf at hs
  split at hs
  · rename_i i r0
    split at hs
    · rename_i c ks hyi
      split at hs
      · rename_i hc
        subst hc
        split at hs
        · rename_i d hd
          cases hs
          obtain ⟨h1, h2, h3⟩ := am_flb_ok hf
          have hlt := (List.getElem?_eq_some_iff.mp hyi).1
          intro H locs ls hP hS hl
          have ha := am_ad_lt (base := am_ba x) (tt := am_tt x) (b := am_sc x) hlt hy
          have hw := am_w_at (c3 := am_c3 x) (ad := am_xa x) (base := am_ba x) (g := g) (w := w) hyi
          show W _ _ _ _ _ _ _ _ _ _ _ _ _ _ _ (F0 _ _ _ (.ref (am_xa x i) :: _))
          rw [show am_xa x i = am_ba x + i from ha]
          exact va_get C0.hx C0.hb C0.hts (am_wic c h1) C0.hown C0.hK hP.2 i hw (am_clc c h1) k h2 (C0.hts _ h3) (fun _ h9 => h9) (am_fs_at hd) hdec (kk H locs ls hP hS hl)
        · cases hs
      · cases hs
    · cases hs
  · cases hs
theorem am_fs_len {ad : Nat → Nat} {i : Nat} {ks : List am_Kd} : (am_fs ad g w i ks).length = ks.length := by simp [am_fs]
theorem am_fs_set {ad : Nat → Nat} {i k : Nat} {ks : List am_Kd} {d : am_Kd} {v : Value} (hd : ks[k]? = some d) (hv : v = am_v ad (am_fv g' w' i k d)) (hg : ∀ j, j ≠ k → g' i j = g i j) (hw : ∀ j, j ≠ k → w' i j = w i j) : (am_fs ad g w i ks).set k v = am_fs ad g' w' i ks := by
  have hl := (List.getElem?_eq_some_iff.mp hd).1
  apply List.ext_getElem?
  intro j
  by_cases hj : j = k
  · subst hj
    rw [List.getElem?_set_self (by rw [am_fs_len]; exact hl), am_fs_at hd, hv]
  · rw [List.getElem?_set_ne (Ne.symm hj)]
    cases h : ks[j]? with
    | none =>
      have h1 : ks.length ≤ j := by simpa using h
      rw [List.getElem?_eq_none (by rw [am_fs_len]; exact h1), List.getElem?_eq_none (by rw [am_fs_len]; exact h1)]
    | some d2 =>
      rw [am_fs_at h, am_fs_at h]
      match d2 with
      | .inl 0 => simp [am_fv, hg j hj]
      | .inl (z + 1) => simp [am_fv, hw j hj]
      | .inr none => rfl
      | .inr (some r) => rfl
theorem am_pf_ok (C0 : am_Cx x own cc nL) (hy : y.length ≤ 98) {ci k idx : Nat} (hf : am_flb own idx ci k = true) (hwr : am_wr ci k = true) (hdec : decode cc pc = .ok (.putfield idx, 3)) {r : am_S × Option Prop} (hs : am_pf y ci k L st g w = some r)
    (kk : am_Ev x nL cs Q (pc + 3) r.1.1 r.1.2.1 y r.1.2.2.1 r.1.2.2.2) (hty : ∀ (i : Nat) (ks : List am_Kd), y[i]? = some (Sum.inr (ci, ks)) → (ks[k]? = some (Sum.inl 0) → am_yc ci k = .int) ∧ (ks[k]? = some (Sum.inl 1) → am_yc ci k = .long)) : am_Ev x nL cs Q pc L st y g w := by
  obtain ⟨h1, h2, h3⟩ := am_flb_ok hf
  simp only [am_wr, Bool.and_eq_true, Bool.not_eq_true'] at hwr
  unfold am_pf at hs
  split at hs
  · rename_i z i r0
    unfold am_pfi at hs
    split at hs
    · rename_i c ks hyi
      split at hs
      · rename_i hc
        subst hc
        split at hs
        · rename_i hd
          cases hs
          have hlt := (List.getElem?_eq_some_iff.mp hyi).1
          have hyc := (hty i ks hyi).1 hd
          intro H locs ls hP hS hl
          have ha := am_ad_lt (base := am_ba x) (tt := am_tt x) (b := am_sc x) hlt hy
          have hw := am_w_at (c3 := am_c3 x) (ad := am_xa x) (base := am_ba x) (g := g) (w := w) hyi
          show W _ _ _ _ _ _ _ _ _ _ _ _ _ _ _ (F0 _ _ _ (.int z :: .ref (am_xa x i) :: _))
          rw [show am_xa x i = am_ba x + i from ha]
          refine am_putW C0.hx C0.hb C0.hts (am_wic c h1) (am_yc c) (am_tyc c h1) (am_nmc c h1) C0.hown C0.hK hP.2 am_D hS i hw (am_clc c h1) k h2 (C0.hts _ h3) (fun _ h9 => h9) hwr.1 (am_tyc c h1 k h2) (by rw [hyc]; rfl) (by rw [hyc]; rfl) (by rw [am_fs_len]; exact (List.getElem?_eq_some_iff.mp hd).1) hdec (fun H1 locs1 hz hP1 hS1 => kk H1 locs1 ls (hP.put hz hP1 hyi am_u_ne (fun _ _ => rfl) ?_) hS1 hl)
          show (Sum.inr (c, _) : va_E) = Sum.inr (c, _)
          rw [am_fs_set (g' := am_u g i k z) (w' := w) hd (by simp [am_fv, am_v, am_u_at]) (fun j hj => by simp [am_u_at, hj]) (fun _ _ => rfl)]
        · cases hs
      · cases hs
    · cases hs
  · rename_i z i r0
    unfold am_pfl at hs
    split at hs
    · rename_i c ks hyi
      split at hs
      · rename_i hc
        subst hc
        split at hs
        · rename_i hd
          cases hs
          have hlt := (List.getElem?_eq_some_iff.mp hyi).1
          have hyc := (hty i ks hyi).2 hd
          intro H locs ls hP hS hl
          have ha := am_ad_lt (base := am_ba x) (tt := am_tt x) (b := am_sc x) hlt hy
          have hw := am_w_at (c3 := am_c3 x) (ad := am_xa x) (base := am_ba x) (g := g) (w := w) hyi
          show W _ _ _ _ _ _ _ _ _ _ _ _ _ _ _ (F0 _ _ _ (.long z :: .ref (am_xa x i) :: _))
          rw [show am_xa x i = am_ba x + i from ha]
          refine am_putW C0.hx C0.hb C0.hts (am_wic c h1) (am_yc c) (am_tyc c h1) (am_nmc c h1) C0.hown C0.hK hP.2 am_D hS i hw (am_clc c h1) k h2 (C0.hts _ h3) (fun _ h9 => h9) hwr.1 (am_tyc c h1 k h2) (by rw [hyc]; rfl) (by rw [hyc]; rfl) (by rw [am_fs_len]; exact (List.getElem?_eq_some_iff.mp hd).1) hdec (fun H1 locs1 hz hP1 hS1 => kk H1 locs1 ls (hP.put hz hP1 hyi (fun _ _ => rfl) am_ul_ne ?_) hS1 hl)
          show (Sum.inr (c, _) : va_E) = Sum.inr (c, _)
          rw [am_fs_set (g' := g) (w' := am_ul w i k z) hd (by simp [am_fv, am_v, am_ul_at]) (fun _ _ => rfl) (fun j hj => by simp [am_ul_at, hj])]
        · cases hs
      · cases hs
    · cases hs
  · cases hs
end AMU
