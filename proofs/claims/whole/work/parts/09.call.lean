/-! CALLS -/
/-- the words of a call of an object's own method -/
def am_wV (own idx : Nat) (mi : am_MI) (n : Nat) : Prop := (Cond.methodLink (am_cn own) idx mi.1 ∈ am_tbl ∧ Cond.instanceMethod mi.1 ∈ am_tbl ∧ Cond.selects mi.1.cls mi.1 mi.1 ∈ am_tbl ∧ Cond.initialized mi.1.cls ∈ am_tbl ∧ am_cw mi ∈ am_tbl) ∧ mi.1.cls ≠ "java/lang/invoke/MethodHandle" ∧ mi.1.cls ≠ "java/lang/invoke/VarHandle" ∧ (parseMethodDescriptor mi.1.desc).map (fun d => d.parameters.length) = some n
def am_wS (own idx : Nat) (mi : am_MI) (n : Nat) : Prop := (Cond.methodLink (am_cn own) idx mi.1 ∈ am_tbl ∧ Cond.static mi.1 ∈ am_tbl ∧ Cond.initialized mi.1.cls ∈ am_tbl ∧ am_cw mi ∈ am_tbl) ∧ mi.1.cls ≠ "java/lang/invoke/MethodHandle" ∧ mi.1.cls ≠ "java/lang/invoke/VarHandle" ∧ (parseMethodDescriptor mi.1.desc).map (fun d => d.parameters.length) = some n
def am_wI (own idx : Nat) (mi : am_MI) (n : Nat) : Prop := (Cond.methodLink (am_cn own) idx mi.1 ∈ am_tbl ∧ Cond.instanceMethod mi.1 ∈ am_tbl ∧ Cond.initialized mi.1.cls ∈ am_tbl ∧ am_cw mi ∈ am_tbl) ∧ mi.1.name = "<init>" ∧ mi.2.2.2 = none ∧ mi.1.cls ≠ "java/lang/invoke/MethodHandle" ∧ mi.1.cls ≠ "java/lang/invoke/VarHandle" ∧ (parseMethodDescriptor mi.1.desc).map (fun d => d.parameters.length) = some n
/-- a private static method of a nest mate; a private constructor of one -/
def am_wSN (own idx : Nat) (mi : am_MI) (n : Nat) : Prop := ((∃ p, (own, idx, mi.1, p) ∈ am_nst) ∧ Cond.static mi.1 ∈ am_tbl ∧ Cond.initialized mi.1.cls ∈ am_tbl ∧ am_cw mi ∈ am_tbl) ∧ mi.1.cls ≠ "java/lang/invoke/MethodHandle" ∧ mi.1.cls ≠ "java/lang/invoke/VarHandle" ∧ (parseMethodDescriptor mi.1.desc).map (fun d => d.parameters.length) = some n
def am_wIN (own idx : Nat) (mi : am_MI) (n : Nat) : Prop := ((∃ p, (own, idx, mi.1, p) ∈ am_nst) ∧ Cond.instanceMethod mi.1 ∈ am_tbl ∧ Cond.initialized mi.1.cls ∈ am_tbl ∧ am_cw mi ∈ am_tbl) ∧ mi.1.name = "<init>" ∧ mi.2.2.2 = none ∧ mi.1.cls ≠ "java/lang/invoke/MethodHandle" ∧ mi.1.cls ≠ "java/lang/invoke/VarHandle" ∧ (parseMethodDescriptor mi.1.desc).map (fun d => d.parameters.length) = some n
theorem am_at {w : Cond} (i : Nat) (h : lw_tbl[i]? = some w) (hg : goodWord w = true) : w ∈ am_tbl := am_tbl_in (List.mem_of_getElem? h) hg
/-- the words at their places -/
def am_pl : List (Nat × Cond) → Bool
  | [] => true
  | q :: r => decide (lw_tbl[q.1]? = some q.2) && (goodWord q.2 && am_pl r)
theorem am_pl_ok : ∀ {l : List (Nat × Cond)}, am_pl l = true → ∀ q ∈ l, q.2 ∈ am_tbl
  | [], _, q, hq => by cases hq
  | a :: r, h, q, hq => by
    simp only [am_pl, Bool.and_eq_true, decide_eq_true_eq] at h
    rcases List.mem_cons.mp hq with rfl | hq
    · exact am_at _ h.1 h.2.1
    · exact am_pl_ok h.2.2 q hq
def am_nd (mi : am_MI) (n : Nat) : Bool := decide (mi.1.cls ≠ "java/lang/invoke/MethodHandle") && (decide (mi.1.cls ≠ "java/lang/invoke/VarHandle") && decide ((parseMethodDescriptor mi.1.desc).map (fun d => d.parameters.length) = some n))
theorem am_wV.mk {own idx : Nat} {mi : am_MI} {n : Nat} (a b c d e : Nat) (h : am_pl [(a, .methodLink (am_cn own) idx mi.1), (b, .instanceMethod mi.1), (c, .selects mi.1.cls mi.1 mi.1), (d, .initialized mi.1.cls), (e, am_cw mi)] = true) (hd : am_nd mi n = true) : am_wV own idx mi n := by
  have h1 := am_pl_ok h
  simp only [am_nd, Bool.and_eq_true, decide_eq_true_eq] at hd
  exact ⟨⟨h1 (a, _) (by simp), h1 (b, _) (by simp), h1 (c, _) (by simp), h1 (d, _) (by simp), h1 (e, _) (by simp)⟩, hd⟩
theorem am_wS.mk {own idx : Nat} {mi : am_MI} {n : Nat} (a b d e : Nat) (h : am_pl [(a, .methodLink (am_cn own) idx mi.1), (b, .static mi.1), (d, .initialized mi.1.cls), (e, am_cw mi)] = true) (hd : am_nd mi n = true) : am_wS own idx mi n := by
  have h1 := am_pl_ok h
  simp only [am_nd, Bool.and_eq_true, decide_eq_true_eq] at hd
  exact ⟨⟨h1 (a, _) (by simp), h1 (b, _) (by simp), h1 (d, _) (by simp), h1 (e, _) (by simp)⟩, hd⟩
theorem am_wI.mk {own idx : Nat} {mi : am_MI} {n : Nat} (a b d e : Nat) (h : am_pl [(a, .methodLink (am_cn own) idx mi.1), (b, .instanceMethod mi.1), (d, .initialized mi.1.cls), (e, am_cw mi)] = true) (hi : mi.1.name = "<init>") (hr : mi.2.2.2 = none) (hd : am_nd mi n = true) : am_wI own idx mi n := by
  have h1 := am_pl_ok h
  simp only [am_nd, Bool.and_eq_true, decide_eq_true_eq] at hd
  exact ⟨⟨h1 (a, _) (by simp), h1 (b, _) (by simp), h1 (d, _) (by simp), h1 (e, _) (by simp)⟩, hi, hr, hd⟩
theorem am_wSN.mk {own idx : Nat} {mi : am_MI} {n : Nat} (p k b d e : Nat) (hp : am_nst[k]? = some (own, idx, mi.1, p)) (h : am_pl [(b, .static mi.1), (d, .initialized mi.1.cls), (e, am_cw mi)] = true) (hd : am_nd mi n = true) : am_wSN own idx mi n := by
  have h1 := am_pl_ok h
  simp only [am_nd, Bool.and_eq_true, decide_eq_true_eq] at hd
  exact ⟨⟨⟨p, List.mem_of_getElem? hp⟩, h1 (b, _) (by simp), h1 (d, _) (by simp), h1 (e, _) (by simp)⟩, hd⟩
theorem am_wIN.mk {own idx : Nat} {mi : am_MI} {n : Nat} (p k b d e : Nat) (hp : am_nst[k]? = some (own, idx, mi.1, p)) (h : am_pl [(b, .instanceMethod mi.1), (d, .initialized mi.1.cls), (e, am_cw mi)] = true) (hi : mi.1.name = "<init>") (hr : mi.2.2.2 = none) (hd : am_nd mi n = true) : am_wIN own idx mi n := by
  have h1 := am_pl_ok h
  simp only [am_nd, Bool.and_eq_true, decide_eq_true_eq] at hd
  exact ⟨⟨⟨p, List.mem_of_getElem? hp⟩, h1 (b, _) (by simp), h1 (d, _) (by simp), h1 (e, _) (by simp)⟩, hi, hr, hd⟩
def am_rm (R : Room) (mi : am_MI) (rm : Room) (cs : Nat × Nat) : Bool := decide (rm.frames + 1 ≤ R.frames) && (decide (8 + (mi.2.2.1 + 11) + rm.locals ≤ R.locals) && (decide (cs.1 + rm.cells ≤ R.cells) && decide (cs.2 + rm.slots ≤ R.slots)))
section AMC
variable {x : am_X} {own : Nat} {cc : ByteArray} {nL : Nat} {cs : Nat × Nat} {Q : State → Prop} {pc : Nat} {L L' : List (Option Value)} {st st' : List Value} {y y' : am_Y} {g g' : am_G} {w w' : am_J} {ret : Option FieldType}
variable {mi : am_MI} {rm : Room} {idx n : Nat} {ro : Option Value}
theorem am_blind {D : va_G} {c3 : ClassId × ClassId × ClassId} {base tt b : Nat} {av : List Value} : FrameBlind (am_Pc D c3 base tt b av y g w) := by
  intro a U fr mk q
  obtain ⟨q0, q1, q2, q3, q4⟩ := q
  exact ⟨q0, q1, va_K.moved (u := U) (U := U.calling fr mk a) (Vm.Alike.refl U.vm) q2, ⟨va_Z.moved (u := U) (U := U.calling fr mk a) (Vm.Alike.refl U.vm) q3.1, va_T.moved (u := U) (U := U.calling fr mk a) (Vm.Alike.refl U.vm) q3.2⟩, fun z hz => va_Nw.same (u := U) (U := U.calling fr mk a) rfl rfl (q4 z hz)⟩
theorem am_pre (C0 : am_Cx x own cc nL) {H : Heap} {locs : List Loc} (hP : am_P (am_Dg x) (am_c3 x) (am_ba x) (am_tt x) (am_sc x) y g w H) (hS : va_S (fun q => am_ba x ≤ q) (am_s x).heap H locs) (av : List Value) :
    ∀ U : State, U.heap = H → (am_s x).WarmedH U.vm → am_Pc (am_Dg x) (am_c3 x) (am_ba x) (am_tt x) (am_sc x) av y g w (av.map (am_v (am_xa x))).toArray U :=
  fun U hU hW => ⟨rfl, by rw [hU]; exact hP, va_K.moved hW.alike C0.hK, C0.hT.go hS hU hW.alike, C0.hN.warm hW⟩
theorem am_fin {H : Heap} {locs : List Loc} {ls : Array Slot} {st0 rest : List Value} {a : Array Value} (hS : va_S (fun q => am_ba x ≤ q) (am_s x).heap H locs) (hl : am_l (am_xa x) ls nL L)
    (hr : va_Run (am_p x) (am_la x) (am_en x) (am_R x) (am_s x) (am_m x) (am_a x) (am_bw x) (am_me x) (am_c x) H locs cs.1 cs.2 rm.cells rm.slots (F0 (am_m x) pc ls st0) (rest.map (am_v (am_xa x))) (am_Qc (am_Dg x) (am_c3 x) (am_ba x) (am_tt x) (am_sc x) ro y' g' w' a) (fun q => am_ba x ≤ q))
    (kk : am_Ev x nL (cs.1 + rm.cells, cs.2 + rm.slots) Q (pc + 3) L (ro.toList ++ rest) y' g' w') : W (am_p x) (am_la x) (am_en x) (am_R x) (am_s x) (am_m x) (am_a x) (am_bw x) (am_me x) (am_c x) H locs cs.1 cs.2 Q (F0 (am_m x) pc ls st0) := by
  intro T hT X
  obtain ⟨v, st₀, t, T', L1, h0, X', hL, e1, e2, ⟨hv, hP', hz, hk⟩, stp⟩ := hr T hT X
  rw [h0] at hz hk
  have hv2 : v = ro.map (am_v (am_xa x)) := by cases hv; rfl
  subst hv2
  have hS' : va_S (fun q => am_ba x ≤ q) (am_s x).heap T'.heap (locs ++ L1) := ⟨Nat.le_trans hS.1 (by rw [e1]; exact hz), fun q h1 h2 => by rw [e1, hk q (Nat.lt_of_lt_of_le h1 hS.1) h2]; exact hS.2.1 q h1 h2, fun q hq => by
    rcases List.mem_append.mp hq with h | h
    · exact hS.2.2 q h
    · exact hL q h⟩
  have hst : (ro.map (am_v (am_xa x))).toList ++ rest.map (am_v (am_xa x)) = (ro.toList ++ rest).map (am_v (am_xa x)) := by cases ro <;> simp
  have k2 := kk T'.heap (locs ++ L1) ls (by rw [e1]; exact hP') hS' hl T' rfl X'
  rw [← hst] at k2
  obtain ⟨t2, a1, b1⟩ := k2
  exact ⟨t2, stp t2 a1, b1⟩
theorem am_goodC (hc : am_cw mi ∈ am_tbl) : GoodIn am_tbl (am_cw mi :: am_tbl) := fun w hw => by
  rcases List.mem_cons.mp hw with rfl | h
  · exact am_goodIn _ hc
  · exact am_goodIn _ h
theorem am_rm_ok {R : Room} (h : am_rm R mi rm cs = true) : (rm.frames + 1 ≤ R.frames ∧ 8 + (mi.2.2.1 + 11) + rm.locals ≤ R.locals) ∧ cs.1 + rm.cells ≤ R.cells ∧ cs.2 + rm.slots ≤ R.slots := by
  simp only [am_rm, Bool.and_eq_true, decide_eq_true_eq] at h
  exact ⟨⟨h.1, h.2.1⟩, h.2.2.1, h.2.2.2⟩
theorem am_sum (rest : List Value) : ((rest.map (am_v (am_xa x))).map fun v => v.category).sum = (rest.map fun v => v.category).sum := by
  rw [List.map_map]
  congr 1
  apply List.map_congr_left
  intro v _
  exact am_v_cat _ v
theorem am_callV {ci i : Nat} {ks : List am_Kd} {rest : List Value} (As : List Value) (C0 : am_Cx x own cc nL) (hy : y.length ≤ 98) (hw : am_wV own idx mi n) (hM : am_Met (am_la x) mi rm (.ref i :: As) y g w ro y' g' w') (hi : y[i]? = some (.inr (ci, ks))) (hci : ci < 9) (hcl : am_Rc ci = mi.1.cls) (hR : am_rm (am_R x) mi rm cs = true) (hn : As.length = n) (hst : st = As.reverse ++ .ref i :: rest) (hsum : (rest.map fun v => v.category).sum ≤ 8) (hd : am_dec cc pc (.invokevirtual idx) 3 = true)
    (kk : am_Ev x nL (cs.1 + rm.cells, cs.2 + rm.slots) Q (pc + 3) L (ro.toList ++ rest) y' g' w') : am_Ev x nL cs Q pc L st y g w := by
  intro H locs ls hP hS hl
  obtain ⟨⟨w1, w2, w3, w4, w5⟩, d1, d2, d3⟩ := hw
  obtain ⟨r1, r2⟩ := am_rm_ok hR
  subst hst
  have ha : am_xa x i = am_ba x + i := am_ad_lt (List.getElem?_eq_some_iff.mp hi).1 hy
  have hT : GoodIn am_tbl (wsV (am_cn own) idx mi.1.cls mi.1 (am_cw mi :: am_tbl)) := fun z hz => by
    rcases List.mem_append.mp hz with h | h
    · simp only [List.mem_cons, List.not_mem_nil, or_false] at h
      rcases h with rfl | rfl | rfl | rfl
      · exact am_goodIn _ w1
      · exact am_goodIn _ w2
      · exact am_goodIn _ w3
      · exact am_goodIn _ w4
    · exact am_goodC w5 z h
  have hrec := va_recv C0.hK hP.2 (am_clc ci hci) (am_w_at (c3 := am_c3 x) (ad := am_xa x) (base := am_ba x) (g := g) (w := w) hi)
  refine am_fin hS hl (va_runV (nL := nL) (Ts := am_tbl) (As := As.map (am_v (am_xa x))) (b := am_ba x + i) (C := mi.1.cls) ⟨C0.hx, C0.hb, C0.hml, C0.hown, C0.hts⟩ (hM (am_Dg x) (am_c3 x) (am_ba x) (am_tt x) (am_sc x)) (cwV n C0.hts hT rfl rfl rfl ⟨rfl, d1, d2, d3⟩ r1) ⟨am_blind, by rw [← hcl]; exact hrec, fun U hU hW => ?_⟩ rfl (by rw [List.length_map]; exact hn) hl.1 (by simp [am_v, ha]) (lv_room (by rw [am_sum]; exact hsum)) (am_dec_ok hd) r2) kk
  have := am_pre C0 hP hS (.ref i :: As) U hU hW
  simpa [am_v, ha] using this
theorem am_callS {rest : List Value} (As : List Value) (C0 : am_Cx x own cc nL) (hw : am_wS own idx mi n) (hM : am_Met (am_la x) mi rm As y g w ro y' g' w') (hR : am_rm (am_R x) mi rm cs = true) (hn : As.length = n) (hst : st = As.reverse ++ rest) (hsum : (rest.map fun v => v.category).sum ≤ 8) (hd : am_dec cc pc (.invokestatic idx) 3 = true)
    (kk : am_Ev x nL (cs.1 + rm.cells, cs.2 + rm.slots) Q (pc + 3) L (ro.toList ++ rest) y' g' w') : am_Ev x nL cs Q pc L st y g w := by
  intro H locs ls hP hS hl
  obtain ⟨⟨w1, w2, w3, w5⟩, d1, d2, d3⟩ := hw
  obtain ⟨r1, r2⟩ := am_rm_ok hR
  subst hst
  have hT : GoodIn am_tbl (va_wsS (am_cn own) idx mi.1 (am_cw mi :: am_tbl)) := fun z hz => by
    rcases List.mem_append.mp hz with h | h
    · simp only [List.mem_cons, List.not_mem_nil, or_false] at h
      rcases h with rfl | rfl | rfl
      · exact am_goodIn _ w1
      · exact am_goodIn _ w2
      · exact am_goodIn _ w3
    · exact am_goodC w5 z h
  exact am_fin hS hl (va_runS (nL := nL) (Ts := am_tbl) (As := As.map (am_v (am_xa x))) ⟨C0.hx, C0.hb, C0.hml, C0.hown, C0.hts⟩ (hM (am_Dg x) (am_c3 x) (am_ba x) (am_tt x) (am_sc x)) (va_cwS n C0.hts hT rfl rfl rfl ⟨d1, d2, d3⟩ r1) ⟨am_blind, am_pre C0 hP hS As⟩ rfl (by rw [List.length_map]; exact hn) hl.1 (by simp) (lv_room (by rw [am_sum]; exact hsum)) (am_dec_ok hd) r2) kk
theorem am_callSN {rest : List Value} (As : List Value) (C0 : am_Cx x own cc nL) (hw : am_wSN own idx mi n) (hM : am_Met (am_la x) mi rm As y g w ro y' g' w') (hR : am_rm (am_R x) mi rm cs = true) (hn : As.length = n) (hst : st = As.reverse ++ rest) (hsum : (rest.map fun v => v.category).sum ≤ 8) (hd : am_dec cc pc (.invokestatic idx) 3 = true)
    (kk : am_Ev x nL (cs.1 + rm.cells, cs.2 + rm.slots) Q (pc + 3) L (ro.toList ++ rest) y' g' w') : am_Ev x nL cs Q pc L st y g w := by
  intro H locs ls hP hS hl
  obtain ⟨⟨⟨pp, w1⟩, w2, w3, w5⟩, d1, d2, d3⟩ := hw
  obtain ⟨r1, r2⟩ := am_rm_ok hR
  subst hst
  exact am_fin hS hl (va_runSN (nL := nL) (Ts := am_tbl) (As := As.map (am_v (am_xa x))) ⟨C0.hx, C0.hb, C0.hml, C0.hown, C0.hts⟩ (hM (am_Dg x) (am_c3 x) (am_ba x) (am_tt x) (am_sc x)) ⟨va_cnB n C0.hts (am_goodC w5) rfl rfl rfl (C0.hN _ w1) (C0.hts _ w3) ⟨d1, d2, d3⟩ r1, C0.hts _ w2, trivial⟩ ⟨am_blind, am_pre C0 hP hS As⟩ rfl (by rw [List.length_map]; exact hn) hl.1 (by simp) (lv_room (by rw [am_sum]; exact hsum)) (am_dec_ok hd) r2) kk
theorem am_callI {i : Nat} {rest : List Value} (As : List Value) (C0 : am_Cx x own cc nL) (hilt : i < y.length) (hy : y.length ≤ 98) (hw : am_wI own idx mi n) (hM : am_Met (am_la x) mi rm (.ref i :: As) y g w none y' g' w') (hR : am_rm (am_R x) mi rm cs = true) (hn : As.length = n) (hst : st = As.reverse ++ .ref i :: rest) (hsum : (rest.map fun v => v.category).sum ≤ 8) (hd : am_dec cc pc (.invokespecial idx) 3 = true)
    (kk : am_Ev x nL (cs.1 + rm.cells, cs.2 + rm.slots) Q (pc + 3) L rest y' g' w') : am_Ev x nL cs Q pc L st y g w := by
  intro H locs ls hP hS hl
  obtain ⟨⟨w1, w2, w3, w5⟩, i1, i2, d1, d2, d3⟩ := hw
  obtain ⟨r1, r2⟩ := am_rm_ok hR
  subst hst
  have ha : am_xa x i = am_ba x + i := am_ad_lt hilt hy
  refine am_fin (ro := none) hS hl (va_runI (nL := nL) (Ts := am_tbl) (As := As.map (am_v (am_xa x))) (b := am_ba x + i) ⟨C0.hx, C0.hb, C0.hml, C0.hown, C0.hts⟩ (hM (am_Dg x) (am_c3 x) (am_ba x) (am_tt x) (am_sc x)) (cwI n C0.hts (am_goodC w5) (by show am_cw mi :: am_tbl = _; unfold am_cw; rw [i2]) rfl rfl (C0.hts _ w3) (C0.hts _ w1) (C0.hts _ w2) i1 ⟨d1, d2, d3⟩ r1) ⟨am_blind, fun U hU hW => ?_⟩ rfl (by rw [List.length_map]; exact hn) hl.1 (by simp [am_v, ha]) (lv_room (by rw [am_sum]; exact hsum)) (am_dec_ok hd) r2) kk
  have := am_pre C0 hP hS (.ref i :: As) U hU hW
  simpa [am_v, ha] using this
theorem am_callIN {i : Nat} {rest : List Value} (As : List Value) (C0 : am_Cx x own cc nL) (hilt : i < y.length) (hy : y.length ≤ 98) (hw : am_wIN own idx mi n) (hM : am_Met (am_la x) mi rm (.ref i :: As) y g w none y' g' w') (hR : am_rm (am_R x) mi rm cs = true) (hn : As.length = n) (hst : st = As.reverse ++ .ref i :: rest) (hsum : (rest.map fun v => v.category).sum ≤ 8) (hd : am_dec cc pc (.invokespecial idx) 3 = true)
    (kk : am_Ev x nL (cs.1 + rm.cells, cs.2 + rm.slots) Q (pc + 3) L rest y' g' w') : am_Ev x nL cs Q pc L st y g w := by
  intro H locs ls hP hS hl
  obtain ⟨⟨⟨pp, w1⟩, w2, w3, w5⟩, i1, i2, d1, d2, d3⟩ := hw
  obtain ⟨r1, r2⟩ := am_rm_ok hR
  subst hst
  have ha : am_xa x i = am_ba x + i := am_ad_lt hilt hy
  refine am_fin (ro := none) hS hl (va_runIN (nL := nL) (Ts := am_tbl) (As := As.map (am_v (am_xa x))) (b := am_ba x + i) ⟨C0.hx, C0.hb, C0.hml, C0.hown, C0.hts⟩ (hM (am_Dg x) (am_c3 x) (am_ba x) (am_tt x) (am_sc x)) ⟨va_cnB n C0.hts (am_goodC w5) (by show am_cw mi :: am_tbl = _; unfold am_cw; rw [i2]) rfl rfl (C0.hN _ w1) (C0.hts _ w3) ⟨d1, d2, d3⟩ r1, i1, C0.hts _ w2⟩ ⟨am_blind, fun U hU hW => ?_⟩ rfl (by rw [List.length_map]; exact hn) hl.1 (by simp [am_v, ha]) (lv_room (by rw [am_sum]; exact hsum)) (am_dec_ok hd) r2) kk
  have := am_pre C0 hP hS (.ref i :: As) U hU hW
  simpa [am_v, ha] using this
end AMC
