section AMC3
variable {x : am_X} {own : Nat} {cc : ByteArray} {nL : Nat} {cs : Nat × Nat} {Q : State → Prop} {pc : Nat} {L L' : List (Option Value)} {st st' : List Value} {y y' : am_Y} {g g' : am_G} {w w' : am_J} {ret : Option FieldType}
variable {mi : am_MI} {rm : Room} {idx n : Nat} {ro : Option Value}
theorem am_callS {rest : List Value} (As : List Value) (C0 : am_Cx x own cc nL) (hw : am_wS own idx mi n) (hM : am_Met (am_la x) mi rm As y g w ro y' g' w') (hR : am_rm (am_R x) mi rm cs = true) (hn : As.length = n) (hst : st = As.reverse ++ rest) (hsum : (rest.map fun v => v.category).sum ≤ 8) (hd : am_dec cc pc (.invokestatic idx) 3 = true)
    (kk : am_Ev x nL (cs.1 + rm.cells, cs.2 + rm.slots) Q (pc + 3) L (ro.toList ++ rest) y' g' w') : am_Ev x nL cs Q pc L st y g w := by
  intro H locs ls hP hS hl
  obtain ⟨⟨w1, w2, w3, w5⟩, d1, d2, d3⟩ := hw
  obtain ⟨r1, r2⟩ := am_rm_ok hR
  subst hst
  have hT : GoodIn am_tbl (va_wsS (am_cn own) idx mi.1 (am_cw mi :: am_tbl)) := fun z hz => by
    rcases List.mem_append.mp hz with h | h
    · simp only [List.mem_cons, List.not_mem_nil, or_false] at h
      rcases h with rfl | rfl | rfl
      · exact am_goodIn _ w1
      · exact am_goodIn _ w2
      · exact am_goodIn _ w3
    · exact am_goodC w5 z h
  exact am_fin hS hl (va_runS (nL := nL) (Ts := am_tbl) (As := As.map (am_v (am_xa x))) ⟨C0.hx, C0.hb, C0.hml, C0.hown, C0.hts⟩ (hM (am_Dg x) (am_c3 x) (am_ba x) (am_tt x) (am_sc x)) (va_cwS n C0.hts hT rfl rfl rfl ⟨d1, d2, d3⟩ r1) ⟨am_blind, am_pre C0 hP hS As⟩ rfl (by rw [List.length_map]; exact hn) hl.1 (by simp) (lv_room (by rw [am_sum]; exact hsum)) (am_dec_ok hd) r2) kk
theorem am_callSN {rest : List Value} (As : List Value) (C0 : am_Cx x own cc nL) (hw : am_wSN own idx mi n) (hM : am_Met (am_la x) mi rm As y g w ro y' g' w') (hR : am_rm (am_R x) mi rm cs = true) (hn : As.length = n) (hst : st = As.reverse ++ rest) (hsum : (rest.map fun v => v.category).sum ≤ 8) (hd : am_dec cc pc (.invokestatic idx) 3 = true)
    (kk : am_Ev x nL (cs.1 + rm.cells, cs.2 + rm.slots) Q (pc + 3) L (ro.toList ++ rest) y' g' w') : am_Ev x nL cs Q pc L st y g w := by
  intro H locs ls hP hS hl
  obtain ⟨⟨⟨pp, w1⟩, w2, w3, w5⟩, d1, d2, d3⟩ := hw
  obtain ⟨r1, r2⟩ := am_rm_ok hR
  subst hst
  exact am_fin hS hl (va_runSN (nL := nL) (Ts := am_tbl) (As := As.map (am_v (am_xa x))) ⟨C0.hx, C0.hb, C0.hml, C0.hown, C0.hts⟩ (hM (am_Dg x) (am_c3 x) (am_ba x) (am_tt x) (am_sc x)) ⟨va_cnB n C0.hts (am_goodC w5) rfl rfl rfl (C0.hN _ w1) (C0.hts _ w3) ⟨d1, d2, d3⟩ r1, C0.hts _ w2, trivial⟩ ⟨am_blind, am_pre C0 hP hS As⟩ rfl (by rw [List.length_map]; exact hn) hl.1 (by simp) (lv_room (by rw [am_sum]; exact hsum)) (am_dec_ok hd) r2) kk
theorem am_callI {i : Nat} {rest : List Value} (As : List Value) (C0 : am_Cx x own cc nL) (hilt : i < y.length) (hy : y.length ≤ 98) (hw : am_wI own idx mi n) (hM : am_Met (am_la x) mi rm (.ref i :: As) y g w none y' g' w') (hR : am_rm (am_R x) mi rm cs = true) (hn : As.length = n) (hst : st = As.reverse ++ .ref i :: rest) (hsum : (rest.map fun v => v.category).sum ≤ 8) (hd : am_dec cc pc (.invokespecial idx) 3 = true)
    (kk : am_Ev x nL (cs.1 + rm.cells, cs.2 + rm.slots) Q (pc + 3) L rest y' g' w') : am_Ev x nL cs Q pc L st y g w := by
  intro H locs ls hP hS hl
  obtain ⟨⟨w1, w2, w3, w5⟩, i1, i2, d1, d2, d3⟩ := hw
  obtain ⟨r1, r2⟩ := am_rm_ok hR
  obtain ⟨nm, bc, mL, rt⟩ := mi
  have i2 : rt = none := i2
  subst i2
  have hG : GoodIn am_tbl (Cond.code nm bc mL none :: am_tbl) := am_goodC (mi := (nm, bc, mL, none)) w5
  subst hst
  have ha : am_xa x i = am_ba x + i := am_ad_lt hilt hy
  refine am_fin (ro := none) hS hl (va_runI (y := nm) (bytes := bc) (maxL := mL) (ws := Cond.code nm bc mL none :: am_tbl) (nL := nL) (Ts := am_tbl) (As := As.map (am_v (am_xa x))) (b := am_ba x + i) ⟨C0.hx, C0.hb, C0.hml, C0.hown, C0.hts⟩ (hM (am_Dg x) (am_c3 x) (am_ba x) (am_tt x) (am_sc x)) (cwI n C0.hts hG rfl rfl rfl (C0.hts _ w3) (C0.hts _ w1) (C0.hts _ w2) i1 ⟨d1, d2, d3⟩ r1) ⟨am_blind, fun U hU hW => ?_⟩ rfl (by rw [List.length_map]; exact hn) hl.1 (by simp [am_v, ha]) (lv_room (by rw [am_sum]; exact hsum)) (am_dec_ok hd) r2) kk
  have := am_pre C0 hP hS (.ref i :: As) U hU hW
  simpa [am_v, ha] using this
theorem am_callIN {i : Nat} {rest : List Value} (As : List Value) (C0 : am_Cx x own cc nL) (hilt : i < y.length) (hy : y.length ≤ 98) (hw : am_wIN own idx mi n) (hM : am_Met (am_la x) mi rm (.ref i :: As) y g w none y' g' w') (hR : am_rm (am_R x) mi rm cs = true) (hn : As.length = n) (hst : st = As.reverse ++ .ref i :: rest) (hsum : (rest.map fun v => v.category).sum ≤ 8) (hd : am_dec cc pc (.invokespecial idx) 3 = true)
    (kk : am_Ev x nL (cs.1 + rm.cells, cs.2 + rm.slots) Q (pc + 3) L rest y' g' w') : am_Ev x nL cs Q pc L st y g w := by
  intro H locs ls hP hS hl
  obtain ⟨⟨⟨pp, w1⟩, w2, w3, w5⟩, i1, i2, d1, d2, d3⟩ := hw
  obtain ⟨r1, r2⟩ := am_rm_ok hR
  obtain ⟨nm, bc, mL, rt⟩ := mi
  have i2 : rt = none := i2
  subst i2
  have hG : GoodIn am_tbl (Cond.code nm bc mL none :: am_tbl) := am_goodC (mi := (nm, bc, mL, none)) w5
  subst hst
  have ha : am_xa x i = am_ba x + i := am_ad_lt hilt hy
  refine am_fin (ro := none) hS hl (va_runIN (y := nm) (bytes := bc) (maxL := mL) (ws := Cond.code nm bc mL none :: am_tbl) (nL := nL) (Ts := am_tbl) (As := As.map (am_v (am_xa x))) (b := am_ba x + i) ⟨C0.hx, C0.hb, C0.hml, C0.hown, C0.hts⟩ (hM (am_Dg x) (am_c3 x) (am_ba x) (am_tt x) (am_sc x)) ⟨va_cnB n C0.hts hG rfl rfl rfl (C0.hN _ w1) (C0.hts _ w3) ⟨d1, d2, d3⟩ r1, i1, C0.hts _ w2⟩ ⟨am_blind, fun U hU hW => ?_⟩ rfl (by rw [List.length_map]; exact hn) hl.1 (by simp [am_v, ha]) (lv_room (by rw [am_sum]; exact hsum)) (am_dec_ok hd) r2) kk
  have := am_pre C0 hP hS (.ref i :: As) U hU hW
  simpa [am_v, ha] using this
end AMC3
