section AMC2
variable {x : am_X} {own : Nat} {cc : ByteArray} {nL : Nat} {cs : Nat × Nat} {Q : State → Prop} {pc : Nat} {L L' : List (Option Value)} {st st' : List Value} {y y' : am_Y} {g g' : am_G} {w w' : am_J} {ret : Option FieldType}
variable {mi : am_MI} {rm : Room} {idx n : Nat} {ro : Option Value}
theorem am_callV {ci i : Nat} {ks : List am_Kd} {rest : List Value} (As : List Value) (C0 : am_Cx x own cc nL) (hy : y.length ≤ 98) (hw : am_wV own idx mi n) (hM : am_Met (am_la x) mi rm (.ref i :: As) y g w ro y' g' w') (hi : y[i]? = some (.inr (ci, ks))) (hci : ci < 9) (hcl : am_Rc ci = mi.1.cls) (hR : am_rm (am_R x) mi rm cs = true) (hn : As.length = n) (hst : st = As.reverse ++ .ref i :: rest) (hsum : (rest.map fun v => v.category).sum ≤ 8) (hd : am_dec cc pc (.invokevirtual idx) 3 = true)
    (kk : am_Ev x nL (cs.1 + rm.cells, cs.2 + rm.slots) Q (pc + 3) L (ro.toList ++ rest) y' g' w') : am_Ev x nL cs Q pc L st y g w := by
  intro H locs ls hP hS hl
  obtain ⟨⟨w1, w2, w3, w4, w5⟩, d1, d2, d3⟩ := hw
  obtain ⟨r1, r2⟩ := am_rm_ok hR
  subst hst
  have ha : am_xa x i = am_ba x + i := am_ad_lt (List.getElem?_eq_some_iff.mp hi).1 hy
  have hT : GoodIn am_tbl (wsV (am_cn own) idx mi.1.cls mi.1 (am_cw mi :: am_tbl)) := fun z hz => by
    rcases List.mem_append.mp hz with h | h
    · simp only [List.mem_cons, List.not_mem_nil, or_false] at h
      rcases h with rfl | rfl | rfl | rfl
      · exact am_goodIn _ w1
      · exact am_goodIn _ w2
      · exact am_goodIn _ w3
      · exact am_goodIn _ w4
    · exact am_goodC w5 z h
  have hrec := va_recv C0.hK hP.2 (am_clc ci hci) (am_w_at (c3 := am_c3 x) (ad := am_xa x) (base := am_ba x) (g := g) (w := w) hi)
  refine am_fin hS hl (va_runV (nL := nL) (Ts := am_tbl) (As := As.map (am_v (am_xa x))) (b := am_ba x + i) (C := mi.1.cls) ⟨C0.hx, C0.hb, C0.hml, C0.hown, C0.hts⟩ (hM (am_Dg x) (am_c3 x) (am_ba x) (am_tt x) (am_sc x)) (cwV n C0.hts hT rfl rfl rfl ⟨rfl, d1, d2, d3⟩ r1) ⟨am_blind, by rw [← hcl]; exact hrec, fun U hU hW => ?_⟩ rfl (by rw [List.length_map]; exact hn) hl.1 (by simp [am_v, ha]) (lv_room (by rw [am_sum]; exact hsum)) (am_dec_ok hd) r2) kk
  have := am_pre C0 hP hS (.ref i :: As) U hU hW
  simpa [am_v, ha] using this
end AMC2
