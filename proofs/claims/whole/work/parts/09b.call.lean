def am_rm (R : Room) (mi : am_MI) (rm : Room) (cs : Nat × Nat) : Bool := decide (rm.frames + 1 ≤ R.frames) && (decide (8 + (mi.2.2.1 + 11) + rm.locals ≤ R.locals) && (decide (cs.1 + rm.cells ≤ R.cells) && decide (cs.2 + rm.slots ≤ R.slots)))
section AMC
variable {x : am_X} {own : Nat} {cc : ByteArray} {nL : Nat} {cs : Nat × Nat} {Q : State → Prop} {pc : Nat} {L L' : List (Option Value)} {st st' : List Value} {y y' : am_Y} {g g' : am_G} {w w' : am_J} {ret : Option FieldType}
variable {mi : am_MI} {rm : Room} {idx n : Nat} {ro : Option Value}
theorem am_blind {D : va_G} {c3 : ClassId × ClassId × ClassId} {base tt b : Nat} {av : List Value} : FrameBlind (am_Pc D c3 base tt b av y g w) := by
  intro a U fr mk q
  obtain ⟨q0, q1, q2, q3, q4⟩ := q
  exact ⟨q0, q1, va_K.moved (u := U) (U := U.calling fr mk a) (Vm.Alike.refl U.vm) q2, q3, fun z hz => va_Nw.same (u := U) (U := U.calling fr mk a) rfl rfl (q4 z hz)⟩
theorem am_pre (C0 : am_Cx x own cc nL) {H : Heap} {locs : List Loc} (hP : am_P (am_Dg x) (am_c3 x) (am_ba x) (am_tt x) (am_sc x) y g w H) (hS : va_S (fun q => am_ba x ≤ q) (am_s x).heap H locs) (av : List Value) :
    ∀ U : State, U.heap = H → (am_s x).WarmedH U.vm → am_Pc (am_Dg x) (am_c3 x) (am_ba x) (am_tt x) (am_sc x) av y g w (av.map (am_v (am_xa x))).toArray U :=
  fun U hU hW => ⟨rfl, by rw [hU]; exact hP, va_K.moved hW.alike C0.hK, C0.hT.go hS hU hW.alike, C0.hN.warm hW⟩
theorem am_fin {H : Heap} {locs : List Loc} {ls : Array Slot} {st0 rest : List Value} {a : Array Value} (hS : va_S (fun q => am_ba x ≤ q) (am_s x).heap H locs) (hl : am_l (am_xa x) ls nL L)
    (hr : va_Run (am_p x) (am_la x) (am_en x) (am_R x) (am_s x) (am_m x) (am_a x) (am_bw x) (am_me x) (am_c x) H locs cs.1 cs.2 rm.cells rm.slots (F0 (am_m x) pc ls st0) (rest.map (am_v (am_xa x))) (am_Qc (am_Dg x) (am_c3 x) (am_ba x) (am_tt x) (am_sc x) ro y' g' w' a) (fun q => am_ba x ≤ q))
    (kk : am_Ev x nL (cs.1 + rm.cells, cs.2 + rm.slots) Q (pc + 3) L (ro.toList ++ rest) y' g' w') : W (am_p x) (am_la x) (am_en x) (am_R x) (am_s x) (am_m x) (am_a x) (am_bw x) (am_me x) (am_c x) H locs cs.1 cs.2 Q (F0 (am_m x) pc ls st0) := by
  intro T hT X
  obtain ⟨v, st₀, t, T', L1, h0, X', hL, e1, e2, ⟨hv, hP', hz, hk⟩, stp⟩ := hr T hT X
  rw [h0] at hz hk
  have hv2 : v = ro.map (am_v (am_xa x)) := by cases hv; rfl
  subst hv2
  have hS' : va_S (fun q => am_ba x ≤ q) (am_s x).heap T'.heap (locs ++ L1) := ⟨Nat.le_trans hS.1 (by rw [e1]; exact hz), fun q h1 h2 => by rw [e1, hk q (Nat.lt_of_lt_of_le h1 hS.1) h2]; exact hS.2.1 q h1 h2, fun q hq => by
    rcases List.mem_append.mp hq with h | h
    · exact hS.2.2 q h
    · exact hL q h⟩
  have hst : (ro.map (am_v (am_xa x))).toList ++ rest.map (am_v (am_xa x)) = (ro.toList ++ rest).map (am_v (am_xa x)) := by cases ro <;> simp
  have k2 := kk T'.heap (locs ++ L1) ls (by rw [e1]; exact hP') hS' hl T' rfl X'
  rw [← hst] at k2
  obtain ⟨t2, a1, b1⟩ := k2
  exact ⟨t2, stp t2 a1, b1⟩
theorem am_goodC (hc : am_cw mi ∈ am_tbl) : GoodIn am_tbl (am_cw mi :: am_tbl) := fun w hw => by
  rcases List.mem_cons.mp hw with rfl | h
  · exact am_goodIn _ hc
  · exact am_goodIn _ h
theorem am_rm_ok {R : Room} (h : am_rm R mi rm cs = true) : (rm.frames + 1 ≤ R.frames ∧ 8 + (mi.2.2.1 + 11) + rm.locals ≤ R.locals) ∧ cs.1 + rm.cells ≤ R.cells ∧ cs.2 + rm.slots ≤ R.slots := by
  simp only [am_rm, Bool.and_eq_true, decide_eq_true_eq] at h
  exact ⟨⟨h.1, h.2.1⟩, h.2.2.1, h.2.2.2⟩
theorem am_sum (rest : List Value) : ((rest.map (am_v (am_xa x))).map fun v => v.category).sum = (rest.map fun v => v.category).sum := by
  rw [List.map_map]
  congr 1
  apply List.map_congr_left
  intro v _
  exact am_v_cat _ v
end AMC
