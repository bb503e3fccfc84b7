/-! CALLS -/
/-- the words of a call of an object's own method -/
def am_wV (own idx : Nat) (mi : am_MI) (n : Nat) : Prop := (Cond.methodLink (am_cn own) idx mi.1 ∈ am_tbl ∧ Cond.instanceMethod mi.1 ∈ am_tbl ∧ Cond.selects mi.1.cls mi.1 mi.1 ∈ am_tbl ∧ Cond.initialized mi.1.cls ∈ am_tbl ∧ am_cw mi ∈ am_tbl) ∧ mi.1.cls ≠ "java/lang/invoke/MethodHandle" ∧ mi.1.cls ≠ "java/lang/invoke/VarHandle" ∧ (parseMethodDescriptor mi.1.desc).map (fun d => d.parameters.length) = some n
def am_wS (own idx : Nat) (mi : am_MI) (n : Nat) : Prop := (Cond.methodLink (am_cn own) idx mi.1 ∈ am_tbl ∧ Cond.static mi.1 ∈ am_tbl ∧ Cond.initialized mi.1.cls ∈ am_tbl ∧ am_cw mi ∈ am_tbl) ∧ mi.1.cls ≠ "java/lang/invoke/MethodHandle" ∧ mi.1.cls ≠ "java/lang/invoke/VarHandle" ∧ (parseMethodDescriptor mi.1.desc).map (fun d => d.parameters.length) = some n
def am_wI (own idx : Nat) (mi : am_MI) (n : Nat) : Prop := (Cond.methodLink (am_cn own) idx mi.1 ∈ am_tbl ∧ Cond.instanceMethod mi.1 ∈ am_tbl ∧ Cond.initialized mi.1.cls ∈ am_tbl ∧ am_cw mi ∈ am_tbl) ∧ mi.1.name = "<init>" ∧ mi.2.2.2 = none ∧ mi.1.cls ≠ "java/lang/invoke/MethodHandle" ∧ mi.1.cls ≠ "java/lang/invoke/VarHandle" ∧ (parseMethodDescriptor mi.1.desc).map (fun d => d.parameters.length) = some n
/-- a private static method of a nest mate; a private constructor of one -/
def am_wSN (own idx : Nat) (mi : am_MI) (n : Nat) : Prop := ((∃ p, (own, idx, mi.1, p) ∈ am_nst) ∧ Cond.static mi.1 ∈ am_tbl ∧ Cond.initialized mi.1.cls ∈ am_tbl ∧ am_cw mi ∈ am_tbl) ∧ mi.1.cls ≠ "java/lang/invoke/MethodHandle" ∧ mi.1.cls ≠ "java/lang/invoke/VarHandle" ∧ (parseMethodDescriptor mi.1.desc).map (fun d => d.parameters.length) = some n
def am_wIN (own idx : Nat) (mi : am_MI) (n : Nat) : Prop := ((∃ p, (own, idx, mi.1, p) ∈ am_nst) ∧ Cond.instanceMethod mi.1 ∈ am_tbl ∧ Cond.initialized mi.1.cls ∈ am_tbl ∧ am_cw mi ∈ am_tbl) ∧ mi.1.name = "<init>" ∧ mi.2.2.2 = none ∧ mi.1.cls ≠ "java/lang/invoke/MethodHandle" ∧ mi.1.cls ≠ "java/lang/invoke/VarHandle" ∧ (parseMethodDescriptor mi.1.desc).map (fun d => d.parameters.length) = some n
theorem am_at {w : Cond} (i : Nat) (h : lw_tbl[i]? = some w) (hg : goodWord w = true) : w ∈ am_tbl := am_tbl_in (List.mem_of_getElem? h) hg
/-- the words at their places -/
def am_pl : List (Nat × Cond) → Bool
  | [] => true
  | q :: r => decide (lw_tbl[q.1]? = some q.2) && (goodWord q.2 && am_pl r)
theorem am_pl_ok : ∀ {l : List (Nat × Cond)}, am_pl l = true → ∀ q ∈ l, q.2 ∈ am_tbl
  | [], _, q, hq => by cases hq
  | a :: r, h, q, hq => by
    simp only [am_pl, Bool.and_eq_true, decide_eq_true_eq] at h
    rcases List.mem_cons.mp hq with rfl | hq
    · exact am_at _ h.1 h.2.1
    · exact am_pl_ok h.2.2 q hq
def am_nd (mi : am_MI) (n : Nat) : Bool := decide (mi.1.cls ≠ "java/lang/invoke/MethodHandle") && (decide (mi.1.cls ≠ "java/lang/invoke/VarHandle") && decide ((parseMethodDescriptor mi.1.desc).map (fun d => d.parameters.length) = some n))
theorem am_wV.mk {own idx : Nat} {mi : am_MI} {n : Nat} (a b c d e : Nat) (h : am_pl [(a, .methodLink (am_cn own) idx mi.1), (b, .instanceMethod mi.1), (c, .selects mi.1.cls mi.1 mi.1), (d, .initialized mi.1.cls), (e, am_cw mi)] = true) (hd : am_nd mi n = true) : am_wV own idx mi n := by
  have h1 := am_pl_ok h
  simp only [am_nd, Bool.and_eq_true, decide_eq_true_eq] at hd
  exact ⟨⟨h1 (a, _) (by simp), h1 (b, _) (by simp), h1 (c, _) (by simp), h1 (d, _) (by simp), h1 (e, _) (by simp)⟩, hd⟩
theorem am_wS.mk {own idx : Nat} {mi : am_MI} {n : Nat} (a b d e : Nat) (h : am_pl [(a, .methodLink (am_cn own) idx mi.1), (b, .static mi.1), (d, .initialized mi.1.cls), (e, am_cw mi)] = true) (hd : am_nd mi n = true) : am_wS own idx mi n := by
  have h1 := am_pl_ok h
  simp only [am_nd, Bool.and_eq_true, decide_eq_true_eq] at hd
  exact ⟨⟨h1 (a, _) (by simp), h1 (b, _) (by simp), h1 (d, _) (by simp), h1 (e, _) (by simp)⟩, hd⟩
theorem am_wI.mk {own idx : Nat} {mi : am_MI} {n : Nat} (a b d e : Nat) (h : am_pl [(a, .methodLink (am_cn own) idx mi.1), (b, .instanceMethod mi.1), (d, .initialized mi.1.cls), (e, am_cw mi)] = true) (hi : mi.1.name = "<init>") (hr : mi.2.2.2 = none) (hd : am_nd mi n = true) : am_wI own idx mi n := by
  have h1 := am_pl_ok h
  simp only [am_nd, Bool.and_eq_true, decide_eq_true_eq] at hd
  exact ⟨⟨h1 (a, _) (by simp), h1 (b, _) (by simp), h1 (d, _) (by simp), h1 (e, _) (by simp)⟩, hi, hr, hd⟩
theorem am_wSN.mk {own idx : Nat} {mi : am_MI} {n : Nat} (p k b d e : Nat) (hp : am_nst[k]? = some (own, idx, mi.1, p)) (h : am_pl [(b, .static mi.1), (d, .initialized mi.1.cls), (e, am_cw mi)] = true) (hd : am_nd mi n = true) : am_wSN own idx mi n := by
  have h1 := am_pl_ok h
  simp only [am_nd, Bool.and_eq_true, decide_eq_true_eq] at hd
  exact ⟨⟨⟨p, List.mem_of_getElem? hp⟩, h1 (b, _) (by simp), h1 (d, _) (by simp), h1 (e, _) (by simp)⟩, hd⟩
theorem am_wIN.mk {own idx : Nat} {mi : am_MI} {n : Nat} (p k b d e : Nat) (hp : am_nst[k]? = some (own, idx, mi.1, p)) (h : am_pl [(b, .instanceMethod mi.1), (d, .initialized mi.1.cls), (e, am_cw mi)] = true) (hi : mi.1.name = "<init>") (hr : mi.2.2.2 = none) (hd : am_nd mi n = true) : am_wIN own idx mi n := by
  have h1 := am_pl_ok h
  simp only [am_nd, Bool.and_eq_true, decide_eq_true_eq] at hd
  exact ⟨⟨⟨p, List.mem_of_getElem? hp⟩, h1 (b, _) (by simp), h1 (d, _) (by simp), h1 (e, _) (by simp)⟩, hi, hr, hd⟩
