/-! THE ABSTRACT STEP: a state of cells by number, locals, stack; a run of straight instructions as a function; its soundness over the machine -/
/-- a field: .inl 0 an int, .inl _ a long, .inr none null, .inr (some r) the cell r -/
abbrev am_Kd : Type := Nat ⊕ Option Nat
/-- a cell: .inl (t, n) an array of n (t: 0 int, 1 boolean, 2 long); .inr (ci, ks) an object -/
abbrev am_Sh : Type := (Nat × Nat) ⊕ (Nat × List am_Kd)
abbrev am_Y : Type := List am_Sh
abbrev am_G : Type := Nat → Nat → Int32
abbrev am_J : Type := Nat → Nat → Int64
abbrev am_AI : Type := Instr × Nat × Nat × Value
abbrev am_S : Type := List (Option Value) × List Value × am_G × am_J
/-- an index within -/
abbrev am_in (i : Int32) (n : Nat) : Prop := ¬ (i < 0 ∨ n ≤ i.toNatClampNeg)
def am_u (g : am_G) (i j : Nat) (v : Int32) : am_G := fun a => if a = i then upd (g i) j v else g a
def am_ul (w : am_J) (i j : Nat) (v : Int64) : am_J := fun a => if a = i then vp_updL (w i) j v else w a
def am_ad (base tt b i : Nat) : Nat := if i = 99 then tt else if i = 98 then b else base + i
def am_v (ad : Nat → Nat) (v : Value) : Value := match v with
  | .ref i => .ref (ad i)
  | v => v
def am_fv (g : am_G) (w : am_J) (i k : Nat) (d : am_Kd) : Value := match d with
  | .inl 0 => .int (g i k)
  | .inl _ => .long (w i k)
  | .inr none => .null
  | .inr (some r) => .ref r
def am_fs (ad : Nat → Nat) (g : am_G) (w : am_J) (i : Nat) (ks : List am_Kd) : List Value := ks.zipIdx.map (fun q => am_v ad (am_fv g w i q.2 q.1))
def am_e (c3 : ClassId × ClassId × ClassId) (ad : Nat → Nat) (g : am_G) (w : am_J) (i : Nat) (sh : am_Sh) : va_E := match sh with
  | .inl (0, n) => .inl (c3.1, n, .inl (g i))
  | .inl (1, n) => .inl (c3.2.1, n, .inl (g i))
  | .inl (_, n) => .inl (c3.2.2, n, .inr (.inl (w i)))
  | .inr (ci, ks) => .inr (ci, am_fs ad g w i ks)
def am_w (c3 : ClassId × ClassId × ClassId) (ad : Nat → Nat) (base : Nat) (y : am_Y) (g : am_G) (w : am_J) : va_W := y.zipIdx.map (fun q => (base + q.2, am_e c3 ad g w q.2 q.1))
def am_ty (c3 : ClassId × ClassId × ClassId) : List (ClassId × FieldType) := [(c3.1, .int), (c3.2.1, .boolean), (c3.2.2, .long)]
theorem am_w_at {c3 : ClassId × ClassId × ClassId} {ad : Nat → Nat} {base : Nat} {y : am_Y} {g : am_G} {w : am_J} {i : Nat} {sh : am_Sh} (h : y[i]? = some sh) : (am_w c3 ad base y g w)[i]? = some (base + i, am_e c3 ad g w i sh) := by
  simp [am_w, List.getElem?_map, List.getElem?_zipIdx, h]
theorem am_w_len {c3 : ClassId × ClassId × ClassId} {ad : Nat → Nat} {base : Nat} {y : am_Y} {g : am_G} {w : am_J} : (am_w c3 ad base y g w).length = y.length := by simp [am_w]
theorem am_w_inv {c3 : ClassId × ClassId × ClassId} {ad : Nat → Nat} {base : Nat} {y : am_Y} {g : am_G} {w : am_J} {i : Nat} {q : Nat × va_E} (h : (am_w c3 ad base y g w)[i]? = some q) : ∃ sh, y[i]? = some sh ∧ q = (base + i, am_e c3 ad g w i sh) := by
  simp only [am_w, List.getElem?_map, List.getElem?_zipIdx] at h
  cases hy : y[i]? with
  | none => rw [hy] at h; cases h
  | some sh =>
    rw [hy] at h
    refine ⟨sh, rfl, ?_⟩
    simpa using h.symm
theorem am_D {c3 : ClassId × ClassId × ClassId} {ad : Nat → Nat} {base : Nat} {y : am_Y} {g : am_G} {w : am_J} : va_D (fun q => base ≤ q) (am_w c3 ad base y g w) := by
  refine ⟨fun i j p q hp hq h => ?_, fun k q hq => ?_⟩
  · obtain ⟨_, -, rfl⟩ := am_w_inv hp
    obtain ⟨_, -, rfl⟩ := am_w_inv hq
    simp only at h
    omega
  · obtain ⟨_, -, rfl⟩ := am_w_inv hq
    show base ≤ base + k
    omega
theorem am_fs_at {ad : Nat → Nat} {g : am_G} {w : am_J} {i k : Nat} {ks : List am_Kd} {d : am_Kd} (h : ks[k]? = some d) : (am_fs ad g w i ks)[k]? = some (am_v ad (am_fv g w i k d)) := by
  simp [am_fs, List.getElem?_map, List.getElem?_zipIdx, h]
/-- one cell changed: the world of the new contents -/
theorem am_w_set {c3 : ClassId × ClassId × ClassId} {ad : Nat → Nat} {base : Nat} {y : am_Y} {g g' : am_G} {w w' : am_J} {i : Nat} {sh : am_Sh} {e : va_E} (h : y[i]? = some sh) (hg : ∀ a, a ≠ i → g' a = g a) (hw : ∀ a, a ≠ i → w' a = w a) (he : e = am_e c3 ad g' w' i sh) :
    (am_w c3 ad base y g w).set i (base + i, e) = am_w c3 ad base y g' w' := by
  subst he
  apply List.ext_getElem?
  intro k
  by_cases hk : k = i
  · subst hk
    have hl : k < (am_w c3 ad base y g w).length := by rw [am_w_len]; exact (List.getElem?_eq_some_iff.mp h).1
    rw [List.getElem?_set_self hl, am_w_at h]
  · rw [List.getElem?_set_ne (Ne.symm hk)]
    cases hy : y[k]? with
    | none =>
      have h1 : y.length ≤ k := by simpa using hy
      rw [List.getElem?_eq_none (by rw [am_w_len]; exact h1), List.getElem?_eq_none (by rw [am_w_len]; exact h1)]
    | some s2 =>
      rw [am_w_at hy, am_w_at hy]
      have e1 := hg k hk
      have e2 := hw k hk
      have : am_e c3 ad g w k s2 = am_e c3 ad g' w' k s2 := by
        cases s2 with
        | inl t =>
          obtain ⟨t, n⟩ := t
          match t with
          | 0 => simp [am_e, e1]
          | 1 => simp [am_e, e1]
          | (t + 2) => simp [am_e, e2]
        | inr o =>
          simp only [am_e, am_fs]
          congr 2
          apply List.map_congr_left
          intro q _
          obtain ⟨d, kk⟩ := q
          match d with
          | .inl 0 => simp [am_fv, e1]
          | .inl (z + 1) => simp [am_fv, e2]
          | .inr none => rfl
          | .inr (some r) => rfl
      rw [this]
theorem am_u_ne {g : am_G} {i j : Nat} {v : Int32} : ∀ a, a ≠ i → am_u g i j v a = g a := fun a h => by simp [am_u, h]
theorem am_ul_ne {w : am_J} {i j : Nat} {v : Int64} : ∀ a, a ≠ i → am_ul w i j v a = w a := fun a h => by simp [am_ul, h]
theorem am_u_at (g : am_G) (i j : Nat) (v : Int32) (a b : Nat) : am_u g i j v a b = if a = i ∧ b = j then v else g a b := by
  unfold am_u
  by_cases h : a = i
  · subst h
    by_cases h2 : b = j
    · simp [upd, h2]
    · simp [upd, h2]
  · simp [h]
theorem am_ul_at (w : am_J) (i j : Nat) (v : Int64) (a b : Nat) : am_ul w i j v a b = if a = i ∧ b = j then v else w a b := by
  unfold am_ul
  by_cases h : a = i
  · subst h
    by_cases h2 : b = j
    · simp [vp_updL, h2]
    · simp [vp_updL, h2]
  · simp [h]
/-- the locals: those that are listed are held -/
def am_l (ad : Nat → Nat) (ls : Array Slot) (nL : Nat) (L : List (Option Value)) : Prop := ls.size = nL ∧ lv_wf ls ∧ L.length ≤ nL ∧ ∀ (i : Nat) (v : Value), L[i]? = some (some v) → ls[i]? = some (.val (am_v ad v))
def am_as (ad : Nat → Nat) (L : List (Option Value)) : List (Nat × Value) := L.zipIdx.filterMap (fun q => q.1.map (fun v => (q.2, am_v ad v)))
theorem am_as_mem {ad : Nat → Nat} {L : List (Option Value)} {q : Nat × Value} : q ∈ am_as ad L ↔ ∃ v, L[q.1]? = some (some v) ∧ q.2 = am_v ad v := by
  constructor
  · intro h
    obtain ⟨⟨o, i⟩, h1, h2⟩ := List.mem_filterMap.mp h
    have h3 : L[i]? = some o := List.mem_zipIdx_iff_getElem?.mp h1
    cases o with
    | none => cases h2
    | some v =>
      simp only [Option.map_some, Option.some.injEq] at h2
      subst h2
      exact ⟨v, h3, rfl⟩
  · rintro ⟨v, h1, h2⟩
    refine List.mem_filterMap.mpr ⟨(some v, q.1), List.mem_zipIdx_iff_getElem?.mpr h1, ?_⟩
    simp [← h2]
theorem am_l.has {ad : Nat → Nat} {ls : Array Slot} {nL : Nat} {L : List (Option Value)} (h : am_l ad ls nL L) : lv_has ls nL (am_as ad L) :=
  ⟨h.1, h.2.1, fun q hq => by obtain ⟨v, h1, h2⟩ := am_as_mem.mp hq; rw [h2]; exact h.2.2.2 _ _ h1⟩
/-- a long before the place is no more held -/
def am_kill (L : List (Option Value)) (i : Nat) : List (Option Value) := match i with
  | 0 => L
  | j + 1 => match L[j]? with
    | some (some v) => if v.category = 2 then L.set j none else L
    | _ => L
def am_s1 (L : List (Option Value)) (i : Nat) (v : Value) : Option (List (Option Value)) := if i < L.length then some ((am_kill L i).set i (some v)) else none
def am_s2 (L : List (Option Value)) (i : Nat) (v : Value) : Option (List (Option Value)) := if i + 1 < L.length then some (((am_kill L i).set i (some v)).set (i + 1) none) else none
theorem am_kill_len (L : List (Option Value)) (i : Nat) : (am_kill L i).length = L.length := by
  unfold am_kill
  split
  · rfl
  · split
    · split <;> simp
    · rfl
theorem am_v_cat (ad : Nat → Nat) (v : Value) : (am_v ad v).category = v.category := by cases v <;> rfl
theorem am_kill_at {L : List (Option Value)} {i j : Nat} {v : Value} (h : (am_kill L i)[j]? = some (some v)) : L[j]? = some (some v) ∧ (j + 1 = i → v.category ≠ 2) := by
  unfold am_kill at h
  split at h
  · exact ⟨h, fun q => by omega⟩
  · rename_i i'
    split at h
    · rename_i v' hz
      split at h
      · rename_i hc
        by_cases hj : j = i'
        · subst hj
          have hl := (List.getElem?_eq_some_iff.mp hz).1
          rw [List.getElem?_set_self hl] at h
          cases h
        · rw [List.getElem?_set_ne (Ne.symm hj)] at h
          exact ⟨h, fun q => by omega⟩
      · rename_i hc
        refine ⟨h, fun q => ?_⟩
        have : j = i' := by omega
        subst this
        rw [hz] at h
        cases h
        exact hc
    · rename_i hz
      refine ⟨h, fun q => ?_⟩
      have : j = i' := by omega
      subst this
      exact absurd h (hz v)
theorem am_l.s1 {ad : Nat → Nat} {ls : Array Slot} {nL i : Nat} {L L' : List (Option Value)} {v : Value} (hlen : L.length ≤ nL) (hs : am_s1 L i v = some L') (h : lv_has ls nL ((i, am_v ad v) :: (am_as ad L).filter (fun q => !(q.1 == i) && !(q.1 + 1 == i && q.2.category == 2)))) : am_l ad ls nL L' := by
  unfold am_s1 at hs
  split at hs
  · rename_i hi
    cases hs
    refine ⟨h.1, h.2.1, by rw [List.length_set, am_kill_len]; exact hlen, fun j z hz => ?_⟩
    by_cases hj : j = i
    · subst hj
      rw [List.getElem?_set_self (by rw [am_kill_len]; exact hi)] at hz
      cases hz
      exact h.2.2 _ List.mem_cons_self
    · rw [List.getElem?_set_ne (Ne.symm hj)] at hz
      obtain ⟨h1, h2⟩ := am_kill_at hz
      refine h.2.2 (j, am_v ad z) (List.mem_cons_of_mem _ (List.mem_filter.mpr ⟨am_as_mem.mpr ⟨z, h1, rfl⟩, ?_⟩))
      simp only [Bool.and_eq_true, Bool.not_eq_true', beq_eq_false_iff_ne, ne_eq, Bool.and_eq_false_iff, am_v_cat]
      refine ⟨hj, ?_⟩
      by_cases hji : j + 1 = i
      · exact Or.inr (h2 hji)
      · exact Or.inl hji
  · cases hs
theorem am_l.s2 {ad : Nat → Nat} {ls : Array Slot} {nL i : Nat} {L L' : List (Option Value)} {v : Value} (hlen : L.length ≤ nL) (hs : am_s2 L i v = some L') (h : lv_has ls nL ((i, am_v ad v) :: (am_as ad L).filter (fun q => !(q.1 == i) && (!(q.1 == i + 1) && !(q.1 + 1 == i && q.2.category == 2))))) : am_l ad ls nL L' := by
  unfold am_s2 at hs
  split at hs
  · rename_i hi
    cases hs
    refine ⟨h.1, h.2.1, by rw [List.length_set, List.length_set, am_kill_len]; exact hlen, fun j z hz => ?_⟩
    by_cases hj1 : j = i + 1
    · subst hj1
      rw [List.getElem?_set_self (by rw [List.length_set, am_kill_len]; exact hi)] at hz
      cases hz
    · rw [List.getElem?_set_ne (Ne.symm hj1)] at hz
      by_cases hj : j = i
      · subst hj
        rw [List.getElem?_set_self (by rw [am_kill_len]; omega)] at hz
        cases hz
        exact h.2.2 _ List.mem_cons_self
      · rw [List.getElem?_set_ne (Ne.symm hj)] at hz
        obtain ⟨h1, h2⟩ := am_kill_at hz
        refine h.2.2 (j, am_v ad z) (List.mem_cons_of_mem _ (List.mem_filter.mpr ⟨am_as_mem.mpr ⟨z, h1, rfl⟩, ?_⟩))
        simp only [Bool.and_eq_true, Bool.not_eq_true', beq_eq_false_iff_ne, ne_eq, Bool.and_eq_false_iff, am_v_cat]
        refine ⟨hj, hj1, ?_⟩
        by_cases hji : j + 1 = i
        · exact Or.inr (h2 hji)
        · exact Or.inl hji
  · cases hs
/-! the machine's fixed things of one method's run -/
abbrev am_X : Type := Program × Launch × Env × Room × State × MethodId × Array Value × List Frame × Method × Code × va_G × (ClassId × ClassId × ClassId) × Nat × Nat × Nat
abbrev am_p (x : am_X) : Program := x.1
abbrev am_la (x : am_X) : Launch := x.2.1
abbrev am_en (x : am_X) : Env := x.2.2.1
abbrev am_R (x : am_X) : Room := x.2.2.2.1
abbrev am_s (x : am_X) : State := x.2.2.2.2.1
abbrev am_m (x : am_X) : MethodId := x.2.2.2.2.2.1
abbrev am_a (x : am_X) : Array Value := x.2.2.2.2.2.2.1
abbrev am_bw (x : am_X) : List Frame := x.2.2.2.2.2.2.2.1
abbrev am_me (x : am_X) : Method := x.2.2.2.2.2.2.2.2.1
abbrev am_c (x : am_X) : Code := x.2.2.2.2.2.2.2.2.2.1
abbrev am_Dg (x : am_X) : va_G := x.2.2.2.2.2.2.2.2.2.2.1
abbrev am_c3 (x : am_X) : ClassId × ClassId × ClassId := x.2.2.2.2.2.2.2.2.2.2.2.1
abbrev am_ba (x : am_X) : Nat := x.2.2.2.2.2.2.2.2.2.2.2.2.1
abbrev am_tt (x : am_X) : Nat := x.2.2.2.2.2.2.2.2.2.2.2.2.2.1
abbrev am_sc (x : am_X) : Nat := x.2.2.2.2.2.2.2.2.2.2.2.2.2.2
abbrev am_xa (x : am_X) : Nat → Nat := am_ad (am_ba x) (am_tt x) (am_sc x)
/-- the heap holds the cells of y, with the contents g, w; there are no cells behind them -/
def am_P (D : va_G) (c3 : ClassId × ClassId × ClassId) (base tt b : Nat) (y : am_Y) (g : am_G) (w : am_J) (H : Heap) : Prop := H.size = base + y.length ∧ va_P D vwCl (am_w c3 (am_ad base tt b) base y g w) H
/-- the class has no static that its methods read -/
def am_T (_base _tt : Nat) (_U : State) : Prop := True
theorem am_T.go {base tt : Nat} {s U : State} {H : Heap} {locs : List Loc} (_h : am_T base tt s) (_hS : va_S (fun q => base ≤ q) s.heap H locs) (_hU : U.heap = H) (_hvm : s.vm.Alike U.vm) : am_T base tt U := trivial
/-- the classes by number -/
def am_cn (n : Nat) : String := match n with
  | 0 => RX0
  | 1 => RX1
  | 2 => RX2
  | 3 => RX3
  | 4 => RX4
  | 5 => RX5
  | 6 => RX6
  | 7 => RX7
  | 8 => RX8
  | 9 => RJ6
  | 10 => RJ9
  | 11 => RJ10
  | 12 => RJ7
  | _ => RL
/-- the words that every method has -/
def am_tbl : List Cond := lw_tbl.filter goodWord
theorem am_tbl_in {w : Cond} (h : w ∈ lw_tbl) (hg : goodWord w = true) : w ∈ am_tbl := List.mem_filter.mpr ⟨h, hg⟩
theorem am_goodIn : GoodIn am_tbl am_tbl := fun w hw => ⟨hw, good_of_word (List.mem_filter.mp hw).2⟩
