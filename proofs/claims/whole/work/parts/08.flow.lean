/-! RUNS OF INSTRUCTIONS, JUMPS, RETURNS, CALLS -/
def am_run (y : am_Y) : List am_AI → List (Option Value) → List Value → am_G → am_J → Option (am_S × List Prop)
  | [], L, st, g, w => some ((L, st, g, w), [])
  | a :: is, L, st, g, w => match am_st y a L st g w with
    | none => none
    | some (s, none) => am_run y is s.1 s.2.1 s.2.2.1 s.2.2.2
    | some (s, some c) => match am_run y is s.1 s.2.1 s.2.2.1 s.2.2.2 with
      | none => none
      | some (s2, cl) => some (s2, c :: cl)
def am_all : List Prop → Prop
  | [] => True
  | c :: cl => c ∧ am_all cl
def am_dec (cc : ByteArray) (pc : Nat) (ins : Instr) (n : Nat) : Bool := match decode cc pc with
  | .ok (i, k) => decide (i = ins) && k == n
  | .error _ => false
theorem am_dec_ok {cc : ByteArray} {pc : Nat} {ins : Instr} {n : Nat} (h : am_dec cc pc ins n = true) : decode cc pc = .ok (ins, n) := by
  unfold am_dec at h
  split at h
  · rename_i i k hi
    simp only [Bool.and_eq_true, decide_eq_true_eq, beq_iff_eq] at h
    rw [hi, h.1, h.2]
  · cases h
def am_ck (own : Nat) (cc : ByteArray) : Nat → List am_AI → Nat → Bool
  | pc, [], e => pc == e
  | pc, a :: is, e => am_dec cc pc a.1 (am_ln a.1) && (am_ok own a && am_ck own cc (pc + am_ln a.1) is e)
abbrev am_Cm (x : am_X) (own : Nat) (cc : ByteArray) (nL : Nat) (ret : Option FieldType) : Prop := am_Cx x own cc nL ∧ (am_me x).sig.returnType = ret
def am_Qc (D : va_G) (c3 : ClassId × ClassId × ClassId) (base tt b : Nat) (ro : Option Value) (y : am_Y) (g : am_G) (w : am_J) : Array Value → State → Outcome → State → Prop := fun _ st oc t => oc = .returned (ro.map (am_v (am_ad base tt b))) ∧ am_P D c3 base tt b y g w t.heap ∧ va_F (fun q => base ≤ q) st t
def am_Q (x : am_X) (cs : Nat × Nat) (ro : Option Value) (y : am_Y) (g : am_G) (w : am_J) : State → Prop := MQ (am_bw x) (am_Qc (am_Dg x) (am_c3 x) (am_ba x) (am_tt x) (am_sc x) ro y g w) (am_a x) (am_s x) cs.1 cs.2 (fun q => am_ba x ≤ q)
def am_Pc (D : va_G) (c3 : ClassId × ClassId × ClassId) (base tt b : Nat) (av : List Value) (y : am_Y) (g : am_G) (w : am_J) : Array Value → State → Prop :=
  va_Pc (av.map (am_v (am_ad base tt b))) (fun U => am_P D c3 base tt b y g w U.heap ∧ va_K D vwCl (am_ty c3) U ∧ am_T base tt U ∧ am_N U)
/-- a method: its name, code, locals, answer -/
abbrev am_MI : Type := MethodName × ByteArray × Nat × Option FieldType
abbrev am_cw (mi : am_MI) : Cond := .code mi.1 mi.2.1 mi.2.2.1 mi.2.2.2
def am_Met (l : Launch) (mi : am_MI) (rm : Room) (av : List Value) (y : am_Y) (g : am_G) (w : am_J) (ro : Option Value) (y' : am_Y) (g' : am_G) (w' : am_J) : Prop :=
  ∀ (D : va_G) (c3 : ClassId × ClassId × ClassId) (base tt b : Nat), Met l mi.1 (am_cw mi :: am_tbl) rm (am_Pc D c3 base tt b av y g w) (am_Qc D c3 base tt b ro y' g' w') rm.cells rm.slots (fun q => base ≤ q)
section AMF
variable {x : am_X} {own : Nat} {cc : ByteArray} {nL : Nat} {cs : Nat × Nat} {Q : State → Prop} {pc : Nat} {L L' : List (Option Value)} {st st' : List Value} {y y' : am_Y} {g g' : am_G} {w w' : am_J} {ret : Option FieldType}
theorem am_blk (C0 : am_Cx x own cc nL) (hy : am_yk y = true) (is : List am_AI) : ∀ (pc pc2 : Nat) (L : List (Option Value)) (st : List Value) (g : am_G) (w : am_J) (L' : List (Option Value)) (st' : List Value) (g' : am_G) (w' : am_J) (cl : List Prop), am_ck own cc pc is pc2 = true → am_run y is L st g w = some ((L', st', g', w'), cl) → am_all cl → am_Ev x nL cs Q pc2 L' st' y g' w' → am_Ev x nL cs Q pc L st y g w := by
  induction is with
  | nil =>
    intro pc pc2 L st g w L' st' g' w' cl hck hr hc kk
    have h1 : pc = pc2 := by simpa [am_ck] using hck
    cases hr
    rw [h1]
    exact kk
  | cons a is ih =>
    intro pc pc2 L st g w L' st' g' w' cl hck hr hc kk
    simp only [am_ck, Bool.and_eq_true] at hck
    obtain ⟨h1, h2, h3⟩ := hck
    unfold am_run at hr
    split at hr
    · cases hr
    · rename_i s hs
      exact am_one C0 hy a (am_dec_ok h1) h2 hs (fun c hc => by cases hc) (ih _ _ _ _ _ _ _ _ _ _ _ h3 hr hc kk)
    · rename_i s c hs
      split at hr
      · cases hr
      · rename_i s2 cl2 hr2
        simp only [Option.some.injEq, Prod.mk.injEq] at hr
        obtain ⟨rfl, rfl⟩ := hr
        exact am_one C0 hy a (am_dec_ok h1) h2 hs (fun c' hc' => by cases hc'; exact hc.1) (ih _ _ _ _ _ _ _ _ _ _ _ h3 hr2 hc.2 kk)
/-- a run of straight instructions -/
theorem am_b1 (C0 : am_Cm x own cc nL ret) (hy : am_yk y = true) {pc pc2 : Nat} (is : List am_AI) {cl : List Prop} (hck : am_ck own cc pc is pc2 = true) (hr : am_run y is L st g w = some ((L', st', g', w'), cl)) (hc : am_all cl) (kk : am_Ev x nL cs Q pc2 L' st' y g' w') : am_Ev x nL cs Q pc L st y g w :=
  am_blk C0.1 hy is pc pc2 L st g w L' st' g' w' cl hck hr hc kk
/-- fewer locals -/
def am_le : List (Option Value) → List (Option Value) → Prop
  | [], _ => True
  | none :: l, _ :: m => am_le l m
  | none :: l, [] => am_le l []
  | some v :: l, some u :: m => v = u ∧ am_le l m
  | some _ :: _, _ => False
theorem am_le_at : ∀ (M L : List (Option Value)), am_le M L → ∀ (i : Nat) (v : Value), M[i]? = some (some v) → L[i]? = some (some v)
  | [], _, _, i, v, hv => by simp at hv
  | none :: l, [], h, i, v, hv => by
    cases i with
    | zero => simp at hv
    | succ i => have := am_le_at l [] h i v (by simpa using hv); simp at this
  | none :: l, _ :: m, h, i, v, hv => by
    cases i with
    | zero => simp at hv
    | succ i => simpa using am_le_at l m h i v (by simpa using hv)
  | some a :: l, some b :: m, h, i, v, hv => by
    obtain ⟨rfl, h⟩ := h
    cases i with
    | zero => simpa using hv
    | succ i => simpa using am_le_at l m h i v (by simpa using hv)
  | some a :: l, none :: m, h, i, v, hv => by cases h
  | some a :: l, [], h, i, v, hv => by cases h
theorem am_wk (M : List (Option Value)) (hm : am_le M L) (hlen : M.length = L.length) (kk : am_Ev x nL cs Q pc M st y g w) : am_Ev x nL cs Q pc L st y g w :=
  fun H locs ls hP hS hl => kk H locs ls hP hS ⟨hl.1, hl.2.1, by rw [hlen]; exact hl.2.2.1, fun i v hv => hl.2.2.2 i v (am_le_at M L hm i v hv)⟩
def am_j2 (cc : ByteArray) (pc : Nat) (ins : Int → Instr) (off : Int) (tgt : Nat) : Bool := am_dec cc pc (ins off) 3 && decide ((pc : Int) + off = (tgt : Int))
theorem am_j2_ok {ins : Int → Instr} {off : Int} {tgt : Nat} (h : am_j2 cc pc ins off tgt = true) : decode cc pc = .ok (ins off, 3) ∧ (pc : Int) + off = (tgt : Int) := by
  simp only [am_j2, Bool.and_eq_true, decide_eq_true_eq] at h
  exact ⟨am_dec_ok h.1, h.2⟩
variable {off : Int} {tgt : Nat} {a b : Int32}
theorem am_goto (C0 : am_Cm x own cc nL ret) (hj : am_j2 cc pc .goto off tgt = true) (kk : am_Ev x nL cs Q tgt L st y g w) : am_Ev x nL cs Q pc L st y g w :=
  fun H locs ls hP hS hl => lv_goto C0.1.hx C0.1.hb (am_j2_ok hj).1 (am_j2_ok hj).2 (kk H locs ls hP hS hl)
theorem am_if_eq (C0 : am_Cm x own cc nL ret) (hj : am_j2 cc pc (.ifCond .eq) off tgt = true) (kt : a = 0 → am_Ev x nL cs Q tgt L st y g w) (kf : ¬ a = 0 → am_Ev x nL cs Q (pc + 3) L st y g w) : am_Ev x nL cs Q pc L (.int a :: st) y g w :=
  fun H locs ls hP hS hl => lv_if_eq C0.1.hx C0.1.hb (am_j2_ok hj).1 (am_j2_ok hj).2 (fun h => kt h H locs ls hP hS hl) (fun h => kf h H locs ls hP hS hl)
theorem am_if_ne (C0 : am_Cm x own cc nL ret) (hj : am_j2 cc pc (.ifCond .ne) off tgt = true) (kt : ¬ a = 0 → am_Ev x nL cs Q tgt L st y g w) (kf : a = 0 → am_Ev x nL cs Q (pc + 3) L st y g w) : am_Ev x nL cs Q pc L (.int a :: st) y g w :=
  fun H locs ls hP hS hl => lv_if_ne C0.1.hx C0.1.hb (am_j2_ok hj).1 (am_j2_ok hj).2 (fun h => kt h H locs ls hP hS hl) (fun h => kf h H locs ls hP hS hl)
theorem am_if_lt (C0 : am_Cm x own cc nL ret) (hj : am_j2 cc pc (.ifCond .lt) off tgt = true) (kt : a < 0 → am_Ev x nL cs Q tgt L st y g w) (kf : ¬ a < 0 → am_Ev x nL cs Q (pc + 3) L st y g w) : am_Ev x nL cs Q pc L (.int a :: st) y g w :=
  fun H locs ls hP hS hl => lv_if_lt C0.1.hx C0.1.hb (am_j2_ok hj).1 (am_j2_ok hj).2 (fun h => kt h H locs ls hP hS hl) (fun h => kf h H locs ls hP hS hl)
theorem am_if_ge (C0 : am_Cm x own cc nL ret) (hj : am_j2 cc pc (.ifCond .ge) off tgt = true) (kt : 0 ≤ a → am_Ev x nL cs Q tgt L st y g w) (kf : ¬ 0 ≤ a → am_Ev x nL cs Q (pc + 3) L st y g w) : am_Ev x nL cs Q pc L (.int a :: st) y g w :=
  fun H locs ls hP hS hl => lv_if_ge C0.1.hx C0.1.hb (am_j2_ok hj).1 (am_j2_ok hj).2 (fun h => kt h H locs ls hP hS hl) (fun h => kf h H locs ls hP hS hl)
theorem am_if_gt (C0 : am_Cm x own cc nL ret) (hj : am_j2 cc pc (.ifCond .gt) off tgt = true) (kt : 0 < a → am_Ev x nL cs Q tgt L st y g w) (kf : ¬ 0 < a → am_Ev x nL cs Q (pc + 3) L st y g w) : am_Ev x nL cs Q pc L (.int a :: st) y g w :=
  fun H locs ls hP hS hl => lv_if_gt C0.1.hx C0.1.hb (am_j2_ok hj).1 (am_j2_ok hj).2 (fun h => kt h H locs ls hP hS hl) (fun h => kf h H locs ls hP hS hl)
theorem am_if_le (C0 : am_Cm x own cc nL ret) (hj : am_j2 cc pc (.ifCond .le) off tgt = true) (kt : a ≤ 0 → am_Ev x nL cs Q tgt L st y g w) (kf : ¬ a ≤ 0 → am_Ev x nL cs Q (pc + 3) L st y g w) : am_Ev x nL cs Q pc L (.int a :: st) y g w :=
  fun H locs ls hP hS hl => lv_if_le C0.1.hx C0.1.hb (am_j2_ok hj).1 (am_j2_ok hj).2 (fun h => kt h H locs ls hP hS hl) (fun h => kf h H locs ls hP hS hl)
theorem am_icmp_eq (C0 : am_Cm x own cc nL ret) (hj : am_j2 cc pc (.if_icmp .eq) off tgt = true) (kt : a = b → am_Ev x nL cs Q tgt L st y g w) (kf : ¬ a = b → am_Ev x nL cs Q (pc + 3) L st y g w) : am_Ev x nL cs Q pc L (.int b :: .int a :: st) y g w :=
  fun H locs ls hP hS hl => lv_icmp_eq C0.1.hx C0.1.hb (am_j2_ok hj).1 (am_j2_ok hj).2 (fun h => kt h H locs ls hP hS hl) (fun h => kf h H locs ls hP hS hl)
theorem am_icmp_ne (C0 : am_Cm x own cc nL ret) (hj : am_j2 cc pc (.if_icmp .ne) off tgt = true) (kt : ¬ a = b → am_Ev x nL cs Q tgt L st y g w) (kf : a = b → am_Ev x nL cs Q (pc + 3) L st y g w) : am_Ev x nL cs Q pc L (.int b :: .int a :: st) y g w :=
  fun H locs ls hP hS hl => lv_icmp_ne C0.1.hx C0.1.hb (am_j2_ok hj).1 (am_j2_ok hj).2 (fun h => kt h H locs ls hP hS hl) (fun h => kf h H locs ls hP hS hl)
theorem am_icmp_lt (C0 : am_Cm x own cc nL ret) (hj : am_j2 cc pc (.if_icmp .lt) off tgt = true) (kt : a < b → am_Ev x nL cs Q tgt L st y g w) (kf : ¬ a < b → am_Ev x nL cs Q (pc + 3) L st y g w) : am_Ev x nL cs Q pc L (.int b :: .int a :: st) y g w :=
  fun H locs ls hP hS hl => lv_icmp_lt C0.1.hx C0.1.hb (am_j2_ok hj).1 (am_j2_ok hj).2 (fun h => kt h H locs ls hP hS hl) (fun h => kf h H locs ls hP hS hl)
theorem am_icmp_ge (C0 : am_Cm x own cc nL ret) (hj : am_j2 cc pc (.if_icmp .ge) off tgt = true) (kt : b ≤ a → am_Ev x nL cs Q tgt L st y g w) (kf : ¬ b ≤ a → am_Ev x nL cs Q (pc + 3) L st y g w) : am_Ev x nL cs Q pc L (.int b :: .int a :: st) y g w :=
  fun H locs ls hP hS hl => lv_icmp_ge C0.1.hx C0.1.hb (am_j2_ok hj).1 (am_j2_ok hj).2 (fun h => kt h H locs ls hP hS hl) (fun h => kf h H locs ls hP hS hl)
theorem am_icmp_gt (C0 : am_Cm x own cc nL ret) (hj : am_j2 cc pc (.if_icmp .gt) off tgt = true) (kt : b < a → am_Ev x nL cs Q tgt L st y g w) (kf : ¬ b < a → am_Ev x nL cs Q (pc + 3) L st y g w) : am_Ev x nL cs Q pc L (.int b :: .int a :: st) y g w :=
  fun H locs ls hP hS hl => lv_icmp_gt C0.1.hx C0.1.hb (am_j2_ok hj).1 (am_j2_ok hj).2 (fun h => kt h H locs ls hP hS hl) (fun h => kf h H locs ls hP hS hl)
theorem am_icmp_le (C0 : am_Cm x own cc nL ret) (hj : am_j2 cc pc (.if_icmp .le) off tgt = true) (kt : a ≤ b → am_Ev x nL cs Q tgt L st y g w) (kf : ¬ a ≤ b → am_Ev x nL cs Q (pc + 3) L st y g w) : am_Ev x nL cs Q pc L (.int b :: .int a :: st) y g w :=
  fun H locs ls hP hS hl => lv_icmp_le C0.1.hx C0.1.hb (am_j2_ok hj).1 (am_j2_ok hj).2 (fun h => kt h H locs ls hP hS hl) (fun h => kf h H locs ls hP hS hl)
/-- a switch: the place that a value goes to -/
def am_sw (cc : ByteArray) (pc n : Nat) (dflt lo hi : Int) (offs : Array Int) : Bool := am_dec cc pc (.tableswitch dflt lo hi offs) n
theorem am_swOut (C0 : am_Cm x own cc nL ret) {n : Nat} {dflt lo hi : Int} {offs : Array Int} (hj : am_sw cc pc n dflt lo hi offs = true) (h : a.toInt < lo ∨ hi < a.toInt) (ht : (pc : Int) + dflt = (tgt : Int)) (kk : am_Ev x nL cs Q tgt L st y g w) : am_Ev x nL cs Q pc L (.int a :: st) y g w :=
  fun H locs ls hP hS hl => lv_tableOut C0.1.hx C0.1.hb (am_dec_ok hj) h ht (kk H locs ls hP hS hl)
theorem am_swIn (C0 : am_Cm x own cc nL ret) {n : Nat} {dflt lo hi : Int} {offs : Array Int} (hj : am_sw cc pc n dflt lo hi offs = true) (h1 : ¬ a.toInt < lo) (h2 : ¬ hi < a.toInt) (ho : offs[(a.toInt - lo).toNat]? = some off) (ht : (pc : Int) + off = (tgt : Int)) (kk : am_Ev x nL cs Q tgt L st y g w) : am_Ev x nL cs Q pc L (.int a :: st) y g w :=
  fun H locs ls hP hS hl => lv_tableIn C0.1.hx C0.1.hb (am_dec_ok hj) h1 h2 ho ht (kk H locs ls hP hS hl)
/-- returns -/
theorem am_iret (C0 : am_Cm x own cc nL (some .int)) (hd : am_dec cc pc .ireturn 1 = true) : am_Ev x nL cs (am_Q x cs (some (.int a)) y g w) pc L [.int a] y g w :=
  fun H locs ls hP hS hl => W.iret C0.1.hx C0.1.hb C0.2 (fun t ht hW => ⟨rfl, by rw [ht]; exact hP, hS.F ht⟩) hS.2.2 (am_dec_ok hd) C0.1.hlk
theorem am_zret (C0 : am_Cm x own cc nL (some .boolean)) (hd : am_dec cc pc .ireturn 1 = true) (hz : a = 0 ∨ a = 1) : am_Ev x nL cs (am_Q x cs (some (.int a)) y g w) pc L [.int a] y g w :=
  fun H locs ls hP hS hl => W.zret C0.1.hx C0.1.hb C0.2 (by rcases hz with rfl | rfl <;> rfl) (fun t ht hW => ⟨rfl, by rw [ht]; exact hP, hS.F ht⟩) hS.2.2 (am_dec_ok hd) C0.1.hlk
theorem am_lret (C0 : am_Cm x own cc nL (some .long)) {a : Int64} (hd : am_dec cc pc .lreturn 1 = true) : am_Ev x nL cs (am_Q x cs (some (.long a)) y g w) pc L [.long a] y g w :=
  fun H locs ls hP hS hl => W.lret C0.1.hx C0.1.hb C0.2 (fun t ht hW => ⟨rfl, by rw [ht]; exact hP, hS.F ht⟩) hS.2.2 (am_dec_ok hd) C0.1.hlk
theorem am_vret (C0 : am_Cm x own cc nL none) (hd : am_dec cc pc .return_ 1 = true) : am_Ev x nL cs (am_Q x cs none y g w) pc L [] y g w :=
  fun H locs ls hP hS hl => W.vret C0.1.hx C0.1.hb C0.2 (fun t ht hW => ⟨rfl, by rw [ht]; exact hP, hS.F ht⟩) hS.2.2 (am_dec_ok hd) C0.1.hlk
theorem am_widen {k n : Nat} (h1 : cs.1 ≤ k) (h2 : cs.2 ≤ n) (kk : am_Ev x nL (k, n) Q pc L st y g w) : am_Ev x nL cs Q pc L st y g w :=
  fun H locs ls hP hS hl => W.widen h1 h2 (kk H locs ls hP hS hl)
end AMF
/-- the locals at a method's entry -/
def am_L0 : List Value → List (Option Value)
  | [] => []
  | v :: vs => if v.category = 2 then some v :: none :: am_L0 vs else some v :: am_L0 vs
theorem am_L0_at (ad : Nat → Nat) : ∀ (vs : List Value) (n i : Nat) (v : Value), (am_L0 vs)[i]? = some (some v) → (n + i, am_v ad v) ∈ lv_args n (vs.map (am_v ad))
  | [], n, i, v, h => by simp [am_L0] at h
  | a :: vs, n, i, v, h => by
    simp only [List.map_cons, lv_args, am_v_cat]
    unfold am_L0 at h
    by_cases hc : a.category = 2
    · rw [if_pos hc] at h
      match i with
      | 0 => simp only [List.getElem?_cons_zero, Option.some.injEq] at h; subst h; exact List.mem_cons_self
      | 1 => simp at h
      | i + 2 =>
        rw [if_pos hc]
        have := am_L0_at ad vs (n + 2) i v (by simpa using h)
        rw [show n + (i + 2) = n + 2 + i by omega]
        exact List.mem_cons_of_mem _ this
    · rw [if_neg hc] at h
      match i with
      | 0 => simp only [List.getElem?_cons_zero, Option.some.injEq] at h; subst h; exact List.mem_cons_self
      | i + 1 =>
        rw [if_neg hc]
        have := am_L0_at ad vs (n + 1) i v (by simpa using h)
        rw [show n + (i + 1) = n + 1 + i by omega]
        exact List.mem_cons_of_mem _ this
theorem am_L0_len (ad : Nat → Nat) : ∀ (vs : List Value), (lg_sl (vs.map (am_v ad))).length = (am_L0 vs).length
  | [] => rfl
  | a :: vs => by
    have ih := am_L0_len ad vs
    simp only [lg_sl, List.map_cons, List.flatMap_cons, List.length_append, am_v_cat] at ih ⊢
    unfold am_L0
    by_cases hc : a.category = 2
    · rw [if_pos hc, if_pos hc]
      simp only [List.length_cons, List.length_nil]
      omega
    · rw [if_neg hc, if_neg hc]
      simp only [List.length_cons, List.length_nil]
      omega
theorem am_met {l : Launch} {own : Nat} {mi : am_MI} {rm : Room} {av : List Value} {y y' : am_Y} {g g' : am_G} {w w' : am_J} {ro : Option Value} (L : List (Option Value)) (hpl : plainName mi.1.cls = true) (hcn : mi.1.cls = am_cn own) (hL : L = am_L0 av ++ List.replicate (mi.2.2.1 - (am_L0 av).length) none) (hn : (am_L0 av).length ≤ mi.2.2.1)
    (body : ∀ x : am_X, am_Cm x own mi.2.1 mi.2.2.1 mi.2.2.2 → am_R x = rm → am_la x = l → (am_me x).name = mi.1.name → am_Ev x mi.2.2.1 (0, 0) (am_Q x (rm.cells, rm.slots) ro y' g' w') 0 L [] y g w) : am_Met l mi rm av y g w ro y' g' w' := by
  intro D c3 base tt b
  refine Met.ofW (cc := mi.2.1) (maxL := mi.2.2.1) (ret := mi.2.2.2) hpl rfl ?_
  intro p e s m args below meth c s₁ B hml hv
  obtain ⟨rfl, hP, hK, hT, hN⟩ := hv
  have hts := atoms_spec (ws := am_cw mi :: am_tbl) B.pre
  have hown : s.vm.findClass (am_cn own) = some m.cls := by rw [← hcn]; exact findClass_of_methodNamed B.named
  have hbo := body (p, l, e, rm, s, m, (av.map (am_v (am_ad base tt b))).toArray, below, meth, c, D, c3, base, tt, b) ⟨⟨B.exec, B.bytes, hml, hown, fun w h => hts w (List.mem_cons_of_mem _ h), B.notSynchronized, hK, hT, hN⟩, B.returns⟩ rfl rfl (name_of_methodNamed B.named B.method).1
  have hl := lv_entry (av.map (am_v (am_ad base tt b))) (n := mi.2.2.1) (by rw [am_L0_len]; exact hn)
  rw [lg_entry_eq]
  refine hbo s.heap [] _ hP va_S.rf ⟨hl.1, hl.2.1, ?_, fun i v hi => ?_⟩
  · rw [hL]
    simp only [List.length_append, List.length_replicate]
    omega
  · rw [hL] at hi
    by_cases hlt : i < (am_L0 av).length
    · rw [List.getElem?_append_left hlt] at hi
      have := am_L0_at (am_ad base tt b) av 0 i v hi
      rw [Nat.zero_add] at this
      exact hl.2.2 _ this
    · rw [List.getElem?_append_right (by omega)] at hi
      have := List.eq_of_mem_replicate (List.mem_of_getElem? hi)
      cases this
