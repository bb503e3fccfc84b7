def am_Cx (x : am_X) (own : Nat) (cc : ByteArray) (nL : Nat) : Prop :=
  (am_p x).tables.exec = Jvm.exec ∧ (am_c x).code = cc ∧ (am_c x).maxLocals = nL ∧ (am_s x).vm.findClass (am_cn own) = some (am_m x).cls ∧ (∀ w ∈ am_tbl, w.before (am_a x) (am_s x) = true) ∧ (am_me x).locks = false ∧ va_K (am_Dg x) vwCl (am_ty (am_c3 x)) (am_s x) ∧ am_T (am_ba x) (am_tt x) (am_s x) ∧ am_N (am_s x)
def am_Ev (x : am_X) (nL : Nat) (cs : Nat × Nat) (Q : State → Prop) (pc : Nat) (L : List (Option Value)) (st : List Value) (y : am_Y) (g : am_G) (w : am_J) : Prop :=
  ∀ (H : Heap) (locs : List Loc) (ls : Array Slot), am_P (am_Dg x) (am_c3 x) (am_ba x) (am_tt x) (am_sc x) y g w H → va_S (fun q => am_ba x ≤ q) (am_s x).heap H locs → am_l (am_xa x) ls nL L →
    W (am_p x) (am_la x) (am_en x) (am_R x) (am_s x) (am_m x) (am_a x) (am_bw x) (am_me x) (am_c x) H locs cs.1 cs.2 Q (F0 (am_m x) pc ls (st.map (am_v (am_xa x))))
/-! THE STEP -/
def am_b (f : Int32 → Int32 → Int32) (st : List Value) : Option (List Value) := match st with
  | .int y :: .int x :: r => some (.int (f x y) :: r)
  | _ => none
def am_bl (f : Int64 → Int64 → Int64) (st : List Value) : Option (List Value) := match st with
  | .long y :: .long x :: r => some (.long (f x y) :: r)
  | _ => none
def am_bs (f : Int64 → Int32 → Int64) (st : List Value) : Option (List Value) := match st with
  | .int y :: .long x :: r => some (.long (f x y) :: r)
  | _ => none
theorem am_b_inv {f : Int32 → Int32 → Int32} {st st' : List Value} (h : am_b f st = some st') : ∃ x y r, st = .int y :: .int x :: r ∧ st' = .int (f x y) :: r := by
  unfold am_b at h
  split at h
  · cases h; exact ⟨_, _, _, rfl, rfl⟩
  · cases h
theorem am_bl_inv {f : Int64 → Int64 → Int64} {st st' : List Value} (h : am_bl f st = some st') : ∃ x y r, st = .long y :: .long x :: r ∧ st' = .long (f x y) :: r := by
  unfold am_bl at h
  split at h
  · cases h; exact ⟨_, _, _, rfl, rfl⟩
  · cases h
theorem am_bs_inv {f : Int64 → Int32 → Int64} {st st' : List Value} (h : am_bs f st = some st') : ∃ x y r, st = .int y :: .long x :: r ∧ st' = .long (f x y) :: r := by
  unfold am_bs at h
  split at h
  · cases h; exact ⟨_, _, _, rfl, rfl⟩
  · cases h
def am_ushr (x y : Int32) : Int32 := (x.toUInt32 >>> (y.toUInt32 &&& Int32.toUInt32 31)).toInt32
def am_lushr (x : Int64) (y : Int32) : Int64 := (x.toUInt64 >>> (y.toInt64.toUInt64 &&& Int64.toUInt64 63)).toInt64
def am_lshl (x : Int64) (y : Int32) : Int64 := x <<< (y.toInt64 &&& 63)
abbrev am_O : Type := Option (am_S × Option Prop)
def am_mk (L : List (Option Value)) (g : am_G) (w : am_J) (o : Option (List Value)) : am_O := match o with
  | some st => some ((L, st, g, w), none)
  | none => none
def am_ldi (L : List (Option Value)) (st : List Value) (g : am_G) (w : am_J) (i : Nat) : am_O := match L[i]? with
  | some (some (.int z)) => some ((L, .int z :: st, g, w), none)
  | _ => none
def am_ldl (L : List (Option Value)) (st : List Value) (g : am_G) (w : am_J) (i : Nat) : am_O := match L[i]? with
  | some (some (.long z)) => some ((L, .long z :: st, g, w), none)
  | _ => none
def am_lda (L : List (Option Value)) (st : List Value) (g : am_G) (w : am_J) (i : Nat) : am_O := match L[i]? with
  | some (some (.ref z)) => some ((L, .ref z :: st, g, w), none)
  | _ => none
def am_sti (L : List (Option Value)) (st : List Value) (g : am_G) (w : am_J) (i : Nat) : am_O := match st with
  | .int z :: r => match am_s1 L i (.int z) with
    | some L' => some ((L', r, g, w), none)
    | none => none
  | _ => none
def am_sta (L : List (Option Value)) (st : List Value) (g : am_G) (w : am_J) (i : Nat) : am_O := match st with
  | .ref z :: r => match am_s1 L i (.ref z) with
    | some L' => some ((L', r, g, w), none)
    | none => none
  | _ => none
def am_stl (L : List (Option Value)) (st : List Value) (g : am_G) (w : am_J) (i : Nat) : am_O := match st with
  | .long z :: r => match am_s2 L i (.long z) with
    | some L' => some ((L', r, g, w), none)
    | none => none
  | _ => none
def am_inc (L : List (Option Value)) (st : List Value) (g : am_G) (w : am_J) (i : Nat) (v : Value) : am_O := match L[i]? with
  | some (some (.int z)) => match v with
    | .int c => match am_s1 L i (.int (z + c)) with
      | some L' => some ((L', st, g, w), none)
      | none => none
    | _ => none
  | _ => none
/-- an element of an array of type t -/
def am_ald (y : am_Y) (t : Nat) (L : List (Option Value)) (st : List Value) (g : am_G) (w : am_J) : am_O := match st with
  | .int j :: .ref i :: r => match y[i]? with
    | some (.inl (t', n)) => if t' = t then some ((L, (if t = 2 then Value.long (w i j.toNatClampNeg) else Value.int (g i j.toNatClampNeg)) :: r, g, w), some (am_in j n)) else none
    | _ => none
  | _ => none
def am_ast (y : am_Y) (t : Nat) (nf : Int32 → Int32) (L : List (Option Value)) (st : List Value) (g : am_G) (w : am_J) : am_O := match st with
  | .int v :: .int j :: .ref i :: r => match y[i]? with
    | some (.inl (t', n)) => if t' = t then some ((L, r, am_u g i j.toNatClampNeg (nf v), w), some (am_in j n)) else none
    | _ => none
  | _ => none
def am_lst (y : am_Y) (L : List (Option Value)) (st : List Value) (g : am_G) (w : am_J) : am_O := match st with
  | .long v :: .int j :: .ref i :: r => match y[i]? with
    | some (.inl (2, n)) => some ((L, r, g, am_ul w i j.toNatClampNeg v), some (am_in j n))
    | _ => none
  | _ => none
def am_len (y : am_Y) (L : List (Option Value)) (st : List Value) (g : am_G) (w : am_J) : am_O := match st with
  | .ref i :: r => match y[i]? with
    | some (.inl (_, n)) => some ((L, .int (Int32.ofNat n) :: r, g, w), none)
    | _ => none
  | _ => none
def am_gf (y : am_Y) (ci k : Nat) (L : List (Option Value)) (st : List Value) (g : am_G) (w : am_J) : am_O := match st with
  | .ref i :: r => match y[i]? with
    | some (.inr (c, ks)) => if c = ci then (match ks[k]? with
      | some d => some ((L, am_fv g w i k d :: r, g, w), none)
      | none => none) else none
    | _ => none
  | _ => none
def am_pfi (y : am_Y) (ci k : Nat) (L : List (Option Value)) (r : List Value) (i : Nat) (z : Int32) (g : am_G) (w : am_J) : am_O := match y[i]? with
  | some (.inr (c, ks)) => if c = ci then (match ks[k]? with
    | some (.inl 0) => some ((L, r, am_u g i k z, w), none)
    | _ => none) else none
  | _ => none
def am_pfl (y : am_Y) (ci k : Nat) (L : List (Option Value)) (r : List Value) (i : Nat) (z : Int64) (g : am_G) (w : am_J) : am_O := match y[i]? with
  | some (.inr (c, ks)) => if c = ci then (match ks[k]? with
    | some (.inl 1) => some ((L, r, g, am_ul w i k z), none)
    | _ => none) else none
  | _ => none
def am_pf (y : am_Y) (ci k : Nat) (L : List (Option Value)) (st : List Value) (g : am_G) (w : am_J) : am_O := match st with
  | .int z :: .ref i :: r => am_pfi y ci k L r i z g w
  | .long z :: .ref i :: r => am_pfl y ci k L r i z g w
  | _ => none
def am_c1 (v : Value) : Bool := match v with
  | .int _ => true
  | .ref _ => true
  | _ => false
def am_dup (st : List Value) : Option (List Value) := match st with
  | v :: r => if am_c1 v then some (v :: v :: r) else none
  | _ => none
def am_dup2 (st : List Value) : Option (List Value) := match st with
  | v :: u :: r => if am_c1 v && am_c1 u then some (v :: u :: v :: u :: r) else none
  | _ => none
def am_pop (st : List Value) : Option (List Value) := match st with
  | v :: r => if am_c1 v then some r else none
  | _ => none
def am_i1 (f : Int32 → Value) (st : List Value) : Option (List Value) := match st with
  | .int x :: r => some (f x :: r)
  | _ => none
def am_l1 (f : Int64 → Value) (st : List Value) : Option (List Value) := match st with
  | .long x :: r => some (f x :: r)
  | _ => none
def am_lc (st : List Value) : Option (List Value) := match st with
  | .long y :: .long x :: r => some (.int (lg_cmp x y) :: r)
  | _ => none
def am_dv (f : Int32 → Int32 → Int32) (L : List (Option Value)) (st : List Value) (g : am_G) (w : am_J) : am_O := match st with
  | .int y :: .int x :: r => some ((L, .int (f x y) :: r, g, w), some (¬ y = 0))
  | _ => none
def am_dvl (f : Int64 → Int64 → Int64) (L : List (Option Value)) (st : List Value) (g : am_G) (w : am_J) : am_O := match st with
  | .long y :: .long x :: r => some ((L, .long (f x y) :: r, g, w), some (¬ y = 0))
  | _ => none
def am_st (y : am_Y) (a : am_AI) (L : List (Option Value)) (st : List Value) (g : am_G) (w : am_J) : am_O := match a.1 with
  | .iconst _ => some ((L, a.2.2.2 :: st, g, w), none)
  | .bipush _ => some ((L, a.2.2.2 :: st, g, w), none)
  | .sipush _ => some ((L, a.2.2.2 :: st, g, w), none)
  | .lconst _ => some ((L, a.2.2.2 :: st, g, w), none)
  | .ldc_w _ => some ((L, a.2.2.2 :: st, g, w), none)
  | .ldc2_w _ => some ((L, a.2.2.2 :: st, g, w), none)
  | .iload_n k => am_ldi L st g w k.val
  | .iload i => am_ldi L st g w i
  | .lload_n k => am_ldl L st g w k.val
  | .lload i => am_ldl L st g w i
  | .aload_n k => am_lda L st g w k.val
  | .aload i => am_lda L st g w i
  | .istore_n k => am_sti L st g w k.val
  | .istore i => am_sti L st g w i
  | .lstore_n k => am_stl L st g w k.val
  | .lstore i => am_stl L st g w i
  | .astore_n k => am_sta L st g w k.val
  | .astore i => am_sta L st g w i
  | .iinc i _ => am_inc L st g w i a.2.2.2
  | .iadd => am_mk L g w (am_b (fun x y => x + y) st)
  | .isub => am_mk L g w (am_b (fun x y => x - y) st)
  | .imul => am_mk L g w (am_b (fun x y => x * y) st)
  | .iand => am_mk L g w (am_b (fun x y => x &&& y) st)
  | .ior => am_mk L g w (am_b (fun x y => x ||| y) st)
  | .ixor => am_mk L g w (am_b (fun x y => x ^^^ y) st)
  | .ishl => am_mk L g w (am_b (fun x y => x <<< (y &&& 31)) st)
  | .ishr => am_mk L g w (am_b (fun x y => x >>> (y &&& 31)) st)
  | .iushr => am_mk L g w (am_b am_ushr st)
  | .idiv => am_dv (fun x y => x / y) L st g w
  | .irem => am_dv (fun x y => x - x / y * y) L st g w
  | .ineg => am_mk L g w (am_i1 (fun x => .int (-x)) st)
  | .ladd => am_mk L g w (am_bl (fun x y => x + y) st)
  | .lsub => am_mk L g w (am_bl (fun x y => x - y) st)
  | .lmul => am_mk L g w (am_bl (fun x y => x * y) st)
  | .land => am_mk L g w (am_bl (fun x y => x &&& y) st)
  | .lor => am_mk L g w (am_bl (fun x y => x ||| y) st)
  | .ldiv => am_dvl (fun x y => x / y) L st g w
  | .lrem => am_dvl (fun x y => x - x / y * y) L st g w
  | .lshl => am_mk L g w (am_bs am_lshl st)
  | .lushr => am_mk L g w (am_bs am_lushr st)
  | .lcmp => am_mk L g w (am_lc st)
  | .i2l => am_mk L g w (am_i1 (fun x => .long x.toInt64) st)
  | .l2i => am_mk L g w (am_l1 (fun x => .int x.toInt32) st)
  | .dup => am_mk L g w (am_dup st)
  | .dup2 => am_mk L g w (am_dup2 st)
  | .pop => am_mk L g w (am_pop st)
  | .iaload => am_ald y 0 L st g w
  | .baload => am_ald y 1 L st g w
  | .laload => am_ald y 2 L st g w
  | .iastore => am_ast y 0 (fun v => v) L st g w
  | .bastore => am_ast y 1 (fun v => vp_nar .boolean v) L st g w
  | .lastore => am_lst y L st g w
  | .arraylength => am_len y L st g w
  | .getfield _ => am_gf y a.2.1 a.2.2.1 L st g w
  | .putfield _ => am_pf y a.2.1 a.2.2.1 L st g w
  | _ => none
def am_ln (i : Instr) : Nat := match i with
  | .bipush _ => 2
  | .sipush _ => 3
  | .ldc_w _ => 3
  | .ldc2_w _ => 3
  | .iload _ => 2
  | .lload _ => 2
  | .aload _ => 2
  | .istore _ => 2
  | .lstore _ => 2
  | .astore _ => 2
  | .iinc _ _ => 3
  | .getfield _ => 3
  | .putfield _ => 3
  | _ => 1
/-- the fields that may be written outside a constructor -/
def am_wr (ci k : Nat) : Bool := !(am_Tc ci k).2.2.2 && (decide (am_yc ci k = .int) || decide (am_yc ci k = .long))
def am_ok (own : Nat) (a : am_AI) : Bool := match a.1 with
  | .iconst n => decide (a.2.2.2 = .int (Int32.ofInt n))
  | .bipush n => decide (a.2.2.2 = .int (Int8.ofInt n).toInt32)
  | .sipush n => decide (a.2.2.2 = .int (Int16.ofInt n).toInt32)
  | .lconst n => decide (a.2.2.2 = .long (Int64.ofNat n.val))
  | .iinc _ n => decide (a.2.2.2 = .int (Int32.ofInt n))
  | .ldc_w idx => am_kcb own idx a.2.2.2
  | .ldc2_w idx => am_klb own idx a.2.2.2
  | .getfield idx => am_flb own idx a.2.1 a.2.2.1
  | .putfield idx => am_flb own idx a.2.1 a.2.2.1 && am_wr a.2.1 a.2.2.1
  | _ => true
