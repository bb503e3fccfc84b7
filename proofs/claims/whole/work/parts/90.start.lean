/-! THE CLAIM OUT OF ONE WALK OF THE LAW'S BODY. Your part is whole_start (and what it stands on); all else here is the same for every law, but numbers. -/
def R_law : String := "ShutterTownLaw"
def lw_P (b : Addr) (xs : List Int32) (args : Array Value) (s : State) : Prop := args = #[.ref b] ∧ s.IntsAt b xs ∧ xs.length ≤ 320 ∧ (Jvm.Cond.and given_1 narrow_1).before args s = true
def lw_Q (_ : Array Value) (s : State) (o : Outcome) (t : State) : Prop := o = .returned (some (.int 1)) ∧ Framed s o t [] 43 780
def lw_Z (below : List Frame) (a : Array Value) (s : State) : State → Prop := fun t => ∃ o, t.status = .running ∧ Ended t below o ∧ lw_Q a s o t
/-- the law's own end, with 1 on the stack, nothing written that was there before, its room as the claim has it -/
theorem lw_ret {p : Program} {l : Launch} {e : Env} {s : State} {m : MethodId} {below : List Frame} {meth : Method} {c : Code} {b : Nat} (hx : p.tables.exec = Jvm.exec) (hb : c.code = code) (hr : meth.sig.returnType = ret) (hlocks : meth.locks = false) {pc : Nat} {H : Heap} {ls : Array Slot} (hdg : decode code pc = .ok (.ireturn, 1)) : W p l e room_1 s m #[Value.ref b] below meth c H [] 43 780 (lw_Z below #[Value.ref b] s) (F0 m pc ls [.int 1]) := by
  intro T hT X
  obtain ⟨fs, hret, hrun, hended, hW, hframe⟩ := X.leave (v := some (.int 1)) (hlocks := hlocks) (fun h => by rw [hr] at h; cases h)
  have hmeth' : T.vm.method? m = some meth := X.method'
  refine ⟨T.setFrames fs, ?_, .returned (some (.int 1)), hrun, hended, rfl, ⟨_, rfl⟩, hW, hframe⟩
  jvm_step X.here [X.here.top, hx, hb, hdg, hmeth', hr, ret, narrow_b1]
  (try refine ⟨rfl, ?_⟩); (try refine ⟨rfl, ?_⟩)
  first | (intro acts; rw [hret _ acts rfl rfl rfl]) | rw [hret _ _ rfl rfl rfl]
  exact Steps.refl _
/-- what holds at the law's entry: the machine, the code, the tables' words (any of lw_tbl by 'hts w (by decide +kernel)'), the script of L ints xs at the cell b, what the Statement gives of the start (any of its parts by flat_of_before) -/
def lw_At (p : Program) (s : State) (m : MethodId) (meth : Method) (c : Code) (b L : Nat) (xs : Nat → Int32) : Prop :=
  p.tables.exec = Jvm.exec ∧ c.code = code ∧ meth.sig.returnType = ret ∧ c.maxLocals = 4 ∧ s.vm.findClass R_law = some m.cls ∧ (∀ w ∈ lw_tbl, w.before #[Value.ref b] s = true) ∧ va_X b L xs s s.heap ∧ b < s.heap.size ∧ meth.locks = false ∧ (Jvm.Cond.and given_1 narrow_1).before #[Value.ref b] s = true
-- ===== YOUR PART BEGINS =====
theorem am_ins : ∀ ci, ci < 9 → Cond.instantiable (am_Rc ci) (am_Nc ci) ∈ am_tbl := am_nine (am_at 125 (by decide +kernel) rfl) (am_at 165 (by decide +kernel) rfl) (am_at 75 (by decide +kernel) rfl) (am_at 61 (by decide +kernel) rfl) (am_at 106 (by decide +kernel) rfl) (am_at 138 (by decide +kernel) rfl) (am_at 151 (by decide +kernel) rfl) (am_at 53 (by decide +kernel) rfl) (am_at 699 (by decide +kernel) rfl)
theorem am_known {s : State} {args : Array Value} (hts : ∀ w ∈ am_tbl, w.before args s = true) : ∃ (D : va_G) (c3 : ClassId × ClassId × ClassId), va_K D vwCl (am_ty c3) s := by
  have h : ∀ ci, ∃ q : ClassId × (Nat → Nat), ci < 9 → u_Kn s (am_Rc ci) (am_Tc ci) (am_Nc ci) q.1 q.2 := by
    intro ci
    by_cases hc : ci < 9
    · obtain ⟨cC, iS, h1⟩ := u_known hts (am_wic ci hc) (hts _ (am_ins ci hc))
      exact ⟨(cC, iS), fun _ => h1⟩
    · exact ⟨(0, fun _ => 0), fun h => absurd h hc⟩
  obtain ⟨f, hf⟩ := Classical.axiomOfChoice h
  obtain ⟨cI, kI, mI, i1, i2, i3⟩ := Cond.arrayClass_spec (hts _ aw_0)
  obtain ⟨cZ, kZ, mZ, z1, z2, z3⟩ := Cond.arrayClass_spec (hts _ aw_1)
  obtain ⟨cJ, kJ, mJ, j1, j2, j3⟩ := Cond.arrayClass_spec (hts _ aw_2)
  refine ⟨(fun ci => (f ci).1, fun ci => (f ci).2), (cI, cZ, cJ), fun c q hq => ?_, fun k q hq => ?_⟩
  · have hc : c < 9 := (List.getElem?_eq_some_iff.mp hq).1
    have h2 := (am_clc c hc).symm.trans hq
    cases h2
    exact hf c hc
  · match k, hq with
    | 0, hq => cases hq; exact ⟨fun n z => ⟨fun k h => (by cases h), kI, i2, mI, i3⟩, i1⟩
    | 1, hq => cases hq; exact ⟨fun n z => ⟨fun k h => (by cases h), kZ, z2, mZ, z3⟩, z1⟩
    | 2, hq => cases hq; exact ⟨fun n z => ⟨fun k h => (by cases h), kJ, j2, mJ, j3⟩, j1⟩
theorem am_static {s : State} {args : Array Value} (hts : ∀ w ∈ lw_tbl, w.before args s = true) (hgv : (Jvm.Cond.and given_1 narrow_1).before args s = true) : ∃ tt, am_T s.heap.size tt s := by
  exact ⟨0, trivial⟩
set_option maxHeartbeats 4000000 in
set_option maxRecDepth 100000 in
theorem whole_start {p : Program} {e : Env} {s : State} {m : MethodId} {below : List Frame} {meth : Method} {c : Code} (l : Launch) {b L : Nat} {xs : Nat → Int32} (hL : L ≤ 320) (C0 : lw_At p s m meth c b L xs) : W p l e room_1 s m #[Value.ref b] below meth c s.heap [] 0 0 (lw_Z below #[Value.ref b] s) (entryFrame m ([Value.ref b] : List Value).toArray 4) := by
  obtain ⟨hx, hb, hr, hml, hown, hts, hX, hbl, hlocks, hgv⟩ := C0
  have htg : ∀ w ∈ am_tbl, w.before #[Value.ref b] s = true := fun w h => hts w (List.mem_filter.mp h).1
  obtain ⟨D, c3, hK⟩ := am_known htg
  obtain ⟨tt, hT⟩ := am_static hts hgv
  obtain ⟨F, hF⟩ := law_pure xs L hL
  obtain ⟨X, hXe⟩ : ∃ X : am_X, X = (p, l, e, room_1, s, m, #[Value.ref b], below, meth, c, D, c3, s.heap.size, tt, b) := ⟨_, rfl⟩
  have hCm : am_Cm X 13 code 4 (some .boolean) := by
    subst hXe
    exact ⟨⟨hx, hb, hml, hown, htg, hlocks, hK, hT, am_N.of hts⟩, hr⟩
  have hR : am_R X = room_1 := by subst hXe; rfl
  have hSx : am_Sx X L xs := by subst hXe; exact ⟨hX, hbl, rfl⟩
  have hret : ∀ (L' : List (Option Value)) (g : am_G) (w : am_J), am_Ev X 4 (43, 780) (lw_Z below #[Value.ref b] s) 1016 L' [.int 1] am_YY g w := by
    intro L' g w
    subst hXe
    intro H locs ls hP hS hl
    refine va_forget (fun q hq => hS.2.2 q hq) ?_
    exact lw_ret hx hb hr hlocks (am_dec_ok (by decide +kernel))
  have key : am_Ev X 4 (0, 0) (lw_Z below #[Value.ref b] s) 0 [some (.ref 98), none, none, none] [] [] am_g0 am_w0 := by
    refine am_new2 hCm.1 (cs := (0, 0)) (y := []) (ci := 7) 0 [am_o0 7] rfl rfl (by decide) (by decide +kernel) (fun k => ⟨rfl, rfl⟩) (by decide) cw_13_7 (by rw [hR]; decide) (by decide +kernel) 1 11 rfl ?_
    refine am_b1 hCm (y := [am_o0 7]) (by decide +kernel) (pc := 3) (pc2 := 4) [(.dup, 0, 0, .null)] (L := [some (.ref 98), none, none, none]) (st := [.ref 0]) (g := am_g0) (L' := [some (.ref 98), none, none, none]) (st' := [.ref 0, .ref 0]) (g' := am_g0) (w' := am_w0) (cl := []) (by decide +kernel) rfl trivial ?_
    refine am_callI (mi := mi_X7_init) (rm := rm_X7_init) [] hCm.1 (y := [am_o0 7]) (by decide) (by decide) ci_13_9 (N_X7_init_9 _) (by rw [hR]; decide) rfl rfl (Nat.le_of_ble_eq_true rfl) (by decide +kernel) ?_
    refine am_b1 hCm (y := am_Y1) (by decide +kernel) (pc := 7) (pc2 := 8) [(.astore_n 1, 0, 0, .null)] (L := [some (.ref 98), none, none, none]) (st := [.ref 0]) (g := am_u (am_u (am_u (am_u (am_u (am_u (am_u (am_u (am_u am_g0 4 (Int32.toNatClampNeg (0 : Int32)) (0 : Int32)) 4 (Int32.toNatClampNeg (1 : Int32)) (1 : Int32)) 4 (Int32.toNatClampNeg (2 : Int32)) (2 : Int32)) 4 (Int32.toNatClampNeg (3 : Int32)) (3 : Int32)) 3 6 (1 : Int32)) 23 (Int32.toNatClampNeg (0 : Int32)) (15 : Int32)) 23 (Int32.toNatClampNeg (1 : Int32)) (15 : Int32)) 23 (Int32.toNatClampNeg (2 : Int32)) (15 : Int32)) 23 (Int32.toNatClampNeg (3 : Int32)) (15 : Int32)) (L' := [some (.ref 98), some (.ref 0), none, none]) (st' := []) (g' := am_u (am_u (am_u (am_u (am_u (am_u (am_u (am_u (am_u am_g0 4 (Int32.toNatClampNeg (0 : Int32)) (0 : Int32)) 4 (Int32.toNatClampNeg (1 : Int32)) (1 : Int32)) 4 (Int32.toNatClampNeg (2 : Int32)) (2 : Int32)) 4 (Int32.toNatClampNeg (3 : Int32)) (3 : Int32)) 3 6 (1 : Int32)) 23 (Int32.toNatClampNeg (0 : Int32)) (15 : Int32)) 23 (Int32.toNatClampNeg (1 : Int32)) (15 : Int32)) 23 (Int32.toNatClampNeg (2 : Int32)) (15 : Int32)) 23 (Int32.toNatClampNeg (3 : Int32)) (15 : Int32)) (w' := am_w0) (cl := []) (by decide +kernel) rfl trivial ?_
    refine am_new2 hCm.1 (cs := (26, 373)) (y := am_Y1) (ci := 8) 26 (am_Y1 ++ [am_o0 8]) rfl rfl (by decide) (by decide +kernel) (fun k => ⟨by simp [am_u_at, am_g0], rfl⟩) (by decide) cw_13_10 (by rw [hR]; decide) (by decide +kernel) 27 404 rfl ?_
    refine am_b1 hCm (y := am_Y1 ++ [am_o0 8]) (by decide +kernel) (pc := 11) (pc2 := 12) [(.dup, 0, 0, .null)] (L := [some (.ref 98), some (.ref 0), none, none]) (st := [.ref 26]) (g := am_u (am_u (am_u (am_u (am_u (am_u (am_u (am_u (am_u am_g0 4 (Int32.toNatClampNeg (0 : Int32)) (0 : Int32)) 4 (Int32.toNatClampNeg (1 : Int32)) (1 : Int32)) 4 (Int32.toNatClampNeg (2 : Int32)) (2 : Int32)) 4 (Int32.toNatClampNeg (3 : Int32)) (3 : Int32)) 3 6 (1 : Int32)) 23 (Int32.toNatClampNeg (0 : Int32)) (15 : Int32)) 23 (Int32.toNatClampNeg (1 : Int32)) (15 : Int32)) 23 (Int32.toNatClampNeg (2 : Int32)) (15 : Int32)) 23 (Int32.toNatClampNeg (3 : Int32)) (15 : Int32)) (L' := [some (.ref 98), some (.ref 0), none, none]) (st' := [.ref 26, .ref 26]) (g' := am_u (am_u (am_u (am_u (am_u (am_u (am_u (am_u (am_u am_g0 4 (Int32.toNatClampNeg (0 : Int32)) (0 : Int32)) 4 (Int32.toNatClampNeg (1 : Int32)) (1 : Int32)) 4 (Int32.toNatClampNeg (2 : Int32)) (2 : Int32)) 4 (Int32.toNatClampNeg (3 : Int32)) (3 : Int32)) 3 6 (1 : Int32)) 23 (Int32.toNatClampNeg (0 : Int32)) (15 : Int32)) 23 (Int32.toNatClampNeg (1 : Int32)) (15 : Int32)) 23 (Int32.toNatClampNeg (2 : Int32)) (15 : Int32)) 23 (Int32.toNatClampNeg (3 : Int32)) (15 : Int32)) (w' := am_w0) (cl := []) (by decide +kernel) rfl trivial ?_
    refine am_callI (mi := mi_X8_init) (rm := rm_X8_init) [] hCm.1 (y := am_Y1 ++ [am_o0 8]) (by decide) (by decide) ci_13_12 (N_X8_init_10 _) (by rw [hR]; decide) rfl rfl (Nat.le_of_ble_eq_true rfl) (by decide +kernel) ?_
    refine am_b1 hCm (y := am_YY) am_YYk (pc := 15) (pc2 := 18) [(.astore_n 2, 0, 0, .null), (.iconst 0, 0, 0, .int 0), (.istore_n 3, 0, 0, .null)] (L := [some (.ref 98), some (.ref 0), none, none]) (st := [.ref 26]) (g := am_gi) (L' := [some (.ref 98), some (.ref 0), some (.ref 26), some (.int 0)]) (st' := []) (g' := am_gi) (w' := am_w0) (cl := []) (by decide +kernel) rfl trivial ?_
    exact B_L_law_18 X hCm hR _ hret F xs L hSx 1 rfl F 0 am_gi am_w0 hF
  have hl := lv_entry ([Value.ref b]) (n := 4) (Nat.le_of_ble_eq_true rfl)
  rw [lg_entry_eq]
  subst hXe
  refine key s.heap [] _ ⟨rfl, fun k q h => by simp [am_w] at h⟩ va_S.rf ⟨hl.1, hl.2.1, Nat.le_refl _, fun i v hv => ?_⟩
  match i, hv with
  | 0, hv =>
    cases hv
    have := hl.2.2 (0, .ref b) List.mem_cons_self
    simpa [am_v, am_ad] using this
  | 1, hv => cases hv
  | 2, hv => cases hv
  | 3, hv => cases hv
-- ===== YOUR PART ENDS =====
set_option maxHeartbeats 4000000 in
theorem lw_walk (l : Launch) (b : Addr) (xs : List Int32) : MetFree l x (headSpec (Jvm.Cond.code x code maxLocals ret :: tables_1) room_1) (lw_P b xs) (fun _ _ _ _ _ => True) lw_Q := by
  refine MetFree.of_bodyS (code := code) (maxLocals := maxLocals) (ret := ret) (by decide) ?_ ?_
  · intro args s m h hn
    obtain ⟨meth, c, h1, h2, h3, h4, h5, h6, -, -⟩ := Cond.code_spec hn (atoms_spec (ws := Jvm.Cond.code x code maxLocals ret :: tables_1) h _ List.mem_cons_self)
    exact ⟨meth, c, h1, h2, h3, h4, h5, h6⟩
  · intro p e s m args below meth c s₁ B hml0 hP _
    obtain ⟨rfl, hx, hbd, hgv⟩ := hP
    obtain ⟨scr, harrAt, hlist, hof, hsmall⟩ := hx
    obtain ⟨hcb, hkn, -, -⟩ := State.arrayAt?_spec harrAt
    have hown : s.vm.findClass R_law = some m.cls := findClass_of_methodNamed B.named
    have hts0 : ∀ c ∈ (Jvm.Cond.code x code maxLocals ret :: tables_1), c.before #[Value.ref b] s = true := atoms_spec (ws := Jvm.Cond.code x code maxLocals ret :: tables_1) B.pre
    have hts : ∀ w ∈ lw_tbl, w.before #[Value.ref b] s = true := k2_hts_sels lw_privs (fun w hw => hts0 w (List.mem_cons_of_mem _ hw)) lw_privs_ok
    have hml : c.maxLocals = 4 := B.maxLocals_eq (hts0 _ List.mem_cons_self)
    have X₀ : Stand p l e room_1 s m #[Value.ref b] below meth c s₁ [] 0 0 := Stand.of_body B
    have hh0 : s₁.heap = s.heap := by rw [B.state]; rfl
    have hsz : scr.slots.size = xs.length := by rw [← Array.length_toList, hlist, List.length_map]
    have hval : ∀ j : Nat, j < xs.length → scr.slots[j]? = some (.int (xs.getD j 0)) := fun j hj => by
      rw [← Array.getElem?_toList, hlist]
      simp [hj]
    have hbl : b < s.heap.size := (Array.getElem?_eq_some_iff.mp hcb).1
    have hX : va_X b xs.length (fun j => xs.getD j 0) s s.heap := ⟨scr, hcb, hof, hkn, hsz, hval⟩
    have K : W p l e room_1 s m #[Value.ref b] below meth c s₁.heap [] 0 0 (lw_Z below #[Value.ref b] s) (entryFrame m ([Value.ref b] : List Value).toArray 4) := by
      rw [hh0]
      exact whole_start l hbd ⟨B.exec, B.bytes, B.returns, hml, hown, hts, hX, hbl, B.notSynchronized, hgv⟩
    obtain ⟨t, a1, o, b1, b2, b3⟩ := K s₁ rfl X₀
    exact ⟨t, o, a1, b1, b2, b3⟩
theorem lw_pre_spec {args : Array Value} {s : State} (h : (Jvm.Cond.and given_1 narrow_1).before args s = true) (hr : rest_1_c.before args s = true) : ∃ (b : Addr) (xs : List Int32), lw_P b xs args s := by
  have hs := flat_of_before _ h
  have hq := flat_of_before _ hr
  have hc : (Cond.count 1).before args s = true := hs _ (by decide +kernel)
  have harr : (Cond.arrayOf (.arg 0) .int).before args s = true := hs _ (by decide +kernel)
  have hle : (Cond.le (.length (.arg 0)) (.int 320)).before args s = true := hs _ (by decide +kernel)
  have hlen : (Cond.isInt (.length (.arg 0))).before args s = true := hq _ (by decide +kernel)
  have hall : (Cond.all (.arg 0) (.isInt (.elem (.arg 0) (.index 0)))).before args s = true := hq _ (by decide +kernel)
  obtain ⟨b, xs, hb, hx⟩ := State.ints_of_pre rfl harr hlen hall
  have hsm : xs.length < 2 ^ 31 := hx.choose_spec.2.2.2
  have hev : (Term.length (.arg 0)).eval args s none [] s = some (.int xs.length.toInt32) := hx.length_eval hb
  have hv := Cond.le_ints hev (show (Term.int 320).eval args s none [] s = some (.int 320) from rfl)
  have hd : xs.length.toInt32 ≤ 320 := by
    simpa [Cond.before, Cond.holds, hv] using hle
  have hN : xs.length ≤ 320 := (Int32.ofNat_le_ofNat hsm (by decide)).mp (show Int32.ofNat xs.length ≤ Int32.ofNat 320 from hd)
  exact ⟨b, xs, Cond.one_arg hc (show args[0]? = some (.ref b) from hb), hx, hN, h⟩
theorem lw_comes (l : Launch) : Comes l x (Jvm.Cond.code x code maxLocals ret :: tables_1) room_1 (fun tb e args s => Calls_1 tb e args s ∧ rest_1 tb e args s ∧ Pre_1 tb e args s)
    (fun _ _ args s o t => lw_Q args s o t) := by
  intro p e ha hc hk s m args below hf hfit hheap happ hpre
  obtain ⟨b, xs, hP⟩ := lw_pre_spec hpre.2.2 hpre.2.1
  obtain ⟨k, o, h1, h2, h3, hQ⟩ := lw_walk l b xs p e ha hc hk s m args below hf ((Spec.applies_iff_loose hf).mp happ).1 hP trivial
  exact ⟨k, o, h1, h2, h3, hQ⟩
theorem lw_frame {s t : State} {o : Outcome} {args : Array Value} (h : Framed s o t [] 43 780) :
    Framed s o t (fieldLocs frame_1_writes args s ++ arrayLocs frame_1_arrays args s ++ staticLocs frame_1_statics s) 43 780 := h
theorem lw_limb (L : Cond) (hL : ∀ (args : Array Value) (s t : State), L.after args s (.returned (some (.int 1))) t = true) :
    ArmFor flags0 classFile x code maxLocals ret World_1 tables_1 room_1 Calls_1 rest_1 Pre_1
      (fun tb e a s o t => postC L tb e a s o t ∧ Framed s o t (fieldLocs frame_1_writes a s ++ arrayLocs frame_1_arrays a s ++ staticLocs frame_1_statics s) 43 780) := by
  intro l _ _ _ p e ha hc hk s m args below hf hfit hheap happ hpre
  obtain ⟨k, o, h1, h2, h3, rfl, hF⟩ := lw_comes l p e ha hc hk s m args below hf hfit hheap happ hpre
  exact ⟨k, _, h1, h2, h3, hL args s _, lw_frame hF⟩
theorem i_vc : Claimed_1_1 ∧ Claimed_1_2 := ⟨lw_limb limb_1_1 (fun args s t => by simp [limb_1_1, Cond.after, Cond.holds, Cond.value]), lw_limb limb_1_2 (fun args s t => Cond.after_iff.mpr (by
  first | (rw [show limb_1_2 = Cond.eq .result (.int 1) from rfl, Cond.eq_ints (x := 1) (y := 1) rfl rfl]; simp; done) | (simp [limb_1_2, Cond.value, Term.eval]; done)))⟩

