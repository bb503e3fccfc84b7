/-! the JDK's Math -/
def am_max (x y : Int32) : Int32 := if x < y then y else x
def am_min (x y : Int32) : Int32 := if y < x then y else x
def am_abs (x : Int32) : Int32 := if 0 ≤ x then x else 0 - x
def am_lmin (x y : Int64) : Int64 := if y < x then y else x
def am_wM (own idx : Nat) (nm : MethodName) (cd : ByteArray) (n : Nat) (rt : Option FieldType) : Prop := Cond.methodLink (am_cn own) idx nm ∈ am_tbl ∧ Cond.static nm ∈ am_tbl ∧ Cond.initialized "java/lang/Math" ∈ am_tbl ∧ Cond.code nm cd n rt ∈ am_tbl
theorem am_wM.mk {own idx : Nat} {nm : MethodName} {cd : ByteArray} {n : Nat} {rt : Option FieldType} (a b d e : Nat) (h : am_pl [(a, .methodLink (am_cn own) idx nm), (b, .static nm), (d, .initialized "java/lang/Math"), (e, .code nm cd n rt)] = true) : am_wM own idx nm cd n rt := by
  have h1 := am_pl_ok h
  exact ⟨h1 (a, _) (by simp), h1 (b, _) (by simp), h1 (d, _) (by simp), h1 (e, _) (by simp)⟩
section AMN
variable {x : am_X} {own : Nat} {cc : ByteArray} {nL : Nat} {Q : State → Prop} {pc idx : Nat} {L : List (Option Value)} {st : List Value} {y : am_Y} {g : am_G} {w : am_J} {a b : Int32}
theorem am_mmax (C0 : am_Cx x own cc nL) (hw : am_wM own idx Lib.Math.max.name Lib.Math.max.code 2 (some .int)) (hR : 1 ≤ (am_R x).frames ∧ 23 ≤ (am_R x).locals) (hsum : (st.map fun v => v.category).sum ≤ 8) (hd : am_dec cc pc (.invokestatic idx) 3 = true) (kk : am_Ev x nL (0, 0) Q (pc + 3) L (.int (am_max a b) :: st) y g w) : am_Ev x nL (0, 0) Q pc L (.int b :: .int a :: st) y g w :=
  fun H locs ls hP hS hl => va_mmax C0.hx C0.hb (by rw [C0.hml, hl.1]) C0.hown (C0.hts _ hw.1) (C0.hts _ hw.2.1) (C0.hts _ hw.2.2.1) (C0.hts _ hw.2.2.2) hR.1 (by rw [am_sum]; omega) (Nat.zero_le _) (Nat.zero_le _) (am_dec_ok hd) (kk H locs ls hP hS hl)
theorem am_mmin (C0 : am_Cx x own cc nL) (hw : am_wM own idx Lib.Math.min.name Lib.Math.min.code 2 (some .int)) (hR : 1 ≤ (am_R x).frames ∧ 23 ≤ (am_R x).locals) (hsum : (st.map fun v => v.category).sum ≤ 8) (hd : am_dec cc pc (.invokestatic idx) 3 = true) (kk : am_Ev x nL (0, 0) Q (pc + 3) L (.int (am_min a b) :: st) y g w) : am_Ev x nL (0, 0) Q pc L (.int b :: .int a :: st) y g w :=
  fun H locs ls hP hS hl => va_mmin C0.hx C0.hb (by rw [C0.hml, hl.1]) C0.hown (C0.hts _ hw.1) (C0.hts _ hw.2.1) (C0.hts _ hw.2.2.1) (C0.hts _ hw.2.2.2) hR.1 (by rw [am_sum]; omega) (Nat.zero_le _) (Nat.zero_le _) (am_dec_ok hd) (kk H locs ls hP hS hl)
theorem am_mabs (C0 : am_Cx x own cc nL) (hw : am_wM own idx Lib.Math.abs.name Lib.Math.abs.code 1 (some .int)) (hR : 1 ≤ (am_R x).frames ∧ 23 ≤ (am_R x).locals) (hsum : (st.map fun v => v.category).sum ≤ 8) (hd : am_dec cc pc (.invokestatic idx) 3 = true) (kk : am_Ev x nL (0, 0) Q (pc + 3) L (.int (am_abs a) :: st) y g w) : am_Ev x nL (0, 0) Q pc L (.int a :: st) y g w :=
  fun H locs ls hP hS hl => va_mabs C0.hx C0.hb (by rw [C0.hml, hl.1]) C0.hown (C0.hts _ hw.1) (C0.hts _ hw.2.1) (C0.hts _ hw.2.2.1) (C0.hts _ hw.2.2.2) hR.1 (by rw [am_sum]; omega) (Nat.zero_le _) (Nat.zero_le _) (am_dec_ok hd) (kk H locs ls hP hS hl)
theorem am_mlmin {a b : Int64} (C0 : am_Cx x own cc nL) (hw : am_wM own idx Lib.MathLoose.min_long.x Lib.MathLoose.min_long.code 4 (some .long)) (hR : 1 ≤ (am_R x).frames ∧ 23 ≤ (am_R x).locals) (hsum : (st.map fun v => v.category).sum ≤ 8) (hd : am_dec cc pc (.invokestatic idx) 3 = true) (kk : am_Ev x nL (0, 0) Q (pc + 3) L (.long (am_lmin a b) :: st) y g w) : am_Ev x nL (0, 0) Q pc L (.long b :: .long a :: st) y g w :=
  fun H locs ls hP hS hl => va_mmin_long C0.hx C0.hb (by rw [C0.hml, hl.1]) C0.hown (C0.hts _ hw.1) (C0.hts _ hw.2.1) (C0.hts _ hw.2.2.1) (C0.hts _ hw.2.2.2) hR.1 (by rw [am_sum]; omega) (Nat.zero_le _) (Nat.zero_le _) (am_dec_ok hd) (kk H locs ls hP hS hl)
end AMN
