/-! THE TEXT: its head, and FAULT -/
theorem rd_hd {g : am_G} {len k : Nat} (h1 : 1 ≤ k) (h5 : k ≤ 5) : tx_ok g len k = tx_b (tx_f g len k) (if k < 5 then 0 else 1) (if k < 5 then 3 else 9) := by
  unfold tx_ok
  rw [if_pos (by omega), if_neg (by omega)]
  split
  · rfl
  · rfl
theorem rd_hstep {F : Nat} {g : am_G} {len s : Nat} {st : Option Nat} (hX : iv_X g len) (hs : s < 4) (hst : rd_s g (1 + s) st) (k : am_G → Option (Int32 × am_G)) (n : Nat) :
    ∃ x h, f_X8_readText_48 F k (n + 1) (nI s) g = f_X8_readText_48 F k n (nI (s + 1)) h ∧ rd_E g h ∧ (h 26 11 = g 26 11 ∧ h 26 12 = g 26 12) ∧ h 33 s = nI x ∧ (∀ t, t ≠ s → h 33 t = g 33 t) ∧ rd_s h (1 + (s + 1)) (rd_n st (tx_ok g len (1 + s)) (1 + s)) ∧ (rd_n st (tx_ok g len (1 + s)) (1 + s) = none → tx_f g len (1 + s) = some x ∧ x ≤ 3) := by
  obtain ⟨x, h, c, bx, e, t, nn⟩ := rd_fstep (a := 0) (b := 3) hX (show 1 + s ≤ 48 by omega) (by omega) (by omega) hst
  have hh : tx_ok g len (1 + s) = tx_b (tx_f g len (1 + s)) 0 3 := by rw [rd_hd (by omega) (by omega), if_pos (by omega), if_pos (by omega)]
  rw [← hh] at t nn
  refine ⟨x, am_u h 33 s (nI x), ?_, ?_, ⟨?_, ?_⟩, ?_, ?_, ?_, ?_⟩
  · rw [f_X8_readText_48.eq_2, if_neg (show ¬ (4 : Int32) ≤ nI s from nI_ge (b := 4) hs (by decide)), show f_X8_figure g 0 3 = _ from c, Option.bind_some, if_pos ((pu_in (by omega)).mpr hs), pu_tn (by omega), show nI s + (1 : Int32) = nI (s + 1) from nI_add s 1]
  · intro a b q
    rw [am_u_at, if_neg (by omega), e a b (by omega)]
  · rw [am_u_at, if_neg (by omega), e 26 11 (by omega)]
  · rw [am_u_at, if_neg (by omega), e 26 12 (by omega)]
  · rw [am_u_at, if_pos ⟨rfl, rfl⟩]
  · intro t ht
    rw [am_u_at, if_neg (by omega), e 33 t (by omega)]
  · exact t.mono (by rw [am_u_at, if_neg (by omega)]) (by rw [am_u_at, if_neg (by omega)])
  · intro q
    exact ⟨(nn q).1, (nn q).2.2⟩
theorem tx_ok.of {g h : am_G} (e : h 35 = g 35) (len k : Nat) : tx_ok h len k = tx_ok g len k := by
  have h1 : ∀ k, tx_f h len k = tx_f g len k := tx_f.of e len
  have h2 : ∀ k, tx_u h k = tx_u g k := fun k => by unfold tx_u; rw [e]
  have h3 : ∀ m w, tx_t h len m w = tx_t g len m w := fun m w => by
    unfold tx_t
    congr 1
    funext j
    unfold tx_k
    rw [h1, h1, h1]
  unfold tx_ok
  rw [h1, h2, h3, h3, h3]
theorem tx_ff.of {g h : am_G} (e : h 35 = g 35) (len : Nat) : ∀ d i, tx_ff h len i d = tx_ff g len i d
  | 0, i => rfl
  | d + 1, i => by
    unfold tx_ff
    rw [tx_ok.of e, tx_ff.of e len d (i + 1)]
set_option maxHeartbeats 1000000 in
theorem rd_read {F : Nat} (hF : 20 ≤ F) {g : am_G} {len : Nat} (hX : iv_X g len) : ∃ h, f_X8_readText F g = some (tx_ff g len 0 len, h) ∧ rd_E g h ∧ rd_Z g len h := by
  have hl := hX.1
  obtain ⟨gi, hgi⟩ : ∃ gi, gi = am_u (am_u (am_u (am_u g 26 15 (0 : Int32)) 26 16 (-9 : Int32)) 26 11 (0 : Int32)) 26 12 (0 : Int32) := ⟨_, rfl⟩
  have Ei : rd_E g gi := fun a b q => by rw [hgi, am_u_at, if_neg (by omega), am_u_at, if_neg (by omega), am_u_at, if_neg (by omega), am_u_at, if_neg (by omega)]
  have i16 : gi 26 16 = -9 := by rw [hgi, am_u_at, if_neg (by omega), am_u_at, if_neg (by omega), am_u_at, if_pos ⟨rfl, rfl⟩]
  have i11 : gi 26 11 = nI 0 := by rw [hgi, am_u_at, if_neg (by omega), am_u_at, if_pos ⟨rfl, rfl⟩]; rfl
  have i12 : gi 26 12 = nI 0 := by rw [hgi, am_u_at, if_pos ⟨rfl, rfl⟩]; rfl
  have Xi := Ei.X hX
  unfold f_X8_readText
  simp only [← hgi]
  rw [Xi.2.2.1]
  by_cases h0 : len = 0
  · subst h0
    rw [if_pos (show nI 0 = (0 : Int32) from rfl)]
    refine ⟨gi, rfl, Ei, fun z => ?_⟩
    exact absurd z (show ¬ (0 : Int32) = -9 from by decide)
  rw [if_neg (show ¬ nI len = (0 : Int32) from fun z => h0 ((pu_eq (b := 0) (by omega) (by decide)).mp z))]
  obtain ⟨-, e35, e256⟩ := tx_at hX (show 0 < 48 by omega)
  have e0 : gi 35 (Int32.toNatClampNeg 0) = nI (tx_u g 0) := (Ei 35 0 (by omega)).trans e35
  rw [e0]
  by_cases hS : tx_u g 0 = 83
  · rw [if_pos (show nI (tx_u g 0) = (83 : Int32) by rw [hS]; rfl)]
    have ok0 : tx_ok g len 0 = true := by
      unfold tx_ok
      rw [if_pos (by omega), if_pos rfl, hS]
      rfl
    obtain ⟨g0, hg0⟩ : ∃ g0, g0 = am_u gi 26 15 (1 : Int32) := ⟨_, rfl⟩
    rw [← hg0]
    have E0 : rd_E g g0 := Ei.trans fun a b q => by rw [hg0, am_u_at, if_neg (by omega)]
    have s0 : rd_s g0 (1 + 0) none := ⟨by rw [hg0, am_u_at, if_pos ⟨rfl, rfl⟩]; rfl, by rw [hg0, am_u_at, if_neg (by omega), i16]⟩
    have z35 : ∀ {h : am_G}, rd_E g h → h 35 = g 35 := fun H => funext fun b => H 35 b (by omega)
    obtain ⟨n, rfl⟩ : ∃ n, F = n + 5 := ⟨F - 5, by omega⟩
    obtain ⟨x0, h1, c0, e0', p0, v0, u0, t0, m0⟩ := rd_hstep (F := n + 5) (E0.X hX) (show 0 < 4 by omega) s0 (fun g => f_X8_readText_71 (n + 5) (g)) (n + 4)
    have E1 := E0.trans e0'
    rw [tx_ok.of (z35 E0), E0.f len] at m0
    rw [tx_ok.of (z35 E0)] at t0
    obtain ⟨x1, h2, c1, e1, p1, v1, u1, t1, m1⟩ := rd_hstep (F := n + 5) (E1.X hX) (show 0 + 1 < 4 by omega) t0 (fun g => f_X8_readText_71 (n + 5) (g)) (n + 3)
    have E2 := E1.trans e1
    rw [tx_ok.of (z35 E1), E1.f len] at m1
    rw [tx_ok.of (z35 E1)] at t1
    obtain ⟨x2, h3, c2, e2, p2, v2, u2, t2, m2⟩ := rd_hstep (F := n + 5) (E2.X hX) (show 0 + 1 + 1 < 4 by omega) t1 (fun g => f_X8_readText_71 (n + 5) (g)) (n + 2)
    have E3 := E2.trans e2
    rw [tx_ok.of (z35 E2), E2.f len] at m2
    rw [tx_ok.of (z35 E2)] at t2
    obtain ⟨x3, h4, c3, e3, p3, v3, u3, t3, m3⟩ := rd_hstep (F := n + 5) (E3.X hX) (show 0 + 1 + 1 + 1 < 4 by omega) t2 (fun g => f_X8_readText_71 (n + 5) (g)) (n + 1)
    have E4 := E3.trans e3
    rw [tx_ok.of (z35 E3), E3.f len] at m3
    rw [tx_ok.of (z35 E3)] at t3
    rw [show (0 : Int32) = nI 0 from rfl, show n + 5 = n + 4 + 1 from rfl]
    rw [show n + 4 + 1 = n + 5 from rfl] at *
    rw [show f_X8_readText_48 (n + 5) (fun g => f_X8_readText_71 (n + 5) g) (n + 5) (nI 0) g0 = _ from c0.trans (c1.trans (c2.trans c3)), f_X8_readText_48.eq_2, if_pos (show (4 : Int32) ≤ nI (0 + 1 + 1 + 1 + 1) from by decide)]
    show ∃ h, f_X8_readText_71 (n + 5) h4 = some (tx_ff g len 0 len, h) ∧ _
    obtain ⟨y, q, cq, by_, eq_, tq, mq⟩ := rd_fstep (a := 1) (b := 9) (E4.X hX) (show 1 + (0 + 1 + 1 + 1 + 1) ≤ 48 by omega) (by omega) (by omega) t3
    rw [E4.f len] at tq mq
    have hh : tx_ok g len 5 = tx_b (tx_f g len 5) 1 9 := by rw [rd_hd (by omega) (by omega), if_neg (by omega), if_neg (by omega)]
    have hh2 : tx_b (tx_f g len (1 + (0 + 1 + 1 + 1 + 1))) 1 9 = tx_ok g len 5 := hh.symm
    rw [hh2] at tq mq
    obtain ⟨g5, hg5⟩ : ∃ g5, g5 = am_u q 26 10 (nI y) := ⟨_, rfl⟩
    have E5 : rd_E g g5 := E4.trans (eq_.E.trans fun a b q => by rw [hg5, am_u_at, if_neg (by omega)])
    have t5 := tq.mono (h := g5) (by rw [hg5, am_u_at, if_neg (by omega)]) (by rw [hg5, am_u_at, if_neg (by omega)])
    rw [f_X8_readText_71, show f_X8_figure h4 1 9 = _ from cq, Option.bind_some]
    show ∃ h, f_X8_readText_82 (n + 5) (n + 5) (am_u q 26 10 (nI y)) = _ ∧ _
    rw [← hg5]
    obtain ⟨st, hst⟩ : ∃ st, st = rd_c (fun j => tx_ok g len (1 + j)) 1 5 := ⟨_, rfl⟩
    have t6 : rd_s g5 6 st := by rw [hst]; exact t5
    cases hq : st with
    | none =>
      rw [hq] at t6 hst
      obtain ⟨w15, w16⟩ := t6
      have hall := rd_c_none hst.symm
      have d4 := (rd_n_none hst.symm).1
      have d3 := (rd_n_none d4).1
      have d2 := (rd_n_none d3).1
      have d1 := (rd_n_none d2).1
      have k0 := m0 d1
      have k1 := m1 d2
      have k2 := m2 d3
      have k3 := m3 d4
      have ky := mq hst.symm
      have hlen : 6 ≤ len := by
        have := (tx_lt ky.1).2
        omega
      have w11 : g5 26 11 = nI 0 := by rw [hg5, am_u_at, if_neg (by omega), eq_ 26 11 (by omega), p3.1, p2.1, p1.1, p0.1, hg0, am_u_at, if_neg (by omega), i11]
      have w12 : g5 26 12 = nI 0 := by rw [hg5, am_u_at, if_neg (by omega), eq_ 26 12 (by omega), p3.2, p2.2, p1.2, p0.2, hg0, am_u_at, if_neg (by omega), i12]
      have w33 : ∀ s, g5 33 s = h4 33 s := fun s => by rw [hg5, am_u_at, if_neg (by omega), eq_ 33 s (by omega)]
      refine rd_loop (by omega) hX 6 0 (n + 5) g5 0 (by omega) (by omega) E5 (by omega) w15 w16 w11 w12 ⟨by decide, fun x hx d hd => by simp [ex_a]⟩ ?_ ⟨⟨y, ky.2.1, ky.2.2, ky.1, by rw [hg5, am_u_at, if_pos ⟨rfl, rfl⟩]⟩, ?_⟩ (fun j hj => absurd hj (Nat.not_lt_zero j))
      · intro k hk
        by_cases hk0 : k = 0
        · rw [hk0]; exact ok0
        · have := hall (k - 1) (by omega)
          rw [show 1 + (k - 1) = k by omega] at this
          exact this
      · intro s hs
        match s, hs with
        | 0, _ => exact ⟨x0, k0.2, k0.1, by rw [w33, u3 0 (by omega), u2 0 (by omega), u1 0 (by omega), v0]⟩
        | 1, _ => exact ⟨x1, k1.2, k1.1, by rw [w33, u3 1 (by omega), u2 1 (by omega)]; exact v1⟩
        | 2, _ => exact ⟨x2, k2.2, k2.1, by rw [w33, u3 2 (by omega)]; exact v2⟩
        | 3, _ => exact ⟨x3, k3.2, k3.1, by rw [w33]; exact v3⟩
    | some f =>
      rw [hq] at t6 hst
      obtain ⟨w16, hf48⟩ := t6
      obtain ⟨j, hj, hfj, hno, hbe⟩ := rd_c_some hst.symm
      have hok2 : ∀ k, k < f → tx_ok g len k = true := by
        intro k hk
        by_cases hk0 : k = 0
        · rw [hk0]; exact ok0
        · have := hbe (k - 1) (by omega)
          rw [show 1 + (k - 1) = k by omega] at this
          exact this
      have hfl : f ≤ len := by
        rcases Nat.lt_or_ge len f with q | q
        · have h1 := hok2 len (by omega)
          have hn : tx_f g len len = none := if_neg (by omega)
          rw [rd_hd (by omega) (by omega), hn] at h1
          simp [tx_b] at h1
        · exact q
      have hff : tx_ff g len 0 len = nI f := tx_ffS len 0 f (by omega) (by omega) hfl (fun k _ hk => hok2 k hk) (fun _ => by rw [hfj]; exact hno) (by omega)
      refine ⟨g5, ?_, E5, ?_⟩
      · rw [f_X8_readText_82.eq_2, w16, if_neg (rd_ne9 f hf48), hff]
      · intro z
        rw [hff] at z
        exact absurd z (rd_ne9 _ hf48)
  · rw [if_neg (show ¬ nI (tx_u g 0) = (83 : Int32) from fun z => hS ((pu_eq (b := 83) (by omega) (by decide)).mp z))]
    have hno : tx_ok g len 0 = false := by
      unfold tx_ok
      rw [if_pos (by omega), if_pos rfl]
      simp [hS]
    have hff : tx_ff g len 0 len = nI 0 := tx_ffS len 0 0 (by omega) (by omega) (by omega) (fun k _ hk => absurd hk (Nat.not_lt_zero k)) (fun _ => hno) (by omega)
    refine ⟨gi, by rw [hff]; rfl, Ei, fun z => ?_⟩
    rw [hff] at z
    exact absurd z (rd_ne9 0 (by omega))
theorem rd_E.same {g h : am_G} (H : rd_E g h) : iv_same g h := by
  refine ⟨fun c hc => funext fun b => H c b (by omega), fun k hk => H 32 k (by omega), ⟨H 1 1 (by omega), H 26 14 (by omega), H 3 7 (by omega), H 26 0 (by omega), H 3 6 (by omega), H 26 1 (by omega)⟩, ⟨H 10 3 (by omega), H 16 1 (by omega), H 26 17 (by omega), H 26 18 (by omega)⟩, ⟨H 18 1 (by omega), H 22 1 (by omega), H 26 23 (by omega)⟩⟩
theorem K_fault {F : Nat} (hF : 2000 ≤ F) {g : am_G} {w : am_J} (hI : iv_I g w) : ∃ (r : Int32) (g2 : am_G), f_X7_fault F g = some r ∧ f_X8_fault F g = some (r, g2) ∧ iv_I g2 w := by
  obtain ⟨len, N, A, nx, fl, a1, a2, a3, a4, a5, a6, hw⟩ := id hI
  obtain ⟨h, c, E, -⟩ := rd_read (F := F) (by omega) a1
  refine ⟨tx_ff g len 0 len, h, ?_, ?_, E.same.I hw hI⟩
  · rw [f_X7_fault, tx_fault (by omega) a1]
    rfl
  · rw [f_X8_fault, c]
    rfl
