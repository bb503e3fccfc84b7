/-! WAYS: the ranks of the class -/
def wy_x (x k v : Nat) : Nat := (x / 10000000 + k) * 10000000 + (10 * (x % 10000000) + (v + 1))
def wy_g (S : Nat → Nat → Bool) (N via k : Nat) (r : Nat → Nat) : Nat → Nat := fun v => if v < N ∧ S v via = true ∧ r via ≠ 1000000000 then min (r v) (wy_x (r via) k v) else r v
def wy_D (c : Nat → Nat) (f : Nat) (r : Nat → Nat) : List Nat → Prop
  | [] => True
  | b :: L => r b ≤ wy_R c f b L ∧ wy_D c f r L
def wy_I (S : Nat → Nat → Bool) (p : Nat → Bool) (c : Nat → Nat) (N f : Nat) (r : Nat → Nat) : Prop := r f = f + 1 ∧ ∀ v, v < N → v ≠ f → r v = 1000000000 ∨ ∃ L, wy_V S p N f v L ∧ r v = wy_R c f v L ∧ wy_D c f r L
section WR
variable {S : Nat → Nat → Bool} {p : Nat → Bool} {c : Nat → Nat} {N f t : Nat} {r r' : Nat → Nat}
theorem wy_D.mono (h : ∀ k, r' k ≤ r k) : ∀ {L : List Nat}, wy_D c f r L → wy_D c f r' L
  | [], _ => trivial
  | b :: L, hd => ⟨Nat.le_trans (h b) hd.1, wy_D.mono h hd.2⟩
theorem wy_ar1 (M h k d x b : Nat) (q : x ≤ h * M + (10 * d + b)) : x ≤ (h + k) * M + (10 * d + b) := by
  rw [Nat.add_mul]
  generalize h * M = A at *
  generalize k * M = B at *
  omega
theorem wy_ar2 (M h k d x b : Nat) (q : x ≤ h * M + d) : x ≤ (h + k) * M + (10 * d + b) := by
  rw [Nat.add_mul]
  generalize h * M = A at *
  generalize k * M = B at *
  omega
theorem wy_ar3 (M a a' d d' k v : Nat) (hM : 10000000 ≤ M) (h2 : d < 1000000) (h2' : d' < 1000000) (hle : a * M + d ≤ a' * M + d') : (a + k) * M + (10 * d + (v + 1)) ≤ (a' + k) * M + (10 * d' + (v + 1)) := by
  rw [Nat.add_mul, Nat.add_mul]
  generalize k * M = B
  rcases Nat.lt_trichotomy a a' with q | q | q
  · have h6 : (a + 1) * M ≤ a' * M := Nat.mul_le_mul_right _ q
    rw [Nat.succ_mul] at h6
    generalize a * M = A at *
    generalize a' * M = A' at *
    omega
  · subst q
    generalize a * M = A at *
    omega
  · have h6 : (a' + 1) * M ≤ a * M := Nat.mul_le_mul_right _ q
    rw [Nat.succ_mul] at h6
    generalize a * M = A at *
    generalize a' * M = A' at *
    omega
theorem wy_ar4 (M h k d x b v : Nat) (q : x ≤ h * M + d) : x < (h + k) * M + (10 * (10 * d + b) + (v + 1)) := by
  rw [Nat.add_mul]
  generalize h * M = A at *
  generalize k * M = B at *
  omega
theorem wy_D.mem {b : Nat} : ∀ {L : List Nat}, wy_D c f r L → b ∈ L → r b ≤ wy_h c L * 10000000 + wy_d f L
  | [], _, hb => absurd hb List.not_mem_nil
  | a :: L, hd, hb => by
    simp only [wy_h, wy_d]
    rcases List.mem_cons.mp hb with q | q
    · have := hd.1
      rw [← q] at this
      unfold wy_R at this
      rw [← q]
      exact wy_ar1 _ _ _ _ _ _ this
    · exact wy_ar2 _ _ _ _ _ _ (wy_D.mem hd.2 q)
theorem wy_le (hc : ∀ b, c b ≤ 1) (hN : N ≤ 6) (hf : f < N) (ht : t < N) (hft : t ≠ f) {L : List Nat} (h : wy_V S p N f t L) : wy_h c L ≤ 4 ∧ 10 * wy_d f L + (t + 1) < 1000000 ∧ wy_R c f t L < 1000000000 := by
  obtain ⟨-, h2, h3, -⟩ := wy_bnd hN hf ht hft h
  have h4 := wy_hle hc L
  unfold wy_R
  refine ⟨by omega, by omega, ?_⟩
  have : wy_h c L * 10000000 ≤ 4 * 10000000 := Nat.mul_le_mul_right _ (by omega)
  omega
theorem wy_xof (h d k v : Nat) (hd : d < 10000000) : wy_x (h * 10000000 + d) k v = (h + k) * 10000000 + (10 * d + (v + 1)) := by
  unfold wy_x
  have e1 : (h * 10000000 + d) / 10000000 = h := by omega
  have e2 : (h * 10000000 + d) % 10000000 = d := by omega
  rw [e1, e2]
theorem wy_xR (hc : ∀ b, c b ≤ 1) (hN : N ≤ 6) (hf : f < N) (ht : t < N) (hft : t ≠ f) {L : List Nat} (h : wy_V S p N f t L) (v : Nat) : wy_x (wy_R c f t L) (c t) v = wy_R c f v (t :: L) := by
  obtain ⟨h1, h2, h3⟩ := wy_le hc hN hf ht hft h
  unfold wy_R
  rw [wy_xof _ _ _ _ (by omega)]
  simp only [wy_h, wy_d]
theorem wy_x0 (hf : f < 6) (v : Nat) : wy_x (f + 1) 0 v = wy_R c f v [] := by
  have := wy_xof 0 (f + 1) 0 v (by omega)
  rw [Nat.zero_mul, Nat.zero_add] at this
  rw [this]
  simp [wy_R, wy_h, wy_d]
theorem wy_xle (hc : ∀ b, c b ≤ 1) (hN : N ≤ 6) (hf : f < N) (ht : t < N) (hft : t ≠ f) {L L' : List Nat} (h : wy_V S p N f t L) (h' : wy_V S p N f t L') (hle : wy_R c f t L ≤ wy_R c f t L') (k v : Nat) : wy_x (wy_R c f t L) k v ≤ wy_x (wy_R c f t L') k v := by
  obtain ⟨h1, h2, h3⟩ := wy_le hc hN hf ht hft h
  obtain ⟨h1', h2', h3'⟩ := wy_le hc hN hf ht hft h'
  unfold wy_R at hle ⊢
  rw [wy_xof _ _ _ _ (by omega), wy_xof _ _ _ _ (by omega)]
  exact wy_ar3 _ _ _ _ _ _ _ (Nat.le_refl _) h2 h2' hle
theorem wy_g.le (S : Nat → Nat → Bool) (N via k : Nat) (r : Nat → Nat) (v : Nat) : wy_g S N via k r v ≤ r v := by
  unfold wy_g
  split
  · exact Nat.min_le_left _ _
  · exact Nat.le_refl _
theorem wy_step (hS : ∀ v, S v v = false) (hc : ∀ b, c b ≤ 1) (hN : N ≤ 6) (hf : f < N) (hI : wy_I S p c N f r) {via k : Nat} (hv : via < N) (hk : (via = f ∧ k = 0) ∨ (via ≠ f ∧ p via = true ∧ k = c via)) : wy_I S p c N f (wy_g S N via k r) := by
  have hle := wy_g.le S N via k r
  obtain ⟨h0, h1⟩ := hI
  refine ⟨?_, fun v hvN hvf => ?_⟩
  · have hl := hle f
    unfold wy_g at hl ⊢
    split
    · rename_i q
      rcases hk with ⟨e, -⟩ | ⟨e1, e2, e3⟩
      · rw [e, hS f] at q
        exact absurd q.2.1 (by decide)
      · rcases h1 via hv e1 with z | ⟨L, z1, z2, z3⟩
        · exact absurd z q.2.2
        · rw [z2, e3, wy_xR hc hN hf hv e1 z1, h0]
          apply Nat.min_eq_left
          unfold wy_R
          omega
    · exact h0
  · by_cases hq : v < N ∧ S v via = true ∧ r via ≠ 1000000000 ∧ wy_x (r via) k v < r v
    · obtain ⟨q1, q2, q3, q4⟩ := hq
      have e : wy_g S N via k r v = wy_x (r via) k v := by
        unfold wy_g
        rw [if_pos ⟨q1, q2, q3⟩]
        exact Nat.min_eq_right (by omega)
      right
      rcases hk with ⟨e1, e2⟩ | ⟨e1, e2, e3⟩
      · subst e1 e2
        refine ⟨[], ⟨trivial, List.not_mem_nil, q2⟩, ?_, trivial⟩
        rw [e, h0, wy_x0 (by omega)]
      · rcases h1 via hv e1 with z | ⟨L, z1, z2, z3⟩
        · exact absurd z q3
        · have e4 : wy_x (r via) k v = wy_R c f v (via :: L) := by rw [z2, e3, wy_xR hc hN hf hv e1 z1]
          refine ⟨via :: L, ⟨⟨z1.1, hv, e1, z1.2.1, e2, z1.2.2⟩, ?_, q2⟩, by rw [e, e4], ?_, ?_⟩
          · intro hm
            rcases List.mem_cons.mp hm with q | q
            · rw [q, hS via] at q2
              exact absurd q2 (by decide)
            · have := z3.mem q
              rw [e4] at q4
              unfold wy_R at q4
              simp only [wy_h, wy_d] at q4
              have h9 := wy_ar4 _ _ (c via) _ _ (via + 1) v this
              exact absurd q4 (Nat.lt_asymm h9)
          · exact Nat.le_trans (hle via) (Nat.le_of_eq z2)
          · exact z3.mono hle
    · have e : wy_g S N via k r v = r v := by
        unfold wy_g
        split
        · rename_i q
          apply Nat.min_eq_left
          exact Nat.le_of_not_lt fun z => hq ⟨q.1, q.2.1, q.2.2, z⟩
        · rfl
      rw [e]
      rcases h1 v hvN hvf with z | ⟨L, z1, z2, z3⟩
      · exact Or.inl z
      · exact Or.inr ⟨L, z1, z2, z3.mono hle⟩
/-- what one window passes on -/
def wy_s (S : Nat → Nat → Bool) (p : Nat → Bool) (c : Nat → Nat) (N f via : Nat) (r : Nat → Nat) : Nat → Nat := if via = f then wy_g S N via 0 r else if p via = true then wy_g S N via (c via) r else r
theorem wy_s.le (via v : Nat) : wy_s S p c N f via r v ≤ r v := by
  unfold wy_s
  split
  · exact wy_g.le _ _ _ _ _ _
  · split
    · exact wy_g.le _ _ _ _ _ _
    · exact Nat.le_refl _
theorem wy_s.I (hS : ∀ v, S v v = false) (hc : ∀ b, c b ≤ 1) (hN : N ≤ 6) (hf : f < N) (hI : wy_I S p c N f r) {via : Nat} (hv : via < N) : wy_I S p c N f (wy_s S p c N f via r) := by
  unfold wy_s
  split
  · rename_i h
    exact wy_step hS hc hN hf hI hv (Or.inl ⟨h, rfl⟩)
  · rename_i h
    split
    · rename_i h2
      exact wy_step hS hc hN hf hI hv (Or.inr ⟨h, h2, rfl⟩)
    · exact hI
def wy_C (S : Nat → Nat → Bool) (p : Nat → Bool) (c : Nat → Nat) (N f i : Nat) (r : Nat → Nat) : Prop := ∀ v, v < N → v ≠ f → ∀ L, wy_V S p N f v L → L.length < i → r v ≤ wy_R c f v L
theorem wy_pass (hc : ∀ b, c b ≤ 1) (hN : N ≤ 6) (hf : f < N) (hI : wy_I S p c N f r) {i via : Nat} (hC : ∀ v, v < N → v ≠ f → ∀ L, wy_V S p N f v L → L.length < i → r v ≤ wy_R c f v L) (hv : via < N) {v : Nat} (h1 : v < N) (h2 : v ≠ f) {L : List Nat} (hL : wy_V S p N f v L) (hl : L.length < i + 1) (he : wy_l f L = via) : wy_s S p c N f via r v ≤ wy_R c f v L := by
  cases L with
  | nil =>
    have e : f = via := he
    subst e
    have hs : S v f = true := hL.2.2
    unfold wy_s wy_g
    rw [if_pos rfl, hI.1, if_pos ⟨h1, hs, by omega⟩, wy_x0 (c := c) (by omega)]
    exact Nat.min_le_right _ _
  | cons b L =>
    have e : b = via := he
    subst e
    obtain ⟨⟨k0, k1, k2, k3, k4, k5⟩, k6, k7⟩ := hL
    have hs : S v b = true := k7
    have hVb : wy_V S p N f b L := ⟨k0, k3, k5⟩
    have hb := hC b k1 k2 L hVb (by simpa using hl)
    obtain ⟨-, -, hlt⟩ := wy_le hc hN hf k1 k2 hVb
    unfold wy_s wy_g
    rw [if_neg k2, if_pos k4, if_pos ⟨h1, hs, by omega⟩]
    refine Nat.le_trans (Nat.min_le_right _ _) ?_
    rw [← wy_xR hc hN hf k1 k2 hVb]
    rcases hI.2 b k1 k2 with z | ⟨L2, z1, z2, z3⟩
    · omega
    · rw [z2] at hb ⊢
      exact wy_xle hc hN hf k1 k2 z1 hVb hb _ _
theorem wy_round (hS : ∀ v, S v v = false) (hc : ∀ b, c b ≤ 1) (hN : N ≤ 6) (hf : f < N) {i : Nat} (hI : wy_I S p c N f r) (hC : wy_C S p c N f i r) : wy_I S p c N f (pu_fo (wy_s S p c N f) 0 N r) ∧ wy_C S p c N f (i + 1) (pu_fo (wy_s S p c N f) 0 N r) := by
  have key : ∀ j, j ≤ N → wy_I S p c N f (pu_fo (wy_s S p c N f) 0 j r) ∧ (∀ k, pu_fo (wy_s S p c N f) 0 j r k ≤ r k) ∧ ∀ via, via < j → ∀ v, v < N → v ≠ f → ∀ L, wy_V S p N f v L → L.length < i + 1 → wy_l f L = via → pu_fo (wy_s S p c N f) 0 j r v ≤ wy_R c f v L := by
    intro j
    induction j with
    | zero => exact fun _ => ⟨hI, fun k => Nat.le_refl _, fun via h => absurd h (Nat.not_lt_zero via)⟩
    | succ j ih =>
      intro hj
      obtain ⟨i1, i2, i3⟩ := ih (by omega)
      rw [pu_fo_last, Nat.zero_add]
      refine ⟨wy_s.I hS hc hN hf i1 (by omega), fun k => Nat.le_trans (wy_s.le j k) (i2 k), fun via hvia v hv hvf L hL hl he => ?_⟩
      by_cases e : via = j
      · subst e
        exact wy_pass hc hN hf i1 (fun v hv hvf L hL hl => Nat.le_trans (i2 v) (hC v hv hvf L hL hl)) (by omega) hv hvf hL hl he
      · exact Nat.le_trans (wy_s.le j v) (i3 via (by omega) v hv hvf L hL hl he)
  obtain ⟨k1, k2, k3⟩ := key N (Nat.le_refl N)
  refine ⟨k1, fun v hv hvf L hL hl => k3 (wy_l f L) ?_ v hv hvf L hL hl rfl⟩
  cases L with
  | nil => exact hf
  | cons b L => exact hL.1.2.1
def wy_r0 (f : Nat) : Nat → Nat := fun k => if k = f then f + 1 else 1000000000
/-- all rounds -/
def wy_rr (S : Nat → Nat → Bool) (p : Nat → Bool) (c : Nat → Nat) (N f : Nat) : Nat → Nat := pu_fo (fun _ r => pu_fo (wy_s S p c N f) 0 N r) 0 N (wy_r0 f)
theorem wy_all (hS : ∀ v, S v v = false) (hc : ∀ b, c b ≤ 1) (hN : N ≤ 6) (hf : f < N) : ∀ i, wy_I S p c N f (pu_fo (fun _ r => pu_fo (wy_s S p c N f) 0 N r) 0 i (wy_r0 f)) ∧ wy_C S p c N f i (pu_fo (fun _ r => pu_fo (wy_s S p c N f) 0 N r) 0 i (wy_r0 f)) := by
  intro i
  induction i with
  | zero =>
    refine ⟨⟨?_, fun v hv hvf => Or.inl ?_⟩, fun v hv hvf L hL hl => absurd hl (Nat.not_lt_zero _)⟩
    · simp [pu_fo, wy_r0]
    · simp [pu_fo, wy_r0, hvf]
  | succ i ih =>
    rw [pu_fo_last]
    exact wy_round hS hc hN hf ih.1 ih.2
theorem wy_end (hS : ∀ v, S v v = false) (hc : ∀ b, c b ≤ 1) (hN : N ≤ 6) (hf : f < N) (ht : t < N) (hft : t ≠ f) : (wy_rr S p c N f t = 1000000000 ∧ ∀ L, ¬ wy_V S p N f t L) ∨ ∃ L, wy_B S p c N f t L ∧ wy_rr S p c N f t = wy_R c f t L := by
  obtain ⟨h1, h2⟩ := wy_all (p := p) hS hc hN hf N
  rcases h1.2 t ht hft with z | ⟨L, z1, z2, z3⟩
  · refine Or.inl ⟨z, fun L hL => ?_⟩
    have q1 := h2 t ht hft L hL (by have := hL.len hf ht hft; omega)
    obtain ⟨-, -, q2⟩ := wy_le hc hN hf ht hft hL
    rw [z] at q1
    omega
  · refine Or.inr ⟨L, ⟨z1, fun L' hL' => ?_⟩, z2⟩
    have q1 := h2 t ht hft L' hL' (by have := hL'.len hf ht hft; omega)
    rw [z2] at q1
    exact q1
theorem wy_I.le (hc : ∀ b, c b ≤ 1) (hN : N ≤ 6) (hf : f < N) (hI : wy_I S p c N f r) {v : Nat} (hv : v < N) : r v ≤ 1000000000 := by
  by_cases e : v = f
  · rw [e, hI.1]; omega
  · rcases hI.2 v hv e with z | ⟨L, z1, z2, z3⟩
    · omega
    · obtain ⟨-, -, q⟩ := wy_le hc hN hf hv e z1
      omega
end WR
