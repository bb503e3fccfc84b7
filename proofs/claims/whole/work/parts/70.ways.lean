/-! WAYS: lists of those between, the last one first -/
def wy_l (f : Nat) : List Nat → Nat
  | [] => f
  | b :: _ => b
def wy_h (c : Nat → Nat) : List Nat → Nat
  | [] => 0
  | b :: L => wy_h c L + c b
def wy_d (f : Nat) : List Nat → Nat
  | [] => f + 1
  | b :: L => 10 * wy_d f L + (b + 1)
def wy_w : List Nat → Nat
  | [] => 0
  | b :: L => 6 * wy_w L + b
def wy_ok (S : Nat → Nat → Bool) (p : Nat → Bool) (N f : Nat) : List Nat → Prop
  | [] => True
  | b :: L => wy_ok S p N f L ∧ b < N ∧ b ≠ f ∧ b ∉ L ∧ p b = true ∧ S b (wy_l f L) = true
def wy_V (S : Nat → Nat → Bool) (p : Nat → Bool) (N f t : Nat) (L : List Nat) : Prop := wy_ok S p N f L ∧ t ∉ L ∧ S t (wy_l f L) = true
def wy_R (c : Nat → Nat) (f t : Nat) (L : List Nat) : Nat := wy_h c L * 10000000 + (10 * wy_d f L + (t + 1))
theorem wy_pig : ∀ (N : Nat) (L : List Nat), L.Nodup → (∀ x, x ∈ L → x < N) → L.length ≤ N
  | 0, L, _, h => by
    cases L with
    | nil => exact Nat.le_refl 0
    | cons a L => exact absurd (h a (List.mem_cons_self)) (Nat.not_lt_zero a)
  | N + 1, L, hn, h => by
    by_cases hm : N ∈ L
    · have h1 := List.length_erase_of_mem hm
      have h2 := wy_pig N (L.erase N) (hn.erase N) (fun x hx => by
        have h3 := (hn.mem_erase_iff).mp hx
        have h4 := h x h3.2
        have h5 := h3.1
        omega)
      omega
    · have := wy_pig N L hn (fun x hx => by
        have h4 := h x hx
        have h5 : x ≠ N := fun e => hm (e ▸ hx)
        omega)
      omega
section WY
variable {S : Nat → Nat → Bool} {p : Nat → Bool} {c : Nat → Nat} {N f t : Nat}
theorem wy_ok.nodup : ∀ {L : List Nat}, wy_ok S p N f L → L.Nodup ∧ f ∉ L ∧ ∀ x, x ∈ L → x < N
  | [], _ => ⟨List.nodup_nil, List.not_mem_nil, fun x hx => absurd hx List.not_mem_nil⟩
  | b :: L, h => by
    obtain ⟨h0, h1, h2, h3, -⟩ := h
    obtain ⟨i1, i2, i3⟩ := wy_ok.nodup h0
    refine ⟨List.nodup_cons.mpr ⟨h3, i1⟩, ?_, ?_⟩
    · intro q
      rcases List.mem_cons.mp q with q | q
      · exact h2 q.symm
      · exact i2 q
    · intro x hx
      rcases List.mem_cons.mp hx with q | q
      · rw [q]; exact h1
      · exact i3 x q
theorem wy_V.len {L : List Nat} (h : wy_V S p N f t L) (hf : f < N) (ht : t < N) (hft : t ≠ f) : L.length + 2 ≤ N := by
  obtain ⟨h0, h1, -⟩ := h
  obtain ⟨i1, i2, i3⟩ := h0.nodup
  have := wy_pig N (t :: f :: L) (List.nodup_cons.mpr ⟨by
    intro q
    rcases List.mem_cons.mp q with q | q
    · exact hft q
    · exact h1 q, List.nodup_cons.mpr ⟨i2, i1⟩⟩) (by
    intro x hx
    rcases List.mem_cons.mp hx with q | q
    · omega
    · rcases List.mem_cons.mp q with q | q
      · omega
      · exact i3 x q)
  simpa using this
theorem wy_dlt (hf : f < 6) : ∀ {L : List Nat}, (∀ x, x ∈ L → x < 6) → wy_d f L < 7 * 10 ^ L.length ∧ 10 ^ L.length ≤ wy_d f L
  | [], _ => by
    simp only [wy_d, List.length_nil]
    omega
  | b :: L, h => by
    obtain ⟨i1, i2⟩ := wy_dlt hf (L := L) (fun x hx => h x (List.mem_cons_of_mem b hx))
    have hb := h b List.mem_cons_self
    simp only [wy_d, List.length_cons, Nat.pow_succ]
    omega
theorem wy_hle (hc : ∀ b, c b ≤ 1) : ∀ L : List Nat, wy_h c L ≤ L.length
  | [] => Nat.le_refl 0
  | b :: L => by
    have := wy_hle hc L
    have := hc b
    simp only [wy_h, List.length_cons]
    omega
theorem wy_inj (hf : f < 6) : ∀ {L L' : List Nat}, (∀ x, x ∈ L → x < 6) → (∀ x, x ∈ L' → x < 6) → wy_d f L = wy_d f L' → L = L'
  | [], [], _, _, _ => rfl
  | [], b :: L', _, h', e => by
    have := (wy_dlt hf (L := L') (fun x hx => h' x (List.mem_cons_of_mem b hx))).2
    have := Nat.one_le_two_pow (n := 0)
    have hp : 1 ≤ 10 ^ L'.length := Nat.one_le_pow _ _ (by decide)
    simp only [wy_d] at e
    omega
  | b :: L, [], h, _, e => by
    have := (wy_dlt hf (L := L) (fun x hx => h x (List.mem_cons_of_mem b hx))).2
    have hp : 1 ≤ 10 ^ L.length := Nat.one_le_pow _ _ (by decide)
    simp only [wy_d] at e
    omega
  | b :: L, b' :: L', h, h', e => by
    have hb := h b List.mem_cons_self
    have hb' := h' b' List.mem_cons_self
    simp only [wy_d] at e
    have e1 : wy_d f L = wy_d f L' := by omega
    have e2 : b = b' := by omega
    rw [e2, wy_inj hf (fun x hx => h x (List.mem_cons_of_mem b hx)) (fun x hx => h' x (List.mem_cons_of_mem b' hx)) e1]
theorem wy_winj : ∀ {L L' : List Nat}, (∀ x, x ∈ L → x < 6) → (∀ x, x ∈ L' → x < 6) → L.length = L'.length → wy_w L = wy_w L' → L = L'
  | [], [], _, _, _, _ => rfl
  | [], b :: L', _, _, e, _ => by simp at e
  | b :: L, [], _, _, e, _ => by simp at e
  | b :: L, b' :: L', h, h', el, e => by
    have hb := h b List.mem_cons_self
    have hb' := h' b' List.mem_cons_self
    simp only [wy_w] at e
    have e1 : wy_w L = wy_w L' := by omega
    have e2 : b = b' := by omega
    rw [e2, wy_winj (fun x hx => h x (List.mem_cons_of_mem b hx)) (fun x hx => h' x (List.mem_cons_of_mem b' hx)) (by simpa using el) e1]
theorem wy_wlt : ∀ {L L' : List Nat}, (∀ x, x ∈ L → x < 6) → (∀ x, x ∈ L' → x < 6) → L.length = L'.length → wy_w L < wy_w L' → wy_d f L < wy_d f L'
  | [], [], _, _, _, e => by simp [wy_w] at e
  | [], b :: L', _, _, e, _ => by simp at e
  | b :: L, [], _, _, e, _ => by simp at e
  | b :: L, b' :: L', h, h', el, e => by
    have hb := h b List.mem_cons_self
    have hb' := h' b' List.mem_cons_self
    have g1 : ∀ x, x ∈ L → x < 6 := fun x hx => h x (List.mem_cons_of_mem b hx)
    have g2 : ∀ x, x ∈ L' → x < 6 := fun x hx => h' x (List.mem_cons_of_mem b' hx)
    have gl : L.length = L'.length := by simpa using el
    simp only [wy_w] at e
    simp only [wy_d]
    rcases Nat.lt_or_ge (wy_w L) (wy_w L') with q | q
    · have := wy_wlt g1 g2 gl q
      omega
    · have e1 : wy_w L = wy_w L' := by omega
      have := wy_winj g1 g2 gl e1
      rw [this]
      omega
theorem wy_w6 : ∀ {L : List Nat}, (∀ x, x ∈ L → x < 6) → wy_w L < 6 ^ L.length
  | [], _ => by simp [wy_w]
  | b :: L, h => by
    have i := wy_w6 (L := L) (fun x hx => h x (List.mem_cons_of_mem b hx))
    have hb := h b List.mem_cons_self
    simp only [wy_w, List.length_cons, Nat.pow_succ]
    omega
/-- the digits of a way -/
def wy_L : Nat → Nat → List Nat
  | 0, _ => []
  | n + 1, w => (w % 6) :: wy_L n (w / 6)
theorem wy_Llen : ∀ (n w : Nat), (wy_L n w).length = n
  | 0, _ => rfl
  | n + 1, w => by simp only [wy_L, List.length_cons, wy_Llen n (w / 6)]
theorem wy_Llt : ∀ (n w x : Nat), x ∈ wy_L n w → x < 6
  | 0, _, x, h => absurd h List.not_mem_nil
  | n + 1, w, x, h => by
    rcases List.mem_cons.mp h with q | q
    · rw [q]; exact Nat.mod_lt _ (by decide)
    · exact wy_Llt n (w / 6) x q
theorem wy_Lw : ∀ (n w : Nat), w < 6 ^ n → wy_w (wy_L n w) = w
  | 0, w, h => by simp [wy_w, wy_L] at *; omega
  | n + 1, w, h => by
    have : w / 6 < 6 ^ n := by
      rw [Nat.pow_succ] at h
      omega
    simp only [wy_L, wy_w, wy_Lw n (w / 6) this]
    omega
theorem wy_LL {L : List Nat} (h : ∀ x, x ∈ L → x < 6) : wy_L L.length (wy_w L) = L := by
  apply wy_winj (fun x hx => wy_Llt _ _ x hx) h (wy_Llen _ _)
  exact wy_Lw _ _ (wy_w6 h)
/-- the ranks, side by side -/
theorem wy_bnd {L : List Nat} (hN : N ≤ 6) (hf : f < N) (ht : t < N) (hft : t ≠ f) (h : wy_V S p N f t L) : (∀ x, x ∈ L → x < 6) ∧ L.length ≤ 4 ∧ wy_d f L < 70000 ∧ 1 ≤ wy_d f L := by
  have h1 := h.len hf ht hft
  have h2 : ∀ x, x ∈ L → x < 6 := fun x hx => by have := h.1.nodup.2.2 x hx; omega
  have h3 := wy_dlt (f := f) (by omega) h2
  have h4 : 10 ^ L.length ≤ 10 ^ 4 := Nat.pow_le_pow_right (by decide) (by omega)
  have h5 : 1 ≤ 10 ^ L.length := Nat.one_le_pow _ _ (by decide)
  refine ⟨h2, by omega, ?_, by omega⟩
  omega
theorem wy_Rinj {L L' : List Nat} (hN : N ≤ 6) (hf : f < N) (ht : t < N) (hft : t ≠ f) (h : wy_V S p N f t L) (h' : wy_V S p N f t L') (e : wy_R c f t L = wy_R c f t L') : L = L' := by
  obtain ⟨a1, a2, a3, a4⟩ := wy_bnd hN hf ht hft h
  obtain ⟨b1, b2, b3, b4⟩ := wy_bnd hN hf ht hft h'
  apply wy_inj (f := f) (by omega) a1 b1
  unfold wy_R at e
  omega
/-- the first of the soonest ways -/
def wy_B (S : Nat → Nat → Bool) (p : Nat → Bool) (c : Nat → Nat) (N f t : Nat) (L : List Nat) : Prop := wy_V S p N f t L ∧ ∀ L', wy_V S p N f t L' → wy_R c f t L ≤ wy_R c f t L'
theorem wy_B.one {L L' : List Nat} (hN : N ≤ 6) (hf : f < N) (ht : t < N) (hft : t ≠ f) (h : wy_B S p c N f t L) (h' : wy_B S p c N f t L') : L = L' := by
  apply wy_Rinj (c := c) hN hf ht hft h.1 h'.1
  have := h.2 L' h'.1
  have := h'.2 L h.1
  omega
end WY
