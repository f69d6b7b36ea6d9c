/-! what a signal comes to is a number whose bits can be had by arithmetic -/
theorem f_leadD {A D : Nat} (hA : 0 < A) (hD : 0 < D) : (FP.Core.leading A D = (A.log2 : Int) - (D.log2 : Int) ∨ FP.Core.leading A D = (A.log2 : Int) - (D.log2 : Int) - 1) ∧ D * 2 ^ (FP.Core.leading A D).toNat ≤ A * 2 ^ (-FP.Core.leading A D).toNat ∧ A * 2 ^ (-(FP.Core.leading A D + 1)).toNat < D * 2 ^ (FP.Core.leading A D + 1).toNat := by
  have a1 := Nat.log2_self_le (n := A) (by omega)
  have a2 := Nat.lt_log2_self (n := A)
  have d1 := Nat.log2_self_le (n := D) (by omega)
  have d2 := Nat.lt_log2_self (n := D)
  unfold FP.Core.leading
  generalize A.log2 = x at a1 a2 ⊢
  generalize D.log2 = y at d1 d2 ⊢
  generalize hk : (x : Int) - (y : Int) = k
  show ((if D * 2 ^ k.toNat ≤ A * 2 ^ (-k).toNat then k else k - 1) = k ∨ _) ∧ _
  by_cases h : D * 2 ^ k.toNat ≤ A * 2 ^ (-k).toNat
  · rw [if_pos h]
    refine ⟨Or.inl rfl, h, ?_⟩
    have h1 : A * 2 ^ (-(k + 1)).toNat < 2 ^ (x + 1) * 2 ^ (-(k + 1)).toNat := Nat.mul_lt_mul_of_pos_right a2 (Nat.two_pow_pos _)
    have h2 : 2 ^ y * 2 ^ (k + 1).toNat ≤ D * 2 ^ (k + 1).toNat := Nat.mul_le_mul_right _ d1
    rw [f_p2] at h1 h2
    have h3 : (2 : Nat) ^ (x + 1 + (-(k + 1)).toNat) ≤ 2 ^ (y + (k + 1).toNat) := Nat.pow_le_pow_right (by decide) (by omega)
    omega
  · rw [if_neg h]
    refine ⟨Or.inr rfl, ?_, ?_⟩
    · have h1 : D * 2 ^ (k - 1).toNat ≤ 2 ^ (y + 1) * 2 ^ (k - 1).toNat := Nat.mul_le_mul_right _ (Nat.le_of_lt d2)
      have h2 : 2 ^ x * 2 ^ (-(k - 1)).toNat ≤ A * 2 ^ (-(k - 1)).toNat := Nat.mul_le_mul_right _ a1
      rw [f_p2] at h1 h2
      have h3 : (2 : Nat) ^ (y + 1 + (k - 1).toNat) ≤ 2 ^ (x + (-(k - 1)).toNat) := Nat.pow_le_pow_right (by decide) (by omega)
      omega
    · rw [show k - 1 + 1 = k by omega]; omega
theorem f_scale {A D : Nat} {l : Int} {u v : Nat} (h : D * 2 ^ l.toNat ≤ A * 2 ^ (-l).toNat) (g : (v : Int) ≤ l + u) : D * 2 ^ v ≤ A * 2 ^ u := by
  have h1 : D * 2 ^ v * 2 ^ (-l).toNat * 2 ^ l.toNat ≤ A * 2 ^ u * 2 ^ (-l).toNat * 2 ^ l.toNat := by
    have e1 : D * 2 ^ v * 2 ^ (-l).toNat * 2 ^ l.toNat = D * 2 ^ l.toNat * 2 ^ (v + (-l).toNat) := by
      rw [← f_p2]; simp only [Nat.mul_assoc, Nat.mul_comm, Nat.mul_left_comm]
    have e2 : A * 2 ^ u * 2 ^ (-l).toNat * 2 ^ l.toNat = A * 2 ^ (-l).toNat * 2 ^ (u + l.toNat) := by
      rw [← f_p2]; simp only [Nat.mul_assoc, Nat.mul_comm, Nat.mul_left_comm]
    rw [e1, e2]
    exact Nat.mul_le_mul h (Nat.pow_le_pow_right (by decide) (by omega))
  exact Nat.le_of_mul_le_mul_right (Nat.le_of_mul_le_mul_right h1 (Nat.two_pow_pos _)) (Nat.two_pow_pos _)
theorem f_scale2 {A D : Nat} {l : Int} {u v : Nat} (h : A * 2 ^ (-l).toNat < D * 2 ^ l.toNat) (g : l + u ≤ v) : A * 2 ^ u ≤ D * 2 ^ v := by
  have h1 : A * 2 ^ u * 2 ^ (-l).toNat * 2 ^ l.toNat ≤ D * 2 ^ v * 2 ^ (-l).toNat * 2 ^ l.toNat := by
    have e1 : D * 2 ^ v * 2 ^ (-l).toNat * 2 ^ l.toNat = D * 2 ^ l.toNat * 2 ^ (v + (-l).toNat) := by
      rw [← f_p2]; simp only [Nat.mul_assoc, Nat.mul_comm, Nat.mul_left_comm]
    have e2 : A * 2 ^ u * 2 ^ (-l).toNat * 2 ^ l.toNat = A * 2 ^ (-l).toNat * 2 ^ (u + l.toNat) := by
      rw [← f_p2]; simp only [Nat.mul_assoc, Nat.mul_comm, Nat.mul_left_comm]
    rw [e1, e2]
    exact Nat.mul_le_mul (Nat.le_of_lt h) (Nat.pow_le_pow_right (by decide) (by omega))
  exact Nat.le_of_mul_le_mul_right (Nat.le_of_mul_le_mul_right h1 (Nat.two_pow_pos _)) (Nat.two_pow_pos _)
theorem f_rd {s : Bool} {A D : Nat} {e : Int} (hA : 0 < A) (hD : 0 < D) (h1 : -120 ≤ (A.log2 : Int) - (D.log2 : Int) + e) (h2 : (A.log2 : Int) - (D.log2 : Int) + e ≤ 120) :
    ∃ c q, FP.Core.roundRatio FP.Core.b32 s A D e = .fin s c q ∧ f_fit c q ∧ 8388608 ≤ c ∧ (A.log2 : Int) - (D.log2 : Int) + e - 24 ≤ q ∧ q ≤ (A.log2 : Int) - (D.log2 : Int) + e - 22 := by
  obtain ⟨l0, l1, l2⟩ := f_leadD hA hD
  unfold FP.Core.roundRatio FP.Core.roundAt FP.Core.quantum
  rw [if_neg (by omega)]
  have e3 : FP.Core.b32.qmin = -149 := rfl
  have e4 : ((FP.Core.b32.p : Int) - 1) = 23 := rfl
  rw [e3, e4]
  generalize FP.Core.leading A D = l at l0 l1 l2 ⊢
  have hq : max (-149) (l + e - 23) = l + e - 23 := by omega
  rw [hq]
  unfold FP.Core.unitsNum FP.Core.unitsDen
  have hB : 0 < D * 2 ^ (l + e - 23 - e).toNat := Nat.mul_pos hD (Nat.two_pow_pos _)
  have c1 : FP.Core.nearest (A * 2 ^ (e - (l + e - 23)).toNat) (D * 2 ^ (l + e - 23 - e).toNat) ≤ 2 ^ 24 := by
    refine f_near_le hB ?_
    rw [Nat.mul_comm (2 ^ 24), Nat.mul_assoc, f_p2]
    exact f_scale2 l2 (by omega)
  have c2 : 2 ^ 23 ≤ FP.Core.nearest (A * 2 ^ (e - (l + e - 23)).toNat) (D * 2 ^ (l + e - 23 - e).toNat) := by
    refine f_near_ge hB ?_
    rw [Nat.mul_comm (2 ^ 23), Nat.mul_assoc, f_p2]
    exact f_scale l1 (by omega)
  generalize FP.Core.nearest (A * 2 ^ (e - (l + e - 23)).toNat) (D * 2 ^ (l + e - 23 - e).toNat) = c at c1 c2 ⊢
  rw [f_settle (by omega)]
  have p24 : (2 : Nat) ^ 24 = 16777216 := rfl
  have p23 : (2 : Nat) ^ 23 = 8388608 := rfl
  by_cases hc : c < 16777216
  · rw [if_pos hc]
    exact ⟨c, l + e - 23, rfl, ⟨hc, by omega, by omega, Or.inr (by omega)⟩, by omega, by omega, by omega⟩
  · rw [if_neg hc]
    exact ⟨8388608, l + e - 23 + 1, rfl, ⟨by omega, by omega, by omega, Or.inr (by omega)⟩, by omega, by omega, by omega⟩
/-- zero, or a number of the usual kind between two powers; `z`: zero bears no sign -/
def f_in (z : Bool) (lo hi : Int) (x : UInt32) : Prop := ∃ s c q, fv x = .fin s c q ∧ ((c = 0 ∧ (z = true → s = false)) ∨ (8388608 ≤ c ∧ lo ≤ q ∧ q ≤ hi))
theorem f_lg {c : Nat} (h1 : 8388608 ≤ c) (h2 : c < 16777216) : c.log2 = 23 := (Nat.log2_eq_iff (by omega)).mpr ⟨h1, h2⟩
theorem f_in_n {z : Bool} {lo hi : Int} {x : UInt32} (h : f_in z lo hi x) : vf_n32 x := by
  obtain ⟨s, c, q, h, _⟩ := h
  exact f_nn h
theorem f_in_m {lo hi : Int} {x : UInt32} (h : f_in true lo hi x) : f_nm x := by
  obtain ⟨s, c, q, h, g⟩ := h
  exact ⟨s, c, q, h, g.elim (fun g => Or.inl ⟨g.1, g.2 rfl⟩) (fun g => Or.inr g.1)⟩
theorem f_lgle {n k : Nat} (h0 : 0 < n) (h : n < 2 ^ (k + 1)) : n.log2 ≤ k := by
  have := Nat.log2_self_le (n := n) (by omega)
  apply Nat.le_of_not_lt; intro z
  have : 2 ^ (k + 1) ≤ 2 ^ n.log2 := Nat.pow_le_pow_right (by decide) z
  omega
theorem f_in_i {n : Int32} {k : Nat} (h : n.toInt.natAbs < 2 ^ (k + 1)) (hk : k ≤ 30) : f_in true (-24) ((k : Int) - 22) (FP.i2f n) := by
  have e : FP.i2f n = UInt32.ofNat (FP.Core.encode FP.Core.b32 (FP.Core.roundRatio FP.Core.b32 (decide (n.toInt < 0)) n.toInt.natAbs 1 0)) := rfl
  by_cases h0 : n.toInt.natAbs = 0
  · have hn : n.toInt = 0 := by omega
    refine ⟨false, 0, -149, ?_, Or.inl ⟨rfl, fun _ => rfl⟩⟩
    rw [e, hn]
    decide +kernel
  · have hl := f_lgle (by omega) h
    have l1 : Nat.log2 1 = 0 := by decide
    obtain ⟨c, q, r1, r2, r3, r4, r5⟩ := f_rd (s := decide (n.toInt < 0)) (A := n.toInt.natAbs) (D := 1) (e := 0) (by omega) (by omega) (by omega) (by omega)
    refine ⟨decide (n.toInt < 0), c, q, ?_, Or.inr ⟨r3, by omega, by omega⟩⟩
    rw [e, r1]
    exact f_rt r2
theorem f_div_v (a b : UInt32) {s t s' : Bool} {c d c' : Nat} {q r q' : Int} (ha : fv a = .fin s c q) (hb : fv b = .fin t d r) (hd : 0 < d) (h : FP.Core.roundRatio FP.Core.b32 (s != t) c d (q - r) = .fin s' c' q') (hf : f_fit c' q') : fv (FP.fdiv a b) = .fin s' c' q' := by
  have e : FP.fdiv a b = UInt32.ofNat (FP.Core.encode FP.Core.b32 (FP.Core.quotient FP.Core.b32 (fv a) (fv b))) := rfl
  rw [e, ha, hb]
  show fv (UInt32.ofNat (FP.Core.encode FP.Core.b32 (if d = 0 then (if c = 0 then .nan else .inf (s != t)) else FP.Core.roundRatio FP.Core.b32 (s != t) c d (q - r)))) = _
  rw [if_neg (by omega), h]; exact f_rt hf
theorem f_in_d {z : Bool} {lo hi r : Int} {d : Nat} {x y : UInt32} (h : f_in z lo hi x) (hy : fv y = .fin false d r) (hd : 8388608 ≤ d) (h1 : -120 ≤ lo - r) (h2 : hi - r ≤ 120) : f_in z (lo - r - 24) (hi - r - 22) (FP.fdiv x y) := by
  obtain ⟨s, c, q, hx, g⟩ := h
  have fd := f_fits hy
  have fx := f_fits hx
  rcases g with ⟨rfl, g⟩ | ⟨g1, g2, g3⟩
  · refine ⟨s, 0, -149, f_div_v x y hx hy (by omega) ?_ ⟨by decide, by decide, by decide, Or.inl rfl⟩, Or.inl ⟨rfl, g⟩⟩
    unfold FP.Core.roundRatio
    rw [if_pos rfl, Bool.bne_false]
    rfl
  · have lc := f_lg g1 fx.1
    have ld := f_lg hd fd.1
    obtain ⟨c', q', r1, r2, r3, r4, r5⟩ := f_rd (s := s != false) (A := c) (D := d) (e := q - r) (by omega) (by omega) (by omega) (by omega)
    exact ⟨_, c', q', f_div_v x y hx hy (by omega) r1 r2, Or.inr ⟨r3, by omega, by omega⟩⟩
theorem f_in_x {z w : Bool} {lo hi lo' hi' : Int} {x y : UInt32} (h : f_in z lo hi x) (hy : f_in w lo' hi' y) (h1 : -160 ≤ lo + lo') (h2 : hi + hi' ≤ 70) : f_in false (lo + lo' + 22) (hi + hi' + 25) (FP.fmul x y) := by
  obtain ⟨s, c, q, hx, g⟩ := h
  obtain ⟨t, d, r, hy, k⟩ := hy
  have fd := f_fits hy
  have fx := f_fits hx
  by_cases h0 : c * d = 0
  · refine ⟨s != t, 0, -149, f_mul_v x y hx hy ?_ ⟨by decide, by decide, by decide, Or.inl rfl⟩, Or.inl ⟨rfl, fun z => by cases z⟩⟩
    unfold FP.Core.roundRatio
    rw [if_pos h0]
    rfl
  · rcases g with ⟨rfl, g⟩ | ⟨g1, g2, g3⟩
    · exact absurd (Nat.zero_mul _) h0
    rcases k with ⟨rfl, k⟩ | ⟨k1, k2, k3⟩
    · exact absurd (Nat.mul_zero _) h0
    have m1 : 2 ^ 46 ≤ c * d := Nat.le_trans (by decide) (Nat.mul_le_mul g1 k1)
    have m2 : c * d < 2 ^ (47 + 1) := by
      have a := fx.1
      have b := fd.1
      exact Nat.lt_of_le_of_lt (Nat.mul_le_mul (show c ≤ 16777215 by omega) (show d ≤ 16777215 by omega)) (by decide)
    have l1 : Nat.log2 1 = 0 := by decide
    have la := f_lgle (by omega) m2
    have lb : 46 ≤ (c * d).log2 := (Nat.le_log2 (by omega)).mpr m1
    obtain ⟨c', q', r1, r2, r3, r4, r5⟩ := f_rd (s := s != t) (A := c * d) (D := 1) (e := q + r) (by omega) (by omega) (by omega) (by omega)
    exact ⟨_, c', q', f_mul_v x y hx hy r1 r2, Or.inr ⟨r3, by omega, by omega⟩⟩
theorem f_add_c {x y : UInt32} {s t : Bool} {c d : Nat} {q r : Int} (hx : fv x = .fin s c q) (hy : fv y = .fin t d r) : FP.fadd x y = FP.fadd y x := by
  have e : ∀ a b, FP.fadd a b = UInt32.ofNat (FP.Core.encode FP.Core.b32 (FP.Core.round FP.Core.b32 (FP.Core.exactSum (fv a) (fv b)))) := fun _ _ => rfl
  rw [e, e, hx, hy]
  have : FP.Core.exactSum (.fin s c q) (.fin t d r) = FP.Core.exactSum (.fin t d r) (.fin s c q) := by
    show FP.Core.Datum.fin (FP.Core.sumSign s t (FP.Core.sumUnits s c q t d r (min q r))) (FP.Core.sumUnits s c q t d r (min q r)).natAbs (min q r) = .fin (FP.Core.sumSign t s (FP.Core.sumUnits t d r s c q (min r q))) (FP.Core.sumUnits t d r s c q (min r q)).natAbs (min r q)
    have e1 : FP.Core.sumUnits t d r s c q (min r q) = FP.Core.sumUnits s c q t d r (min q r) := by
      rw [Int.min_comm r q]
      unfold FP.Core.sumUnits
      exact Int.add_comm _ _
    have e2 : ∀ v, FP.Core.sumSign s t v = FP.Core.sumSign t s v := fun v => by
      unfold FP.Core.sumSign
      rw [Bool.and_comm]
    rw [e1, e2, Int.min_comm r q]
  rw [this]
theorem f_in_a {w : Bool} {x y : UInt32} (h : f_in true (-60) 20 x) (hy : f_in w (-60) 20 y) : f_in true (-83) 22 (FP.fadd x y) ∧ FP.fadd x y = FP.fadd y x := by
  obtain ⟨s, c, q, hx, g⟩ := h
  obtain ⟨t, d, r, hy, k⟩ := hy
  refine ⟨?_, f_add_c hx hy⟩
  have fd := f_fits hy
  have fx := f_fits hx
  have up : ∀ {c : Nat} {q : Int}, f_fit c q → c = 0 ∨ (8388608 ≤ c ∧ -60 ≤ q ∧ q ≤ 20) → f_u c q ≤ 2 ^ 193 ∧ ∃ m, f_u c q = m * 2 ^ 89 := by
    intro c q hf hg
    rcases hg with rfl | ⟨g1, g2, g3⟩
    · exact ⟨by unfold f_u; rw [Nat.zero_mul]; exact Nat.zero_le _, 0, by unfold f_u; rw [Nat.zero_mul, Nat.zero_mul]⟩
    · refine ⟨?_, c * 2 ^ ((q + 149).toNat - 89), ?_⟩
      · unfold f_u
        have := hf.1
        exact Nat.le_trans (Nat.mul_le_mul (show c ≤ 2 ^ 24 by omega) (Nat.pow_le_pow_right (by decide) (show (q + 149).toNat ≤ 169 by omega))) (by decide)
      · unfold f_u
        rw [Nat.mul_assoc, f_p2, show (q + 149).toNat - 89 + 89 = (q + 149).toNat by omega]
  obtain ⟨u1, m1, n1⟩ := up fx (g.elim (fun g => Or.inl g.1) Or.inr)
  obtain ⟨u2, m2, n2⟩ := up fd (k.elim (fun g => Or.inl g.1) Or.inr)
  have sa : ∀ (s : Bool) (n : Nat), (FP.Core.signed s n).natAbs = n := fun s n => by cases s <;> simp [FP.Core.signed]
  have sm : ∀ (s : Bool) (m n : Nat), FP.Core.signed s (m * n) = FP.Core.signed s m * n := fun s m n => by cases s <;> simp [FP.Core.signed, Int.neg_mul]
  have p193 : (2 : Nat) ^ 193 + 2 ^ 193 = 2 ^ 194 := by decide
  obtain ⟨s', c', q', r1, r2, r3, r4, r5, r6, r7⟩ := f_sumd (s := s) (t := t) (c := c) (d := d) (k := 194) fx.2.1 fd.2.1 (by
    have := Int.natAbs_add_le (FP.Core.signed s (f_u c q)) (FP.Core.signed t (f_u d r))
    rw [sa, sa] at this
    omega) (by decide)
  have hv := f_add_v x y (by rw [hx, hy]; exact r1) r2
  refine ⟨s', c', q', hv, ?_⟩
  rw [n1, n2, sm, sm, ← Int.add_mul] at r6 r7
  by_cases hz : FP.Core.signed s m1 + FP.Core.signed t m2 = 0
  · rw [hz, Int.zero_mul] at r6
    have := r6 rfl
    refine Or.inl ⟨this.1, fun _ => ?_⟩
    rw [this.2]
    rcases g with ⟨g, g'⟩ | ⟨g1, g2, g3⟩
    · rw [g' rfl]; rfl
    · -- the first is not zero: the second must be its contrary
      have hm1 : 0 < m1 := by
        apply Nat.pos_of_ne_zero; intro z0
        rw [z0, Nat.zero_mul] at n1
        unfold f_u at n1
        have := Nat.mul_pos (show 0 < c by omega) (Nat.two_pow_pos (q + 149).toNat)
        omega
      cases s
      · rfl
      · cases t
        · rfl
        · simp [FP.Core.signed] at hz
          omega
  · have hn : 2 ^ 89 ≤ ((FP.Core.signed s m1 + FP.Core.signed t m2) * ((2 ^ 89 : Nat) : Int)).natAbs := by
      rw [Int.natAbs_mul]
      have : 1 ≤ (FP.Core.signed s m1 + FP.Core.signed t m2).natAbs := by omega
      exact Nat.le_trans (Nat.le_of_eq (Nat.one_mul _).symm) (Nat.mul_le_mul this (Nat.le_refl _))
    have := r7 89 (by decide) hn
    refine Or.inr ⟨this.2, by omega, ?_⟩
    have c1 : 2 ^ 23 * 2 ^ (q' + 149).toNat ≤ 2 ^ 194 := Nat.le_trans (Nat.mul_le_mul_right _ this.2) r3
    rw [f_p2] at c1
    have : 23 + (q' + 149).toNat ≤ 194 := by
      apply Nat.le_of_not_lt; intro z0
      have := Nat.pow_lt_pow_right (a := 2) (by decide) z0
      omega
    omega
theorem f_in_w {z w : Bool} {lo hi lo' hi' : Int} {x : UInt32} (h : f_in z lo hi x) (h1 : lo' ≤ lo) (h2 : hi ≤ hi') (h3 : w = true → z = true) : f_in w lo' hi' x := by
  obtain ⟨s, c, q, hx, g⟩ := h
  exact ⟨s, c, q, hx, g.imp (fun g => ⟨g.1, fun e => g.2 (h3 e)⟩) (fun g => ⟨g.1, by omega, by omega⟩)⟩
/-! the parts of a signal -/
abbrev g_k (n : Int32) : UInt32 := FP.fdiv (FP.i2f n) (UInt32.ofNat 1148846080)
abbrev g_x (b s f : Int32) : UInt32 := FP.fadd (FP.fmul (g_k s) (FP.i2f f)) (g_k b)
abbrev g_e (b s f : Int32) : UInt32 := FP.fdiv (g_x b s f) (UInt32.ofNat 1040187392)
def g_ok (n : Int32) : Prop := n.toInt.natAbs ≤ 999999
theorem g_kk {n : Int32} (h : g_ok n) : f_in true (-34) (-11) (g_k n) := by
  have hk : fv (UInt32.ofNat 1148846080) = .fin false 16384000 (-14) := by decide +kernel
  exact f_in_w (f_in_d (f_in_i (n := n) (k := 19) (by unfold g_ok at h; omega) (by decide)) hk (by decide) (by decide) (by decide)) (by decide) (by decide) id
theorem g_all {b s f : Int32} (hb : g_ok b) (hs : g_ok s) (hf : f.toInt.natAbs < 2 ^ 20) : vf_n32 (g_k s) ∧ vf_n32 (FP.fmul (g_k s) (FP.i2f f)) ∧ vf_n32 (g_k b) ∧ vf_n32 (g_x b s f) ∧ f_nm (g_x b s f) ∧ vf_n32 (g_e b s f) ∧ FP.fadd (g_k b) (FP.fmul (g_k s) (FP.i2f f)) = g_x b s f ∧ cmpValue (FP.fcmp (g_x b s f) (g_x b s f)) .l = nI 0 := by
  have kb := g_kk hb
  have ks := g_kk hs
  have kw := f_in_x ks (f_in_i (n := f) (k := 19) hf (by decide)) (by decide) (by decide)
  obtain ⟨ka, kc⟩ := f_in_a (f_in_w kb (by decide) (by decide) id) (f_in_w (w := false) kw (by decide) (by decide) (fun e => by cases e))
  rw [kc] at ka
  have h8 : fv (UInt32.ofNat 1040187392) = .fin false 8388608 (-26) := by decide +kernel
  have ke := f_in_d ka h8 (by decide) (by decide) (by decide)
  refine ⟨f_in_n ks, f_in_n kw, f_in_n kb, f_in_n ka, f_in_m ka, f_in_n ke, kc, ?_⟩
  obtain ⟨s', c', q', hx, _⟩ := ka
  rw [f_cmp_self hx]
  decide
