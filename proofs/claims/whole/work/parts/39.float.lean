/-! floats: what their bits stand for -/
abbrev fv (x : UInt32) : FP.Core.Datum := FP.Core.decode FP.Core.b32 x.toNat
theorem f_dec (n : Nat) : FP.Core.decode FP.Core.b32 n = if n / 8388608 % 256 = 255 then (if n % 8388608 = 0 then .inf (n / 8388608 / 256 % 2 == 1) else .nan) else if n / 8388608 % 256 = 0 then .fin (n / 8388608 / 256 % 2 == 1) (n % 8388608) (-149) else .fin (n / 8388608 / 256 % 2 == 1) (8388608 + n % 8388608) (-149 + (((n / 8388608 % 256 : Nat) : Int) - 1)) := rfl
/-- a datum as the format writes it -/
def f_fit (c : Nat) (q : Int) : Prop := c < 16777216 ∧ -149 ≤ q ∧ q ≤ 104 ∧ (q = -149 ∨ 8388608 ≤ c)
def f_enc (s : Bool) (c : Nat) (q : Int) : Nat := if c < 8388608 then s.toNat * 2147483648 + c else (s.toNat * 256 + ((q + 149).toNat + 1)) * 8388608 + (c - 8388608)
theorem f_enc_eq (s : Bool) (c : Nat) (q : Int) : FP.Core.encode FP.Core.b32 (.fin s c q) = f_enc s c q := by
  unfold FP.Core.encode f_enc FP.Core.assemble
  have e1 : FP.Core.b32.tails = 8388608 := rfl
  have e2 : FP.Core.b32.exps = 256 := rfl
  have e3 : FP.Core.b32.qmin = -149 := rfl
  simp only [e1, e2, e3, Int.sub_neg, Nat.add_zero]
  split
  · omega
  · rfl
theorem f_enc_lt {s : Bool} {c : Nat} {q : Int} (h : f_fit c q) : f_enc s c q < 2 ^ 32 := by
  obtain ⟨h1, h2, h3, h4⟩ := h
  have hs : s.toNat ≤ 1 := by cases s <;> decide
  unfold f_enc
  split <;> omega
theorem f_rt0 {s : Bool} {c : Nat} {q : Int} (h : f_fit c q) : FP.Core.decode FP.Core.b32 (f_enc s c q) = .fin s c q := by
  obtain ⟨h1, h2, h3, h4⟩ := h
  have hs : s.toNat ≤ 1 := by cases s <;> decide
  rw [f_dec]
  by_cases hc : c < 8388608
  · have e : f_enc s c q = s.toNat * 2147483648 + c := if_pos hc
    rw [e]
    have a1 : (s.toNat * 2147483648 + c) / 8388608 % 256 = 0 := by omega
    have a2 : (s.toNat * 2147483648 + c) % 8388608 = c := by omega
    have a3 : (s.toNat * 2147483648 + c) / 8388608 / 256 % 2 = s.toNat := by omega
    rw [a1, a2, a3, if_neg (by decide), if_pos rfl]
    have : q = -149 := by omega
    rw [this]
    cases s <;> rfl
  · have e : f_enc s c q = (s.toNat * 256 + ((q + 149).toNat + 1)) * 8388608 + (c - 8388608) := if_neg hc
    rw [e]
    have a1 : ((s.toNat * 256 + ((q + 149).toNat + 1)) * 8388608 + (c - 8388608)) / 8388608 % 256 = (q + 149).toNat + 1 := by omega
    have a2 : ((s.toNat * 256 + ((q + 149).toNat + 1)) * 8388608 + (c - 8388608)) % 8388608 = c - 8388608 := by omega
    have a3 : ((s.toNat * 256 + ((q + 149).toNat + 1)) * 8388608 + (c - 8388608)) / 8388608 / 256 % 2 = s.toNat := by omega
    rw [a1, a2, a3, if_neg (by omega), if_neg (by omega)]
    have b1 : 8388608 + (c - 8388608) = c := by omega
    have b2 : (-149 : Int) + ((((q + 149).toNat + 1 : Nat) : Int) - 1) = q := by omega
    rw [b1, b2]
    cases s <;> rfl
theorem f_rt {s : Bool} {c : Nat} {q : Int} (h : f_fit c q) : fv (UInt32.ofNat (FP.Core.encode FP.Core.b32 (.fin s c q))) = .fin s c q := by
  unfold fv
  rw [f_enc_eq, UInt32.toNat_ofNat_of_lt' (f_enc_lt h)]
  exact f_rt0 h
/-- every datum that is a number fits -/
theorem f_fits {n : Nat} {s : Bool} {c : Nat} {q : Int} (h : FP.Core.decode FP.Core.b32 n = .fin s c q) : f_fit c q := by
  rw [f_dec] at h
  have h256 : n / 8388608 % 256 < 256 := Nat.mod_lt _ (by decide)
  have hT : n % 8388608 < 8388608 := Nat.mod_lt _ (by decide)
  split at h
  · split at h <;> cases h
  · split at h
    · cases h; exact ⟨by omega, by omega, by omega, Or.inl rfl⟩
    · cases h; exact ⟨by omega, by omega, by omega, Or.inr (by omega)⟩
/-! rounding -/
theorem f_near_le {A B M : Nat} (hB : 0 < B) (h : A ≤ M * B) : FP.Core.nearest A B ≤ M := by
  have e := Nat.div_add_mod A B
  have m := Nat.mod_lt A hB
  have hd : A / B ≤ M := (Nat.div_le_iff_le_mul_add_pred hB).mpr (by rw [Nat.mul_comm] at h; omega)
  unfold FP.Core.nearest
  by_cases hm : A / B = M
  · have : A % B = 0 := by
      rw [hm, Nat.mul_comm] at e; omega
    rw [this, if_pos (by omega)]; omega
  · split
    · omega
    · split
      · omega
      · omega
theorem f_near_ge {A B M : Nat} (hB : 0 < B) (h : M * B ≤ A) : M ≤ FP.Core.nearest A B := by
  have hd : M ≤ A / B := (Nat.le_div_iff_mul_le hB).mpr h
  unfold FP.Core.nearest
  split
  · exact hd
  · split <;> omega
theorem f_near_ex {M B : Nat} (hB : 0 < B) : FP.Core.nearest (M * B) B = M := Nat.le_antisymm (f_near_le hB (Nat.le_refl _)) (f_near_ge hB (Nat.le_refl _))
theorem f_lead {A : Nat} (hA : 0 < A) : FP.Core.leading A 1 = (A.log2 : Int) := by
  have e1 : Nat.log2 1 = 0 := by decide
  have h := Nat.log2_self_le (n := A) (by omega)
  unfold FP.Core.leading
  simp only [e1]
  have e2 : ((A.log2 : Int) - ((0 : Nat) : Int)) = (A.log2 : Int) := by omega
  rw [e2]
  have e3 : ((A.log2 : Int)).toNat = A.log2 := by omega
  have e4 : (-(A.log2 : Int)).toNat = 0 := by omega
  rw [e3, e4, if_pos (by rw [Nat.one_mul, Nat.pow_zero, Nat.mul_one]; exact h)]
theorem f_quant {A : Nat} {e : Int} (hA : 0 < A) : FP.Core.quantum FP.Core.b32 A 1 e = max (-149) ((A.log2 : Int) + e - 23) := by
  unfold FP.Core.quantum
  rw [f_lead hA]
  rfl
theorem f_p2 {a b : Nat} : 2 ^ a * 2 ^ b = 2 ^ (a + b) := (Nat.pow_add 2 a b).symm
theorem f_settle {s : Bool} {c : Nat} {q : Int} (hq : q ≤ 103) : FP.Core.settle FP.Core.b32 s c q = if c < 16777216 then .fin s c q else .fin s 8388608 (q + 1) := by
  unfold FP.Core.settle FP.Core.bound
  have e1 : FP.Core.b32.tails = 8388608 := rfl
  have e2 : FP.Core.b32.qmax = 104 := rfl
  have e3 : 2 ^ FP.Core.b32.p = 16777216 := rfl
  rw [e1, e2, e3]
  have a1 : q ≤ 104 := by omega
  have a2 : q + 1 ≤ 104 := by omega
  simp only [a1, a2, if_true]
theorem f_rnd {s : Bool} {A : Nat} {e m : Int} (hA : 0 < A) (he : e ≤ m) (hm : A ≤ 2 ^ (m - e).toNat) (h149 : -149 ≤ m) (hm2 : m ≤ 100) :
    ∃ c q, FP.Core.roundRatio FP.Core.b32 s A 1 e = .fin s c q ∧ f_fit c q ∧ q ≤ m ∧ c ≤ 2 ^ (m - q).toNat ∧ ∀ a : Nat, 2 ^ a ≤ A → -149 < (a : Int) + e - 23 → (a : Int) + e - 23 ≤ q ∧ 8388608 ≤ c := by
  have hl1 := Nat.log2_self_le (n := A) (by omega)
  have hl2 := Nat.lt_log2_self (n := A)
  have hlm : (A.log2 : Int) ≤ m - e := by
    have : A.log2 ≤ (m - e).toNat := by
      apply Nat.le_of_not_lt; intro z
      have := Nat.pow_lt_pow_right (a := 2) (by decide) z
      omega
    omega
  unfold FP.Core.roundRatio FP.Core.roundAt
  rw [if_neg (by omega), f_quant hA]
  generalize hq : max (-149) ((A.log2 : Int) + e - 23) = q
  have q1 : -149 ≤ q := by omega
  have q2 : (A.log2 : Int) + e - 23 ≤ q := by omega
  have q3 : q = -149 ∨ q = (A.log2 : Int) + e - 23 := by omega
  have q4 : q ≤ m := by omega
  unfold FP.Core.unitsNum FP.Core.unitsDen
  rw [Nat.one_mul]
  have hB : 0 < 2 ^ (q - e).toNat := Nat.two_pow_pos _
  -- not above 2^24
  have hc24 : FP.Core.nearest (A * 2 ^ (e - q).toNat) (2 ^ (q - e).toNat) ≤ 16777216 := by
    refine f_near_le hB ?_
    have : (16777216 : Nat) = 2 ^ 24 := rfl
    rw [this, f_p2]
    have h2 : A * 2 ^ (e - q).toNat ≤ 2 ^ (A.log2 + 1) * 2 ^ (e - q).toNat := Nat.mul_le_mul_right _ (Nat.le_of_lt hl2)
    rw [f_p2] at h2
    exact Nat.le_trans h2 (Nat.pow_le_pow_right (by decide) (by omega))
  have hcm : FP.Core.nearest (A * 2 ^ (e - q).toNat) (2 ^ (q - e).toNat) ≤ 2 ^ (m - q).toNat := by
    refine f_near_le hB ?_
    rw [f_p2]
    have h2 : A * 2 ^ (e - q).toNat ≤ 2 ^ (m - e).toNat * 2 ^ (e - q).toNat := Nat.mul_le_mul_right _ hm
    rw [f_p2] at h2
    exact Nat.le_trans h2 (Nat.pow_le_pow_right (by decide) (by omega))
  have hnorm : q = (A.log2 : Int) + e - 23 → 8388608 ≤ FP.Core.nearest (A * 2 ^ (e - q).toNat) (2 ^ (q - e).toNat) := by
    intro hq3
    refine f_near_ge hB ?_
    have : (8388608 : Nat) = 2 ^ 23 := rfl
    rw [this, f_p2]
    have h2 : 2 ^ A.log2 * 2 ^ (e - q).toNat ≤ A * 2 ^ (e - q).toNat := Nat.mul_le_mul_right _ hl1
    rw [f_p2] at h2
    exact Nat.le_trans (Nat.pow_le_pow_right (by decide) (by omega)) h2
  have hlow : ∀ a : Nat, 2 ^ a ≤ A → a ≤ A.log2 := by
    intro a ha
    apply Nat.le_of_not_lt; intro z
    have := Nat.pow_le_pow_right (n := 2) (by decide) z
    have h3 : 2 ^ (A.log2 + 1) ≤ 2 ^ a := this
    omega
  generalize FP.Core.nearest (A * 2 ^ (e - q).toNat) (2 ^ (q - e).toNat) = c at hc24 hcm hnorm ⊢
  rw [f_settle (by omega)]
  by_cases hc : c < 16777216
  · rw [if_pos hc]
    refine ⟨c, q, rfl, ⟨hc, q1, by omega, ?_⟩, q4, hcm, fun a ha h => ?_⟩
    · rcases q3 with h | h
      · exact Or.inl h
      · exact Or.inr (hnorm h)
    · have := hlow a ha
      exact ⟨by omega, hnorm (by omega)⟩
  · rw [if_neg hc]
    have hce : c = 16777216 := by omega
    have hqm : q + 24 ≤ m := by
      apply Int.le_of_not_gt; intro z
      have h3 : 2 ^ (m - q).toNat ≤ 2 ^ 23 := Nat.pow_le_pow_right (by decide) (by omega)
      have : (2 : Nat) ^ 23 = 8388608 := rfl
      omega
    refine ⟨8388608, q + 1, rfl, ⟨by omega, by omega, by omega, Or.inr (Nat.le_refl _)⟩, by omega, ?_, fun a ha h => ?_⟩
    · have : (8388608 : Nat) = 2 ^ 23 := rfl
      rw [this]
      exact Nat.pow_le_pow_right (by decide) (by omega)
    · have := hlow a ha
      exact ⟨by omega, Nat.le_refl _⟩
/-- what can be written is not changed by rounding -/
theorem f_exact {s : Bool} {A c : Nat} {e q : Int} (hc : 8388608 ≤ c ∧ c < 16777216) (hq : -149 ≤ q ∧ q ≤ 103) (h : A * 2 ^ (e - q).toNat = c * 2 ^ (q - e).toNat) : FP.Core.roundRatio FP.Core.b32 s A 1 e = .fin s c q := by
  have hB : 0 < 2 ^ (q - e).toNat := Nat.two_pow_pos _
  have hP : 0 < 2 ^ (e - q).toNat := Nat.two_pow_pos _
  have hA : 0 < A := by
    apply Nat.pos_of_ne_zero; intro z
    rw [z, Nat.zero_mul] at h
    have := Nat.mul_pos (show 0 < c by omega) hB
    omega
  have h24 : (16777216 : Nat) = 2 ^ 24 := rfl
  have h23 : (8388608 : Nat) = 2 ^ 23 := rfl
  have hl1 := Nat.log2_self_le (n := A) (by omega)
  have hl2 := Nat.lt_log2_self (n := A)
  have lo : (A.log2 : Int) + e - 23 ≤ q := by
    apply Int.le_of_not_gt; intro z
    have h2 : 2 ^ A.log2 * 2 ^ (e - q).toNat ≤ A * 2 ^ (e - q).toNat := Nat.mul_le_mul_right _ hl1
    rw [f_p2, h] at h2
    have h3 : c * 2 ^ (q - e).toNat < 2 ^ 24 * 2 ^ (q - e).toNat := Nat.mul_lt_mul_of_pos_right (by omega) hB
    rw [f_p2] at h3
    have h4 : 2 ^ (24 + (q - e).toNat) ≤ 2 ^ (A.log2 + (e - q).toNat) := Nat.pow_le_pow_right (by decide) (by omega)
    omega
  have hi : q ≤ (A.log2 : Int) + e - 23 := by
    apply Int.le_of_not_gt; intro z
    have h2 : A * 2 ^ (e - q).toNat < 2 ^ (A.log2 + 1) * 2 ^ (e - q).toNat := Nat.mul_lt_mul_of_pos_right hl2 hP
    rw [f_p2, h] at h2
    have h3 : 2 ^ 23 * 2 ^ (q - e).toNat ≤ c * 2 ^ (q - e).toNat := Nat.mul_le_mul_right _ (by omega)
    rw [f_p2] at h3
    have h4 : 2 ^ (A.log2 + 1 + (e - q).toNat) ≤ 2 ^ (23 + (q - e).toNat) := Nat.pow_le_pow_right (by decide) (by omega)
    omega
  unfold FP.Core.roundRatio FP.Core.roundAt
  rw [if_neg (by omega), f_quant hA]
  have e1 : max (-149) ((A.log2 : Int) + e - 23) = q := by omega
  rw [e1]
  unfold FP.Core.unitsNum FP.Core.unitsDen
  rw [Nat.one_mul, h, f_near_ex hB, f_settle (by omega), if_pos hc.2]
/-! sums and products -/
def f_u (c : Nat) (q : Int) : Nat := c * 2 ^ (q + 149).toNat
theorem f_le_of {n a k : Nat} (hn : 0 < n) (h : n * 2 ^ a ≤ 2 ^ k) : a ≤ k ∧ n ≤ 2 ^ (k - a) := by
  have h1 : a ≤ k := by
    apply Nat.le_of_not_lt; intro z
    have h2 : 2 ^ a ≤ n * 2 ^ a := Nat.le_mul_of_pos_left _ hn
    have := Nat.pow_lt_pow_right (a := 2) (by decide) z
    omega
  refine ⟨h1, Nat.le_of_mul_le_mul_right (c := 2 ^ a) ?_ (Nat.two_pow_pos _)⟩
  rw [f_p2, Nat.sub_add_cancel h1]; exact h
theorem f_rnd_u {s : Bool} {A k : Nat} {e : Int} (he : -149 ≤ e) (h : f_u A e ≤ 2 ^ k) (hk : k ≤ 249) :
    ∃ c q, FP.Core.roundRatio FP.Core.b32 s A 1 e = .fin s c q ∧ f_fit c q ∧ f_u c q ≤ 2 ^ k ∧ (A = 0 → c = 0) ∧ ∀ a : Nat, 23 < a → 2 ^ a ≤ f_u A e → (a : Int) - 172 ≤ q ∧ 8388608 ≤ c := by
  by_cases hA : A = 0
  · subst hA
    refine ⟨0, -149, ?_, ⟨by decide, by decide, by decide, Or.inl rfl⟩, by unfold f_u; rw [Nat.zero_mul]; exact Nat.zero_le _, fun _ => rfl, fun a _ ha => ?_⟩
    · unfold FP.Core.roundRatio; rw [if_pos rfl]; rfl
    · unfold f_u at ha
      rw [Nat.zero_mul] at ha
      have := Nat.two_pow_pos a
      omega
  · obtain ⟨h1, h2⟩ := f_le_of (Nat.pos_of_ne_zero hA) h
    obtain ⟨c, q, r1, r2, r3, r4, r5⟩ := f_rnd (s := s) (A := A) (e := e) (m := (k : Int) - 149) (Nat.pos_of_ne_zero hA) (by omega) (by rw [show ((k : Int) - 149 - e).toNat = k - (e + 149).toNat by omega]; exact h2) (by omega) (by omega)
    refine ⟨c, q, r1, r2, ?_, fun z => absurd z hA, fun a h23 ha => ?_⟩
    · unfold f_u
      have := Nat.mul_le_mul_right (2 ^ (q + 149).toNat) r4
      rw [f_p2] at this
      obtain ⟨g1, g2, g3, g4⟩ := r2
      rw [show ((k : Int) - 149 - q).toNat + (q + 149).toNat = k by omega] at this
      exact this
    · unfold f_u at ha
      by_cases hz : (e + 149).toNat ≤ a
      · have h3 : 2 ^ (a - (e + 149).toNat) ≤ A := by
          refine Nat.le_of_mul_le_mul_right (c := 2 ^ (e + 149).toNat) ?_ (Nat.two_pow_pos _)
          rw [f_p2, Nat.sub_add_cancel hz]; exact ha
        have := r5 _ h3 (by omega)
        exact ⟨by omega, this.2⟩
      · have h3 : 2 ^ 0 ≤ A := Nat.pos_of_ne_zero hA
        have := r5 0 h3 (by omega)
        exact ⟨by omega, this.2⟩
theorem f_sgn_u (s : Bool) (c : Nat) {q e : Int} (h1 : -149 ≤ e) (h2 : e ≤ q) : FP.Core.signed s (FP.Core.inUnits c q e) * (2 ^ (e + 149).toNat : Nat) = FP.Core.signed s (f_u c q) := by
  unfold FP.Core.signed FP.Core.inUnits f_u
  have e1 : c * 2 ^ (q - e).toNat * 2 ^ (e + 149).toNat = c * 2 ^ (q + 149).toNat := by
    rw [Nat.mul_assoc, f_p2, show (q - e).toNat + (e + 149).toNat = (q + 149).toNat by omega]
  cases s
  · simp only [Bool.false_eq_true, if_false]
    rw [← Int.natCast_mul, e1]
  · simp only [if_true]
    rw [Int.neg_mul, ← Int.natCast_mul, e1]
theorem f_sumd {s t : Bool} {c d k : Nat} {q r : Int} (hq : -149 ≤ q) (hr : -149 ≤ r) (h : (FP.Core.signed s (f_u c q) + FP.Core.signed t (f_u d r)).natAbs ≤ 2 ^ k) (hk : k ≤ 249) :
    ∃ s' c' q', FP.Core.round FP.Core.b32 (FP.Core.exactSum (.fin s c q) (.fin t d r)) = .fin s' c' q' ∧ f_fit c' q' ∧ f_u c' q' ≤ 2 ^ k ∧ (s' = true → FP.Core.signed s (f_u c q) + FP.Core.signed t (f_u d r) ≤ 0) ∧ (s' = false → 0 ≤ FP.Core.signed s (f_u c q) + FP.Core.signed t (f_u d r)) ∧ (FP.Core.signed s (f_u c q) + FP.Core.signed t (f_u d r) = 0 → c' = 0 ∧ s' = (s && t)) ∧ ∀ a : Nat, 23 < a → 2 ^ a ≤ (FP.Core.signed s (f_u c q) + FP.Core.signed t (f_u d r)).natAbs → (a : Int) - 172 ≤ q' ∧ 8388608 ≤ c' := by
  have he1 : min q r ≤ q := Int.min_le_left _ _
  have he2 : min q r ≤ r := Int.min_le_right _ _
  have he : -149 ≤ min q r := by omega
  show ∃ s' c' q', FP.Core.roundRatio FP.Core.b32 (FP.Core.sumSign s t (FP.Core.sumUnits s c q t d r (min q r))) (FP.Core.sumUnits s c q t d r (min q r)).natAbs 1 (min q r) = .fin s' c' q' ∧ _
  have hv : FP.Core.sumUnits s c q t d r (min q r) * (2 ^ (min q r + 149).toNat : Nat) = FP.Core.signed s (f_u c q) + FP.Core.signed t (f_u d r) := by
    unfold FP.Core.sumUnits
    rw [Int.add_mul, f_sgn_u s c he he1, f_sgn_u t d he he2]
  generalize FP.Core.sumUnits s c q t d r (min q r) = v at hv ⊢
  generalize FP.Core.signed s (f_u c q) + FP.Core.signed t (f_u d r) = Z at hv h ⊢
  generalize min q r = e at he hv ⊢
  have hp : 0 < 2 ^ (e + 149).toNat := Nat.two_pow_pos _
  have hu : f_u v.natAbs e = Z.natAbs := by
    unfold f_u
    rw [← hv, Int.natAbs_mul]
    congr 1
  obtain ⟨c', q', r1, r2, r3, r4, r5⟩ := f_rnd_u (s := FP.Core.sumSign s t v) (A := v.natAbs) (k := k) he (by rw [hu]; exact h) hk
  have hpi : (0 : Int) < (2 ^ (e + 149).toNat : Nat) := by exact_mod_cast hp
  refine ⟨_, c', q', r1, r2, r3, fun hs => ?_, fun hs => ?_, fun hz => ?_, fun a h23 ha => r5 a h23 (by rw [hu]; exact ha)⟩
  · have hv0 : v ≤ 0 := by
      unfold FP.Core.sumSign at hs
      split at hs
      · omega
      · simp only [decide_eq_true_eq] at hs; omega
    rw [← hv]
    exact Int.mul_nonpos_of_nonpos_of_nonneg hv0 (Int.le_of_lt hpi)
  · have hv0 : 0 ≤ v := by
      unfold FP.Core.sumSign at hs
      split at hs
      · omega
      · simp only [decide_eq_false_iff_not] at hs; omega
    rw [← hv]
    exact Int.mul_nonneg hv0 (Int.le_of_lt hpi)
  · have hv0 : v = 0 := by
      rw [← hv] at hz
      rcases Int.mul_eq_zero.mp hz with z | z
      · exact z
      · omega
    refine ⟨r4 (by rw [hv0]; rfl), ?_⟩
    unfold FP.Core.sumSign; rw [if_pos hv0]
theorem f_add_v (a b : UInt32) {s : Bool} {c : Nat} {q : Int} (h : FP.Core.round FP.Core.b32 (FP.Core.exactSum (fv a) (fv b)) = .fin s c q) (hf : f_fit c q) : fv (FP.fadd a b) = .fin s c q := by
  have e : FP.fadd a b = UInt32.ofNat (FP.Core.encode FP.Core.b32 (FP.Core.round FP.Core.b32 (FP.Core.exactSum (fv a) (fv b)))) := rfl
  rw [e, h]; exact f_rt hf
theorem f_sub_v (a b : UInt32) {s : Bool} {c : Nat} {q : Int} (h : FP.Core.round FP.Core.b32 (FP.Core.exactSum (fv a) (FP.Core.negate (fv b))) = .fin s c q) (hf : f_fit c q) : fv (FP.fsub a b) = .fin s c q := by
  have e : FP.fsub a b = UInt32.ofNat (FP.Core.encode FP.Core.b32 (FP.Core.round FP.Core.b32 (FP.Core.exactSum (fv a) (FP.Core.negate (fv b))))) := rfl
  rw [e, h]; exact f_rt hf
theorem f_mul_v (a b : UInt32) {s t s' : Bool} {c d c' : Nat} {q r q' : Int} (ha : fv a = .fin s c q) (hb : fv b = .fin t d r) (h : FP.Core.roundRatio FP.Core.b32 (s != t) (c * d) 1 (q + r) = .fin s' c' q') (hf : f_fit c' q') : fv (FP.fmul a b) = .fin s' c' q' := by
  have e : FP.fmul a b = UInt32.ofNat (FP.Core.encode FP.Core.b32 (FP.Core.round FP.Core.b32 (FP.Core.exactProduct (fv a) (fv b)))) := rfl
  rw [e, ha, hb]
  show fv (UInt32.ofNat (FP.Core.encode FP.Core.b32 (FP.Core.roundRatio FP.Core.b32 (s != t) (c * d) 1 (q + r)))) = _
  rw [h]; exact f_rt hf
theorem f_nn {x : UInt32} {s : Bool} {c : Nat} {q : Int} (h : fv x = .fin s c q) : vf_n32 x := by
  have h1 : x.toNat % 2147483648 ≤ 2139095040 := by
    unfold fv at h
    rw [f_dec] at h
    split at h
    · split at h <;> cases h
    · omega
  unfold vf_n32
  rw [UInt32.le_iff_toNat_le, UInt32.toNat_and]
  have e1 : (0x7fffffff : UInt32).toNat = 2 ^ 31 - 1 := rfl
  have e2 : (0x7f800000 : UInt32).toNat = 2139095040 := rfl
  rw [e1, e2, Nat.and_two_pow_sub_one_eq_mod]
  exact h1
theorem f_sni {b : Int32} {s : Bool} {c : Nat} {q : Int} (h : fv b.toUInt32 = .fin s c q) : vn_sni2f b = false := by
  have := f_nn h
  unfold vf_n32 at this
  unfold vn_sni2f
  have h2 : decide (b.toUInt32 &&& 0x7fffffff > 0x7f800000) = false := decide_eq_false (UInt32.not_lt.mpr this)
  rw [h2]; rfl
theorem f_cmp_self {x : UInt32} {s : Bool} {c : Nat} {q : Int} (h : fv x = .fin s c q) : FP.fcmp x x = some .eq := by
  have e : FP.fcmp x x = FP.Core.order (fv x) (fv x) := rfl
  rw [e, h]
  show some (compare _ _) = _
  congr 1
  exact Std.ReflCmp.compare_self
