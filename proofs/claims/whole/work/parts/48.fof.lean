/-! floats: bits by arithmetic -/
theorem f_inj {x : UInt32} {s : Bool} {c : Nat} {q : Int} (h : fv x = .fin s c q) : x.toNat = f_enc s c q := by
  have hx : x.toNat < 2 ^ 32 := x.toNat_lt
  unfold fv at h
  rw [f_dec] at h
  have h256 : x.toNat / 8388608 % 256 < 256 := Nat.mod_lt _ (by decide)
  have hT : x.toNat % 8388608 < 8388608 := Nat.mod_lt _ (by decide)
  have hb : (x.toNat / 8388608 / 256 % 2 == 1).toNat = x.toNat / 8388608 / 256 := by
    rcases (show x.toNat / 8388608 / 256 = 0 ∨ x.toNat / 8388608 / 256 = 1 by omega) with z | z <;> rw [z] <;> rfl
  split at h
  · split at h <;> cases h
  · split at h
    · cases h
      unfold f_enc
      rw [if_pos hT, hb]
      omega
    · cases h
      unfold f_enc
      rw [if_neg (by omega), hb]
      omega
theorem f_eq {x y : UInt32} {s : Bool} {c : Nat} {q : Int} (h : fv x = .fin s c q) (g : fv y = .fin s c q) : x = y := UInt32.toNat_inj.mp ((f_inj h).trans (f_inj g).symm)
theorem f_half {x : UInt32} {s : Bool} {c : Nat} {q : Int} (h : fv x = .fin s c q) (hc : 8388608 ≤ c) (hq : -148 ≤ q) : fv (FP.fmul x (UInt32.ofNat 1056964608)) = .fin s c (q - 1) := by
  have hf := f_fits h
  have hk : fv (UInt32.ofNat 1056964608) = .fin false 8388608 (-24) := by decide +kernel
  obtain ⟨h1, h2, h3, h4⟩ := hf
  refine f_mul_v _ _ h hk ?_ ⟨h1, by omega, by omega, Or.inr hc⟩
  rw [show (s != false) = s by cases s <;> rfl]
  refine f_exact ⟨hc, h1⟩ ⟨by omega, by omega⟩ ?_
  rw [show (q + -24 - (q - 1)).toNat = 0 by omega, show (q - 1 - (q + -24)).toNat = 23 by omega, Nat.pow_zero, Nat.mul_one]
theorem f_two {x : UInt32} {s : Bool} {c : Nat} {q : Int} (h : fv x = .fin s c q) (hc : 8388608 ≤ c) (hq : q ≤ 102) : fv (FP.fmul x FP.fconst2) = .fin s c (q + 1) := by
  have hf := f_fits h
  have hk : fv FP.fconst2 = .fin false 8388608 (-22) := by decide +kernel
  obtain ⟨h1, h2, h3, h4⟩ := hf
  refine f_mul_v _ _ h hk ?_ ⟨h1, by omega, by omega, Or.inr hc⟩
  rw [show (s != false) = s by cases s <;> rfl]
  refine f_exact ⟨hc, h1⟩ ⟨by omega, by omega⟩ ?_
  rw [show (q + -22 - (q + 1)).toNat = 0 by omega, show (q + 1 - (q + -22)).toNat = 23 by omega, Nat.pow_zero, Nat.mul_one]
theorem f_i2f {c : Nat} (hc : 8388608 ≤ c) (h1 : c < 16777216) : fv (FP.i2f (nI c)) = .fin false c 0 := by
  have e : FP.i2f (nI c) = UInt32.ofNat (FP.Core.encode FP.Core.b32 (FP.Core.round FP.Core.b32 (FP.Core.ofInt (nI c).toInt))) := rfl
  rw [e, nI_toInt (by omega)]
  unfold FP.Core.ofInt
  rw [decide_eq_false (by omega), Int.natAbs_natCast]
  show fv (UInt32.ofNat (FP.Core.encode FP.Core.b32 (FP.Core.roundRatio FP.Core.b32 false c 1 0))) = _
  rw [f_exact (q := 0) ⟨hc, h1⟩ ⟨by omega, by omega⟩ rfl]
  exact f_rt ⟨h1, by omega, by omega, Or.inr hc⟩
theorem f_neg {x : UInt32} {s : Bool} {c : Nat} {q : Int} (h : fv x = .fin s c q) : fv (FP.fneg x) = .fin (!s) c q := by
  have hf := f_fits h
  have hi := f_inj h
  have e : (FP.fneg x).toNat = f_enc (!s) c q := by
    unfold FP.fneg
    rw [UInt32.toNat_xor, hi]
    have k : (2147483648 : UInt32).toNat = 2 ^ 31 := rfl
    rw [k]
    obtain ⟨h1, h2, h3, h4⟩ := hf
    have hlt : f_enc false c q < 2 ^ 31 := by
      unfold f_enc
      simp only [Bool.toNat_false]
      split <;> omega
    have hs : f_enc true c q = 2 ^ 31 + f_enc false c q := by
      unfold f_enc
      simp only [Bool.toNat_false, Bool.toNat_true]
      split <;> omega
    have hor : 2 ^ 31 + f_enc false c q = f_enc false c q ^^^ 2 ^ 31 := by
      have := Nat.two_pow_add_eq_or_of_lt hlt 1
      apply Nat.eq_of_testBit_eq
      intro i
      rw [Nat.testBit_xor, Nat.testBit_two_pow]
      by_cases hi : i = 31
      · subst hi
        rw [Nat.testBit_two_pow_add_eq, Nat.testBit_lt_two_pow hlt]; rfl
      · rw [decide_eq_false (fun z => hi z.symm), Bool.xor_false]
        by_cases h31 : i < 31
        · rw [Nat.testBit_two_pow_add_gt h31]
        · rw [Nat.testBit_lt_two_pow (Nat.lt_of_lt_of_le (show 2 ^ 31 + f_enc false c q < 2 ^ 32 by omega) (Nat.pow_le_pow_right (by decide) (by omega))), Nat.testBit_lt_two_pow (Nat.lt_of_lt_of_le hlt (Nat.pow_le_pow_right (by decide) (by omega)))]
    cases s
    · show _ = f_enc true c q
      rw [hs, hor]
    · show _ = f_enc false c q
      rw [hs, hor, Nat.xor_assoc, Nat.xor_self, Nat.xor_zero]
  unfold fv
  rw [e]
  exact f_rt0 hf
theorem f_cmp {x y : UInt32} {s t : Bool} {c d : Nat} {q r : Int} (h : fv x = .fin s c q) (g : fv y = .fin t d r) : FP.fcmp x y = some (compare (FP.Core.signed s (FP.Core.inUnits c q (min q r))) (FP.Core.signed t (FP.Core.inUnits d r (min q r)))) := by
  show FP.Core.order (fv x) (fv y) = _
  rw [h, g]; rfl
/-- a positive fraction beside a power of two -/
theorem f_cmp2 {x y : UInt32} {c : Nat} {q r : Int} (h : fv x = .fin false c q) (g : fv y = .fin false 8388608 r) (hc : 8388608 ≤ c) (op : CmpOp) : (cmpValue (FP.fcmp x y) op < nI 0 ↔ q < r) ∧ (nI 0 ≤ cmpValue (FP.fcmp x y) op ↔ r ≤ q) := by
  have hf := f_fits h
  obtain ⟨h1, h2, h3, h4⟩ := hf
  rw [f_cmp h g]
  show (cmpValue (some (compare (FP.Core.inUnits c q (min q r) : Int) (FP.Core.inUnits 8388608 r (min q r) : Int))) op < nI 0 ↔ q < r) ∧ (nI 0 ≤ cmpValue (some (compare (FP.Core.inUnits c q (min q r) : Int) (FP.Core.inUnits 8388608 r (min q r) : Int))) op ↔ r ≤ q)
  unfold FP.Core.inUnits
  by_cases hqr : q < r
  · rw [Int.min_eq_left (by omega), show (q - q).toNat = 0 by omega, Nat.pow_zero, Nat.mul_one]
    have hlt : c < 8388608 * 2 ^ (r - q).toNat := by
      obtain ⟨k, hk⟩ : ∃ k, (r - q).toNat = k + 1 := ⟨(r - q).toNat - 1, by omega⟩
      rw [hk, Nat.pow_succ]
      have := Nat.two_pow_pos k
      calc c < 16777216 := h1
        _ = 8388608 * (1 * 2) := rfl
        _ ≤ 8388608 * (2 ^ k * 2) := Nat.mul_le_mul_left _ (Nat.mul_le_mul_right _ this)
    have e : compare (c : Int) ((8388608 * 2 ^ (r - q).toNat : Nat) : Int) = .lt := Int.compare_eq_lt.mpr (by exact_mod_cast hlt)
    rw [e]
    exact ⟨⟨fun _ => hqr, fun _ => by cases op <;> decide⟩, ⟨fun z => absurd z (by cases op <;> decide), fun z => absurd z (by omega)⟩⟩
  · rw [Int.min_eq_right (by omega), show (r - r).toNat = 0 by omega, Nat.pow_zero, Nat.mul_one]
    have hge : 8388608 ≤ c * 2 ^ (q - r).toNat := Nat.le_trans hc (Nat.le_mul_of_pos_right _ (Nat.two_pow_pos _))
    have e : compare ((c * 2 ^ (q - r).toNat : Nat) : Int) ((8388608 : Nat) : Int) ≠ .lt := fun z => by
      have := Int.compare_eq_lt.mp z
      have : c * 2 ^ (q - r).toNat < 8388608 := by exact_mod_cast this
      omega
    revert e
    generalize compare ((c * 2 ^ (q - r).toNat : Nat) : Int) ((8388608 : Nat) : Int) = o
    intro e
    cases o with
    | lt => exact absurd rfl e
    | eq => exact ⟨⟨fun z => absurd z (by cases op <;> decide), fun z => absurd z hqr⟩, ⟨fun _ => by omega, fun _ => by cases op <;> decide⟩⟩
    | gt => exact ⟨⟨fun z => absurd z (by cases op <;> decide), fun z => absurd z hqr⟩, ⟨fun _ => by omega, fun _ => by cases op <;> decide⟩⟩
