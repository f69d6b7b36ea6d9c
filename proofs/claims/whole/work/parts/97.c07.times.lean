/-! the bits of longs, and rows of them as sets of times -/
def wbt (x : Int64) (b : Nat) : Bool := x.toBitVec.getLsbD b
def lb (r : Nat → Int64) (t : Nat) : Bool := wbt (r (t / 64)) (t % 64)
theorem wbt_ge {x : Int64} {b : Nat} (h : 64 ≤ b) : wbt x b = false := BitVec.getLsbD_of_ge _ _ h
theorem wbt_and {x y : Int64} {b : Nat} : wbt (x &&& y) b = (wbt x b && wbt y b) := by
  unfold wbt; rw [Int64.toBitVec_and, BitVec.getLsbD_and]
theorem wbt_or {x y : Int64} {b : Nat} : wbt (x ||| y) b = (wbt x b || wbt y b) := by
  unfold wbt; rw [Int64.toBitVec_or, BitVec.getLsbD_or]
theorem wbt_not {x : Int64} {b : Nat} (h : b < 64) : wbt (x ^^^ (-1)) b = !wbt x b := by
  unfold wbt
  rw [Int64.toBitVec_xor, BitVec.getLsbD_xor, show (Int64.toBitVec (-1)) = BitVec.allOnes 64 by decide, BitVec.getLsbD_allOnes, decide_eq_true h, Bool.xor_true]
theorem wbt_shl {x : Int64} {r b : Nat} (hr : r < 64) : wbt (x <<< ((nI r).toInt64 &&& 63)) b = (decide (b < 64) && !decide (b < r) && wbt x (b - r)) := by
  rw [wb_c r hr]
  unfold wbt
  rw [Int64.toBitVec_shiftLeft, wb_tb, wb_sm r hr, BitVec.shiftLeft_eq', BitVec.toNat_ofNat, Nat.mod_eq_of_lt (by omega), BitVec.getLsbD_shiftLeft]
theorem wbt_shr {x : Int64} {r b : Nat} (hr : r < 64) : wbt ((x.toUInt64 >>> ((nI r).toInt64.toUInt64 &&& Int64.toUInt64 63)).toInt64) b = wbt x (r + b) := by
  rw [wb_cu r hr]
  unfold wbt
  show (x.toUInt64 >>> UInt64.ofNat r).toBitVec.getLsbD b = _
  have h1 : (UInt64.ofNat r).toBitVec % 64 = BitVec.ofNat 64 r := by
    apply BitVec.eq_of_toNat_eq
    rw [BitVec.toNat_umod]
    show (BitVec.ofNat 64 r).toNat % 64 = _
    rw [BitVec.toNat_ofNat, Nat.mod_eq_of_lt (show r < 2 ^ 64 by omega), Nat.mod_eq_of_lt hr]
  rw [UInt64.toBitVec_shiftRight, h1, BitVec.ushiftRight_eq', BitVec.toNat_ofNat, Nat.mod_eq_of_lt (by omega), BitVec.getLsbD_ushiftRight]
  rfl
theorem wbt_zero {b : Nat} : wbt 0 b = false := by
  unfold wbt
  show (0#64).getLsbD b = false
  simp
theorem wbt_one {b : Nat} : wbt 1 b = decide (b = 0) := by
  unfold wbt
  show (1#64).getLsbD b = _
  rw [BitVec.getLsbD_one]; simp
theorem wbt_ones {b : Nat} (h : b < 64) : wbt (-1) b = true := by
  unfold wbt
  rw [show (Int64.toBitVec (-1)) = BitVec.allOnes 64 by decide, BitVec.getLsbD_allOnes, decide_eq_true h]
theorem wbt_eq0 {x : Int64} : x = 0 ↔ ∀ b, b < 64 → wbt x b = false := by
  constructor
  · intro h b _; rw [h, wbt_zero]
  · intro h
    apply wb_inj
    apply BitVec.eq_of_getLsbD_eq
    intro i hi
    have := h i hi
    unfold wbt at this
    rw [this]
    show false = (0#64).getLsbD i
    simp
theorem wbt_lN {x b : Nat} (hx : x < 2 ^ 64) : wbt (lN x) b = x.testBit b := by
  unfold wbt
  rw [wb_tb]
  show (BitVec.ofNat 64 x).getLsbD b = _
  rw [BitVec.getLsbD, BitVec.toNat_ofNat, Nat.mod_eq_of_lt hx]
theorem wbt_low {n b : Nat} (hn : n < 64) (hb : b < 64) : wbt (lN (2 ^ n - 1)) b = decide (b < n) := by
  have : 2 ^ n - 1 < 2 ^ 64 := by have := wb_lt2 hn; omega
  rw [wbt_lN this, Nat.testBit_two_pow_sub_one]
def upl (r : Nat → Int64) (i : Nat) (v : Int64) : Nat → Int64 := fun j => if j = i then v else r j
theorem lb_upl {r : Nat → Int64} {i t : Nat} {v : Int64} : lb (upl r i v) t = if t / 64 = i then wbt v (t % 64) else lb r t := by
  unfold lb upl
  by_cases h : t / 64 = i
  · rw [if_pos h, if_pos h]
  · rw [if_neg h, if_neg h]
theorem nI_shr6 {t : Nat} (h : t < 2 ^ 31) : nI t >>> (nI 6 &&& nI 31) = nI (t / 64) := by
  rw [show (nI 6 &&& nI 31) = nI 6 from ib_m31 6 (by decide)]
  apply Int32.toBitVec_inj.mp
  rw [Int32.toBitVec_shiftRight, show (nI 6).toBitVec = BitVec.ofNat 32 6 from rfl, ib_sm 6 (by decide), BitVec.sshiftRight_eq', BitVec.toNat_ofNat, Nat.mod_eq_of_lt (show 6 < 2 ^ 32 by decide)]
  have e : (nI t).toBitVec = BitVec.ofNat 32 t := rfl
  rw [e, BitVec.sshiftRight_eq_of_msb_false (by rw [BitVec.msb_eq_decide, BitVec.toNat_ofNat, Nat.mod_eq_of_lt (by omega)]; simp; omega)]
  apply BitVec.eq_of_toNat_eq
  rw [BitVec.toNat_ushiftRight, BitVec.toNat_ofNat, Nat.mod_eq_of_lt (by omega), Nat.shiftRight_eq_div_pow]
  show _ = (BitVec.ofNat 32 (t / 64)).toNat
  rw [BitVec.toNat_ofNat, Nat.mod_eq_of_lt (by omega)]
theorem nI_and63 {t : Nat} (h : t < 2 ^ 31) : nI t &&& nI 63 = nI (t % 64) := pk_andN (by omega) (m := nI 63) 6 (by decide)
theorem lcmp0 {x : Int64} : lg_cmp x 0 = 0 ↔ x = 0 := by
  unfold lg_cmp
  constructor
  · intro h
    split at h
    · exact absurd h (by decide)
    · split at h
      · assumption
      · exact absurd h (by decide)
  · intro h
    subst h
    decide
section
variable {L : Nat} {xs : Nat → Int32} {d : Nat} {kp sp wd : Value} {I : z_I} {s : z_sg} {R : z_R} {J : z_J} {F : z_F} {cn : Nat} {Q : z_Q} {cm : Nat → Int32}
theorem ct_upTo {n : Int32} (hn : -100000 ≤ n.toInt) (hn2 : n.toInt ≤ 100000) (hQ : ∀ v, (∀ b, b < 64 → wbt v b = decide ((b : Int) ≤ n.toInt)) → Q (some (.long v)) I R J F cn) : z_M (z_X0 L xs) z_P0 d m_Times_upTo [.int n] I R J F cn Q := by
  refine z_WP_gos [] 1000 fun K C hK hC => ?_
  conv => whnf
  refine ⟨fun g => ?_, fun g => ?_⟩
  · have g0 : 0 ≤ n.toInt := by
      have := Int32.le_iff_toInt_le.mp g
      rw [show (0 : Int32).toInt = 0 from rfl] at this
      exact this
    obtain ⟨m, hm⟩ : ∃ m : Nat, n.toInt = m := ⟨n.toInt.toNat, by omega⟩
    have en : n = nI m := Int32.toInt_inj.mp (by rw [hm, nI_toInt (by omega)])
    rw [hm] at hQ
    subst en
    conv => whnf
    refine ⟨fun g2 => ?_, fun g2 => ?_⟩
    · have h63 : m < 63 := Nat.not_le.mp fun z => absurd g2 (nI_nlt (b := 63) z (by omega))
      conv => whnf
      refine hQ _ fun b hb => ?_
      have e : Int64.ofNat 2 = lN 2 := rfl
      rw [e, wb_shl 2 (by omega)]
      show wbt (lN (2 * 2 ^ m) - lN 1) b = _
      rw [show 2 * 2 ^ m = 2 ^ (m + 1) by rw [Nat.pow_succ]; omega, lN_sub (Nat.one_le_two_pow), wbt_low (by omega) hb]
      congr 1
      apply propext
      omega
    · have h63 : 63 ≤ m := Nat.not_lt.mp fun z => g2 (nI_lt (b := 63) z (by omega))
      conv => whnf
      refine hQ _ fun b hb => ?_
      rw [decide_eq_true (by omega)]
      exact wbt_ones hb
  · have g0 : n.toInt < 0 := by
      have := Int32.lt_iff_toInt_lt.mp (Int32.not_le.mp g)
      rw [show (0 : Int32).toInt = 0 from rfl] at this
      exact this
    conv => whnf
    refine hQ _ fun b hb => ?_
    rw [decide_eq_false (by omega)]
    exact wbt_zero
end
