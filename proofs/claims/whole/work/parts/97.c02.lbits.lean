/-! the bits of a long -/
theorem cnf_8 (g x : Nat) : cnf (8 + g) x = cnf 8 (x % 256) + cnf g (x / 256) := cnf_add 8 g x
theorem cnf_64 {x : Nat} (hx : x < 2 ^ 64) : cnf 64 x = cnf 8 (x % 256) + cnf 8 (x / 256 % 256) + cnf 8 (x / 256 / 256 % 256) + cnf 8 (x / 256 / 256 / 256 % 256) + cnf 8 (x / 256 / 256 / 256 / 256 % 256) + cnf 8 (x / 256 / 256 / 256 / 256 / 256 % 256) + cnf 8 (x / 256 / 256 / 256 / 256 / 256 / 256 % 256) + cnf 8 (x / 256 / 256 / 256 / 256 / 256 / 256 / 256 % 256) := by
  rw [show (64 : Nat) = 8 + 56 from rfl, cnf_8, show (56 : Nat) = 8 + 48 from rfl, cnf_8, show (48 : Nat) = 8 + 40 from rfl, cnf_8, show (40 : Nat) = 8 + 32 from rfl, cnf_8, show (32 : Nat) = 8 + 24 from rfl, cnf_8, show (24 : Nat) = 8 + 16 from rfl, cnf_8, show (16 : Nat) = 8 + 8 from rfl, cnf_8]
  rw [show x / 256 / 256 / 256 / 256 / 256 / 256 / 256 % 256 = x / 256 / 256 / 256 / 256 / 256 / 256 / 256 by omega]
  omega
section
variable {L : Nat} {xs : Nat → Int32} {d : Nat} {kp sp wd : Value} {I : z_I} {s : z_sg} {R : z_R} {J : z_J} {F : z_F} {cn : Nat} {Q : z_Q}
theorem cl_bitCount {x : Nat} (hx : x < 2 ^ 64) (hQ : Q (some (.int (nI (cnf 64 x)))) I R J F cn) : z_M (z_X0 L xs) z_P0 d m_Long_bitCount [.long (lN x)] I R J F cn Q := by
  rw [cnf_64 hx, ← bc8_eq, ← bf3_by] at hQ
  simp only at hQ
  have M1 : bM 85 8 = 6148914691236517205 := rfl
  have M2 : bM 51 8 = 3689348814741910323 := rfl
  have M3 : bM 15 8 = 1085102592571150095 := rfl
  have E1 : lN x - (((lN x).toUInt64 >>> ((1 : Int32).toInt64.toUInt64 &&& Int64.toUInt64 63)).toInt64 &&& lN 6148914691236517205) = lN (bf1 8 x) := by
    have e := wb_shr (n := x) (k := 1) hx (by decide)
    have e2 : x / 2 ^ 1 < 2 ^ 64 := Nat.lt_of_le_of_lt (Nat.div_le_self _ _) hx
    rw [show (1 : Int32) = nI 1 from rfl, e, wb_and e2 (by decide), lN_sub (Nat.le_trans Nat.and_le_left (Nat.div_le_self _ _))]
    rfl
  have hA : bf1 8 x < 2 ^ 64 := Nat.lt_of_le_of_lt (Nat.sub_le _ _) hx
  refine z_WP_gos [] 1000 fun K C hK hC => ?_
  conv => whnf
  simp only []
  rw [show Int64.ofNat 6148914691236517205 = lN 6148914691236517205 from rfl, show Int64.ofNat 3689348814741910323 = lN 3689348814741910323 from rfl, show Int64.ofNat 1085102592571150095 = lN 1085102592571150095 from rfl]
  rw [E1]
  generalize bf1 8 x = A at *
  have E2 : (lN A &&& lN 3689348814741910323) + (((lN A).toUInt64 >>> ((2 : Int32).toInt64.toUInt64 &&& Int64.toUInt64 63)).toInt64 &&& lN 3689348814741910323) = lN (bf2 8 A) := by
    have e := wb_shr (n := A) (k := 2) hA (by decide)
    have e2 : A / 2 ^ 2 < 2 ^ 64 := Nat.lt_of_le_of_lt (Nat.div_le_self _ _) hA
    rw [show (2 : Int32) = nI 2 from rfl, e, wb_and hA (by decide), wb_and e2 (by decide), lN_add]
    rfl
  have hB : bf2 8 A ≤ 7378697629483820646 := by
    unfold bf2
    rw [M2]
    have h1 : (A &&& 3689348814741910323) ≤ 3689348814741910323 := Nat.and_le_right
    have h2 : (A / 4 &&& 3689348814741910323) ≤ 3689348814741910323 := Nat.and_le_right
    omega
  rw [E2]
  generalize bf2 8 A = B at *
  have E3 : (lN B + ((lN B).toUInt64 >>> ((4 : Int32).toInt64.toUInt64 &&& Int64.toUInt64 63)).toInt64) &&& lN 1085102592571150095 = lN (bf3 8 B) := by
    have e := wb_shr (n := B) (k := 4) (by omega) (by decide)
    rw [show (4 : Int32) = nI 4 from rfl, e, lN_add, wb_and (by omega) (by decide)]
    rfl
  have hC : bf3 8 B ≤ 1085102592571150095 := by
    unfold bf3
    rw [M3]
    exact Nat.and_le_right
  rw [E3]
  generalize bf3 8 B = C at *
  rw [show (8 : Int32) = nI 8 from rfl, show (16 : Int32) = nI 16 from rfl, show (32 : Int32) = nI 32 from rfl, wb_shr (n := C) (k := 8) (by omega) (by decide), lN_add, wb_shr (k := 16) (by omega) (by decide), lN_add, wb_shr (k := 32) (by omega) (by decide), lN_add, lN_i]
  have fin : ∀ h : Nat, nI h &&& 127 = nI (h % 128) := fun h => by
    rw [pk_and (nI h) (m := 127) 7 (by decide)]
    have : (nI h).toBitVec.toNat = h % 2 ^ 32 := BitVec.toNat_ofNat _ _
    rw [this]
    congr 1
    omega
  rw [fin]
  exact hQ
end
