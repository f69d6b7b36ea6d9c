/-! counting bits, byte by byte -/
theorem nx_and (a b : Nat) : nI a &&& nI b = nI (a &&& b) := by
  apply Int32.toBitVec_inj.1
  show BitVec.ofNat 32 a &&& BitVec.ofNat 32 b = BitVec.ofNat 32 (a &&& b)
  apply BitVec.eq_of_getLsbD_eq
  intro i hi
  simp [hi]
def bM (m : Nat) : Nat → Nat
  | 0 => 0
  | n + 1 => 256 * bM m n + m
def bf1 (n x : Nat) : Nat := x - (x / 2 &&& bM 85 n)
def bf2 (n x : Nat) : Nat := (x &&& bM 51 n) + (x / 4 &&& bM 51 n)
def bf3 (n x : Nat) : Nat := (x + x / 16) &&& bM 15 n
def cnf : Nat → Nat → Nat
  | 0, _ => 0
  | f + 1, n => n % 2 + cnf f (n / 2)
def by8 : Nat → Nat → Nat
  | 0, _ => 0
  | n + 1, x => 256 * by8 n (x / 256) + cnf 8 (x % 256)
theorem land256 {a b c e : Nat} (hb : b < 256) (he : e < 256) : (256 * a + b) &&& (256 * c + e) = 256 * (a &&& c) + (b &&& e) := by
  have hbe : b &&& e < 2 ^ 8 := Nat.and_lt_two_pow _ he
  apply Nat.eq_of_testBit_eq
  intro i
  rw [Nat.testBit_and, show 256 * a + b = 2 ^ 8 * a + b from rfl, show 256 * c + e = 2 ^ 8 * c + e from rfl, show 256 * (a &&& c) + (b &&& e) = 2 ^ 8 * (a &&& c) + (b &&& e) from rfl, Nat.testBit_two_pow_mul_add a hb, Nat.testBit_two_pow_mul_add c he, Nat.testBit_two_pow_mul_add _ hbe]
  split
  · rw [Nat.testBit_and]
  · rw [Nat.testBit_and]
theorem b85 : ∀ e, e < 2 → ∀ c, c < 128 → (128 * e + c) &&& 85 = c &&& 85 := by decide +kernel
theorem b51 : ∀ e, e < 4 → ∀ c, c < 64 → (64 * e + c) &&& 51 = c &&& 51 := by decide +kernel
theorem bf1_s {n q b : Nat} (hb : b < 256) : bf1 (n + 1) (256 * q + b) = 256 * bf1 n q + (b - (b / 2 &&& 85)) := by
  unfold bf1
  rw [show (256 * q + b) / 2 = 256 * (q / 2) + (128 * (q % 2) + b / 2) by omega, bM, land256 (by omega) (by decide), b85 _ (by omega) _ (by omega)]
  have h1 : (q / 2 &&& bM 85 n) ≤ q / 2 := Nat.and_le_left
  have h2 : (b / 2 &&& 85) ≤ b / 2 := Nat.and_le_left
  omega
theorem bf2_s {n q b : Nat} (hb : b < 256) : bf2 (n + 1) (256 * q + b) = 256 * bf2 n q + ((b &&& 51) + (b / 4 &&& 51)) := by
  unfold bf2
  rw [show (256 * q + b) / 4 = 256 * (q / 4) + (64 * (q % 4) + b / 4) by omega, bM, land256 hb (by decide), land256 (by omega) (by decide), b51 _ (by omega) _ (by omega)]
  omega
theorem b15 : ∀ b, b < 128 → ∀ e, e ≤ 4 → b + b / 16 + 16 * e < 256 ∧ (b + b / 16 + 16 * e) &&& 15 = (b + b / 16) &&& 15 := by decide +kernel
theorem bf3_s {n q b : Nat} (hb : b < 128) (hq : q % 16 ≤ 4) : bf3 (n + 1) (256 * q + b) = 256 * bf3 n q + ((b + b / 16) &&& 15) := by
  unfold bf3
  have h := b15 b hb (q % 16) hq
  rw [show 256 * q + b + (256 * q + b) / 16 = 256 * (q + q / 16) + (b + b / 16 + 16 * (q % 16)) by omega, bM, land256 h.1 (by decide), h.2]
theorem bb1 : ∀ b, b < 256 → b - (b / 2 &&& 85) < 256 ∧ ((b - (b / 2 &&& 85)) &&& 51) + ((b - (b / 2 &&& 85)) / 4 &&& 51) < 128 ∧ (((b - (b / 2 &&& 85)) &&& 51) + ((b - (b / 2 &&& 85)) / 4 &&& 51)) % 16 ≤ 4 ∧ ((((b - (b / 2 &&& 85)) &&& 51) + ((b - (b / 2 &&& 85)) / 4 &&& 51)) + (((b - (b / 2 &&& 85)) &&& 51) + ((b - (b / 2 &&& 85)) / 4 &&& 51)) / 16) &&& 15 = cnf 8 b ∧ cnf 8 b ≤ 8 := by decide +kernel
theorem bf2_m (n x : Nat) : bf2 n (bf1 n x) % 16 ≤ 4 := by
  cases n with
  | zero => unfold bf2 bM; simp
  | succ n =>
    have hb : x % 256 < 256 := Nat.mod_lt _ (by decide)
    have h := bb1 _ hb
    rw [show x = 256 * (x / 256) + x % 256 by omega, bf1_s hb, bf2_s h.1]
    omega
theorem bf3_by (n : Nat) : ∀ x, bf3 n (bf2 n (bf1 n x)) = by8 n x := by
  induction n with
  | zero => intro x; unfold bf3 bM by8; simp
  | succ n ih =>
    intro x
    have hb : x % 256 < 256 := Nat.mod_lt _ (by decide)
    have h := bb1 _ hb
    unfold by8
    rw [← ih (x / 256)]
    have e : x = 256 * (x / 256) + x % 256 := by omega
    generalize x / 256 = q at e ⊢
    generalize x % 256 = b at e hb h ⊢
    subst e
    rw [bf1_s hb, bf2_s h.1, bf3_s h.2.1 (bf2_m n q), h.2.2.2.1]
/-- the whole, of four bytes and of eight -/
def bc4 (x : Nat) : Nat :=
  let c := by8 4 x
  let e := c + c / 256
  let g := e + e / 65536
  g % 64
def cn8 (x i : Nat) : Nat := cnf 8 (x / 256 ^ i % 256)
theorem cn8_le (x i : Nat) : cn8 x i ≤ 8 := (bb1 _ (Nat.mod_lt _ (by decide))).2.2.2.2
theorem bc4_eq (x : Nat) : bc4 x = cnf 8 (x % 256) + cnf 8 (x / 256 % 256) + cnf 8 (x / 256 / 256 % 256) + cnf 8 (x / 256 / 256 / 256 % 256) := by
  unfold bc4
  simp only [by8]
  have h0 := (bb1 (x % 256) (Nat.mod_lt _ (by decide))).2.2.2.2
  have h1 := (bb1 (x / 256 % 256) (Nat.mod_lt _ (by decide))).2.2.2.2
  have h2 := (bb1 (x / 256 / 256 % 256) (Nat.mod_lt _ (by decide))).2.2.2.2
  have h3 := (bb1 (x / 256 / 256 / 256 % 256) (Nat.mod_lt _ (by decide))).2.2.2.2
  generalize cnf 8 (x % 256) = a at *
  generalize cnf 8 (x / 256 % 256) = b at *
  generalize cnf 8 (x / 256 / 256 % 256) = c at *
  generalize cnf 8 (x / 256 / 256 / 256 % 256) = e at *
  rw [show (256 * (256 * (256 * (256 * 0 + e) + c) + b) + a) / 256 = 256 * (256 * e + c) + b by omega]
  rw [show (256 * (256 * (256 * (256 * 0 + e) + c) + b) + a + (256 * (256 * e + c) + b)) / 65536 = 256 * e + (c + e) by omega]
  omega
theorem cnf_add (f : Nat) : ∀ g x, cnf (f + g) x = cnf f (x % 2 ^ f) + cnf g (x / 2 ^ f) := by
  induction f with
  | zero => intro g x; simp [cnf]
  | succ f ih =>
    intro g x
    rw [show f + 1 + g = (f + g) + 1 by omega, cnf, cnf, ih]
    have e1 : x % 2 ^ (f + 1) % 2 = x % 2 := Nat.mod_mod_of_dvd _ ⟨2 ^ f, by rw [Nat.pow_succ]; omega⟩
    have e2 : x % 2 ^ (f + 1) / 2 = x / 2 % 2 ^ f := by rw [Nat.pow_succ, Nat.mul_comm, Nat.mod_mul_right_div_self]
    have e3 : x / 2 / 2 ^ f = x / 2 ^ (f + 1) := by rw [Nat.div_div_eq_div_mul, Nat.pow_succ, Nat.mul_comm]
    rw [e1, e2, e3]
    omega
theorem cnf_z : ∀ f, cnf f 0 = 0
  | 0 => rfl
  | f + 1 => by rw [cnf, cnf_z f]
theorem bc4_16 {x : Nat} (h : x < 65536) : bc4 x = cnf 16 x := by
  rw [bc4_eq, show (16 : Nat) = 8 + 8 from rfl, cnf_add, show x / 256 / 256 % 256 = 0 by omega, show x / 256 / 256 / 256 % 256 = 0 by omega, cnf_z, show (2 : Nat) ^ 8 = 256 from rfl, show x / 256 % 256 = x / 256 by omega]
  omega
/-- the model's -/
theorem cnf_s (k : Nat) : ∀ n, cnf (k + 1) n = cnf k n + n / 2 ^ k % 2 := by
  induction k with
  | zero => intro n; simp [cnf]
  | succ k ih =>
    intro n
    rw [cnf, ih, cnf, Nat.div_div_eq_div_mul, show 2 * 2 ^ k = 2 ^ (k + 1) by rw [Nat.pow_succ, Nat.mul_comm]]
    omega
theorem cnf_le (k : Nat) : ∀ n, cnf k n ≤ k := by
  induction k with
  | zero => intro n; simp [cnf]
  | succ k ih => intro n; rw [cnf]; have := ih (n / 2); omega
theorem ones_n {x : Nat} (hx : x < 65536) : ∀ k, k ≤ 16 → s_ones (nI x) k = nI (cnf k x)
  | 0, _ => by unfold s_ones cnf; rfl
  | k + 1, h => by
    have a : ∀ k, k < 16 → (((nI k) &&& nI 31).toBitVec.smod 32).toNat = k := by decide
    rw [s_ones, ones_n hx k (by omega), pk_shrN (by omega) _ k (a k (by omega)), pk_andN (by have := Nat.div_le_self x (2 ^ k); omega) (m := nI 1) 1 (by decide), nI_add, cnf_s]
theorem odd_n {x : Nat} (hx : x < 65536) : s_odd (nI x) = nI (1 - cnf 16 x % 2) := by
  unfold s_odd
  have := cnf_le 16 x
  rw [ones_n hx 16 (by omega), pk_rem (by omega) (by decide) (by decide)]
  rcases Nat.mod_two_eq_zero_or_one (cnf 16 x) with z | z
  · rw [z, if_pos rfl]
  · rw [z, if_neg (by decide)]
section
variable {L : Nat} {xs : Nat → Int32} {d : Nat} {kp sp wd : Value} {I : z_I} {s : z_sg} {R : z_R} {J : z_J} {F : z_F} {cn : Nat} {Q : z_Q} {n k : Nat}
theorem ci_bitCount {x : Nat} (hx : x < 65536) (hQ : Q (some (.int (nI (cnf 16 x)))) I R J F cn) : z_M (z_X0 L xs) z_P0 d m_Integer_bitCount [.int (nI x)] I R J F cn Q := by
  rw [← bc4_16 hx] at hQ
  unfold bc4 at hQ
  rw [← bf3_by] at hQ
  simp only at hQ
  have sh : ∀ {m : Nat} (k : Nat), m < 2 ^ 32 → k < 32 → ((nI m).toUInt32 >>> ((nI k).toUInt32 &&& Int32.toUInt32 31)).toInt32 = nI (m / 2 ^ k) := fun k hm hk => pk_ushrN hm _ k (by revert hk; revert k; decide)
  have E1 : nI x - (((nI x).toUInt32 >>> ((1 : Int32).toUInt32 &&& Int32.toUInt32 31)).toInt32 &&& 1431655765) = nI (bf1 4 x) := by
    have e := sh (m := x) 1 (by omega) (by decide)
    rw [show (1 : Int32) = nI 1 from rfl, e, show (1431655765 : Int32) = nI 1431655765 from rfl, nx_and, pk_sub (Nat.le_trans Nat.and_le_left (Nat.div_le_self _ _))]
    rfl
  have hA : bf1 4 x < 65536 := by unfold bf1; omega
  refine z_WP_gos [] 1000 fun K C hK hC => ?_
  conv => whnf
  simp only []
  rw [E1]
  generalize bf1 4 x = A at *
  have E2 : (nI A &&& 858993459) + (((nI A).toUInt32 >>> ((2 : Int32).toUInt32 &&& Int32.toUInt32 31)).toInt32 &&& 858993459) = nI (bf2 4 A) := by
    have e := sh (m := A) 2 (by omega) (by decide)
    rw [show (2 : Int32) = nI 2 from rfl, e, show (858993459 : Int32) = nI 858993459 from rfl, nx_and, nx_and, nI_add]
    rfl
  have hB : bf2 4 A < 2 ^ 20 := by
    unfold bf2
    have h1 : (A &&& bM 51 4) ≤ A := Nat.and_le_left
    have h2 : (A / 4 &&& bM 51 4) ≤ A / 4 := Nat.and_le_left
    omega
  rw [E2]
  generalize bf2 4 A = B at *
  have E3 : (nI B + ((nI B).toUInt32 >>> ((4 : Int32).toUInt32 &&& Int32.toUInt32 31)).toInt32) &&& 252645135 = nI (bf3 4 B) := by
    have e := sh (m := B) 4 (by omega) (by decide)
    rw [show (4 : Int32) = nI 4 from rfl, e, show (252645135 : Int32) = nI 252645135 from rfl, nI_add, nx_and]
    rfl
  have hC : bf3 4 B ≤ 252645135 := Nat.and_le_right
  rw [E3]
  generalize bf3 4 B = C at *
  rw [show (8 : Int32) = nI 8 from rfl, show (16 : Int32) = nI 16 from rfl, sh (m := C) 8 (by omega) (by decide), nI_add, sh 16 (by omega) (by decide), nI_add, pk_andN (by omega) (m := 63) 6 (by decide)]
  exact hQ
end
