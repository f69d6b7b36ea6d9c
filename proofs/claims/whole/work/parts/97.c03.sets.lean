/-! the times behind each line, as sets; the bits of ints -/
def ib (x : Int32) (j : Nat) : Bool := x.toBitVec.getLsbD j
theorem ib_m31 : ∀ i, i < 32 → (nI i &&& 31) = nI i := by decide +kernel
theorem ib_sm : ∀ k, k < 32 → (BitVec.ofNat 32 k).smod 32 = BitVec.ofNat 32 k := by decide +kernel
theorem ib_and1 (y : Int32) : y &&& 1 = if ib y 0 then 1 else 0 := by
  apply Int32.toBitVec_inj.mp
  rw [Int32.toBitVec_and]
  apply BitVec.eq_of_getLsbD_eq
  intro j hj
  rw [BitVec.getLsbD_and]
  unfold ib
  by_cases z : j = 0
  · subst z
    cases y.toBitVec.getLsbD 0 <;> decide
  · have e1 : (Int32.toBitVec 1).getLsbD j = false := by
      show (1#32).getLsbD j = false
      rw [BitVec.getLsbD_one]; simp; omega
    rw [e1, Bool.and_false]
    split
    · exact e1.symm
    · show false = (0#32).getLsbD j
      simp
theorem ib_shr {x : Int32} {i : Nat} (hi : i < 32) : (x >>> (nI i &&& 31)) &&& 1 = if ib x i then 1 else 0 := by
  rw [ib_m31 i hi, ib_and1]
  have e : ib (x >>> nI i) 0 = ib x i := by
    unfold ib
    rw [Int32.toBitVec_shiftRight]
    rw [show (nI i).toBitVec = BitVec.ofNat 32 i from rfl, ib_sm i hi, BitVec.sshiftRight_eq', BitVec.toNat_ofNat, Nat.mod_eq_of_lt (by omega), BitVec.getLsbD_sshiftRight]
    rw [decide_eq_false (show ¬ 32 ≤ 0 by decide), Nat.add_zero, if_pos hi]
    rfl
  rw [e]
theorem ib_or {x : Int32} {i j : Nat} (hi : i < 32) : ib (x ||| (1 <<< (nI i &&& 31))) j = (ib x j || decide (j = i)) := by
  rw [ib_m31 i hi]
  unfold ib
  rw [Int32.toBitVec_or, BitVec.getLsbD_or, Int32.toBitVec_shiftLeft, show (nI i).toBitVec = BitVec.ofNat 32 i from rfl, ib_sm i hi, BitVec.shiftLeft_eq', BitVec.toNat_ofNat, Nat.mod_eq_of_lt (by omega), BitVec.getLsbD_shiftLeft]
  congr 1
  show (decide (j < 32) && !decide (j < i) && (1#32).getLsbD (j - i)) = _
  rw [BitVec.getLsbD_one]
  by_cases z : j = i
  · subst z; simp; omega
  · rw [decide_eq_false z]
    by_cases y : j < i
    · rw [decide_eq_true y]; simp
    · have : ¬ j - i = 0 := by omega
      rw [decide_eq_false this]; simp
theorem ib_orn {x : Int32} {i j : Nat} (hi : i < 32) : ib (x ||| (nI 1 <<< (nI i &&& nI 31))) j = (ib x j || decide (j = i)) := ib_or hi
theorem ib_shrn {x : Int32} {i : Nat} (hi : i < 32) : (x >>> (nI i &&& nI 31)) &&& nI 1 = if ib x i then 1 else 0 := ib_shr hi
theorem ib_zero {j : Nat} : ib 0 j = false := by
  unfold ib
  show (0#32).getLsbD j = false
  simp
theorem ib_one {j : Nat} : ib 1 j = decide (j = 0) := by
  unfold ib
  show (1#32).getLsbD j = _
  rw [BitVec.getLsbD_one]; simp
/-- from one time through a line -/
def rch (M tm q : Nat) (al : Bool) : Nat → Nat → Nat → Prop
  | 0, x, t => t = x
  | k + 1, x, t => if x + tm ≤ M then (t = x + tm ∨ (al = false ∧ rch M tm q al k (x + q) t)) else t = x
def s_q (w : Nat → Int32) (i : Nat) : Nat := match lnn w i 0 with
  | 0 => 38 + 20 * lnn w i 3
  | 2 => 58
  | 4 => if lnn w i 10 = 17 then 58 else 38
  | _ => 38
def s_act (w : Nat → Int32) (f i : Nat) : Bool := s_due w i f && !s_toC w i
def s_M (w : Nat → Int32) : Nat := (w 0).toNatClampNeg
def s_rt (w : Nat → Int32) : Nat := (w 1).toNatClampNeg
def edg (w : Nat → Int32) (f i x t : Nat) : Prop := if s_act w f i then rch (s_M w) (s_time w i) (s_q w i) (decide (lnn w i 0 = 3)) (s_rt w + 1) x t else t = x
def sr (w : Nat → Int32) (f : Nat) : Nat → Nat → Prop
  | 0, t => t = 0
  | i + 1, t => ∃ x, sr w f i x ∧ edg w f i x t
theorem s_q_ok {w : Nat → Int32} {i : Nat} (h : ln_ok w i) : 38 ≤ s_q w i ∧ s_q w i ≤ s_time w i ∧ s_time w i ≤ 260 := by
  have hn := h.2.2.2.2.2.2.1
  have h1 := h.2.2.2.2.2.2.2.1
  have hk := h.2.1
  refine ⟨?_, ?_, s_time_le h⟩
  · unfold s_q; split <;> first | omega | (split <;> omega)
  · unfold s_q s_time
    have : lnn w i 0 = 0 ∨ lnn w i 0 = 1 ∨ lnn w i 0 = 2 ∨ lnn w i 0 = 3 ∨ lnn w i 0 = 4 ∨ lnn w i 0 = 5 := by omega
    rcases this with e | e | e | e | e | e <;> rw [e] <;> simp only
    · omega
    · omega
    · omega
    · have := h1 (by omega); omega
    · split
      · rw [if_pos (by omega)]; omega
      · split <;> omega
    · omega
theorem rch_ge {M tm q : Nat} {al : Bool} : ∀ {k x t}, rch M tm q al k x t → x ≤ t
  | 0, x, t, h => by have : t = x := h; omega
  | k + 1, x, t, h => by
    unfold rch at h
    split at h
    · rcases h with z | ⟨_, z⟩
      · omega
      · have := rch_ge z; omega
    · omega
theorem rch_le {M tm q : Nat} {al : Bool} (hq : q ≤ tm) : ∀ {k x t}, rch M tm q al k x t → x ≤ M → t ≤ M
  | 0, x, t, h, hx => by have : t = x := h; omega
  | k + 1, x, t, h, hx => by
    unfold rch at h
    split at h
    · rcases h with z | ⟨_, z⟩
      · omega
      · exact rch_le hq z (by omega)
    · omega
theorem rch_ex {M tm q : Nat} {al : Bool} : ∀ {k x}, ∃ t, rch M tm q al k x t
  | 0, x => ⟨x, rfl⟩
  | k + 1, x => by
    unfold rch
    by_cases h : x + tm ≤ M
    · exact ⟨x + tm, by rw [if_pos h]; exact Or.inl rfl⟩
    · exact ⟨x, by rw [if_neg h]⟩
theorem edg_ge {w : Nat → Int32} {f i x t : Nat} (h : edg w f i x t) : x ≤ t := by
  unfold edg at h
  split at h
  · exact rch_ge h
  · omega
theorem edg_le {w : Nat → Int32} {f i x t : Nat} (ho : ln_ok w i) (h : edg w f i x t) (hx : x ≤ s_M w) : t ≤ s_M w := by
  unfold edg at h
  split at h
  · exact rch_le (s_q_ok ho).2.1 h hx
  · omega
theorem edg_ex {w : Nat → Int32} {f i x : Nat} : ∃ t, edg w f i x t := by
  unfold edg
  split
  · exact rch_ex
  · exact ⟨_, rfl⟩
theorem sr_le {w : Nat → Int32} {f : Nat} : ∀ {i t}, (∀ j, j < i → ln_ok w j) → sr w f i t → t ≤ s_M w
  | 0, t, _, h => by have : t = 0 := h; omega
  | i + 1, t, ho, ⟨x, h1, h2⟩ => edg_le (ho i (by omega)) h2 (sr_le (fun j hj => ho j (by omega)) h1)
theorem sr_ex {w : Nat → Int32} {f : Nat} : ∀ i, ∃ t, sr w f i t
  | 0 => ⟨0, rfl⟩
  | i + 1 => by
    obtain ⟨x, hx⟩ := sr_ex (w := w) (f := f) i
    obtain ⟨t, ht⟩ := edg_ex (w := w) (f := f) (i := i) (x := x)
    exact ⟨t, x, hx, ht⟩
/-- the first line that could not begin -/
def crd (w : Nat → Int32) (f i : Nat) : Prop := s_act w f i = true ∧ ∃ x, sr w f i x ∧ s_M w < x + s_time w i
def fcr (w : Nat → Int32) (f n : Nat) (v : Int32) : Prop := (v = -1 ∧ ∀ i, i < n → ¬ crd w f i) ∨ ∃ i, i < n ∧ v = nI i ∧ crd w f i ∧ ∀ j, j < i → ¬ crd w f j
theorem fcr_u {w : Nat → Int32} {f n : Nat} {v v' : Int32} (h : fcr w f n v) (h' : fcr w f n v') : v = v' := by
  rcases h with ⟨a, b⟩ | ⟨i, a, b, c, e⟩ <;> rcases h' with ⟨a', b'⟩ | ⟨i', a', b', c', e'⟩
  · rw [a, a']
  · exact (b i' a' c').elim
  · exact (b' i a c).elim
  · rcases Nat.lt_trichotomy i i' with z | z | z
    · exact (e' i z c).elim
    · rw [b, b', z]
    · exact (e i' z c').elim
/-- how many numbers below one there are -/
noncomputable def cntP (P : Nat → Prop) : Nat → Nat
  | 0 => 0
  | k + 1 => cntP P k + @ite Nat (P k) (Classical.propDecidable _) 1 0
theorem cntP_t {P : Nat → Prop} {k : Nat} (h : P k) : cntP P (k + 1) = cntP P k + 1 := by
  show _ + @ite Nat (P k) (Classical.propDecidable _) 1 0 = _
  rw [@if_pos _ (Classical.propDecidable _) h]
theorem cntP_f {P : Nat → Prop} {k : Nat} (h : ¬ P k) : cntP P (k + 1) = cntP P k := by
  show _ + @ite Nat (P k) (Classical.propDecidable _) 1 0 = _
  rw [@if_neg _ (Classical.propDecidable _) h, Nat.add_zero]
theorem cntP_le {P : Nat → Prop} : ∀ k, cntP P k ≤ k
  | 0 => Nat.le_refl _
  | k + 1 => by
    have := cntP_le (P := P) k
    by_cases h : P k
    · rw [cntP_t h]; omega
    · rw [cntP_f h]; omega
theorem cntP_c {P P' : Nat → Prop} : ∀ {k}, (∀ t, t < k → (P t ↔ P' t)) → cntP P k = cntP P' k
  | 0, _ => rfl
  | k + 1, h => by
    have e := cntP_c (k := k) fun t ht => h t (by omega)
    by_cases z : P k
    · rw [cntP_t z, cntP_t ((h k (by omega)).mp z), e]
    · rw [cntP_f z, cntP_f (fun y => z ((h k (by omega)).mpr y)), e]
def ldu (w : Nat → Int32) (f k : Nat) : Nat := mxf (fun i => bif s_due w i f then s_time w i else 0) k
/-- what spread answers -/
def spA (w : Nat → Int32) (f q : Nat) (v : Int32) : Prop := match q with
  | 0 => v = nI (cntP (sr w f (w 8).toNatClampNeg) (s_M w + 1))
  | 1 => ∃ t, v = nI t ∧ t ≤ s_M w ∧ sr w f (w 8).toNatClampNeg t ∧ ∀ u, u < t → ¬ sr w f (w 8).toNatClampNeg u
  | 2 => ∃ t, v = nI t ∧ t ≤ s_M w ∧ sr w f (w 8).toNatClampNeg t ∧ ∀ u, t < u → u ≤ s_M w → ¬ sr w f (w 8).toNatClampNeg u
  | 3 => fcr w f (w 8).toNatClampNeg v
  | _ => v = nI (cntP (sr w f (w 8).toNatClampNeg) (s_M w + 1 - ldu w f (w 8).toNatClampNeg))
theorem spA_u {w : Nat → Int32} {f q : Nat} {v v' : Int32} (hq : q ≤ 4) (h : spA w f q v) (h' : spA w f q v') : v = v' := by
  have : q = 0 ∨ q = 1 ∨ q = 2 ∨ q = 3 ∨ q = 4 := by omega
  rcases this with e | e | e | e | e <;> subst e
  · exact Eq.trans h (Eq.symm h')
  · obtain ⟨t, a, b, c, e⟩ := h
    obtain ⟨t', a', b', c', e'⟩ := h'
    rcases Nat.lt_trichotomy t t' with z | z | z
    · exact (e' t z c).elim
    · rw [a, a', z]
    · exact (e t' z c').elim
  · obtain ⟨t, a, b, c, e⟩ := h
    obtain ⟨t', a', b', c', e'⟩ := h'
    rcases Nat.lt_trichotomy t t' with z | z | z
    · exact (e t' z b' c').elim
    · rw [a, a', z]
    · exact (e' t z b c).elim
  · exact fcr_u h h'
  · exact Eq.trans h (Eq.symm h')
