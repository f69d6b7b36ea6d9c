/-! texts: characters, runs, tokens -/
def ltr (c : Nat) : Bool := (decide (97 ≤ c) && decide (c ≤ 122)) || (decide (65 ≤ c) && decide (c ≤ 90))
def dgt (c : Nat) : Bool := decide (48 ≤ c) && decide (c ≤ 57)
def blk (c : Nat) : Bool := decide (c = 32) || decide (c = 10)
def run (P : Nat → Bool) (t : Nat → Nat) : Nat → Nat → Nat
  | 0, p => p
  | j + 1, p => if P (t p) = true then run P t j (p + 1) else p
theorem run_s {P : Nat → Bool} {t : Nat → Nat} {j p : Nat} : run P t (j + 1) p = if P (t p) = true then run P t j (p + 1) else p := rfl
theorem run_b {P : Nat → Bool} {t : Nat → Nat} : ∀ j p, p ≤ run P t j p ∧ run P t j p ≤ p + j
  | 0, p => ⟨Nat.le_refl _, Nat.le_refl _⟩
  | j + 1, p => by
    rw [run_s]
    have := run_b (P := P) (t := t) j (p + 1)
    split <;> omega
theorem run_i {P : Nat → Bool} {t : Nat → Nat} : ∀ j p k, p ≤ k → k < run P t j p → P (t k) = true
  | 0, p, k, h1, h2 => by unfold run at h2; omega
  | j + 1, p, k, h1, h2 => by
    rw [run_s] at h2
    by_cases z : P (t p) = true
    · rw [if_pos z] at h2
      by_cases y : k = p
      · rw [y]; exact z
      · exact run_i j (p + 1) k (by omega) h2
    · rw [if_neg z] at h2; omega
/-- digits -/
def numv (t : Nat → Nat) (st : Nat) : Nat → Nat
  | 0 => 0
  | k + 1 => if k < 4 then 10 * numv t st k + (t (st + k) - 48) else 0
/-- words -/
def weq (t : Nat → Nat) (st : Nat) (W : List Nat) : Nat → Nat → Bool
  | 0, _ => true
  | j + 1, k => decide (t (st + k) = W.getD k 0) && weq t st W j (k + 1)
def wm (t : Nat → Nat) (st len : Nat) (W : List Nat) : Bool := decide (len = W.length) && weq t st W W.length 0
def wM (t : Nat → Nat) (st len : Nat) : Nat :=
  if wm t st len S6 = true then 3 else if wm t st len S8 = true then 4 else if wm t st len S10 = true then 5 else if wm t st len S12 = true then 6 else if wm t st len S14 = true then 7 else
  if wm t st len S16 = true then 8 else if wm t st len S18 = true then 9 else if wm t st len S20 = true then 10 else if wm t st len S22 = true then 11 else if wm t st len S24 = true then 12 else
  if wm t st len S26 = true then 14 else if wm t st len S28 = true then 15 else if wm t st len S30 = true then 16 else if wm t st len S32 = true then 17 else if wm t st len S34 = true then 18 else
  if wm t st len S36 = true then 19 else if wm t st len S38 = true then 20 else if wm t st len S40 = true then 21 else if wm t st len S42 = true then 22 else 1
/-- the token from one place on: where it begins, where it ends, what it is, its number -/
def tkS (t : Nat → Nat) (n p : Nat) : Nat := run blk t (n - p) p
def tkE (t : Nat → Nat) (n st : Nat) : Nat := if st = n then n else if ltr (t st) = true then run ltr t (n - st) st else if dgt (t st) = true then run dgt t (n - st) st else st + 1
def tkM (t : Nat → Nat) (n st : Nat) : Nat := if st = n then 0 else if ltr (t st) = true then wM t st (tkE t n st - st) else if dgt (t st) = true then (if 4 < tkE t n st - st then 1 else 2) else if t st = 59 then 13 else 1
def tkV (t : Nat → Nat) (n st : Nat) : Nat := numv t st (tkE t n st - st)
theorem ltr_dgt {c : Nat} (h : dgt c = true) : ltr c = false := by
  unfold dgt at h
  unfold ltr
  simp only [Bool.and_eq_true, decide_eq_true_eq] at h
  simp only [Bool.or_eq_false_iff, Bool.and_eq_false_iff, decide_eq_false_iff_not]
  omega
/-- bytes, as the model has them -/
def sgb (c : Nat) : Int32 := (nI c).toInt8.toInt32
theorem sgb_lo : ∀ c, c < 128 → sgb c = nI c := by decide +kernel
theorem sgb_32 : ∀ c, c < 256 → (sgb c = nI 32 ↔ c = 32) := by decide +kernel
theorem sgb_10 : ∀ c, c < 256 → (sgb c = nI 10 ↔ c = 10) := by decide +kernel
theorem sgb_59 : ∀ c, c < 256 → (sgb c = nI 59 ↔ c = 59) := by decide +kernel
theorem sgb_az : ∀ c, c < 256 → ((nI 97 ≤ sgb c ∧ sgb c ≤ nI 122) ↔ (97 ≤ c ∧ c ≤ 122)) := by decide +kernel
theorem sgb_AZ : ∀ c, c < 256 → ((nI 65 ≤ sgb c ∧ sgb c ≤ nI 90) ↔ (65 ≤ c ∧ c ≤ 90)) := by decide +kernel
theorem sgb_09 : ∀ c, c < 256 → ((nI 48 ≤ sgb c ∧ sgb c ≤ nI 57) ↔ (48 ≤ c ∧ c ≤ 57)) := by decide +kernel
def mT (I : z_I) (t : Nat → Nat) (n : Nat) : Prop := ∀ k, k < n → I 45 k = sgb (t k) ∧ t k < 256
section
variable {L : Nat} {xs : Nat → Int32} {d : Nat} {kp sp wd : Value} {I : z_I} {s : z_sg} {R : z_R} {J : z_J} {F : z_F} {cn : Nat} {Q : z_Q} {n k : Nat} {t : Nat → Nat}
theorem sp_isLetter {p : Nat} (hT : mT I t n) (hn : n ≤ 500) (h14 : s.1 14 = nI n) (h15 : s.1 15 = nI p) (hp : p ≤ n) (hQ : Q (some (.int (z_bi (decide (p < n) && ltr (t p))))) (z_ms I s) (z_R0 kp sp wd) J F cn) :
    z_M (z_X0 L xs) z_P0 (d + 1) m_Mod_isLetter [.ref 40] (z_ms I s) (z_R0 kp sp wd) J F cn Q := by
  refine z_WP_gos [] 1000 fun K C hK hC => ?_
  conv => whnf
  simp (disch := omega) only [z_lit, nI_add, pk_mul, z_pr1, z_pr2, nI_clamp, z_m3_40, z_m3_41, z_m3_44, z_m3_u40, z_m3_u41, z_m3_u44, z_m3_m3, pk_us, pk_un]
  rw [h14, h15]
  refine ⟨fun g => ?_, fun g => ?_⟩
  · have : ¬ p < n := fun z => absurd g (nI_ge z (by omega))
    rw [decide_eq_false this] at hQ
    conv => whnf
    exact ⟨Or.inl rfl, hQ⟩
  have hlt : p < n := by
    rcases Nat.lt_or_ge p n with z | z
    · exact z
    · exact absurd (nI_le z (by omega)) g
  obtain ⟨e, hc⟩ := hT p hlt
  have e' : z_ms I s 45 p = sgb (t p) := e
  have h97 := sgb_az (t p) hc
  have h65 := sgb_AZ (t p) hc
  rw [decide_eq_true hlt, Bool.true_and] at hQ
  unfold ltr at hQ
  conv => whnf
  simp (disch := omega) only [z_lit, nI_add, pk_mul, z_pr1, z_pr2, nI_clamp, z_m3_40, z_m3_41, z_m3_44, z_m3_u40, z_m3_u41, z_m3_u44, z_m3_m3, pk_us, pk_un]
  rw [h15]
  repeat ((first | refine And.intro (by (conv => arg 2; whnf); (try simp only [z_lit, nI_add, pk_mul, z_pr1, z_pr2]); exact z_in (by omega) (by decide)) ?_ | refine z_bt1 (by decide) ?_ | refine z_bf1 (by decide) ?_ | refine z_bt2 (by decide) ?_ | refine z_bf2 (by decide) ?_); conv => whnf)
  simp (disch := omega) only [z_lit, nI_add, pk_mul, z_pr1, z_pr2, nI_clamp, z_m3_40, z_m3_41, z_m3_44, z_m3_u40, z_m3_u41, z_m3_u44, z_m3_m3, pk_us, pk_un]
  rw [e']
  refine hC _ _ _ _ _ _ _ _ _ _ (fun _ _ _ _ _ _ q => q) (sp_Mod_isIn (fun x1 x2 => ?_) (fun x => ?_))
  conv => whnf
  · have z := h97.mp ⟨x1, x2⟩
    rw [decide_eq_true z.1, decide_eq_true z.2] at hQ
    repeat ((first | refine And.intro (by (conv => arg 2; whnf); (try simp only [z_lit, nI_add, pk_mul, z_pr1, z_pr2]); exact z_in (by omega) (by decide)) ?_ | refine z_bt1 (by decide) ?_ | refine z_bf1 (by decide) ?_ | refine z_bt2 (by decide) ?_ | refine z_bf2 (by decide) ?_); conv => whnf)
    exact ⟨Or.inr rfl, hQ⟩
  · have z : ¬ (97 ≤ t p ∧ t p ≤ 122) := fun z => x (h97.mpr z)
    have z' : (decide (97 ≤ t p) && decide (t p ≤ 122)) = false := by
      simp only [Bool.and_eq_false_iff, decide_eq_false_iff_not]; omega
    rw [z', Bool.false_or] at hQ
    refine ⟨fun z => absurd rfl z, fun _ => ?_⟩
    conv => whnf
    simp (disch := omega) only [z_lit, nI_add, pk_mul, z_pr1, z_pr2, nI_clamp, z_m3_40, z_m3_41, z_m3_44, z_m3_u40, z_m3_u41, z_m3_u44, z_m3_m3, pk_us, pk_un]
    rw [h15]
    repeat ((first | refine And.intro (by (conv => arg 2; whnf); (try simp only [z_lit, nI_add, pk_mul, z_pr1, z_pr2]); exact z_in (by omega) (by decide)) ?_ | refine z_bt1 (by decide) ?_ | refine z_bf1 (by decide) ?_ | refine z_bt2 (by decide) ?_ | refine z_bf2 (by decide) ?_); conv => whnf)
    simp (disch := omega) only [z_lit, nI_add, pk_mul, z_pr1, z_pr2, nI_clamp, z_m3_40, z_m3_41, z_m3_44, z_m3_u40, z_m3_u41, z_m3_u44, z_m3_m3, pk_us, pk_un]
    rw [e']
    refine hC _ _ _ _ _ _ _ _ _ _ (fun _ _ _ _ _ _ q => q) (sp_Mod_isIn (fun x1 x2 => ?_) (fun x => ?_))
    conv => whnf
    · have z := h65.mp ⟨x1, x2⟩
      rw [decide_eq_true z.1, decide_eq_true z.2] at hQ
      repeat ((first | refine And.intro (by (conv => arg 2; whnf); (try simp only [z_lit, nI_add, pk_mul, z_pr1, z_pr2]); exact z_in (by omega) (by decide)) ?_ | refine z_bt1 (by decide) ?_ | refine z_bf1 (by decide) ?_ | refine z_bt2 (by decide) ?_ | refine z_bf2 (by decide) ?_); conv => whnf)
      exact ⟨Or.inr rfl, hQ⟩
    · have z : ¬ (65 ≤ t p ∧ t p ≤ 90) := fun z => x (h65.mpr z)
      have z' : (decide (65 ≤ t p) && decide (t p ≤ 90)) = false := by
        simp only [Bool.and_eq_false_iff, decide_eq_false_iff_not]; omega
      rw [z'] at hQ
      repeat ((first | refine And.intro (by (conv => arg 2; whnf); (try simp only [z_lit, nI_add, pk_mul, z_pr1, z_pr2]); exact z_in (by omega) (by decide)) ?_ | refine z_bt1 (by decide) ?_ | refine z_bf1 (by decide) ?_ | refine z_bt2 (by decide) ?_ | refine z_bf2 (by decide) ?_); conv => whnf)
      exact ⟨Or.inl rfl, hQ⟩
theorem sp_isDigit {p : Nat} (hT : mT I t n) (hn : n ≤ 500) (h14 : s.1 14 = nI n) (h15 : s.1 15 = nI p) (hp : p ≤ n) (hQ : Q (some (.int (z_bi (decide (p < n) && dgt (t p))))) (z_ms I s) (z_R0 kp sp wd) J F cn) :
    z_M (z_X0 L xs) z_P0 (d + 1) m_Mod_isDigit [.ref 40] (z_ms I s) (z_R0 kp sp wd) J F cn Q := by
  refine z_WP_gos [] 1000 fun K C hK hC => ?_
  conv => whnf
  simp (disch := omega) only [z_lit, nI_add, pk_mul, z_pr1, z_pr2, nI_clamp, z_m3_40, z_m3_41, z_m3_44, z_m3_u40, z_m3_u41, z_m3_u44, z_m3_m3, pk_us, pk_un]
  rw [h14, h15]
  refine ⟨fun g => ?_, fun g => ?_⟩
  · have : ¬ p < n := fun z => absurd g (nI_ge z (by omega))
    rw [decide_eq_false this] at hQ
    conv => whnf
    exact ⟨Or.inl rfl, hQ⟩
  have hlt : p < n := by
    rcases Nat.lt_or_ge p n with z | z
    · exact z
    · exact absurd (nI_le z (by omega)) g
  obtain ⟨e, hc⟩ := hT p hlt
  have e' : z_ms I s 45 p = sgb (t p) := e
  have h48 := sgb_09 (t p) hc
  rw [decide_eq_true hlt, Bool.true_and] at hQ
  unfold dgt at hQ
  conv => whnf
  simp (disch := omega) only [z_lit, nI_add, pk_mul, z_pr1, z_pr2, nI_clamp, z_m3_40, z_m3_41, z_m3_44, z_m3_u40, z_m3_u41, z_m3_u44, z_m3_m3, pk_us, pk_un]
  rw [h15]
  repeat ((first | refine And.intro (by (conv => arg 2; whnf); (try simp only [z_lit, nI_add, pk_mul, z_pr1, z_pr2]); exact z_in (by omega) (by decide)) ?_ | refine z_bt1 (by decide) ?_ | refine z_bf1 (by decide) ?_ | refine z_bt2 (by decide) ?_ | refine z_bf2 (by decide) ?_); conv => whnf)
  simp (disch := omega) only [z_lit, nI_add, pk_mul, z_pr1, z_pr2, nI_clamp, z_m3_40, z_m3_41, z_m3_44, z_m3_u40, z_m3_u41, z_m3_u44, z_m3_m3, pk_us, pk_un]
  rw [e']
  refine hC _ _ _ _ _ _ _ _ _ _ (fun _ _ _ _ _ _ q => q) (sp_Mod_isIn (fun x1 x2 => ?_) (fun x => ?_))
  conv => whnf
  · have z := h48.mp ⟨x1, x2⟩
    rw [decide_eq_true z.1, decide_eq_true z.2] at hQ
    repeat ((first | refine And.intro (by (conv => arg 2; whnf); (try simp only [z_lit, nI_add, pk_mul, z_pr1, z_pr2]); exact z_in (by omega) (by decide)) ?_ | refine z_bt1 (by decide) ?_ | refine z_bf1 (by decide) ?_ | refine z_bt2 (by decide) ?_ | refine z_bf2 (by decide) ?_); conv => whnf)
    exact ⟨Or.inr rfl, hQ⟩
  · have z : ¬ (48 ≤ t p ∧ t p ≤ 57) := fun z => x (h48.mpr z)
    have z' : (decide (48 ≤ t p) && decide (t p ≤ 57)) = false := by
      simp only [Bool.and_eq_false_iff, decide_eq_false_iff_not]; omega
    rw [z'] at hQ
    repeat ((first | refine And.intro (by (conv => arg 2; whnf); (try simp only [z_lit, nI_add, pk_mul, z_pr1, z_pr2]); exact z_in (by omega) (by decide)) ?_ | refine z_bt1 (by decide) ?_ | refine z_bf1 (by decide) ?_ | refine z_bt2 (by decide) ?_ | refine z_bf2 (by decide) ?_); conv => whnf)
    exact ⟨Or.inl rfl, hQ⟩
end
