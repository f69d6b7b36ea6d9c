/-! tokens, in both -/
theorem weq_k {t : Nat → Nat} {st : Nat} {W : List Nat} : ∀ j k, weq t st W j k = true → ∀ i, k ≤ i → i < k + j → t (st + i) = W.getD i 0
  | 0, k, _, i, a, b => by omega
  | j + 1, k, h, i, a, b => by
    rw [weq_s] at h
    simp only [Bool.and_eq_true, decide_eq_true_eq] at h
    by_cases z : i = k
    · rw [z]; exact h.1
    · exact weq_k j (k + 1) h.2 i (by omega) (by omega)
theorem wm_inj {t : Nat → Nat} {st len : Nat} {W W' : List Nat} (h : wm t st len W = true) (h' : wm t st len W' = true) : W = W' := by
  unfold wm at h h'
  simp only [Bool.and_eq_true, decide_eq_true_eq] at h h'
  have e : W.length = W'.length := h.1.symm.trans h'.1
  apply List.ext_getElem e
  intro i a b
  have x := weq_k _ _ h.2 i (by omega) (by omega)
  have y := weq_k _ _ h'.2 i (by omega) (by omega)
  rw [List.getD_eq_getElem?_getD, List.getElem?_eq_getElem a] at x
  rw [List.getD_eq_getElem?_getD, List.getElem?_eq_getElem b] at y
  exact x.symm.trans y
theorem ite_le22 {c : Prop} [Decidable c] {a b : Nat} (h : a ≤ 22) (h2 : b ≤ 22) : (if c then a else b) ≤ 22 := by
  by_cases z : c
  · rw [if_pos z]; exact h
  · rw [if_neg z]; exact h2
theorem ite_ne0 {c : Prop} [Decidable c] {a b : Nat} (h : a ≠ 0) (h2 : b ≠ 0) : (if c then a else b) ≠ 0 := by
  by_cases z : c
  · rw [if_pos z]; exact h
  · rw [if_neg z]; exact h2
def kO2 (m : Nat) : Nat := if m = 0 then 0 else if m = 2 then 2 else if m = 13 then 3 else if 3 ≤ m ∧ m ≤ 12 then 1 else 4
def kO4 (m : Nat) : Nat := if m = 0 then 0 else if m = 2 then 2 else if m = 13 then 3 else if m = 10 ∨ 14 ≤ m then 1 else 4
def vO4 (m : Nat) : Nat := if m = 10 then 9 else m - 14
theorem wM_le {t : Nat → Nat} {st len : Nat} : wM t st len ≤ 22 := by
  unfold wM
  repeat (refine ite_le22 (by decide) ?_)
  decide
theorem cW2_wM {t : Nat → Nat} {st len : Nat} : (cW2 t st len).1 = kO2 (wM t st len) ∧ ((cW2 t st len).1 = 1 → (cW2 t st len).2 = wM t st len - 3) := by
  unfold cW2 wM
  by_cases c6 : wm t st len S6 = true
  · simp only [if_pos c6]; decide
  simp only [if_neg c6]
  by_cases c8 : wm t st len S8 = true
  · simp only [if_pos c8]; decide
  simp only [if_neg c8]
  by_cases c10 : wm t st len S10 = true
  · simp only [if_pos c10]; decide
  simp only [if_neg c10]
  by_cases c12 : wm t st len S12 = true
  · simp only [if_pos c12]; decide
  simp only [if_neg c12]
  by_cases c14 : wm t st len S14 = true
  · simp only [if_pos c14]; decide
  simp only [if_neg c14]
  by_cases c16 : wm t st len S16 = true
  · simp only [if_pos c16]; decide
  simp only [if_neg c16]
  by_cases c18 : wm t st len S18 = true
  · simp only [if_pos c18]; decide
  simp only [if_neg c18]
  by_cases c20 : wm t st len S20 = true
  · simp only [if_pos c20]; decide
  simp only [if_neg c20]
  by_cases c22 : wm t st len S22 = true
  · simp only [if_pos c22]; decide
  simp only [if_neg c22]
  by_cases c24 : wm t st len S24 = true
  · simp only [if_pos c24]; decide
  simp only [if_neg c24]
  by_cases c26 : wm t st len S26 = true
  · simp only [if_pos c26]; decide
  simp only [if_neg c26]
  by_cases c28 : wm t st len S28 = true
  · simp only [if_pos c28]; decide
  simp only [if_neg c28]
  by_cases c30 : wm t st len S30 = true
  · simp only [if_pos c30]; decide
  simp only [if_neg c30]
  by_cases c32 : wm t st len S32 = true
  · simp only [if_pos c32]; decide
  simp only [if_neg c32]
  by_cases c34 : wm t st len S34 = true
  · simp only [if_pos c34]; decide
  simp only [if_neg c34]
  by_cases c36 : wm t st len S36 = true
  · simp only [if_pos c36]; decide
  simp only [if_neg c36]
  by_cases c38 : wm t st len S38 = true
  · simp only [if_pos c38]; decide
  simp only [if_neg c38]
  by_cases c40 : wm t st len S40 = true
  · simp only [if_pos c40]; decide
  simp only [if_neg c40]
  by_cases c42 : wm t st len S42 = true
  · simp only [if_pos c42]; decide
  simp only [if_neg c42]
  decide
theorem cW4_wM {t : Nat → Nat} {st len : Nat} : (cW4 t st len).1 = kO4 (wM t st len) ∧ ((cW4 t st len).1 = 1 → (cW4 t st len).2 = vO4 (wM t st len)) := by
  have ne : ∀ {W W' : List Nat}, wm t st len W = true → W ≠ W' → ¬ wm t st len W' = true := fun h n h' => n (wm_inj h h')
  unfold cW4 wM
  by_cases c6 : wm t st len S6 = true
  · simp only [if_neg (ne c6 (show S6 ≠ S26 by decide)), if_neg (ne c6 (show S6 ≠ S28 by decide)), if_neg (ne c6 (show S6 ≠ S30 by decide)), if_neg (ne c6 (show S6 ≠ S32 by decide)), if_neg (ne c6 (show S6 ≠ S34 by decide)), if_neg (ne c6 (show S6 ≠ S36 by decide)), if_neg (ne c6 (show S6 ≠ S38 by decide)), if_neg (ne c6 (show S6 ≠ S40 by decide)), if_neg (ne c6 (show S6 ≠ S42 by decide)), if_neg (ne c6 (show S6 ≠ S20 by decide)), if_pos c6]; decide
  simp only [if_neg c6]
  by_cases c8 : wm t st len S8 = true
  · simp only [if_neg (ne c8 (show S8 ≠ S26 by decide)), if_neg (ne c8 (show S8 ≠ S28 by decide)), if_neg (ne c8 (show S8 ≠ S30 by decide)), if_neg (ne c8 (show S8 ≠ S32 by decide)), if_neg (ne c8 (show S8 ≠ S34 by decide)), if_neg (ne c8 (show S8 ≠ S36 by decide)), if_neg (ne c8 (show S8 ≠ S38 by decide)), if_neg (ne c8 (show S8 ≠ S40 by decide)), if_neg (ne c8 (show S8 ≠ S42 by decide)), if_neg (ne c8 (show S8 ≠ S20 by decide)), if_pos c8]; decide
  simp only [if_neg c8]
  by_cases c10 : wm t st len S10 = true
  · simp only [if_neg (ne c10 (show S10 ≠ S26 by decide)), if_neg (ne c10 (show S10 ≠ S28 by decide)), if_neg (ne c10 (show S10 ≠ S30 by decide)), if_neg (ne c10 (show S10 ≠ S32 by decide)), if_neg (ne c10 (show S10 ≠ S34 by decide)), if_neg (ne c10 (show S10 ≠ S36 by decide)), if_neg (ne c10 (show S10 ≠ S38 by decide)), if_neg (ne c10 (show S10 ≠ S40 by decide)), if_neg (ne c10 (show S10 ≠ S42 by decide)), if_neg (ne c10 (show S10 ≠ S20 by decide)), if_pos c10]; decide
  simp only [if_neg c10]
  by_cases c12 : wm t st len S12 = true
  · simp only [if_neg (ne c12 (show S12 ≠ S26 by decide)), if_neg (ne c12 (show S12 ≠ S28 by decide)), if_neg (ne c12 (show S12 ≠ S30 by decide)), if_neg (ne c12 (show S12 ≠ S32 by decide)), if_neg (ne c12 (show S12 ≠ S34 by decide)), if_neg (ne c12 (show S12 ≠ S36 by decide)), if_neg (ne c12 (show S12 ≠ S38 by decide)), if_neg (ne c12 (show S12 ≠ S40 by decide)), if_neg (ne c12 (show S12 ≠ S42 by decide)), if_neg (ne c12 (show S12 ≠ S20 by decide)), if_pos c12]; decide
  simp only [if_neg c12]
  by_cases c14 : wm t st len S14 = true
  · simp only [if_neg (ne c14 (show S14 ≠ S26 by decide)), if_neg (ne c14 (show S14 ≠ S28 by decide)), if_neg (ne c14 (show S14 ≠ S30 by decide)), if_neg (ne c14 (show S14 ≠ S32 by decide)), if_neg (ne c14 (show S14 ≠ S34 by decide)), if_neg (ne c14 (show S14 ≠ S36 by decide)), if_neg (ne c14 (show S14 ≠ S38 by decide)), if_neg (ne c14 (show S14 ≠ S40 by decide)), if_neg (ne c14 (show S14 ≠ S42 by decide)), if_neg (ne c14 (show S14 ≠ S20 by decide)), if_pos c14]; decide
  simp only [if_neg c14]
  by_cases c16 : wm t st len S16 = true
  · simp only [if_neg (ne c16 (show S16 ≠ S26 by decide)), if_neg (ne c16 (show S16 ≠ S28 by decide)), if_neg (ne c16 (show S16 ≠ S30 by decide)), if_neg (ne c16 (show S16 ≠ S32 by decide)), if_neg (ne c16 (show S16 ≠ S34 by decide)), if_neg (ne c16 (show S16 ≠ S36 by decide)), if_neg (ne c16 (show S16 ≠ S38 by decide)), if_neg (ne c16 (show S16 ≠ S40 by decide)), if_neg (ne c16 (show S16 ≠ S42 by decide)), if_neg (ne c16 (show S16 ≠ S20 by decide)), if_pos c16]; decide
  simp only [if_neg c16]
  by_cases c18 : wm t st len S18 = true
  · simp only [if_neg (ne c18 (show S18 ≠ S26 by decide)), if_neg (ne c18 (show S18 ≠ S28 by decide)), if_neg (ne c18 (show S18 ≠ S30 by decide)), if_neg (ne c18 (show S18 ≠ S32 by decide)), if_neg (ne c18 (show S18 ≠ S34 by decide)), if_neg (ne c18 (show S18 ≠ S36 by decide)), if_neg (ne c18 (show S18 ≠ S38 by decide)), if_neg (ne c18 (show S18 ≠ S40 by decide)), if_neg (ne c18 (show S18 ≠ S42 by decide)), if_neg (ne c18 (show S18 ≠ S20 by decide)), if_pos c18]; decide
  simp only [if_neg c18]
  by_cases c20 : wm t st len S20 = true
  · simp only [if_neg (ne c20 (show S20 ≠ S26 by decide)), if_neg (ne c20 (show S20 ≠ S28 by decide)), if_neg (ne c20 (show S20 ≠ S30 by decide)), if_neg (ne c20 (show S20 ≠ S32 by decide)), if_neg (ne c20 (show S20 ≠ S34 by decide)), if_neg (ne c20 (show S20 ≠ S36 by decide)), if_neg (ne c20 (show S20 ≠ S38 by decide)), if_neg (ne c20 (show S20 ≠ S40 by decide)), if_neg (ne c20 (show S20 ≠ S42 by decide)), if_pos c20]; decide
  simp only [if_neg c20]
  by_cases c22 : wm t st len S22 = true
  · simp only [if_neg (ne c22 (show S22 ≠ S26 by decide)), if_neg (ne c22 (show S22 ≠ S28 by decide)), if_neg (ne c22 (show S22 ≠ S30 by decide)), if_neg (ne c22 (show S22 ≠ S32 by decide)), if_neg (ne c22 (show S22 ≠ S34 by decide)), if_neg (ne c22 (show S22 ≠ S36 by decide)), if_neg (ne c22 (show S22 ≠ S38 by decide)), if_neg (ne c22 (show S22 ≠ S40 by decide)), if_neg (ne c22 (show S22 ≠ S42 by decide)), if_neg (ne c22 (show S22 ≠ S20 by decide)), if_pos c22]; decide
  simp only [if_neg c22]
  by_cases c24 : wm t st len S24 = true
  · simp only [if_neg (ne c24 (show S24 ≠ S26 by decide)), if_neg (ne c24 (show S24 ≠ S28 by decide)), if_neg (ne c24 (show S24 ≠ S30 by decide)), if_neg (ne c24 (show S24 ≠ S32 by decide)), if_neg (ne c24 (show S24 ≠ S34 by decide)), if_neg (ne c24 (show S24 ≠ S36 by decide)), if_neg (ne c24 (show S24 ≠ S38 by decide)), if_neg (ne c24 (show S24 ≠ S40 by decide)), if_neg (ne c24 (show S24 ≠ S42 by decide)), if_neg (ne c24 (show S24 ≠ S20 by decide)), if_pos c24]; decide
  simp only [if_neg c24]
  by_cases c26 : wm t st len S26 = true
  · simp only [if_pos c26]; decide
  simp only [if_neg c26]
  by_cases c28 : wm t st len S28 = true
  · simp only [if_pos c28]; decide
  simp only [if_neg c28]
  by_cases c30 : wm t st len S30 = true
  · simp only [if_pos c30]; decide
  simp only [if_neg c30]
  by_cases c32 : wm t st len S32 = true
  · simp only [if_pos c32]; decide
  simp only [if_neg c32]
  by_cases c34 : wm t st len S34 = true
  · simp only [if_pos c34]; decide
  simp only [if_neg c34]
  by_cases c36 : wm t st len S36 = true
  · simp only [if_pos c36]; decide
  simp only [if_neg c36]
  by_cases c38 : wm t st len S38 = true
  · simp only [if_pos c38]; decide
  simp only [if_neg c38]
  by_cases c40 : wm t st len S40 = true
  · simp only [if_pos c40]; decide
  simp only [if_neg c40]
  by_cases c42 : wm t st len S42 = true
  · simp only [if_pos c42]; decide
  simp only [if_neg c42]
  decide
theorem tk2 {t : Nat → Nat} {n st : Nat} : tkK2 t n st = kO2 (tkM t n st) ∧ (tkK2 t n st = 1 → (cW2 t st (tkE t n st - st)).2 = tkM t n st - 3) := by
  unfold tkK2 tkM
  by_cases a : st = n
  · rw [if_pos a, if_pos a]; exact ⟨rfl, fun z => absurd z (by decide)⟩
  rw [if_neg a, if_neg a]
  by_cases b : ltr (t st) = true
  · rw [if_pos b, if_pos b]; exact cW2_wM
  rw [if_neg b, if_neg b]
  by_cases c : dgt (t st) = true
  · rw [if_pos c, if_pos c]
    split
    · exact ⟨rfl, fun z => absurd z (by decide)⟩
    · exact ⟨rfl, fun z => absurd z (by decide)⟩
  rw [if_neg c, if_neg c]
  split
  · exact ⟨rfl, fun z => absurd z (by decide)⟩
  · exact ⟨rfl, fun z => absurd z (by decide)⟩
theorem tk4 {t : Nat → Nat} {n st : Nat} : tkK4 t n st = kO4 (tkM t n st) ∧ (tkK4 t n st = 1 → (cW4 t st (tkE t n st - st)).2 = vO4 (tkM t n st)) := by
  unfold tkK4 tkM
  by_cases a : st = n
  · rw [if_pos a, if_pos a]; exact ⟨rfl, fun z => absurd z (by decide)⟩
  rw [if_neg a, if_neg a]
  by_cases b : ltr (t st) = true
  · rw [if_pos b, if_pos b]; exact cW4_wM
  rw [if_neg b, if_neg b]
  by_cases c : dgt (t st) = true
  · rw [if_pos c, if_pos c]
    split
    · exact ⟨rfl, fun z => absurd z (by decide)⟩
    · exact ⟨rfl, fun z => absurd z (by decide)⟩
  rw [if_neg c, if_neg c]
  split
  · exact ⟨rfl, fun z => absurd z (by decide)⟩
  · exact ⟨rfl, fun z => absurd z (by decide)⟩
theorem tkM_le {t : Nat → Nat} {n st : Nat} : tkM t n st ≤ 22 := by
  unfold tkM
  split
  · omega
  split
  · exact wM_le
  split
  · split <;> omega
  split <;> omega
theorem tkE_b {t : Nat → Nat} {n st : Nat} (h : st ≤ n) : st ≤ tkE t n st ∧ tkE t n st ≤ n ∧ (st < n → st < tkE t n st) := by
  unfold tkE
  by_cases a : st = n
  · rw [if_pos a]; omega
  rw [if_neg a]
  obtain ⟨m, hm⟩ : ∃ m, n - st = m + 1 := ⟨n - st - 1, by omega⟩
  by_cases b : ltr (t st) = true
  · rw [if_pos b, hm, run_s, if_pos b]
    have := run_b (P := ltr) (t := t) m (st + 1)
    omega
  rw [if_neg b]
  by_cases c : dgt (t st) = true
  · rw [if_pos c, hm, run_s, if_pos c]
    have := run_b (P := dgt) (t := t) m (st + 1)
    omega
  rw [if_neg c]
  omega
theorem tkS_b {t : Nat → Nat} {n p : Nat} (h : p ≤ n) : p ≤ tkS t n p ∧ tkS t n p ≤ n := by
  have := run_b (P := blk) (t := t) (n - p) p
  unfold tkS
  omega
theorem tkM_0 {t : Nat → Nat} {n st : Nat} : tkM t n st = 0 ↔ st = n := by
  refine ⟨fun h => ?_, fun h => if_pos h⟩
  by_cases a : st = n
  · exact a
  · exfalso
    unfold tkM at h
    rw [if_neg a] at h
    by_cases b : ltr (t st) = true
    · rw [if_pos b] at h
      revert h
      unfold wM
      repeat (refine ite_ne0 (by decide) ?_)
      decide
    rw [if_neg b] at h
    split at h
    · split at h <;> omega
    · split at h <;> omega
