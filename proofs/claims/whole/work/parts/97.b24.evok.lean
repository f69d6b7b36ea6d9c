/-! what an event that was read holds -/
def evG (g : Nat → Int32) (i : Nat) : Prop := ∃ a q b v, (g (14 * i + 0) = nI a ∧ a ≤ 9999) ∧ (g (14 * i + 1) = nI q ∧ q ≤ 8) ∧ (g (14 * i + 2) = nI b ∧ b ≤ evW q) ∧ (g (14 * i + 3) = nI v ∧ evL q ≤ v ∧ v ≤ evM q)
theorem evG_k {g g' : Nat → Int32} {i : Nat} (h : evG g i) (e : ∀ f, f < 4 → g' (14 * i + f) = g (14 * i + f)) : evG g' i := by
  obtain ⟨a, q, b, v, h0, h1, h2, h3⟩ := h
  exact ⟨a, q, b, v, by rw [e 0 (by omega)]; exact h0, by rw [e 1 (by omega)]; exact h1, by rw [e 2 (by omega)]; exact h2, by rw [e 3 (by omega)]; exact h3⟩
theorem pevl_ok {t : Nat → Nat} {n m st st' : Nat} {g g' : Nat → Int32} (e : pevl t n m g st = p_ok g' st') : evG g' m ∧ ∀ j, j < 14 * m → g' j = g j := by
  unfold pevl at e
  obtain ⟨f1, s1, e1, eA⟩ := pbind_ok e
  clear e
  have ef := (pneed_ok e1).1.symm
  subst ef
  obtain ⟨f2, s2, e2, eB⟩ := pbind_ok eA
  clear eA
  obtain ⟨a, a1, a2, rfl, -⟩ := pnum_ok e2
  have hl := tkM_le (t := t) (n := n) (st := s2)
  by_cases c : 14 ≤ tkM t n s2
  · rw [if_pos c] at eB
    obtain ⟨q, hq⟩ : ∃ q, tkM t n s2 = 14 + q := ⟨tkM t n s2 - 14, by omega⟩
    rw [show tkM t n s2 - 14 = q by omega] at eB
    unfold pevt at eB
    obtain ⟨f3, s3, e3, eC⟩ := pbind_ok eB
    clear eB
    obtain ⟨f4, s4, e4, eD⟩ := pbind_ok eC
    clear eC
    obtain ⟨b, b1, b2, rfl, -⟩ := pnum_ok e3
    obtain ⟨v, v1, v2, rfl, -⟩ := pnum_ok e4
    have ef := (pneed_ok eD).1
    subst ef
    refine ⟨⟨a, q, b, v, ⟨?_, a2⟩, ⟨?_, by omega⟩, ⟨?_, b2⟩, ⟨?_, v1, v2⟩⟩, fun j hj => ?_⟩
    · rw [pk_un (by omega), pk_un (by omega), pk_un (by omega), pk_us]
    · rw [pk_un (by omega), pk_un (by omega), pk_us]
    · rw [pk_un (by omega), pk_us]
    · rw [pk_us]
    · rw [fo hj, fo hj, fo hj, fo hj]
  · rw [if_neg c] at eB; cases eB
theorem peall_ok {t : Nat → Nat} {n : Nat} : ∀ (j m : Nat) (g : Nat → Int32) (st : Nat) (g' : Nat → Int32) (c : Nat), m + j = 24 → (∀ i, i < m → evG g i) → peall t n j m g st = p_ok g' c → c ≤ 24 ∧ ∀ i, i < c → evG g' i := by
  intro j
  induction j with
  | zero =>
    intro m g st g' c hm h e
    unfold peall at e
    by_cases a : tkM t n st = 0
    · rw [if_pos a] at e
      obtain ⟨rfl, rfl⟩ := p_inj e
      exact ⟨by omega, h⟩
    · rw [if_neg a] at e
      by_cases b : tkM t n st = 10
      · rw [if_pos b] at e; cases e
      · rw [if_neg b] at e; cases e
  | succ j ih =>
    intro m g st g' c hm h e
    unfold peall at e
    by_cases a : tkM t n st = 0
    · rw [if_pos a] at e
      obtain ⟨rfl, rfl⟩ := p_inj e
      exact ⟨by omega, h⟩
    · rw [if_neg a] at e
      by_cases b : tkM t n st = 10
      · rw [if_pos b] at e
        obtain ⟨f1, s1, e1, e2⟩ := pbind_ok e
        obtain ⟨g1, g4⟩ := pevl_ok e1
        refine ih (m + 1) f1 s1 g' c (by omega) (fun i hi => ?_) e2
        by_cases z : i = m
        · subst z; exact g1
        · exact evG_k (h i (by omega)) fun f hf => g4 _ (by omega)
      · rw [if_neg b] at e; cases e
theorem evG_ok {w g : Nat → Int32} {c i : Nat} (hi : i < c) (h : evG g i) : e1_ok (wev w g c) i := by
  obtain ⟨a, q, b, v, ⟨h0, a2⟩, ⟨h1, q2⟩, ⟨h2, b2⟩, ⟨h3, v1, v2⟩⟩ := h
  have mw : ∀ q, q ≤ 8 → evW q ≤ 8 ∧ evM q ≤ 999 ∧ (q = 8 → evW q = 1 ∧ evL q = 1) ∧ (q ≠ 8 → (evW q = 8 → q = 0) ∧ evM q ≤ tmost q) := by decide
  obtain ⟨w1, w2, w3, w4⟩ := mw q q2
  have e : ∀ f, f < 4 → wev w g c (2765 + 4 * i + f) = g (14 * i + f) := fun f hf => wev_l hi hf
  have n0 : evn (wev w g c) i 0 = a := by unfold evn; rw [e 0 (by omega), h0, nI_clamp (by omega)]
  have n1 : evn (wev w g c) i 1 = q := by unfold evn; rw [e 1 (by omega), h1, nI_clamp (by omega)]
  have n2 : evn (wev w g c) i 2 = b := by unfold evn; rw [e 2 (by omega), h2, nI_clamp (by omega)]
  have n3 : evn (wev w g c) i 3 = v := by unfold evn; rw [e 3 (by omega), h3, nI_clamp (by omega)]
  refine ⟨fun f hf => ?_, ?_⟩
  · have : f = 0 ∨ f = 1 ∨ f = 2 ∨ f = 3 := by omega
    rcases this with rfl | rfl | rfl | rfl
    · rw [n0, e 0 (by omega)]; exact h0
    · rw [n1, e 1 (by omega)]; exact h1
    · rw [n2, e 2 (by omega)]; exact h2
    · rw [n3, e 3 (by omega)]; exact h3
  · rw [n1, n2, n3]
    refine ⟨q2, fun z => ?_, fun z => ?_⟩
    · have := w3 z; omega
    · have := w4 z
      refine ⟨by omega, fun y => this.1 (by omega), by omega⟩
theorem wev_ok {w g : Nat → Int32} {c : Nat} (hc : c ≤ 24) (h : ∀ i, i < c → evG g i) : ev_ok (wev w g c) := by
  unfold ev_ok
  rw [wev_n, nI_clamp (by omega)]
  exact ⟨rfl, hc, fun i hi => evG_ok hi (h i hi)⟩
