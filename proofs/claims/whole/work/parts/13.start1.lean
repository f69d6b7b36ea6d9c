/-! from the law's entry to the plain reading -/
def z_exO (b t : Nat) (nz : Option Nat) (adK adV : Nat → Nat) : Nat → Value := fun j =>
  if j = 0 then .ref t else if j = 1 then .ref b else if j = 60 then va_rf nz else if j % 2 = 0 then .ref (adK ((j - 2) / 2)) else .ref (adV ((j - 3) / 2))
theorem z_before {args : Array Value} {s : State} {i : Nat} {w : Cond} (hts : ∀ w ∈ lw_tbl, w.before args s = true) (h : lw_tbl[i]? = some w) : w.before args s = true := hts w (List.mem_of_getElem? h)
/-- what the Statement says of the start is what the outer cells need -/
theorem z_ex_start {args : Array Value} {s : State} {b L : Nat} {xs : Nat → Int32} (hts : ∀ w ∈ lw_tbl, w.before args s = true) (hgv : (Jvm.Cond.and given_1 narrow_1).before args s = true) (hX : va_X b L xs s s.heap) (hbl : b < s.heap.size) (hL : L ≤ 3072) :
    ∃ ex : Nat → Value, ex 1 = .ref b ∧ z_Ex s.heap.size ex L xs s s.heap := by
  have hf := flat_of_before _ hgv
  have hA : ∀ a : Nat, a < s.heap.size → ¬ z_A s.heap.size a := fun a h => Nat.not_le.mpr h
  -- MOST
  obtain ⟨t, ht, hT⟩ := va_Tof (args := args) (s := s) (tm := .static "CommandBus$Units" "MOST" "[I") (ty := .int) (N := 10) (f := fun j => .int (([1, 1, 1, 1, 1, 1, 3, 3, 126, 65535] : List Int32).getD j 0)) (A := z_A s.heap.size) (by decide) (hf _ z_f7.1) (va_eqt (hf _ z_f7.2.1)) (fun j hj => va_eqt (hf _ (z_f8 j hj))) hA
  have hZ := va_Zof (A := z_A s.heap.size) (z_before hts z_f11.1) (z_before hts z_f12.1) ht hA
  have hC := va_Zof (A := z_A s.heap.size) (z_before hts z_f11.2.1) (z_before hts z_f12.2.1) (va_eqt (hf _ z_f7.2.2.1)) hA
  have hQ := va_Zqof (A := z_A s.heap.size) (z_before hts z_f11.2.2) (z_before hts z_f12.2.2) (hf _ z_f7.2.2.2) hA
  obtain ⟨nz, hQ⟩ : ∃ nz : Option Nat, va_Z "jdk/internal/util/Preconditions" "SIOOBE_FORMATTER" "Ljava/util/function/BiFunction;" (va_rf nz) (z_A s.heap.size) s s.heap := by
    rcases hQ with h | ⟨t, h⟩
    · exact ⟨none, h⟩
    · exact ⟨some t, h⟩
  -- Strings
  obtain ⟨adK, adV, hS, hK⟩ := vk_Sof (args := args) (s := s) (N := 21) (tm := z_tm) (len := z_tl) (byt := z_tb2) (A := z_A s.heap.size) (by decide) (fun i hi => hf _ (z_f1 i hi)) (fun i hi => hf _ (z_f2 i hi)) (fun i hi => hf _ (z_f3 i hi)) (fun i hi => hf _ (z_f4 i hi)) (fun i hi j hj => hf _ (z_f5 i hi j hj)) (fun i j hi hj hn => (z_f6 i hi j hj hn).imp (hf _) (hf _)) hA
  refine ⟨z_exO b t nz adK adV, rfl, ?_, ?_, ?_, ?_, ?_, hZ, hC, ?_, ?_⟩
  · intro j
    unfold z_exO
    by_cases h0 : j = 0
    · rw [if_pos h0]; exact Or.inr ⟨_, rfl⟩
    rw [if_neg h0]
    by_cases h1 : j = 1
    · rw [if_pos h1]; exact Or.inr ⟨_, rfl⟩
    rw [if_neg h1]
    by_cases h6 : j = 60
    · rw [if_pos h6]
      cases nz with
      | none => exact Or.inl rfl
      | some r => exact Or.inr ⟨r, rfl⟩
    rw [if_neg h6]
    by_cases h2 : j % 2 = 0
    · rw [if_pos h2]; exact Or.inr ⟨_, rfl⟩
    · rw [if_neg h2]; exact Or.inr ⟨_, rfl⟩
  · intro j hj
    rcases z_xa_1 L xs j hj with rfl | rfl
    · exact ⟨t, rfl, hT⟩
    · obtain ⟨scr, h1, h2, h3, h4, h5⟩ := hX
      exact ⟨b, rfl, scr, h1, h2, h3, by rw [h4]; exact Nat.le_refl _, by rw [h4]; rfl, h5, hA b hbl⟩
  · intro j hj
    obtain ⟨i, hi, rfl⟩ := z_xa_2 L xs j hj
    obtain ⟨e1, e2⟩ := z_xa_s L xs i hi
    refine ⟨adV i, ?_, ?_⟩
    · unfold z_exO
      rw [if_neg (by omega), if_neg (by omega), if_neg (by omega), if_neg (by omega), show (3 + 2 * i - 3) / 2 = i by omega]
    · rw [e1, e2]; exact (hS.1 i hi).2.2.2
  · intro j hj
    unfold z_isS at hj
    simp only [Bool.and_eq_true] at hj
    obtain ⟨⟨j1, j2⟩, j3⟩ := hj
    have j1 := Nat.le_of_ble_eq_true j1
    have j2 := Nat.le_of_ble_eq_true j2
    have j3 := Nat.eq_of_beq_eq_true j3
    have hi : (j - 2) / 2 < 21 := by omega
    refine ⟨adK ((j - 2) / 2), adV ((j - 2) / 2), ?_, ?_, (hS.1 _ hi).1, (hS.1 _ hi).2.1, (hS.1 _ hi).2.2.1⟩
    · unfold z_exO
      rw [if_neg (by omega), if_neg (by omega), if_neg (by omega), if_pos j3]
    · unfold z_exO
      rw [if_neg (by omega), if_neg (by omega), if_neg (by omega), if_neg (by omega), show (j + 1 - 3) / 2 = (j - 2) / 2 by omega]
  · intro u hu
    have h := List.all_eq_true.mp z_f10 u hu
    obtain ⟨i, hi, h⟩ := List.any_eq_true.mp h
    have hi := List.mem_range.mp hi
    simp only [Bool.and_eq_true, decide_eq_true_eq] at h
    obtain ⟨⟨h1, h2⟩, h3⟩ := h
    have h1 := Nat.eq_of_beq_eq_true h1
    have h3 := Nat.eq_of_beq_eq_true h3
    obtain ⟨g1, g2⟩ := z_f9 i hi
    refine ⟨(z_tx.getD i ("", 0, "")).2.2, adK i, ?_, ?_⟩
    · rw [h1]
      unfold z_exO
      rw [if_neg (by omega), if_neg (by omega), if_neg (by omega), if_pos (by omega), show (2 + 2 * i - 2) / 2 = i by omega]
    · rw [← h2, ← h3]
      refine vk_R.of (A := args) (z_before hts g1) ?_
      rw [← g2]
      exact hK i hi
  · exact hQ
  · intro u hu
    obtain ⟨f1, f2⟩ := z_f13
    obtain ⟨v, hv, h⟩ := List.any_eq_true.mp (List.all_eq_true.mp f1 u hu)
    have h := of_decide_eq_true h
    subst h
    exact va_Nw.of rfl (z_before hts (of_decide_eq_true (List.all_eq_true.mp f2 v hv)))
