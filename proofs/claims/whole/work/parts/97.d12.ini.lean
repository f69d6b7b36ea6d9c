/-! both when they are new -/
def Ib (I : z_I) : z_I := (z_row (z_row (z_row (z_row (z_row (z_row (zI 0 I 1 39) 1 (upd (upd (upd (fun _ => 0) 5 (nI 2000)) 6 (nI 1)) 8 (nI 8))) 3 (T2 8)) 14 (rg 64 4)) 16 (rg 40 1)) 27 (rg 60 5)) 32 (upd (fun _ => 0) 4 (-1)))
def Iz (I : z_I) : z_I := z_row (z_row (zI 0 (Ib I) 41 9) 40 (upd (fun _ => 0) 23 (-1))) 41 (V2 8)
theorem V2_z {j : Nat} (h : j = 2 ∨ (4 ≤ j ∧ j < 31) ∨ (40 ≤ j ∧ j < 96) ∨ (104 ≤ j ∧ j < 136) ∨ 144 ≤ j) : V2 8 j = nI 0 := by
  unfold V2
  rw [if_neg (by omega), if_neg (by omega), if_neg (by omega), if_neg (by omega), if_neg (by omega), if_neg (by omega)]
theorem V2_31 {t : Nat} (h : t < 9) : V2 8 (31 + t) = nI 1 := by
  unfold V2
  rw [if_neg (by omega), if_neg (by omega), if_neg (by omega), if_pos (by omega)]
theorem V2_96 {t : Nat} (h : t < 8) : V2 8 (96 + t) = nI 126 := by
  unfold V2
  rw [if_neg (by omega), if_neg (by omega), if_neg (by omega), if_neg (by omega), if_pos (by omega)]
theorem V2_136 {t : Nat} (h : t < 8) : V2 8 (136 + t) = nI t <<< (nI 11 &&& nI 31) := by
  unfold V2
  rw [if_neg (by omega), if_neg (by omega), if_neg (by omega), if_neg (by omega), if_neg (by omega), if_pos (by omega), show 136 + t - 136 = t by omega]
theorem T2_t {t k : Nat} (ht : t < 8) (h1 : 1 ≤ k) (h2 : k < 18) : T2 8 (t * 18 + k) = V2 8 (32 + 8 * k + t) := by
  by_cases h8 : k = 8
  · subst h8
    rw [show 32 + 8 * 8 + t = 96 + t by omega, V2_96 ht]
    unfold T2
    rw [if_neg (by omega), if_pos (by omega)]
  · by_cases h13 : k = 13
    · subst h13
      rw [show 32 + 8 * 13 + t = 136 + t by omega, V2_136 ht]
      unfold T2
      rw [if_neg (by omega), if_neg (by omega), if_pos (by omega), show (t * 18 + 13) / 18 = t by omega]
    · rw [V2_z (by omega)]
      unfold T2
      rw [if_neg (by omega), if_neg (by omega), if_neg (by omega)]
theorem T2_p {t : Nat} (ht : t < 9) : T2 8 (t * 18 + 0) = nI 1 := by
  unfold T2
  rw [if_pos (by omega)]
theorem T2_8 {k : Nat} (h1 : 1 ≤ k) (h2 : k < 18) : T2 8 (8 * 18 + k) = nI 0 := by
  unfold T2
  rw [if_neg (by omega), if_neg (by omega), if_neg (by omega)]
theorem b16_sh : ∀ t, t < 8 → b16 (nI t <<< (nI 11 &&& nI 31)) := by
  intro t ht
  have : ∀ t, t < 8 → nI t <<< (nI 11 &&& nI 31) = nI (t * 2048) := by decide
  exact ⟨t * 2048, by omega, this t ht⟩
theorem V2_b {j : Nat} : b16 (V2 8 j) := by
  by_cases h : 136 ≤ j ∧ j < 144
  · obtain ⟨t, rfl⟩ : ∃ t, j = 136 + t := ⟨j - 136, by omega⟩
    rw [V2_136 (by omega)]; exact b16_sh t (by omega)
  · unfold V2
    rw [if_neg (show ¬ (136 ≤ j ∧ j < 136 + 8) by omega)]
    repeat' split
    · exact ⟨2000, by decide, rfl⟩
    · exact ⟨1, by decide, rfl⟩
    · exact ⟨8, by decide, rfl⟩
    · exact ⟨1, by decide, rfl⟩
    · exact ⟨126, by decide, rfl⟩
    · exact ⟨0, by decide, rfl⟩
theorem f_ok_0 : f_ok (nI 0) := ⟨false, 0, _, rfl, by unfold f_u; rw [Nat.zero_mul]; exact Nat.zero_le _, Or.inl ⟨rfl, rfl⟩⟩
theorem hR_ini {I : z_I} {F : z_F} (hF : F 8 = fun _ => 0) : hR (Iz I) F (V2 8) 0 0 0 := by
  have z8 : V2 8 8 = nI 0 := V2_z (by omega)
  have zc : ((V2 8) 8).toNatClampNeg = 0 := by rw [z8]; rfl
  have ze : ((V2 8) 2764).toNatClampNeg = 0 := by rw [V2_z (by omega)]; rfl
  refine ⟨⟨⟨⟨fun t ht k x y => T2_t ht x y, fun t ht => ?_, fun k x y => T2_8 x y⟩, fun j hj => ?_, fun j hj => ?_, fun j hj => ?_⟩, ⟨⟨fun b hb => ?_, fun b hb j hj => ?_, fun b hb => ?_, fun b hb => ?_, ?_⟩, ?_, ?_⟩, ⟨⟨fun t ht => ?_, fun j x y => ?_, fun j x y => ?_⟩, fun j x y => ?_, fun j hj => V2_b, ⟨8, by decide, rfl⟩, ⟨0, by decide, rfl⟩⟩, ⟨fun c hc => ?_, fun c hc => ?_⟩⟩, ⟨rfl, rfl, rfl, rfl⟩, ⟨rfl, rfl, rfl⟩, ⟨⟨rfl, fun i hi => ?_⟩, ⟨?_, ?_, fun i hi => ?_⟩, 1, by decide, rfl⟩, ⟨fun i hi => ?_, fun j hj => ?_⟩, ?_, ⟨rfl, fun j hj => ?_⟩, ⟨?_, ?_, fun i hi => ?_⟩, ⟨fun c hc => ?_, ?_⟩⟩
  · rw [V2_31 ht]; exact T2_p ht
  · rw [V2_z (by omega)]; rfl
  · rw [V2_z (by omega), V2_z (by omega), V2_z (by omega), V2_z (by omega), hF]; exact ⟨rfl, rfl, rfl, rfl⟩
  · rw [V2_z (by omega)]; rfl
  · rw [V2_z (by omega)]; rfl
  · rw [V2_z (by omega)]; rfl
  · refine ⟨0, by decide, rfl, ?_⟩
    have : nsl (V2 8) b = [] := by
      unfold nsl
      rw [List.filter_eq_nil_iff]
      intro a ha
      rw [List.mem_map] at ha
      obtain ⟨k, hk, rfl⟩ := ha
      have := List.mem_range.mp hk
      rw [V2_z (by omega)]; decide
    rw [this]; exact List.Perm.refl _
  · rw [V2_z (by omega)]; exact ⟨0, by decide, rfl⟩
  · exact ⟨rfl, rfl, rfl, rfl, rfl, fun r _ h => absurd h (Nat.not_lt_zero _)⟩
  · rfl
  · refine ⟨rfl, rfl, rfl, rfl, rfl, fun r hr => ?_⟩
    rw [V2_z (by omega)]; rfl
  · rw [V2_31 ht]; exact Or.inr rfl
  · rw [V2_z (by omega)]; exact Or.inl rfl
  · rw [V2_z (by omega)]; exact Or.inl rfl
  · rw [V2_z (by omega)]; exact Or.inl rfl
  · rw [V2_z (by omega)]; exact Or.inl rfl
  · rw [V2_z (by omega)]; exact f_ok_0
  · rw [zc] at hi; omega
  · rw [z8]; rfl
  · rw [zc]; omega
  · rw [zc] at hi; omega
  · rw [zc] at hi; omega
  · rw [V2_z (by omega)]; rfl
  · refine ⟨rfl, rfl, rfl, rfl, rfl, fun j hj => ?_⟩
    rw [V2_z (by omega)]; rfl
  · rw [ze] at hj; omega
  · rw [V2_z (by omega)]; rfl
  · rw [ze]; omega
  · rw [ze] at hi; omega
  · rw [V2_z (by omega), V2_z (by omega)]; have g0 : g_ok (nI 0) := by unfold g_ok; decide
    exact ⟨g0, g0⟩
  · decide
theorem hL_ini {I : z_I} : hL (Iz I) := fun f hf => rfl
