/-! the model's lines -/
def lnn (w : Nat → Int32) (i f : Nat) : Nat := (w (1584 + 14 * i + f)).toNatClampNeg
def ln_ok (w : Nat → Int32) (i : Nat) : Prop :=
  (∀ f, f < 11 → w (1584 + 14 * i + f) = nI (lnn w i f)) ∧ lnn w i 0 ≤ 5 ∧ lnn w i 1 ≤ 8 ∧ (lnn w i 0 < 5 → lnn w i 1 < 8) ∧ lnn w i 2 ≤ 6 ∧ (lnn w i 0 ≤ 3 → 1 ≤ lnn w i 2) ∧ lnn w i 3 ≤ 8 ∧ (lnn w i 0 ≤ 3 → 1 ≤ lnn w i 3) ∧ lnn w i 4 < 8 ∧ lnn w i 5 ≤ 6 ∧ (lnn w i 0 = 2 → 1 ≤ lnn w i 5 ∧ lnn w i 4 ≠ lnn w i 1) ∧
  (lnn w i 6 = 1 ∨ lnn w i 6 = 2 ∨ lnn w i 6 = 4 ∨ lnn w i 6 = 8) ∧ lnn w i 7 < lnn w i 6 ∧ lnn w i 8 < 2 ∧ lnn w i 9 < 2 ∧ lnn w i 10 < 32 ∧ (lnn w i 0 ≠ 4 → lnn w i 10 = 0) ∧ (4 ≤ lnn w i 0 → lnn w i 3 = 0)
/-- the table's lines are in order -/
def tb_ok (w : Nat → Int32) : Prop := w 8 = nI (w 8).toNatClampNeg ∧ (w 8).toNatClampNeg ≤ 24 ∧ ∀ i, i < (w 8).toNatClampNeg → ln_ok w i
def s_time (w : Nat → Int32) (i : Nat) : Nat := match lnn w i 0 with
  | 0 => 52 + 20 * lnn w i 3
  | 1 => 52 + 20 * lnn w i 3
  | 2 => 100 + 20 * lnn w i 3
  | 3 => 24 + 20 * lnn w i 3
  | 4 => if 16 ≤ lnn w i 10 ∧ lnn w i 10 ≤ 19 then 72 else 52
  | _ => 52
def s_due (w : Nat → Int32) (i f : Nat) : Bool := decide (f % lnn w i 6 = lnn w i 7)
def s_much (s : z_sg) (v : Int32) : Bool := !decide (s.1 4 + v ≤ s.2.1 0)
def s_toC (w : Nat → Int32) (i : Nat) : Bool := !decide (lnn w i 0 = 3) && (decide (nI (lnn w i 1) = w 3) || (decide (lnn w i 0 = 2) && decide (nI (lnn w i 4) = w 3)))
section
variable {L : Nat} {xs : Nat → Int32} {d : Nat} {kp sp wd : Value} {I : z_I} {s : z_sg} {R : z_R} {J : z_J} {F : z_F} {cn : Nat} {Q : z_Q}
theorem sp_told {i f : Nat} (hi : i < 24) (hf : f < 14) (hQ : Q (some (.int (s.2.1 (1584 + 14 * i + f)))) (z_ms I s) (z_R0 kp sp wd) J F cn) : z_M (z_X0 L xs) z_P0 d m_Mod_told [.ref 40, .int (nI i), .int (nI f)] (z_ms I s) (z_R0 kp sp wd) J F cn Q := by
  refine z_WP_gos [] 1000 fun K C hK hC => ?_
  conv => whnf
  repeat ((first | refine And.intro (by (conv => arg 2; whnf); (try simp only [z_lit, nI_add, pk_mul, z_pr1, z_pr2]); exact z_in (by omega) (by decide)) ?_ | refine z_bt1 (by decide) ?_ | refine z_bf1 (by decide) ?_ | refine z_bt2 (by decide) ?_ | refine z_bf2 (by decide) ?_); conv => whnf)
  refine z_Qi hQ ?_ rfl
  simp (disch := omega) only [z_lit, nI_add, pk_mul, z_pr1, z_pr2, nI_clamp, z_m3_40, z_m3_41, z_m3_44, z_m3_u40, z_m3_u41, z_m3_u44, z_m3_m3, pk_us, pk_un]
theorem sp_toldn {i f : Nat} (hi : i < 24) (hf : f < 11) (ho : ln_ok s.2.1 i) (hQ : Q (some (.int (nI (lnn s.2.1 i f)))) (z_ms I s) (z_R0 kp sp wd) J F cn) : z_M (z_X0 L xs) z_P0 d m_Mod_told [.ref 40, .int (nI i), .int (nI f)] (z_ms I s) (z_R0 kp sp wd) J F cn Q :=
  sp_told hi (by omega) (by rw [ho.1 f hf]; exact hQ)
theorem sp_timeOf {i : Nat} (hi : i < 24) (ho : ln_ok s.2.1 i) (hQ : Q (some (.int (nI (s_time s.2.1 i)))) (z_ms I s) (z_R0 kp sp wd) J F cn) : z_M (z_X0 L xs) z_P0 (d + 1) m_Mod_timeOf [.ref 40, .int (nI i)] (z_ms I s) (z_R0 kp sp wd) J F cn Q := by
  have hk := ho.2.1
  have hn := ho.2.2.2.2.2.2.1
  unfold s_time at hQ
  refine z_WP_gos [6] 1000 fun K C hK hC => ?_
  conv => whnf
  refine hC _ _ _ _ _ _ _ _ _ _ (fun _ _ _ _ _ _ q => q) (sp_toldn (s := s) (f := 0) hi (by decide) ho ?_)
  conv => whnf
  refine hK _ _ _ _ _ _ _ _ _ _ (?_)
  have h : lnn s.2.1 i 0 = 0 ∨ lnn s.2.1 i 0 = 1 ∨ lnn s.2.1 i 0 = 2 ∨ lnn s.2.1 i 0 = 3 ∨ lnn s.2.1 i 0 = 4 ∨ lnn s.2.1 i 0 = 5 := by omega
  rcases h with h | h | h | h | h | h <;> rw [h] at hQ ⊢ <;> simp only at hQ
  · refine z_WP_ts 40 rfl (by decide) ?_
    refine z_WP_gos [] 1000 fun K C hK hC => ?_
    conv => whnf
    refine hC _ _ _ _ _ _ _ _ _ _ (fun _ _ _ _ _ _ q => q) (sp_toldn (s := s) (f := 3) hi (by decide) ho ?_)
    conv => whnf
    refine z_Qi hQ ?_ rfl
    simp (disch := omega) only [z_lit, nI_add, pk_mul, z_pr1, z_pr2, nI_clamp, z_m3_40, z_m3_41, z_m3_44, z_m3_u40, z_m3_u41, z_m3_u44, z_m3_m3, pk_us, pk_un]
  · refine z_WP_ts 40 rfl (by decide) ?_
    refine z_WP_gos [] 1000 fun K C hK hC => ?_
    conv => whnf
    refine hC _ _ _ _ _ _ _ _ _ _ (fun _ _ _ _ _ _ q => q) (sp_toldn (s := s) (f := 3) hi (by decide) ho ?_)
    conv => whnf
    refine z_Qi hQ ?_ rfl
    simp (disch := omega) only [z_lit, nI_add, pk_mul, z_pr1, z_pr2, nI_clamp, z_m3_40, z_m3_41, z_m3_44, z_m3_u40, z_m3_u41, z_m3_u44, z_m3_m3, pk_us, pk_un]
  · refine z_WP_ts 53 rfl (by decide) ?_
    refine z_WP_gos [] 1000 fun K C hK hC => ?_
    conv => whnf
    refine hC _ _ _ _ _ _ _ _ _ _ (fun _ _ _ _ _ _ q => q) (sp_toldn (s := s) (f := 3) hi (by decide) ho ?_)
    conv => whnf
    refine z_Qi hQ ?_ rfl
    simp (disch := omega) only [z_lit, nI_add, pk_mul, z_pr1, z_pr2, nI_clamp, z_m3_40, z_m3_41, z_m3_44, z_m3_u40, z_m3_u41, z_m3_u44, z_m3_m3, pk_us, pk_un]
  · refine z_WP_ts 66 rfl (by decide) ?_
    refine z_WP_gos [] 1000 fun K C hK hC => ?_
    conv => whnf
    refine hC _ _ _ _ _ _ _ _ _ _ (fun _ _ _ _ _ _ q => q) (sp_toldn (s := s) (f := 3) hi (by decide) ho ?_)
    conv => whnf
    refine z_Qi hQ ?_ rfl
    simp (disch := omega) only [z_lit, nI_add, pk_mul, z_pr1, z_pr2, nI_clamp, z_m3_40, z_m3_41, z_m3_44, z_m3_u40, z_m3_u41, z_m3_u44, z_m3_m3, pk_us, pk_un]
  · refine z_WP_ts 79 rfl (by decide) ?_
    have hc : lnn s.2.1 i 10 < 32 := ho.2.2.2.2.2.2.2.2.2.2.2.2.2.2.2.1
    refine z_WP_gos [] 1000 fun K C hK hC => ?_
    conv => whnf
    refine hC _ _ _ _ _ _ _ _ _ _ (fun _ _ _ _ _ _ q => q) (sp_toldn (s := s) (f := 10) hi (by decide) ho ?_)
    conv => whnf
    refine hC _ _ _ _ _ _ _ _ _ _ (fun _ _ _ _ _ _ q => q) (sp_Mod_isIn (fun a b => ?_) (fun a => ?_))
    conv => whnf
    · repeat ((first | refine And.intro (by (conv => arg 2; whnf); (try simp only [z_lit, nI_add, pk_mul, z_pr1, z_pr2]); exact z_in (by omega) (by decide)) ?_ | refine z_bt1 (by decide) ?_ | refine z_bf1 (by decide) ?_ | refine z_bt2 (by decide) ?_ | refine z_bf2 (by decide) ?_); conv => whnf)
      have a1 : 16 ≤ lnn s.2.1 i 10 := by
        apply Nat.le_of_not_lt; intro z
        exact nI_ge (a := lnn s.2.1 i 10) (b := 16) z (by omega) a
      have b1 : lnn s.2.1 i 10 ≤ 19 := by
        apply Nat.le_of_not_lt; intro z
        exact nI_ge (a := 19) (b := lnn s.2.1 i 10) z (by omega) b
      rw [if_pos ⟨a1, b1⟩] at hQ
      exact hQ
    · repeat ((first | refine And.intro (by (conv => arg 2; whnf); (try simp only [z_lit, nI_add, pk_mul, z_pr1, z_pr2]); exact z_in (by omega) (by decide)) ?_ | refine z_bt1 (by decide) ?_ | refine z_bf1 (by decide) ?_ | refine z_bt2 (by decide) ?_ | refine z_bf2 (by decide) ?_); conv => whnf)
      have e : ¬ (16 ≤ lnn s.2.1 i 10 ∧ lnn s.2.1 i 10 ≤ 19) := fun z => a ⟨nI_le (a := 16) z.1 (by omega), nI_le (b := 19) z.2 (by omega)⟩
      rw [if_neg e] at hQ
      exact hQ
  · refine z_WP_ts 104 rfl (by decide) ?_
    refine z_WP_gos [] 1000 fun K C hK hC => ?_
    conv => whnf
    exact hQ
theorem s_due_rem {w : Nat → Int32} {i f : Nat} (ho : ln_ok w i) (hf : f < 2 ^ 30) : (nI f - nI f / nI (lnn w i 6) * nI (lnn w i 6) = nI (lnn w i 7)) ↔ s_due w i f = true := by
  have hp := ho.2.2.2.2.2.2.2.2.2.2.2.1
  have hq := ho.2.2.2.2.2.2.2.2.2.2.2.2.1
  rw [pk_rem (by omega) (by omega) (by omega)]
  unfold s_due
  rw [decide_eq_true_eq]
  have : f % lnn w i 6 < lnn w i 6 := Nat.mod_lt _ (by omega)
  constructor
  · intro h
    have := congrArg Int32.toNatClampNeg h
    rwa [nI_clamp (by omega), nI_clamp (by omega)] at this
  · intro h; rw [h]
theorem sp_isDue {i f : Nat} (hi : i < 24) (ho : ln_ok s.2.1 i) (hf : f < 2 ^ 30) (hQ : Q (some (.int (z_bi (s_due s.2.1 i f)))) (z_ms I s) (z_R0 kp sp wd) J F cn) : z_M (z_X0 L xs) z_P0 (d + 1) m_Mod_isDue [.ref 40, .int (nI i), .int (nI f)] (z_ms I s) (z_R0 kp sp wd) J F cn Q := by
  have hp := ho.2.2.2.2.2.2.2.2.2.2.2.1
  refine z_WP_gos [] 1000 fun K C hK hC => ?_
  conv => whnf
  refine hC _ _ _ _ _ _ _ _ _ _ (fun _ _ _ _ _ _ q => q) (sp_toldn (s := s) (f := 6) hi (by decide) ho ?_)
  conv => whnf
  refine ⟨fun h => ?_, ?_⟩
  · have := congrArg Int32.toNatClampNeg h
    rw [nI_clamp (by omega)] at this
    have h0 : (0 : Int32).toNatClampNeg = 0 := by decide
    omega
  conv => whnf
  refine hC _ _ _ _ _ _ _ _ _ _ (fun _ _ _ _ _ _ q => q) (sp_toldn (s := s) (f := 7) hi (by decide) ho ?_)
  conv => whnf
  refine ⟨fun h => ?_, fun h => ?_⟩ <;> (try simp (disch := omega) only [z_lit, nI_add, pk_mul, z_pr1, z_pr2, nI_clamp, z_m3_40, z_m3_41, z_m3_44, z_m3_u40, z_m3_u41, z_m3_u44, z_m3_m3, pk_us, pk_un] at h) <;> (conv => whnf)
  · rw [s_due_rem ho hf] at h
    rw [Bool.not_eq_true] at h
    rw [h] at hQ
    exact ⟨Or.inl rfl, hQ⟩
  · rw [s_due_rem ho hf] at h
    rw [h] at hQ
    exact ⟨Or.inr rfl, hQ⟩
theorem sp_isTooMuch {v : Int32} (hQ : Q (some (.int (z_bi (s_much s v)))) (z_ms I s) (z_R0 kp sp wd) J F cn) : z_M (z_X0 L xs) z_P0 d m_Mod_isTooMuch [.ref 40, .int v] (z_ms I s) (z_R0 kp sp wd) J F cn Q := by
  unfold s_much at hQ
  refine z_WP_gos [] 1000 fun K C hK hC => ?_
  conv => whnf
  repeat ((first | refine And.intro (by (conv => arg 2; whnf); (try simp only [z_lit, nI_add, pk_mul, z_pr1, z_pr2]); exact z_in (by omega) (by decide)) ?_ | refine z_bt1 (by decide) ?_ | refine z_bf1 (by decide) ?_ | refine z_bt2 (by decide) ?_ | refine z_bf2 (by decide) ?_); conv => whnf)
  refine ⟨fun h => ?_, fun h => ?_⟩ <;> (try simp (disch := omega) only [z_lit, nI_add, pk_mul, z_pr1, z_pr2, nI_clamp, z_m3_40, z_m3_41, z_m3_44, z_m3_u40, z_m3_u41, z_m3_u44, z_m3_m3, pk_us, pk_un] at h) <;> (conv => whnf)
  · rw [decide_eq_true h] at hQ
    exact ⟨Or.inl rfl, hQ⟩
  · rw [decide_eq_false h] at hQ
    exact ⟨Or.inr rfl, hQ⟩
theorem nI_inj9 {a b : Nat} (ha : a < 2 ^ 31) (hb : b < 2 ^ 31) (h : nI a = nI b) : a = b := by
  have := congrArg Int32.toNatClampNeg h
  rwa [nI_clamp (by omega), nI_clamp (by omega)] at this
theorem sp_isToController {i : Nat} (hi : i < 24) (ho : ln_ok s.2.1 i) (hQ : Q (some (.int (z_bi (s_toC s.2.1 i)))) (z_ms I s) (z_R0 kp sp wd) J F cn) : z_M (z_X0 L xs) z_P0 (d + 1) m_Mod_isToController [.ref 40, .int (nI i)] (z_ms I s) (z_R0 kp sp wd) J F cn Q := by
  have hk := ho.2.1
  unfold s_toC at hQ
  refine z_WP_gos [] 1000 fun K C hK hC => ?_
  conv => whnf
  repeat ((first | refine And.intro (by (conv => arg 2; whnf); (try simp only [z_lit, nI_add, pk_mul, z_pr1, z_pr2]); exact z_in (by omega) (by decide)) ?_ | refine z_bt1 (by decide) ?_ | refine z_bf1 (by decide) ?_ | refine z_bt2 (by decide) ?_ | refine z_bf2 (by decide) ?_); conv => whnf)
  refine hC _ _ _ _ _ _ _ _ _ _ (fun _ _ _ _ _ _ q => q) (sp_toldn (s := s) (f := 0) hi (by decide) ho ?_)
  conv => whnf
  refine ⟨fun h => ?_, fun h => ?_⟩ <;> (try simp (disch := omega) only [z_lit, nI_add, pk_mul, z_pr1, z_pr2, nI_clamp, z_m3_40, z_m3_41, z_m3_44, z_m3_u40, z_m3_u41, z_m3_u44, z_m3_m3, pk_us, pk_un] at h) <;> (conv => whnf)
  · have h' : ¬ lnn s.2.1 i 0 = 3 := fun z => h (by rw [z])
    rw [decide_eq_false h'] at hQ
    refine hC _ _ _ _ _ _ _ _ _ _ (fun _ _ _ _ _ _ q => q) (sp_toldn (s := s) (f := 1) hi (by decide) ho ?_)
    conv => whnf
    refine ⟨fun g => ?_, fun g => ?_⟩ <;> (try simp (disch := omega) only [z_lit, nI_add, pk_mul, z_pr1, z_pr2, nI_clamp, z_m3_40, z_m3_41, z_m3_44, z_m3_u40, z_m3_u41, z_m3_u44, z_m3_m3, pk_us, pk_un] at g) <;> (conv => whnf)
    · rw [decide_eq_true g] at hQ
      exact ⟨Or.inr rfl, hQ⟩
    · rw [decide_eq_false g] at hQ
      refine hC _ _ _ _ _ _ _ _ _ _ (fun _ _ _ _ _ _ q => q) (sp_toldn (s := s) (f := 0) hi (by decide) ho ?_)
      conv => whnf
      refine ⟨fun k => ?_, fun k => ?_⟩ <;> (try simp (disch := omega) only [z_lit, nI_add, pk_mul, z_pr1, z_pr2, nI_clamp, z_m3_40, z_m3_41, z_m3_44, z_m3_u40, z_m3_u41, z_m3_u44, z_m3_m3, pk_us, pk_un] at k) <;> (conv => whnf)
      · have k' : ¬ lnn s.2.1 i 0 = 2 := fun z => k (by rw [z])
        rw [decide_eq_false k'] at hQ
        exact ⟨Or.inl rfl, hQ⟩
      · have k' : lnn s.2.1 i 0 = 2 := nI_inj9 (by omega) (by omega) k
        rw [decide_eq_true k'] at hQ
        refine hC _ _ _ _ _ _ _ _ _ _ (fun _ _ _ _ _ _ q => q) (sp_toldn (s := s) (f := 4) hi (by decide) ho ?_)
        conv => whnf
        refine ⟨fun e => ?_, fun e => ?_⟩ <;> (try simp (disch := omega) only [z_lit, nI_add, pk_mul, z_pr1, z_pr2, nI_clamp, z_m3_40, z_m3_41, z_m3_44, z_m3_u40, z_m3_u41, z_m3_u44, z_m3_m3, pk_us, pk_un] at e) <;> (conv => whnf)
        · rw [decide_eq_false e] at hQ
          exact ⟨Or.inl rfl, hQ⟩
        · rw [decide_eq_true e] at hQ
          exact ⟨Or.inr rfl, hQ⟩
  · have h' : lnn s.2.1 i 0 = 3 := nI_inj9 (by omega) (by omega) h
    rw [decide_eq_true h'] at hQ
    exact ⟨Or.inl rfl, hQ⟩
end
