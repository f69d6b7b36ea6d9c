/-! the class's lines -/
def pS (I : z_I) (w : Nat → Int32) : Prop := I 18 5 = w 8 ∧ ∀ i, i < (w 8).toNatClampNeg → I 19 (i * 11 + 0) = nI (lnn w i 0) ∧ I 19 (i * 11 + 1) = nI (lnn w i 1) ∧ I 19 (i * 11 + 2) = nI (lnn w i 2) ∧ I 19 (i * 11 + 3) = nI (lnn w i 4) ∧ I 19 (i * 11 + 4) = nI (lnn w i 5) ∧ I 19 (i * 11 + 5) = nI (l_n w i) ∧ I 19 (i * 11 + 6) = nI (lnn w i 6) ∧ I 19 (i * 11 + 7) = nI (lnn w i 7) ∧ I 19 (i * 11 + 8) = nI (lnn w i 9) ∧ I 19 (i * 11 + 9) = nI (lnn w i 8) ∧ I 19 (i * 11 + 10) = nI (s_time w i)
def pD (I : z_I) (w : Nat → Int32) : Prop := (∀ i, i < (w 8).toNatClampNeg → I 21 i = w (1584 + 14 * i + 11) ∧ I 22 i = w (1584 + 14 * i + 13) ∧ w (1584 + 14 * i + 12) = w (2572 + 8 * i)) ∧ ∀ j, j < 192 → I 20 j = w (2572 + j)
def jR (f c w : Nat → Int32) (n : Nat) : Prop := f 0 = nI 60 ∧ f 1 = nI 5 ∧ f 3 = nI (n % 60) ∧ f 4 = nI n ∧ w 9 = nI n ∧ ∀ j, j < 300 → c j = w (1920 + j)
theorem pS_c {I I' : z_I} {w w' : Nat → Int32} (h : pS I w) (hI : I' 18 5 = I 18 5) (h19 : I' 19 = I 19) (h8 : w' 8 = w 8) (h24 : (w 8).toNatClampNeg ≤ 24) (hw : ∀ i f, i < 24 → f < 11 → w' (1584 + 14 * i + f) = w (1584 + 14 * i + f)) : pS I' w' := by
  have hl : ∀ i f, i < 24 → f < 11 → lnn w' i f = lnn w i f := fun i f a b => by unfold lnn; rw [hw i f a b]
  refine ⟨by rw [hI, h8]; exact h.1, fun i hi => ?_⟩
  rw [h8] at hi
  have hi24 : i < 24 := by omega
  have q := h.2 i hi
  have ht : s_time w' i = s_time w i := by unfold s_time; rw [hl i 0 hi24 (by omega), hl i 3 hi24 (by omega), hl i 10 hi24 (by omega)]
  have hn : l_n w' i = l_n w i := by unfold l_n; rw [hl i 0 hi24 (by omega), hl i 3 hi24 (by omega), hl i 10 hi24 (by omega)]
  rw [h19, hl i 0 hi24 (by omega), hl i 1 hi24 (by omega), hl i 2 hi24 (by omega), hl i 4 hi24 (by omega), hl i 5 hi24 (by omega), hl i 6 hi24 (by omega), hl i 7 hi24 (by omega), hl i 8 hi24 (by omega), hl i 9 hi24 (by omega), ht, hn]
  exact q
section
variable {L : Nat} {xs : Nat → Int32} {d : Nat} {kp sp wd : Value} {I : z_I} {s : z_sg} {R : z_R} {J : z_J} {F : z_F} {cn : Nat} {Q : z_Q} {n k bus : Nat} {f0 : Int32} {w : Nat → Int32}
theorem cp_told {i f : Nat} {v : Int32} (hi : i < 24) (hf : f < 11) (hv : I 19 (i * 11 + f) = v) (hQ : Q (some (.int v)) I (z_R0 kp sp wd) J F cn) : z_M (z_X0 L xs) z_P0 d m_Plan_told [.ref 18, .int (nI i), .int (nI f)] I (z_R0 kp sp wd) J F cn Q := by
  refine z_WP_gos [] 1000 fun K C hK hC => ?_
  conv => whnf
  repeat ((first | refine And.intro (by (conv => arg 2; whnf); (try simp only [z_lit, nI_add, pk_mul, z_pr1, z_pr2]); exact z_in (by omega) (by decide)) ?_ | refine z_bt1 (by decide) ?_ | refine z_bf1 (by decide) ?_ | refine z_bt2 (by decide) ?_ | refine z_bf2 (by decide) ?_); conv => whnf)
  refine z_Qi hQ ?_ rfl
  simp (disch := omega) only [z_lit, nI_add, pk_mul, z_pr1, z_pr2, nI_clamp, z_up_row, z_row_s, z_row_n, z_row_row, pk_us, pk_un]
  exact hv
theorem s_due_and {w : Nat → Int32} {i f : Nat} (ho : ln_ok w i) (hf : f < 2 ^ 30) : (nI f &&& (nI (lnn w i 6) - nI 1) = nI (lnn w i 7)) ↔ s_due w i f = true := by
  have hp := ho.2.2.2.2.2.2.2.2.2.2.2.1
  have hq := ho.2.2.2.2.2.2.2.2.2.2.2.2.1
  have e : nI f &&& (nI (lnn w i 6) - nI 1) = nI (f % lnn w i 6) := by
    rcases hp with z | z | z | z <;> rw [z]
    · rw [show nI 1 - nI 1 = nI 0 from rfl, pk_andN (by omega) 0 (by decide)]
    · rw [show nI 2 - nI 1 = nI 1 from rfl, pk_andN (by omega) 1 (by decide)]
    · rw [show nI 4 - nI 1 = nI 3 from rfl, pk_andN (by omega) 2 (by decide)]
    · rw [show nI 8 - nI 1 = nI 7 from rfl, pk_andN (by omega) 3 (by decide)]
  have hm : f % lnn w i 6 < lnn w i 6 := Nat.mod_lt _ (by omega)
  rw [e]
  unfold s_due
  rw [decide_eq_true_eq]
  exact ⟨fun h => nI_inj9 (by omega) (by omega) h, fun h => by rw [h]⟩
theorem cp_isDue {i f : Nat} (hp : pS I w) (hi : i < (w 8).toNatClampNeg) (h24 : (w 8).toNatClampNeg ≤ 24) (ho : ln_ok w i) (hf : f < 2 ^ 30) (hQ : Q (some (.int (z_bi (s_due w i f)))) I (z_R0 kp sp wd) J F cn) : z_M (z_X0 L xs) z_P0 (d + 1) m_Plan_isDue [.ref 18, .int (nI i), .int (nI f)] I (z_R0 kp sp wd) J F cn Q := by
  obtain ⟨-, -, -, -, -, -, e6, e7, -⟩ := hp.2 i hi
  refine z_WP_gos [] 1000 fun K C hK hC => ?_
  conv => whnf
  refine hC _ _ _ _ _ _ _ _ _ _ (fun _ _ _ _ _ _ q => q) (cp_told (f := 6) (by omega) (by decide) e6 ?_)
  conv => whnf
  refine hC _ _ _ _ _ _ _ _ _ _ (fun _ _ _ _ _ _ q => q) (cp_told (f := 7) (by omega) (by decide) e7 ?_)
  conv => whnf
  refine ⟨fun g => ?_, fun g => ?_⟩
  · conv => whnf
    refine z_Q0 hQ ?_
    cases hd : s_due w i f
    · rfl
    · exact absurd ((s_due_and ho hf).mpr hd) g
  · conv => whnf
    exact z_Q1 hQ ((s_due_and ho hf).mp g)
theorem cp_touches {i : Nat} (hp : pS I w) (hi : i < (w 8).toNatClampNeg) (h24 : (w 8).toNatClampNeg ≤ 24) (ho : ln_ok w i) (hQ : Q (some (.int (z_bi (s_toC w i)))) I (z_R0 kp sp wd) J F cn) : z_M (z_X0 L xs) z_P0 (d + 1) m_Plan_touches [.ref 18, .int (nI i), .int (w 3)] I (z_R0 kp sp wd) J F cn Q := by
  obtain ⟨e0, e1, -, e3, -⟩ := hp.2 i hi
  have hk := ho.2.1
  unfold s_toC at hQ
  refine z_WP_gos [] 1000 fun K C hK hC => ?_
  conv => whnf
  refine hC _ _ _ _ _ _ _ _ _ _ (fun _ _ _ _ _ _ q => q) (cp_told (f := 0) (by omega) (by decide) e0 ?_)
  conv => whnf
  refine ⟨fun h => ?_, fun h => ?_⟩ <;> (try simp (disch := omega) only [z_lit, nI_add, pk_mul, z_pr1, z_pr2, nI_clamp, z_up_row, z_row_s, z_row_n, z_row_row, pk_us, pk_un] at h) <;> (conv => whnf)
  · have h' : lnn w i 0 = 3 := nI_inj9 (by omega) (by omega) h
    have h2 : ¬ nI (lnn w i 0) = nI 2 := by rw [h']; decide
    rw [decide_eq_true h'] at hQ
    repeat ((first | refine And.intro (by (conv => arg 2; whnf); (try simp only [z_lit, nI_add, pk_mul, z_pr1, z_pr2]); exact z_in (by omega) (by decide)) ?_ | refine z_bt1 (by decide) ?_ | refine z_bf1 (by decide) ?_ | refine z_bt2 (by decide) ?_ | refine z_bf2 (by decide) ?_ | refine z_bt1 (by first | exact h2) ?_ | refine z_bf1 (by first | exact h2) ?_ | refine z_bt2 (by first | exact h2) ?_ | refine z_bf2 (by first | exact h2) ?_); conv => whnf)
    exact z_Q0 hQ rfl
  · have h' : ¬ lnn w i 0 = 3 := fun z => h (by rw [z])
    rw [decide_eq_false h'] at hQ
    refine hC _ _ _ _ _ _ _ _ _ _ (fun _ _ _ _ _ _ q => q) (cp_told (f := 1) (by omega) (by decide) e1 ?_)
    conv => whnf
    refine ⟨fun g => ?_, fun g => ?_⟩ <;> (try simp (disch := omega) only [z_lit, nI_add, pk_mul, z_pr1, z_pr2, nI_clamp, z_up_row, z_row_s, z_row_n, z_row_row, pk_us, pk_un] at g) <;> (conv => whnf)
    · rw [decide_eq_true g] at hQ
      exact z_Q1 hQ rfl
    · rw [decide_eq_false g] at hQ
      refine ⟨fun e => ?_, fun e => ?_⟩ <;> (try simp (disch := omega) only [z_lit, nI_add, pk_mul, z_pr1, z_pr2, nI_clamp, z_up_row, z_row_s, z_row_n, z_row_row, pk_us, pk_un] at e) <;> (conv => whnf)
      · have e' : ¬ lnn w i 0 = 2 := fun z => e (by rw [z])
        rw [decide_eq_false e'] at hQ
        exact z_Q0 hQ rfl
      · have e' : lnn w i 0 = 2 := nI_inj9 (by omega) (by omega) e
        rw [decide_eq_true e'] at hQ
        refine hC _ _ _ _ _ _ _ _ _ _ (fun _ _ _ _ _ _ q => q) (cp_told (f := 3) (by omega) (by decide) e3 ?_)
        conv => whnf
        refine ⟨fun k => ?_, fun k => ?_⟩ <;> (try simp (disch := omega) only [z_lit, nI_add, pk_mul, z_pr1, z_pr2, nI_clamp, z_up_row, z_row_s, z_row_n, z_row_row, pk_us, pk_un] at k) <;> (conv => whnf)
        · rw [decide_eq_false k] at hQ
          exact z_Q0 hQ rfl
        · rw [decide_eq_true k] at hQ
          exact z_Q1 hQ rfl
theorem ca_try1 {i : Nat} (hi : i < 24) (ho : ln_ok s.2.1 i) (h : yR I F s n k) (hg : gW s.2.1) (hb : bus < 2) (hn : n + 60 < 2 ^ 30) (hk : k + 6 < 2 ^ 30)
    (hQ : ∀ I' F' n' k', yR I' F' (m_try1 s i bus).1 n' k' → yT I' s (m_try1 s i bus).1 → n' ≤ n + 30 → k' ≤ k + 5 → fr cT I I' → (∀ b, b ≠ 8 → F' b = F b) → (lnn s.2.1 i 0 = 5 → (m_try1 s i bus).2 = nI 0 → (I' 30 0 &&& nI 2 = nI 0 ↔ (m_try1 s i bus).1.1 6 = nI 0)) → Q (some (.int (m_try1 s i bus).2)) I' (z_R0 kp sp wd) J F' cn) :
    z_M (z_X0 L xs) z_P0 (d + 5) m_Trial_attempt [.ref 29, .int (nI bus), .int (nI (lnn s.2.1 i 0)), .int (nI (lnn s.2.1 i 1)), .int (nI (lnn s.2.1 i 2)), .int (nI (l_n s.2.1 i)), .int (nI (lnn s.2.1 i 4)), .int (nI (lnn s.2.1 i 5))] I (z_R0 kp sp wd) J F cn Q := by
  have ht := ln_t ho
  have fF : ∀ b, b ≠ 8 → F b = F b := fun _ _ => rfl
  unfold l_n
  rcases ln_k ho with z | z | z | z | z | z
  · rw [try1_k0 z] at hQ
    obtain ⟨a, b, c, e⟩ := ln_s ho (by omega)
    rw [if_neg (by omega), if_neg (by omega), z, ← b]
    exact ca_send h hb (ht.2 (by omega)) a e hn hk (fun I' n' k' x t' n1 k1 f' => hQ I' F n' k' x t' n1 k1 f' fF (fun q => by omega))
  · rw [try1_k1 z] at hQ
    obtain ⟨a, b, c, e⟩ := ln_s ho (by omega)
    rw [if_neg (by omega), if_neg (by omega), z, ← b]
    exact ca_get h hg hb (ht.2 (by omega)) a c e hn hk (fun I' F' n' k' x t' n1 k1 f' fF' => hQ I' F' n' k' x t' n1 k1 f' fF' (fun q => by omega))
  · rw [try1_k2 z] at hQ
    obtain ⟨a, b, c, e⟩ := ln_s ho (by omega)
    obtain ⟨p1, p2, p3, p4⟩ := ln_p ho z
    rw [if_neg (by omega), if_neg (by omega), z, ← b, ← p3]
    exact ca_pass h hb (ht.2 (by omega)) a p1 p2 p4 e hn hk (fun I' n' k' x t' n1 k1 f' => hQ I' F n' k' x t' n1 k1 f' fF (fun q => by omega))
  · rw [try1_3a z, try1_3b z] at hQ
    obtain ⟨a, b, c, e⟩ := ln_s ho (by omega)
    rw [if_neg (by omega), if_neg (by omega), z, ← b]
    exact ca_all h hb a e hn hk (fun I' n' k' x t' n1 k1 f' => hQ I' F n' k' x t' n1 k1 f' fF (fun q => by omega))
  · rw [try1_k4 z] at hQ
    rw [if_pos z, z]
    exact ca_mode h (Or.inl rfl) hb ht.1 (ln_c ho) (fun q => absurd q (by have := ht.2 (by omega); omega)) hn hk (fun I' n' k' x t' n1 k1 f' _ => hQ I' F n' k' x t' n1 k1 f' fF (fun q => by omega))
  · rw [try1_k5 z] at hQ
    rw [if_neg (by omega), if_pos z, z]
    exact ca_mode h (Or.inr rfl) hb ht.1 (by omega) (fun _ => rfl) hn hk (fun I' n' k' x t' n1 k1 f' tk => hQ I' F n' k' x t' n1 k1 f' fF (fun _ => tk rfl))
end
