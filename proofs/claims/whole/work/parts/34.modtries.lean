/-! the model's tries -/
def m_counts (s : z_sg) (bus : Nat) (took : Int32) : z_sg :=
  let w1 := upd (upd s.2.1 (2305 + 5 * bus + 2) (s.2.1 (2305 + 5 * bus + 2) + nI 1)) (2305 + 5 * bus + 2 + 1) (s.2.1 (2305 + 5 * bus + 2 + 1) + took)
  (s.1, upd w1 (2305 + 5 * bus + 2 + 2) (if took ≤ s.2.1 (2305 + 5 * bus + 2 + 2) then s.2.1 (2305 + 5 * bus + 2 + 2) else took), s.2.2)
def m_slot (s : z_sg) (bus : Nat) (fr : Int32) : z_sg :=
  let s1 := m_trails s (nI (100 + bus))
  m_counts (upd s1.1 4 (s1.1 4 + nI 4), s1.2.1, s1.2.2) bus (s1.1 4 + nI 4 - fr)
def m_tally (s : z_sg) (t : Nat) (is : Int32) : z_sg := m_w s (2260 + 5 * t + is.toNatClampNeg) (s.2.1 (2260 + 5 * t + is.toNatClampNeg) + nI 1)
def oc (v : Int32) : Prop := ∃ k, k ≤ 4 ∧ v = nI k
def m_tries (s : z_sg) (r : z_sg × Int32) (bus t : Nat) : z_sg × Int32 := (m_tally (m_slot r.1 bus (s.1 4)) t r.2, r.2)
section
variable {L : Nat} {xs : Nat → Int32} {d : Nat} {kp sp wd : Value} {I : z_I} {s : z_sg} {R : z_R} {J : z_J} {F : z_F} {cn : Nat} {Q : z_Q}
theorem sp_counts {bus : Nat} {took : Int32} (hb : bus < 2) (hQ : Q none (z_ms I (m_counts s bus took)) (z_R0 kp sp wd) J F cn) : z_M (z_X0 L xs) z_P0 d m_Mod_counts [.ref 40, .int (nI bus), .int took] (z_ms I s) (z_R0 kp sp wd) J F cn Q := by
  unfold m_counts at hQ
  simp only at hQ
  refine z_WP_gos [] 1000 fun K C hK hC => ?_
  conv => whnf
  repeat ((first | refine And.intro (by (conv => arg 2; whnf); (try simp only [z_lit, nI_add, pk_mul, z_pr1, z_pr2]); exact z_in (by omega) (by decide)) ?_ | refine z_bt1 (by decide) ?_ | refine z_bf1 (by decide) ?_ | refine z_bt2 (by decide) ?_ | refine z_bf2 (by decide) ?_); conv => whnf)
  simp (disch := omega) only [z_lit, nI_add, pk_mul, z_pr1, z_pr2, nI_clamp, z_m3_40, z_m3_41, z_m3_44, z_m3_u40, z_m3_u41, z_m3_u44, z_m3_m3, pk_us, pk_un]
  refine ⟨fun h => ?_, fun h => ?_⟩ <;> (try simp (disch := omega) only [z_lit, nI_add, pk_mul, z_pr1, z_pr2, nI_clamp, z_m3_40, z_m3_41, z_m3_44, z_m3_u40, z_m3_u41, z_m3_u44, z_m3_m3, pk_us, pk_un] at h) <;> (conv => whnf)
  · rw [if_pos h] at hQ
    repeat ((first | refine And.intro (by (conv => arg 2; whnf); (try simp only [z_lit, nI_add, pk_mul, z_pr1, z_pr2]); exact z_in (by omega) (by decide)) ?_ | refine z_bt1 (by decide) ?_ | refine z_bf1 (by decide) ?_ | refine z_bt2 (by decide) ?_ | refine z_bf2 (by decide) ?_); conv => whnf)
    refine z_Qv hQ ?_
    simp (disch := omega) only [z_lit, nI_add, pk_mul, z_pr1, z_pr2, nI_clamp, z_m3_40, z_m3_41, z_m3_44, z_m3_u40, z_m3_u41, z_m3_u44, z_m3_m3, pk_us, pk_un]
  · rw [if_neg h] at hQ
    repeat ((first | refine And.intro (by (conv => arg 2; whnf); (try simp only [z_lit, nI_add, pk_mul, z_pr1, z_pr2]); exact z_in (by omega) (by decide)) ?_ | refine z_bt1 (by decide) ?_ | refine z_bf1 (by decide) ?_ | refine z_bt2 (by decide) ?_ | refine z_bf2 (by decide) ?_); conv => whnf)
    refine z_Qv hQ ?_
    simp (disch := omega) only [z_lit, nI_add, pk_mul, z_pr1, z_pr2, nI_clamp, z_m3_40, z_m3_41, z_m3_44, z_m3_u40, z_m3_u41, z_m3_u44, z_m3_m3, pk_us, pk_un]
theorem oc_q : oc (nI 1) := ⟨1, by omega, rfl⟩
theorem oc_j {w : Nat → Int32} {t : Nat} : oc (s_judged w t) := by
  unfold s_judged
  split
  · exact ⟨3, by omega, rfl⟩
  · split
    · exact ⟨4, by omega, rfl⟩
    · exact ⟨0, by omega, rfl⟩
theorem oc_ends {bus t : Nat} : oc (m_ends s bus t).2 := by
  unfold m_ends
  simp only
  cases s_shut (m_last s t).2.1 t bus
  · simp only [cond_false]
    split
    · exact oc_j
    · exact ⟨2, by omega, rfl⟩
  · exact oc_q
theorem oc_sends {bus t u n : Nat} : oc (m_sends s bus t u n).2 := by
  unfold m_sends
  simp only
  cases (s_hear _ t bus && _)
  · exact oc_q
  · simp only [cond_true]
    split
    · exact oc_ends
    · exact oc_q
theorem oc_tw {bus t u n : Nat} : oc (m_tw s bus t u n).2 := by
  unfold m_tw
  simp only
  cases s_shut _ t bus
  · simp only [cond_false]
    split
    · exact oc_j
    · exact ⟨2, by omega, rfl⟩
  · exact oc_q
theorem oc_gets {bus t u n : Nat} : oc (m_gets s bus t u n).2 := by
  unfold m_gets
  simp only
  cases (s_hear _ t bus && _)
  · exact oc_q
  · simp only [cond_true]
    split
    · exact ⟨0, by omega, rfl⟩
    · exact oc_tw
theorem oc_passes {bus t u v r n : Nat} : oc (m_passes s bus t u v r n).2 := by
  unfold m_passes
  simp only
  cases (s_hear (bif _ then _ else _ : z_sg).2.1 t bus && _)
  · exact oc_q
  · simp only [cond_true]
    split
    · cases (s_hear _ v bus && _)
      · exact oc_q
      · exact oc_ends
    · exact oc_tw
theorem oc_tellsAll {bus u n : Nat} : oc (m_tellsAll s bus u n).2 := by
  unfold m_tellsAll
  cases s_held s.2.1 bus
  · exact ⟨0, by omega, rfl⟩
  · exact ⟨2, by omega, rfl⟩
theorem oc_toFirst {bus : Nat} : oc (m_toFirst s bus).2 := by
  unfold m_toFirst
  simp only
  split
  · exact oc_q
  · split
    · exact ⟨0, by omega, rfl⟩
    · exact ⟨2, by omega, rfl⟩
theorem oc_tellsMode {bus t code : Nat} : oc (m_tellsMode s bus t code).2 := by
  unfold m_tellsMode
  simp only
  cases s_shut s.2.1 t bus
  · simp only [cond_false]
    generalize m_answers _ bus t _ = r
    by_cases h : r.2 = nI 0
    · rw [if_pos h]
      cases s_apart code
      · exact oc_j
      · exact ⟨0, by omega, rfl⟩
    · rw [if_neg h]; exact ⟨2, by omega, rfl⟩
  · exact oc_q
theorem oc_modes {bus t code : Nat} : oc (m_modes s bus t code).2 := by
  unfold m_modes
  split
  · exact oc_toFirst
  · simp only
    generalize m_lays _ bus _ _ = r
    cases (s_hear _ t bus && _)
    · exact oc_q
    · simp only [cond_true]
      by_cases h : r.2 = nI 0
      · rw [if_pos h]; exact oc_tellsMode
      · rw [if_neg h]; exact oc_q
/-- behind a message -/
theorem tl_tries {bus t B k : Nat} {kind sub n line fr : Int32} {tt : Int32} (hb : bus < 2) (hk : ¬ kind = nI 2) (hs : m_ok s B) (hB : B < 2 ^ 29) (ho : k ≤ 4) (ht : ¬ kind = nI 3 → tt = nI t ∧ t < 9)
    (hQ : Q (some (.int (nI k))) (z_ms I (if kind = nI 3 then m_slot s bus fr else m_tally (m_slot s bus fr) t (nI k))) (z_R0 kp sp wd) J F cn) :
    z_WP (z_X0 L xs) z_P0 (d + 7) m_Mod_tries 123 [some (.ref 40), some (.int (nI bus)), some (.int kind), some (.int tt), some (.int sub), some (.int n), some (.int line), some (.int (nI k)), some (.int fr)] [] (z_ms I s) (z_R0 kp sp wd) J F cn 0 0 Q := by
  obtain ⟨h1, h2⟩ := m_ok_k hs hB
  refine z_WP_gos [] 1000 fun K C hK hC => ?_
  conv => whnf
  simp (disch := omega) only [z_lit, nI_add, pk_mul, z_pr1, z_pr2, nI_clamp, z_m3_40, z_m3_41, z_m3_44, z_m3_u40, z_m3_u41, z_m3_u44, z_m3_m3, pk_us, pk_un]
  refine hC _ _ _ _ _ _ _ _ _ _ (fun _ _ _ _ _ _ q => q) (sp_Mod_trails (n := (s.2.1 10).toNatClampNeg) h1 (by omega) ?_)
  conv => whnf
  simp (disch := omega) only [z_lit, nI_add, pk_mul, z_pr1, z_pr2, nI_clamp, z_m3_40, z_m3_41, z_m3_44, z_m3_u40, z_m3_u41, z_m3_u44, z_m3_m3, pk_us, pk_un]
  refine hC _ _ _ _ _ _ _ _ _ _ (fun _ _ _ _ _ _ q => q) (sp_counts (s := (upd s.1 4 (s.1 4 + nI 4), s_trails s.2.1 (s.2.1 10).toNatClampNeg (nI (100 + bus)), s.2.2)) hb ?_)
  conv => whnf
  refine ⟨fun h => ?_, fun h => ?_⟩ <;> (try simp (disch := omega) only [z_lit, nI_add, pk_mul, z_pr1, z_pr2, nI_clamp, z_m3_40, z_m3_41, z_m3_44, z_m3_u40, z_m3_u41, z_m3_u44, z_m3_m3, pk_us, pk_un] at h) <;> (conv => whnf)
  · repeat ((first | refine And.intro (by (conv => arg 2; whnf); (try simp only [z_lit, nI_add, pk_mul, z_pr1, z_pr2]); exact z_in (by omega) (by decide)) ?_ | refine z_bt1 (by decide) ?_ | refine z_bf1 (by decide) ?_ | refine z_bt2 (by decide) ?_ | refine z_bf2 (by decide) ?_ | refine z_bt1 (by first | exact hk) ?_ | refine z_bf1 (by first | exact hk) ?_ | refine z_bt2 (by first | exact hk) ?_ | refine z_bf2 (by first | exact hk) ?_); conv => whnf)
    simp only [h, if_true] at hQ
    exact hQ
  · simp only [h, if_false] at hQ
    obtain ⟨rfl, ht9⟩ := ht h
    repeat ((first | refine And.intro (by (conv => arg 2; whnf); (try simp only [z_lit, nI_add, pk_mul, z_pr1, z_pr2]); exact z_in (by omega) (by decide)) ?_ | refine z_bt1 (by decide) ?_ | refine z_bf1 (by decide) ?_ | refine z_bt2 (by decide) ?_ | refine z_bf2 (by decide) ?_); conv => whnf)
    simp (disch := omega) only [z_lit, nI_add, pk_mul, z_pr1, z_pr2, nI_clamp, z_m3_40, z_m3_41, z_m3_44, z_m3_u40, z_m3_u41, z_m3_u44, z_m3_m3, pk_us, pk_un]
    repeat ((first | refine And.intro (by (conv => arg 2; whnf); (try simp only [z_lit, nI_add, pk_mul, z_pr1, z_pr2]); exact z_in (by omega) (by decide)) ?_ | refine z_bt1 (by decide) ?_ | refine z_bf1 (by decide) ?_ | refine z_bt2 (by decide) ?_ | refine z_bf2 (by decide) ?_ | refine z_bt1 (by first | exact hk) ?_ | refine z_bf1 (by first | exact hk) ?_ | refine z_bt2 (by first | exact hk) ?_ | refine z_bf2 (by first | exact hk) ?_); conv => whnf)
    unfold m_tally m_w at hQ
    rw [nI_clamp (by omega)] at hQ
    refine z_Qi hQ rfl ?_
    rfl
end
