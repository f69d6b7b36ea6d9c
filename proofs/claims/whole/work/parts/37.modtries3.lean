/-! the model's tries, by kind -/
def m_pair (s : z_sg) (r : z_sg × Int32) (bus t v : Nat) : z_sg × Int32 := (m_tally (m_tally (m_slot r.1 bus (s.1 4)) t r.2) v r.2, r.2)
section
variable {L : Nat} {xs : Nat → Int32} {d : Nat} {kp sp wd : Value} {I : z_I} {s : z_sg} {R : z_R} {J : z_J} {F : z_F} {cn : Nat} {Q : z_Q}
theorem tries_send {bus t u n B : Nat} {line : Int32} (hb : bus < 2) (ht : t < 8) (hu : u < 6) (hn : n ≤ 8) (hs : m_ok s B) (hB : B + 60 < 2 ^ 29) (hQ : Q (some (.int (m_tries s (m_sends s bus t u n) bus t).2)) (z_ms I (m_tries s (m_sends s bus t u n) bus t).1) (z_R0 kp sp wd) J F cn) : z_M (z_X0 L xs) z_P0 (d + 7) m_Mod_tries [.ref 40, .int (nI bus), .int (nI 0), .int (nI t), .int (nI (u + 1)), .int (nI n), .int line] (z_ms I s) (z_R0 kp sp wd) J F cn Q := by
  have ho := oc_sends (s := s) (bus := bus) (t := t) (u := u) (n := n)
  have hs1 := m_sends_ok hb ht hu hn hs (by omega)
  unfold m_tries at hQ
  refine z_WP_gos [7] 1000 fun K C hK hC => ?_
  conv => whnf
  refine hK _ _ _ _ _ _ _ _ _ _ (z_WP_ts 36 rfl (by decide) ?_)
  refine z_WP_gos [123] 1000 fun K C hK hC => ?_
  conv => whnf
  refine hC _ _ _ _ _ _ _ _ _ _ (fun _ _ _ _ _ _ q => q) (sp_sends hb ht hu hn hs (by omega) ?_)
  conv => whnf
  generalize m_sends s bus t u n = r at hQ ho hs1 ⊢
  obtain ⟨r1, r2⟩ := r
  obtain ⟨k, hk, rfl⟩ := ho
  refine hK _ _ _ _ _ _ _ _ _ _ (tl_tries (t := t) hb (by decide) hs1 (by omega) hk (fun _ => ⟨rfl, by omega⟩) ?_)
  rw [if_neg (by decide)]
  exact hQ
theorem tries_get {bus t u n B : Nat} {line : Int32} (hb : bus < 2) (ht : t < 8) (hu : u < 6) (hn : n ≤ 8) (hs : m_ok s B) (hf : m_fine s) (hB : B + 60 < 2 ^ 29) (hQ : Q (some (.int (m_tries s (m_gets s bus t u n) bus t).2)) (z_ms I (m_tries s (m_gets s bus t u n) bus t).1) (z_R0 kp sp wd) J F cn) : z_M (z_X0 L xs) z_P0 (d + 7) m_Mod_tries [.ref 40, .int (nI bus), .int (nI 1), .int (nI t), .int (nI (u + 1)), .int (nI n), .int line] (z_ms I s) (z_R0 kp sp wd) J F cn Q := by
  have ho := oc_gets (s := s) (bus := bus) (t := t) (u := u) (n := n)
  have hs1 := m_gets_ok hb ht hu hn hs (by omega)
  unfold m_tries at hQ
  refine z_WP_gos [7] 1000 fun K C hK hC => ?_
  conv => whnf
  refine hK _ _ _ _ _ _ _ _ _ _ (z_WP_ts 51 rfl (by decide) ?_)
  refine z_WP_gos [123] 1000 fun K C hK hC => ?_
  conv => whnf
  refine hC _ _ _ _ _ _ _ _ _ _ (fun _ _ _ _ _ _ q => q) (sp_gets hb ht hu hn hs hf (by omega) ?_)
  conv => whnf
  generalize m_gets s bus t u n = r at hQ ho hs1 ⊢
  obtain ⟨r1, r2⟩ := r
  obtain ⟨k, hk, rfl⟩ := ho
  refine hK _ _ _ _ _ _ _ _ _ _ (tl_tries (t := t) hb (by decide) hs1 (by omega) hk (fun _ => ⟨rfl, by omega⟩) ?_)
  rw [if_neg (by decide)]
  exact hQ
theorem tries_all {bus u n B : Nat} {line tt : Int32} (hb : bus < 2) (hu : u < 6) (hn : n ≤ 8) (hs : m_ok s B) (hB : B + 60 < 2 ^ 29) (hQ : Q (some (.int (m_tellsAll s bus u n).2)) (z_ms I (m_slot (m_tellsAll s bus u n).1 bus (s.1 4))) (z_R0 kp sp wd) J F cn) : z_M (z_X0 L xs) z_P0 (d + 7) m_Mod_tries [.ref 40, .int (nI bus), .int (nI 3), .int tt, .int (nI (u + 1)), .int (nI n), .int line] (z_ms I s) (z_R0 kp sp wd) J F cn Q := by
  have ho := oc_tellsAll (s := s) (bus := bus) (u := u) (n := n)
  have hs1 := m_tellsAll_ok hb hu hn hs (by omega)
  refine z_WP_gos [7] 1000 fun K C hK hC => ?_
  conv => whnf
  refine hK _ _ _ _ _ _ _ _ _ _ (z_WP_ts 99 rfl (by decide) ?_)
  refine z_WP_gos [123] 1000 fun K C hK hC => ?_
  conv => whnf
  refine hC _ _ _ _ _ _ _ _ _ _ (fun _ _ _ _ _ _ q => q) (sp_tellsAll hb hu hn hs (by omega) ?_)
  conv => whnf
  generalize m_tellsAll s bus u n = r at hQ ho hs1 ⊢
  obtain ⟨r1, r2⟩ := r
  obtain ⟨k, hk, rfl⟩ := ho
  refine hK _ _ _ _ _ _ _ _ _ _ (tl_tries (t := 0) hb (by decide) hs1 (by omega) hk (fun h => absurd rfl h) ?_)
  rw [if_pos rfl]
  exact hQ
theorem tries_mode {bus t code B : Nat} {line sub : Int32} (hb : bus < 2) (ht : t < 9) (hc : code < 32) (hs : m_ok s B) (hB : B + 60 < 2 ^ 29) (hQ : Q (some (.int (m_tries s (m_modes s bus t code) bus t).2)) (z_ms I (m_tries s (m_modes s bus t code) bus t).1) (z_R0 kp sp wd) J F cn) : z_M (z_X0 L xs) z_P0 (d + 7) m_Mod_tries [.ref 40, .int (nI bus), .int (nI 4), .int (nI t), .int sub, .int (nI code), .int line] (z_ms I s) (z_R0 kp sp wd) J F cn Q := by
  have ho := oc_modes (s := s) (bus := bus) (t := t) (code := code)
  have hs1 := m_modes_ok (code := code) hb ht hs (by omega)
  unfold m_tries at hQ
  refine z_WP_gos [7] 1000 fun K C hK hC => ?_
  conv => whnf
  refine hK _ _ _ _ _ _ _ _ _ _ (z_WP_ts 113 rfl (by decide) ?_)
  refine z_WP_gos [123] 1000 fun K C hK hC => ?_
  conv => whnf
  refine hC _ _ _ _ _ _ _ _ _ _ (fun _ _ _ _ _ _ q => q) (sp_modes hb ht hc hs (by omega) ?_)
  conv => whnf
  generalize m_modes s bus t code = r at hQ ho hs1 ⊢
  obtain ⟨r1, r2⟩ := r
  obtain ⟨k, hk, rfl⟩ := ho
  refine hK _ _ _ _ _ _ _ _ _ _ (tl_tries (t := t) hb (by decide) hs1 (by omega) hk (fun _ => ⟨rfl, ht⟩) ?_)
  rw [if_neg (by decide)]
  exact hQ
theorem tries_pass {bus t u v r n ln B : Nat} (hb : bus < 2) (ht : t < 8) (hu : u < 6) (hv : v < 8) (hr : r < 6) (hn : n ≤ 8) (hl : 1584 ≤ ln ∧ ln + 14 ≤ 1920) (h4 : s.2.1 (ln + 4) = nI v) (h5 : s.2.1 (ln + 5) = nI (r + 1)) (hs : m_ok s B) (hB : B + 60 < 2 ^ 29) (hQ : Q (some (.int (m_pair s (m_passes s bus t u v r n) bus t v).2)) (z_ms I (m_pair s (m_passes s bus t u v r n) bus t v).1) (z_R0 kp sp wd) J F cn) : z_M (z_X0 L xs) z_P0 (d + 7) m_Mod_tries [.ref 40, .int (nI bus), .int (nI 2), .int (nI t), .int (nI (u + 1)), .int (nI n), .int (nI ln)] (z_ms I s) (z_R0 kp sp wd) J F cn Q := by
  have ho := oc_passes (s := s) (bus := bus) (t := t) (u := u) (v := v) (r := r) (n := n)
  have hs1 := m_passes_ok hb ht hu hv hr hn hs (by omega)
  have he := (m_passes_o (s := s) (j := ln + 4) hb ht hu hv hr hn (by omega)).trans h4
  unfold m_pair at hQ
  refine z_WP_gos [7] 1000 fun K C hK hC => ?_
  conv => whnf
  refine hK _ _ _ _ _ _ _ _ _ _ (z_WP_ts 66 rfl (by decide) ?_)
  refine z_WP_gos [] 1000 fun K C hK hC => ?_
  conv => whnf
  repeat ((first | refine And.intro (by (conv => arg 2; whnf); (try simp only [z_lit, nI_add, pk_mul, z_pr1, z_pr2]); exact z_in (by omega) (by decide)) ?_ | refine z_bt1 (by decide) ?_ | refine z_bf1 (by decide) ?_ | refine z_bt2 (by decide) ?_ | refine z_bf2 (by decide) ?_); conv => whnf)
  simp (disch := omega) only [z_lit, nI_add, pk_mul, z_pr1, z_pr2, nI_clamp, z_m3_40, z_m3_41, z_m3_44, z_m3_u40, z_m3_u41, z_m3_u44, z_m3_m3, pk_us, pk_un]
  rw [h4, h5]
  refine hC _ _ _ _ _ _ _ _ _ _ (fun _ _ _ _ _ _ q => q) (sp_passes hb ht hu hv hr hn hs (by omega) ?_)
  conv => whnf
  generalize m_passes s bus t u v r n = q at hQ ho hs1 he ⊢
  obtain ⟨r1, r2⟩ := q
  obtain ⟨k, hk, rfl⟩ := ho
  simp only at hQ hs1 he ⊢
  obtain ⟨h1, h2⟩ := m_ok_k hs1 (by omega)
  simp (disch := omega) only [z_lit, nI_add, pk_mul, z_pr1, z_pr2, nI_clamp, z_m3_40, z_m3_41, z_m3_44, z_m3_u40, z_m3_u41, z_m3_u44, z_m3_m3, pk_us, pk_un]
  refine hC _ _ _ _ _ _ _ _ _ _ (fun _ _ _ _ _ _ q => q) (sp_Mod_trails (n := (r1.2.1 10).toNatClampNeg) h1 (by omega) ?_)
  conv => whnf
  simp (disch := omega) only [z_lit, nI_add, pk_mul, z_pr1, z_pr2, nI_clamp, z_m3_40, z_m3_41, z_m3_44, z_m3_u40, z_m3_u41, z_m3_u44, z_m3_m3, pk_us, pk_un]
  refine hC _ _ _ _ _ _ _ _ _ _ (fun _ _ _ _ _ _ q => q) (sp_counts (s := (upd r1.1 4 (r1.1 4 + nI 4), s_trails r1.2.1 (r1.2.1 10).toNatClampNeg (nI (100 + bus)), r1.2.2)) hb ?_)
  conv => whnf
  have he2 : (m_slot r1 bus (s.1 4)).2.1 (ln + 4) = nI v := (m_slot_o hb (by omega)).trans he
  change (m_counts (upd r1.1 4 (r1.1 4 + nI 4), s_trails r1.2.1 (r1.2.1 10).toNatClampNeg (nI (100 + bus)), r1.2.2) bus (r1.1 4 + nI 4 - s.1 4)).2.1 (ln + 4) = nI v at he2
  change Q _ (z_ms I (m_tally (m_tally (m_counts (upd r1.1 4 (r1.1 4 + nI 4), s_trails r1.2.1 (r1.2.1 10).toNatClampNeg (nI (100 + bus)), r1.2.2) bus (r1.1 4 + nI 4 - s.1 4)) t (nI k)) v (nI k))) (z_R0 kp sp wd) J F cn at hQ
  repeat ((first | refine And.intro (by (conv => arg 2; whnf); (try simp only [z_lit, nI_add, pk_mul, z_pr1, z_pr2]); exact z_in (by omega) (by decide)) ?_ | refine z_bt1 (by decide) ?_ | refine z_bf1 (by decide) ?_ | refine z_bt2 (by decide) ?_ | refine z_bf2 (by decide) ?_); conv => whnf)
  simp (disch := omega) only [z_lit, nI_add, pk_mul, z_pr1, z_pr2, nI_clamp, z_m3_40, z_m3_41, z_m3_44, z_m3_u40, z_m3_u41, z_m3_u44, z_m3_m3, pk_us, pk_un]
  generalize m_counts (upd r1.1 4 (r1.1 4 + nI 4), s_trails r1.2.1 (r1.2.1 10).toNatClampNeg (nI (100 + bus)), r1.2.2) bus (r1.1 4 + nI 4 - s.1 4) = s3 at hQ he2 ⊢
  rw [he2]
  repeat ((first | refine And.intro (by (conv => arg 2; whnf); (try simp only [z_lit, nI_add, pk_mul, z_pr1, z_pr2]); exact z_in (by omega) (by decide)) ?_ | refine z_bt1 (by decide) ?_ | refine z_bf1 (by decide) ?_ | refine z_bt2 (by decide) ?_ | refine z_bf2 (by decide) ?_); conv => whnf)
  unfold m_tally m_w at hQ
  simp only [nI_clamp (show k < 2 ^ 31 by omega)] at hQ
  refine z_Qi hQ rfl ?_
  simp (disch := omega) only [z_lit, nI_add, pk_mul, z_pr1, z_pr2, nI_clamp, z_m3_40, z_m3_41, z_m3_44, z_m3_u40, z_m3_u41, z_m3_u44, z_m3_m3, pk_us, pk_un]
end
