section
variable {L : Nat} {xs : Nat → Int32} {d : Nat} {kp sp wd : Value} {I : z_I} {s : z_sg} {R : z_R} {J : z_J} {F : z_F} {cn : Nat} {Q : z_Q} {n k bus : Nat} {f0 : Int32}
theorem ct_pass {t u v r m : Nat} (h : xR I F s n k bus f0) (hb : bus < 2) (ht : t < 8) (hu : u < 6) (hv : v < 8) (hr : r < 6) (htv : v ≠ t) (hm : m ≤ 8) (hn : n + 40 < 2 ^ 30) (hk : k + 3 < 2 ^ 30)
    (hQ : ∀ I' n' k', xR I' F (m_passes s bus t u v r m).1 n' k' bus f0 → n' ≤ n + 30 → k' ≤ k + 3 → fr cT I I' → Q (some (.int (m_passes s bus t u v r m).2)) I' (z_R0 kp sp wd) J F cn) :
    z_M (z_X0 L xs) z_P0 (d + 4) m_Trial_pass [.ref 29, .int (nI t), .int (nI (u + 1)), .int (nI m), .int (nI v), .int (nI (r + 1))] I (z_R0 kp sp wd) J F cn Q := by
  have hc0 : b16 (s_cmd (nI v) (nI 0) (nI (r + 1)) (nI m)) := s_cmd_b (by omega) (by omega) (by omega) (by omega)
  have hc1 : b16 (s_cmd (nI t) (nI 1) (nI (u + 1)) (nI m)) := s_cmd_b (by omega) (by omega) (by omega) (by omega)
  rw [m_passes_eq hb ht hv htv] at hQ
  simp only at hQ
  generalize hcc0 : s_cmd (nI v) (nI 0) (nI (r + 1)) (nI m) = c0 at hc0 hQ
  generalize hcc1 : s_cmd (nI t) (nI 1) (nI (u + 1)) (nI m) = c1 at hc1 hQ
  refine z_WP_gos [93] 1000 fun K C hK hC => ?_
  conv => whnf
  refine hC _ _ _ _ _ _ _ _ _ _ (fun _ _ _ _ _ _ q => q) (ct_encode ?_)
  conv => whnf
  refine hC _ _ _ _ _ _ _ _ _ _ (fun _ _ _ _ _ _ q => q) (ct_encode ?_)
  conv => whnf
  repeat ((first | refine And.intro (by (conv => arg 2; whnf); (try simp only [z_lit, nI_add, pk_mul, z_pr1, z_pr2]); exact z_in (by omega) (by decide)) ?_ | refine z_bt1 (by decide) ?_ | refine z_bf1 (by decide) ?_ | refine z_bt2 (by decide) ?_ | refine z_bf2 (by decide) ?_); conv => whnf)
  simp (disch := omega) only [z_lit, nI_add, pk_mul, z_pr1, z_pr2, nI_clamp, z_up_row, z_row_s, z_row_n, z_row_row, pk_us, pk_un]
  rw [hcc0, hcc1]
  have x0 : xR (z_row I 30 (upd (upd (I 30) 0 c0) 1 c1)) F (s.1, s.2.1, upd (upd s.2.2 0 c0) 1 c1) n k bus f0 := xR_30 h (fun b hb => z_row_n _ _ hb) rfl rfl
  have hy : ∀ j, j < 2 → (z_row I 30 (upd (upd (I 30) 0 c0) 1 c1)) 30 j = ((s.1, s.2.1, upd (upd s.2.2 0 c0) 1 c1) : z_sg).2.2 j ∧ b16 (((s.1, s.2.1, upd (upd s.2.2 0 c0) 1 c1) : z_sg).2.2 j) := fun j hj => by
    rcases (show j = 0 ∨ j = 1 by omega) with e | e <;> subst e
    · exact ⟨rfl, hc0⟩
    · exact ⟨rfl, hc1⟩
  have f0' : fr cT I (z_row I 30 (upd (upd (I 30) 0 c0) 1 c1)) := fr_w fr_r (by decide)
  rw [show s.2.1 3 = ((s.1, s.2.1, upd (upd s.2.2 0 c0) 1 c1) : z_sg).2.1 3 from rfl] at hQ
  generalize ((s.1, s.2.1, upd (upd s.2.2 0 c0) 1 c1) : z_sg) = s0 at *
  generalize z_row I 30 (upd (upd (I 30) 0 c0) 1 c1) = I0 at *
  refine hC _ _ _ _ _ _ _ _ _ _ (fun _ _ _ _ _ _ q => q) (ct_say (s := s0) (many := 2) x0 hb (by omega) (by omega) (by omega) hy (fun I1 x1 e1 f1 => ?_))
  conv => whnf
  have f1' := fr_t f0' f1
  generalize m_lays s0 bus (s0.2.1 3) 2 = l at *
  obtain ⟨l1, tu⟩ := l
  simp only at x1 hQ ⊢
  refine hC _ _ _ _ _ _ _ _ _ _ (fun _ _ _ _ _ _ q => q) (ct_reaches x1 hv ?_)
  conv => whnf
  try simp only [z_lit]
  rw [Bool.and_comm (decide (tu &&& nI 1 = nI 0))]
  generalize (s_hear l1.2.1 v bus && decide (tu &&& nI 1 = nI 0)) = he at hQ ⊢
  have hs2 := stt_begins (s := l1) (t := v) (c := c0) hv
  have o2 : ∀ j, 192 ≤ j → (m_begins l1 v c0).2.1 j = l1.2.1 j := fun j hj => m_begins_o (by omega) (by omega) (by omega) (by omega)
  refine hC _ _ _ _ _ _ _ _ _ _ (fun _ _ _ _ _ _ q => q) (ct_reaches x1 ht ?_)
  conv => whnf
  try simp only [z_lit]
  rw [Bool.and_comm (decide (tu &&& nI 2 = nI 0))]
  generalize (s_hear l1.2.1 t bus && decide (tu &&& nI 2 = nI 0)) = hr2 at hQ ⊢
  cases hr2
  · simp only [cond_false] at hQ
    repeat ((first | refine And.intro (by (conv => arg 2; whnf); (try simp only [z_lit, nI_add, pk_mul, z_pr1, z_pr2]); exact z_in (by omega) (by decide)) ?_ | refine z_bt1 (by decide) ?_ | refine z_bf1 (by decide) ?_ | refine z_bt2 (by decide) ?_ | refine z_bf2 (by decide) ?_); conv => whnf)
    refine hC _ _ _ _ _ _ _ _ _ _ (fun _ _ _ _ _ _ q => q) (ct_noAnswer x1 (fun I2 x2 e2 f2 => ?_))
    conv => whnf
    refine hK _ _ _ _ _ _ _ _ _ _ (tl_pass (A := m_quiet l1) (A2 := m_quiet (bif he then m_begins l1 v c0 else l1)) x2 hb ht hu hv hr hm (by omega) (by omega) hc0 (fun z => ?_) (fun z => ?_) (fun I' n' k' x' n1 k1 f' => hQ I' n' k' x' (by omega) (by omega) (fr_t (fr_t f1' f2) f')))
    · subst z; exact ⟨stt_quiet hs2, o2⟩
    · subst z; rfl
  · simp only [cond_true] at hQ
    repeat ((first | refine And.intro (by (conv => arg 2; whnf); (try simp only [z_lit, nI_add, pk_mul, z_pr1, z_pr2]); exact z_in (by omega) (by decide)) ?_ | refine z_bt1 (by decide) ?_ | refine z_bf1 (by decide) ?_ | refine z_bt2 (by decide) ?_ | refine z_bf2 (by decide) ?_); conv => whnf)
    have x8 : xR I1 F (upd l1.1 8 (nI 0), l1.2.1, l1.2.2) (n + 2) (k + 1) bus f0 := xR_f x1 rfl rfl rfl rfl
    refine hC _ _ _ _ _ _ _ _ _ _ (fun _ _ _ _ _ _ q => q) (ct_tw (s := (upd l1.1 8 (nI 0), l1.2.1, l1.2.2)) (t := t) (u := u) (m := m) (c := c1) x8 hb ht hu hm (by omega) (by omega) hc1 hC (fun o I' q => q) (fun o I' q => q) (fun I' n' k' x' n1 k1 f' => ?_))
    have q6 : (m_tw (m_begins (upd l1.1 8 (nI 0), l1.2.1, l1.2.2) t c1) bus t u m).1.1 6 = nI 0 := by
      rw [m_tw_6]; exact (stt_begins (s := (upd l1.1 8 (nI 0), l1.2.1, l1.2.2)) (t := t) (c := c1) ht).2.2.2.2.2.2.1
    have qo : ∀ j, (40 ≤ j ∧ j < 72 ∧ j % 8 = v % 8) ∨ (120 ≤ j ∧ j < 136 ∧ j % 8 = v % 8) → (m_tw (m_begins (upd l1.1 8 (nI 0), l1.2.1, l1.2.2) t c1) bus t u m).1.2.1 j = l1.2.1 j := fun j hj => by
      rw [m_tw_lo hb ht (by omega) (by omega) (by omega) (by omega) (by omega), m_begins_o (by omega) (by omega) (by omega) (by omega)]
    conv => whnf
    generalize m_tw (m_begins (upd l1.1 8 (nI 0), l1.2.1, l1.2.2) t c1) bus t u m = q at *
    obtain ⟨q1, q2⟩ := q
    simp only at x' hQ q6 qo ⊢
    refine hK _ _ _ _ _ _ _ _ _ _ (tl_pass (A := q1) (A2 := bif he then m_ins v (m_begins l1 v c0).2.1 q1 else q1) x' hb ht hu hv hr hm (by omega) (by omega) hc0 (fun z => ?_) (fun z => ?_) (fun I'' n'' k'' x'' n2 k2 f'' => hQ I'' n'' k'' x'' (by omega) (by omega) (fr_t (fr_t f1' f') f'')))
    · subst z
      exact ⟨stt_ins hv q6 qo, fun j hj => ins_n (by omega)⟩
    · subst z; rfl
end
