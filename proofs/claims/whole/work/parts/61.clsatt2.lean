/-! a try of each kind -/
section
variable {L : Nat} {xs : Nat → Int32} {d : Nat} {kp sp wd : Value} {I : z_I} {s : z_sg} {R : z_R} {J : z_J} {F : z_F} {cn : Nat} {Q : z_Q} {n k bus : Nat} {f0 : Int32}
theorem ct_mode8 (h : xR I F s n k bus f0) (hb : bus < 2) (hn : n + 30 < 2 ^ 30) (hk : k + 2 < 2 ^ 30)
    (hQ : ∀ I' n' k', xR I' F (m_toFirst s bus).1 n' k' bus f0 → n' ≤ n + 20 → k' ≤ k + 2 → fr cT I I' → ((m_toFirst s bus).2 = nI 0 → (I' 30 0 &&& nI 2 = nI 0 ↔ (m_toFirst s bus).1.1 6 = nI 0)) → Q (some (.int (m_toFirst s bus).2)) I' (z_R0 kp sp wd) J F cn) :
    z_M (z_X0 L xs) z_P0 (d + 4) m_Trial_mode [.ref 29, .int (nI 8), .int (nI 0)] I (z_R0 kp sp wd) J F cn Q := by
  have c1 := h.2.2.1.1
  obtain ⟨fq, hfq, hf2⟩ := h.2.2.2.2.1.2.2.2.2
  have hfb : b16 (s.2.1 2) := ⟨fq, by omega, hf2⟩
  have hc : b16 (s_cmd (nI 8) (nI 1) (nI 0) (nI 0)) := s_cmd_b (by omega) (by omega) (by omega) (by omega)
  unfold m_toFirst at hQ
  simp only at hQ
  generalize hcc : s_cmd (nI 8) (nI 1) (nI 0) (nI 0) = c at hc hQ
  refine z_WP_gos [] 1000 fun K C hK hC => ?_
  conv => whnf
  repeat ((first | refine And.intro (by (conv => arg 2; whnf); (try simp only [z_lit, nI_add, pk_mul, z_pr1, z_pr2]); exact z_in (by omega) (by decide)) ?_ | refine z_bt1 (by decide) ?_ | refine z_bf1 (by decide) ?_ | refine z_bt2 (by decide) ?_ | refine z_bf2 (by decide) ?_); conv => whnf)
  refine hC _ _ _ _ _ _ _ _ _ _ (fun _ _ _ _ _ _ q => q) (ct_encode ?_)
  conv => whnf
  repeat ((first | refine And.intro (by (conv => arg 2; whnf); (try simp only [z_lit, nI_add, pk_mul, z_pr1, z_pr2]); exact z_in (by omega) (by decide)) ?_ | refine z_bt1 (by decide) ?_ | refine z_bf1 (by decide) ?_ | refine z_bt2 (by decide) ?_ | refine z_bf2 (by decide) ?_); conv => whnf)
  simp (disch := omega) only [z_lit, nI_add, pk_mul, z_pr1, z_pr2, nI_clamp, z_up_row, z_row_s, z_row_n, z_row_row, pk_us, pk_un]
  rw [hcc, c1]
  have x0 : xR (z_row I 30 (upd (upd (I 30) 0 c) 1 (s.2.1 2))) F (s.1, s.2.1, upd s.2.2 0 c) n k bus f0 := xR_30 h (fun b hb => z_row_n _ _ hb) rfl rfl
  refine hC _ _ _ _ _ _ _ _ _ _ (fun _ _ _ _ _ _ q => q) (ct_say (s := (s.1, s.2.1, upd s.2.2 0 c)) (many := 1) x0 hb (by omega) (by omega) (by omega) (fun j hj => ?_) (fun I1 x1 e1 f1 => ?_))
  conv => whnf
  · obtain rfl : j = 0 := by omega
    exact ⟨rfl, hc⟩
  have hv := lays1 (s := (s.1, s.2.1, upd s.2.2 0 c)) (bus := bus) (who := s.2.1 3)
  have f1' : fr cT I I1 := fr_t (fr_w fr_r (by decide)) f1
  refine hC _ _ _ _ _ _ _ _ _ _ (fun _ _ _ _ _ _ q => q) (ct_reaches8 (tu := (m_lays (s.1, s.2.1, upd s.2.2 0 c) bus (s.2.1 3) 1).2 &&& nI 1) x1 hb ?_)
  conv => whnf
  have x1' : xR I1 F (m_lays (s.1, s.2.1, upd s.2.2 0 c) bus (s.2.1 3) 1).1 (n + 1) (k + 1) bus f0 := x1
  simp only
  generalize m_lays (s.1, s.2.1, upd s.2.2 0 c) bus (s.2.1 3) 1 = r at *
  obtain ⟨r1, tu⟩ := r
  simp only at hv hQ x1' ⊢
  clear x1 x0
  have hp := x1'.2.2.2.2.1.1.1 8 (by omega)
  have hd : decide (tu &&& nI 1 = nI 0) = decide (tu = nI 0) := by rcases hv with z | z <;> subst z <;> decide
  rw [hd]
  have z0 : v01 (nI 0) := Or.inl rfl
  have z1 : v01 (nI 1) := Or.inr rfl
  cases hh : (decide (tu = nI 0) && (decide (r1.2.1 39 = nI 1) && !decide (r1.2.1 3 = nI 8)))
  · have cond : r1.2.1 39 = nI 0 ∨ r1.2.1 3 = nI 8 ∨ ¬ tu = nI 0 := by
      rcases hp with z | z
      · exact Or.inl z
      · by_cases y : r1.2.1 3 = nI 8
        · exact Or.inr (Or.inl y)
        · refine Or.inr (Or.inr (fun q => ?_))
          rw [decide_eq_true q, show decide (r1.2.1 39 = nI 1) = true from decide_eq_true z, decide_eq_false y] at hh
          exact absurd hh (by decide)
    rw [if_pos cond] at hQ
    have x2 : xR I1 F (upd r1.1 6 (nI 0), r1.2.1, r1.2.2) (n + 1) (k + 1) bus f0 := xR_6 x1' z0 rfl rfl
    repeat ((first | refine And.intro (by (conv => arg 2; whnf); (try simp only [z_lit, nI_add, pk_mul, z_pr1, z_pr2]); exact z_in (by omega) (by decide)) ?_ | refine z_bt1 (by decide) ?_ | refine z_bf1 (by decide) ?_ | refine z_bt2 (by decide) ?_ | refine z_bf2 (by decide) ?_); conv => whnf)
    refine hC _ _ _ _ _ _ _ _ _ _ (fun _ _ _ _ _ _ q => q) (ct_noAnswer x2 (fun I2 x3 e3 f3 => ?_))
    conv => whnf
    exact hQ I2 _ _ x3 (by omega) (by omega) (fr_t f1' f3) (fun z => absurd (show nI 1 = nI 0 from z) (by decide))
  · simp only [Bool.and_eq_true, Bool.not_eq_true', decide_eq_true_eq, decide_eq_false_iff_not] at hh
    have cond : ¬ (r1.2.1 39 = nI 0 ∨ r1.2.1 3 = nI 8 ∨ ¬ tu = nI 0) := fun z => by
      rcases z with z | z | z
      · rw [hh.2.1] at z; exact absurd z (by decide)
      · exact hh.2.2 z
      · exact z hh.1
    rw [if_neg cond] at hQ
    have x2 : xR (z_row I1 30 (upd (I1 30) 0 (nI 16386))) F (upd (upd r1.1 6 (nI 0)) 6 (nI 1), r1.2.1, upd r1.2.2 0 (nI 16386)) (n + 1) (k + 1) bus f0 := by
      have a : xR I1 F (upd r1.1 6 (nI 0), r1.2.1, r1.2.2) (n + 1) (k + 1) bus f0 := xR_6 x1' z0 rfl rfl
      have b : xR I1 F (upd (upd r1.1 6 (nI 0)) 6 (nI 1), r1.2.1, r1.2.2) (n + 1) (k + 1) bus f0 := xR_6 a z1 rfl rfl
      exact xR_30 b (fun b hb => z_row_n _ _ hb) rfl rfl
    repeat ((first | refine And.intro (by (conv => arg 2; whnf); (try simp only [z_lit, nI_add, pk_mul, z_pr1, z_pr2]); exact z_in (by omega) (by decide)) ?_ | refine z_bt1 (by decide) ?_ | refine z_bf1 (by decide) ?_ | refine z_bt2 (by decide) ?_ | refine z_bf2 (by decide) ?_); conv => whnf)
    simp (disch := omega) only [z_lit, nI_add, pk_mul, z_pr1, z_pr2, nI_clamp, z_up_row, z_row_s, z_row_n, z_row_row, pk_us, pk_un]
    refine hC _ _ _ _ _ _ _ _ _ _ (fun _ _ _ _ _ _ q => q) (ct_answer (t := 8) (many := 1) (sh := false) (s := (upd (upd r1.1 6 (nI 0)) 6 (nI 1), r1.2.1, upd r1.2.2 0 (nI 16386))) x2 hb (by omega) (by omega) (by omega) (by omega) (fun j hj => ?_) (fun d Q q => cu_isShut8 hb x2.1.1 q) (fun z => absurd z (by decide)) (fun _ I3 x3 e3 f3 => ?_))
    · obtain rfl : j = 0 := by omega
      exact ⟨rfl, 16386, by decide, rfl⟩
    · have ee : m_eight (upd (upd r1.1 6 (nI 0)) 6 (nI 1), r1.2.1, upd r1.2.2 0 (nI 16386)) = (upd (upd (upd r1.1 6 (nI 0)) 6 (nI 1)) 4 (r1.1 4 + nI 8), r1.2.1, upd r1.2.2 0 (nI 16386)) := rfl
      rw [ee] at x3 ⊢
      have q6 : (m_lays (upd (upd (upd r1.1 6 (nI 0)) 6 (nI 1)) 4 (r1.1 4 + nI 8), r1.2.1, upd r1.2.2 0 (nI 16386)) bus (nI 8) 1).1.1 6 = nI 1 := by rw [m_lays_f4 (by omega)]; rfl
      generalize m_lays (upd (upd (upd r1.1 6 (nI 0)) 6 (nI 1)) 4 (r1.1 4 + nI 8), r1.2.1, upd r1.2.2 0 (nI 16386)) bus (nI 8) 1 = q at *
      obtain ⟨q1, q2⟩ := q
      simp only at x3 hQ q6 ⊢
      have eo : c_out q2 (nI 16386) = if q2 = nI 0 then nI 0 else nI 2 := by
        by_cases z : q2 = nI 0
        · rw [if_pos z, z]; decide
        · rw [if_neg z, out_2 z]
      have e30 : (z_row I1 30 (upd (I1 30) 0 (nI 16386))) 30 0 = nI 16386 := rfl
      rw [e30, eo]
      conv => whnf
      refine hQ I3 _ _ x3 (by omega) (by omega) (fr_t (fr_t f1' (fr_w fr_r (by decide))) f3) (fun _ => ?_)
      rw [e3, e30, q6]
      exact ⟨fun z => absurd z (by decide), fun z => absurd z (by decide)⟩
theorem att_pre {t : Int32} {kind sub m to st : Int32} (h : yR I F s n k)
    (hQ : ∀ I', xR I' F s n k bus (s.1 4) → fr cT I I' → z_WP (z_X0 L xs) z_P0 (d + 5) m_Trial_attempt 33 [some (.ref 29), some (.int (nI bus)), some (.int kind), some (.int t), some (.int sub), some (.int m), some (.int to), some (.int st), none] [.int kind] I' (z_R0 kp sp wd) J F cn 0 0 Q) :
    z_M (z_X0 L xs) z_P0 (d + 5) m_Trial_attempt [.ref 29, .int (nI bus), .int kind, .int t, .int sub, .int m, .int to, .int st] I (z_R0 kp sp wd) J F cn Q := by
  have c2 := h.2.2.1.2
  refine z_WP_gos [33] 1000 fun K C hK hC => ?_
  conv => whnf
  simp (disch := omega) only [z_lit, nI_add, pk_mul, z_pr1, z_pr2, nI_clamp, z_up_row, z_row_s, z_row_n, z_row_row, pk_us, pk_un]
  rw [c2]
  refine hC _ _ _ _ _ _ _ _ _ _ (fun _ _ _ _ _ _ q => q) (cu_hold h.1.1 h.2.2.2.2.1.1 ?_)
  conv => whnf
  refine ⟨z_bi_01 _, ?_⟩
  conv => whnf
  simp (disch := omega) only [z_lit, nI_add, pk_mul, z_pr1, z_pr2, nI_clamp, z_up_row, z_row_s, z_row_n, z_row_row, pk_us, pk_un]
  refine hK _ _ _ _ _ _ _ _ _ _ (hQ _ (yR_xR h (fun b hb => z_row_n _ _ hb) rfl rfl rfl rfl) (fr_w fr_r (by decide)))
/-- what a try leaves: the class's time of it -/
def yT (I : z_I) (s S : z_sg) : Prop := S.1 4 = s.1 4 + I 29 6
theorem ca_send {t u m : Nat} {to st : Int32} (h : yR I F s n k) (hb : bus < 2) (ht : t < 8) (hu : u < 6) (hm : m ≤ 8) (hn : n + 60 < 2 ^ 30) (hk : k + 6 < 2 ^ 30)
    (hQ : ∀ I' n' k', yR I' F (m_tries s (m_sends s bus t u m) bus t).1 n' k' → yT I' s (m_tries s (m_sends s bus t u m) bus t).1 → n' ≤ n + 30 → k' ≤ k + 5 → fr cT I I' → Q (some (.int (m_tries s (m_sends s bus t u m) bus t).2)) I' (z_R0 kp sp wd) J F cn) :
    z_M (z_X0 L xs) z_P0 (d + 5) m_Trial_attempt [.ref 29, .int (nI bus), .int (nI 0), .int (nI t), .int (nI (u + 1)), .int (nI m), .int to, .int st] I (z_R0 kp sp wd) J F cn Q := by
  refine att_pre h (fun I0 x0 f0' => ?_)
  refine z_WP_ts 64 rfl (by decide) ?_
  refine z_WP_gos [132] 1000 fun K C hK hC => ?_
  conv => whnf
  refine hC _ _ _ _ _ _ _ _ _ _ (fun _ _ _ _ _ _ q => q) (ct_send x0 hb ht hu hm (by omega) (by omega) (fun I1 n1 k1 x1 hn1 hk1 f1 => ?_))
  conv => whnf
  obtain ⟨o, ho, eo⟩ := oc_sends (s := s) (bus := bus) (t := t) (u := u) (n := m)
  unfold m_tries at hQ
  generalize m_sends s bus t u m = r at *
  obtain ⟨r1, r2⟩ := r
  simp only at *
  subst eo
  refine hK _ _ _ _ _ _ _ _ _ _ (att_one x1 hb (by omega) (by omega) ho (by decide) (by decide) (fun I2 x2 f2 _ => hQ I2 _ _ (xR_yR x2) x2.2.2.2.1.2.2.1 (by omega) (by omega) (fr_t (fr_t f0' f1) f2)))
theorem ca_get {t u m : Nat} {to st : Int32} (h : yR I F s n k) (hg : gW s.2.1) (hb : bus < 2) (ht : t < 8) (hu : u < 6) (hm1 : 1 ≤ m) (hm : m ≤ 8) (hn : n + 60 < 2 ^ 30) (hk : k + 6 < 2 ^ 30)
    (hQ : ∀ I' F' n' k', yR I' F' (m_tries s (m_gets s bus t u m) bus t).1 n' k' → yT I' s (m_tries s (m_gets s bus t u m) bus t).1 → n' ≤ n + 30 → k' ≤ k + 5 → fr cT I I' → (∀ b, b ≠ 8 → F' b = F b) → Q (some (.int (m_tries s (m_gets s bus t u m) bus t).2)) I' (z_R0 kp sp wd) J F' cn) :
    z_M (z_X0 L xs) z_P0 (d + 5) m_Trial_attempt [.ref 29, .int (nI bus), .int (nI 1), .int (nI t), .int (nI (u + 1)), .int (nI m), .int to, .int st] I (z_R0 kp sp wd) J F cn Q := by
  refine att_pre h (fun I0 x0 f0' => ?_)
  refine z_WP_ts 78 rfl (by decide) ?_
  refine z_WP_gos [132] 1000 fun K C hK hC => ?_
  conv => whnf
  refine hC _ _ _ _ _ _ _ _ _ _ (fun _ _ _ _ _ _ q => q) (ct_get x0 hg hb ht hu hm1 hm (by omega) (by omega) (fun I1 F1 n1 k1 x1 hn1 hk1 f1 fF => ?_))
  conv => whnf
  obtain ⟨o, ho, eo⟩ := oc_gets (s := s) (bus := bus) (t := t) (u := u) (n := m)
  unfold m_tries at hQ
  generalize m_gets s bus t u m = r at *
  obtain ⟨r1, r2⟩ := r
  simp only at *
  subst eo
  refine hK _ _ _ _ _ _ _ _ _ _ (att_one x1 hb (by omega) (by omega) ho (by decide) (by decide) (fun I2 x2 f2 _ => hQ I2 F1 _ _ (xR_yR x2) x2.2.2.2.1.2.2.1 (by omega) (by omega) (fr_t (fr_t f0' f1) f2) fF))
theorem ca_pass {t u v r m : Nat} (h : yR I F s n k) (hb : bus < 2) (ht : t < 8) (hu : u < 6) (hv : v < 8) (hr : r < 6) (htv : v ≠ t) (hm : m ≤ 8) (hn : n + 60 < 2 ^ 30) (hk : k + 6 < 2 ^ 30)
    (hQ : ∀ I' n' k', yR I' F (m_pair s (m_passes s bus t u v r m) bus t v).1 n' k' → yT I' s (m_pair s (m_passes s bus t u v r m) bus t v).1 → n' ≤ n + 30 → k' ≤ k + 5 → fr cT I I' → Q (some (.int (m_pair s (m_passes s bus t u v r m) bus t v).2)) I' (z_R0 kp sp wd) J F cn) :
    z_M (z_X0 L xs) z_P0 (d + 5) m_Trial_attempt [.ref 29, .int (nI bus), .int (nI 2), .int (nI t), .int (nI (u + 1)), .int (nI m), .int (nI v), .int (nI (r + 1))] I (z_R0 kp sp wd) J F cn Q := by
  refine att_pre h (fun I0 x0 f0' => ?_)
  refine z_WP_ts 92 rfl (by decide) ?_
  refine z_WP_gos [132] 1000 fun K C hK hC => ?_
  conv => whnf
  refine hC _ _ _ _ _ _ _ _ _ _ (fun _ _ _ _ _ _ q => q) (ct_pass x0 hb ht hu hv hr htv hm (by omega) (by omega) (fun I1 n1 k1 x1 hn1 hk1 f1 => ?_))
  conv => whnf
  obtain ⟨o, ho, eo⟩ := oc_passes (s := s) (bus := bus) (t := t) (u := u) (v := v) (r := r) (n := m)
  unfold m_pair at hQ
  generalize m_passes s bus t u v r m = q at *
  obtain ⟨r1, r2⟩ := q
  simp only at *
  subst eo
  refine hK _ _ _ _ _ _ _ _ _ _ (att_pass x1 hb (by omega) ht hv ho (fun I2 x2 f2 => hQ I2 _ _ (xR_yR x2) x2.2.2.2.1.2.2.1 (by omega) (by omega) (fr_t (fr_t f0' f1) f2)))
theorem ca_all {u m : Nat} {tt to st : Int32} (h : yR I F s n k) (hb : bus < 2) (hu : u < 6) (hm : m ≤ 8) (hn : n + 60 < 2 ^ 30) (hk : k + 6 < 2 ^ 30)
    (hQ : ∀ I' n' k', yR I' F (m_slot (m_tellsAll s bus u m).1 bus (s.1 4)) n' k' → yT I' s (m_slot (m_tellsAll s bus u m).1 bus (s.1 4)) → n' ≤ n + 30 → k' ≤ k + 5 → fr cT I I' → Q (some (.int (m_tellsAll s bus u m).2)) I' (z_R0 kp sp wd) J F cn) :
    z_M (z_X0 L xs) z_P0 (d + 5) m_Trial_attempt [.ref 29, .int (nI bus), .int (nI 3), .int tt, .int (nI (u + 1)), .int (nI m), .int to, .int st] I (z_R0 kp sp wd) J F cn Q := by
  refine att_pre h (fun I0 x0 f0' => ?_)
  refine z_WP_ts 110 rfl (by decide) ?_
  refine z_WP_gos [132] 1000 fun K C hK hC => ?_
  conv => whnf
  refine hC _ _ _ _ _ _ _ _ _ _ (fun _ _ _ _ _ _ q => q) (ct_sendAll x0 hb hu hm (by omega) (by omega) (fun I1 n1 k1 x1 hn1 hk1 f1 => ?_))
  conv => whnf
  obtain ⟨o, ho, eo⟩ := oc_tellsAll (s := s) (bus := bus) (u := u) (n := m)
  generalize m_tellsAll s bus u m = r at *
  obtain ⟨r1, r2⟩ := r
  simp only at *
  subst eo
  refine hK _ _ _ _ _ _ _ _ _ _ (att_all x1 hb (by omega) ho (fun I2 x2 f2 => hQ I2 _ _ (xR_yR x2) x2.2.2.2.1.2.2.1 (by omega) (by omega) (fr_t (fr_t f0' f1) f2)))
theorem ca_mode {t code kd : Nat} {sub to st : Int32} (h : yR I F s n k) (hkd : kd = 4 ∨ kd = 5) (hb : bus < 2) (ht : t < 9) (hco : code < 32) (h8 : t = 8 → code = 0) (hn : n + 60 < 2 ^ 30) (hk : k + 6 < 2 ^ 30)
    (hQ : ∀ I' n' k', yR I' F (m_tries s (m_modes s bus t code) bus t).1 n' k' → yT I' s (m_tries s (m_modes s bus t code) bus t).1 → n' ≤ n + 30 → k' ≤ k + 5 → fr cT I I' → (code = 0 → (m_tries s (m_modes s bus t code) bus t).2 = nI 0 → (I' 30 0 &&& nI 2 = nI 0 ↔ (m_tries s (m_modes s bus t code) bus t).1.1 6 = nI 0)) → Q (some (.int (m_tries s (m_modes s bus t code) bus t).2)) I' (z_R0 kp sp wd) J F cn) :
    z_M (z_X0 L xs) z_P0 (d + 5) m_Trial_attempt [.ref 29, .int (nI bus), .int (nI kd), .int (nI t), .int sub, .int (nI code), .int to, .int st] I (z_R0 kp sp wd) J F cn Q := by
  refine att_pre h (fun I0 x0 f0' => ?_)
  have hsw : z_swt (nI kd) 123 [(0, 64), (1, 78), (2, 92), (3, 110)] = 123 := by rcases hkd with z | z <;> subst z <;> decide
  have k3 : ¬ nI kd = nI 3 := by rcases hkd with z | z <;> subst z <;> decide
  have k2 : ¬ nI kd = nI 2 := by rcases hkd with z | z <;> subst z <;> decide
  refine z_WP_ts 123 rfl hsw ?_
  obtain ⟨o, ho, eo⟩ := oc_modes (s := s) (bus := bus) (t := t) (code := code)
  have fin : ∀ I1 n1 k1, xR I1 F (m_modes s bus t code).1 n1 k1 bus (s.1 4) → n1 ≤ n + 20 → k1 ≤ k + 2 → fr cT I0 I1 → (code = 0 → (m_modes s bus t code).2 = nI 0 → (I1 30 0 &&& nI 2 = nI 0 ↔ (m_modes s bus t code).1.1 6 = nI 0)) → z_WP (z_X0 L xs) z_P0 (d + 5) m_Trial_attempt 132 [some (.ref 29), some (.int (nI bus)), some (.int (nI kd)), some (.int (nI t)), some (.int sub), some (.int (nI code)), some (.int to), some (.int st), some (.int (m_modes s bus t code).2)] [] I1 (z_R0 kp sp wd) J F cn 0 0 Q := by
    intro I1 n1 k1 x1 hn1 hk1 f1 tk
    unfold m_tries at hQ
    generalize m_modes s bus t code = r at *
    obtain ⟨r1, r2⟩ := r
    simp only at *
    subst eo
    refine att_one x1 hb (by omega) ht ho k3 k2 (fun I2 x2 f2 e2 => hQ I2 _ _ (xR_yR x2) x2.2.2.2.1.2.2.1 (by omega) (by omega) (fr_t (fr_t f0' f1) f2) (fun a b => ?_))
    rw [e2]
    exact tk a b
  by_cases z : t = 8
  · subst z
    obtain rfl := h8 rfl
    have e8 : m_modes s bus 8 0 = m_toFirst s bus := by unfold m_modes; rw [if_pos rfl]
    rw [e8] at fin
    refine z_WP_gos [132] 1000 fun K C hK hC => ?_
    conv => whnf
    refine hC _ _ _ _ _ _ _ _ _ _ (fun _ _ _ _ _ _ q => q) (ct_mode8 x0 hb (by omega) (by omega) (fun I1 n1 k1 x1 hn1 hk1 f1 tk => ?_))
    conv => whnf
    refine hK _ _ _ _ _ _ _ _ _ _ (fin I1 n1 k1 x1 hn1 hk1 f1 (fun _ => tk))
  · refine z_WP_gos [132] 1000 fun K C hK hC => ?_
    conv => whnf
    refine hC _ _ _ _ _ _ _ _ _ _ (fun _ _ _ _ _ _ q => q) (ct_mode x0 hb (by omega) hco (by omega) (by omega) (fun I1 n1 k1 x1 hn1 hk1 f1 tk => ?_))
    conv => whnf
    refine hK _ _ _ _ _ _ _ _ _ _ (fin I1 n1 k1 x1 hn1 hk1 f1 tk)
end
