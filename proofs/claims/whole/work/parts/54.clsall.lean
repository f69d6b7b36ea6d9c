/-! ALL -/
section
variable {L : Nat} {xs : Nat → Int32} {d : Nat} {kp sp wd : Value} {I : z_I} {s : z_sg} {R : z_R} {J : z_J} {F : z_F} {cn : Nat} {Q : z_Q} {n k bus : Nat} {f0 : Int32}
theorem lp_sendAll {u m : Nat} {tu : Int32} {r1 : z_sg} (hb : bus < 2) (hu : u < 6) (hm : m ≤ 8) (hc : b16 (s_cmdA u m)) (hn : n < 2 ^ 30) (hk : k < 2 ^ 30)
    (hQ : ∀ I', xR I' F (m_all r1 bus u m tu 8) n k bus f0 → fr cT I I' → Q (some (.int (bif s_held (m_all r1 bus u m tu 8).2.1 bus then nI 2 else nI 0))) I' (z_R0 kp sp wd) J F cn) :
    ∀ j t I', t + j = 8 → xR I' F (m_all r1 bus u m tu t) n k bus f0 → fr cT I I' → z_WP (z_X0 L xs) z_P0 (d + 4) m_Trial_sendAll 27 [some (.ref 29), some (.int (nI (u + 1))), some (.int (nI m)), some (.int (s_cmdA u m)), some (.int tu), some (.int (nI t))] [] I' (z_R0 kp sp wd) J F cn 0 0 Q := by
  intro j
  induction j with
  | zero =>
    intro t I' ht x f
    obtain rfl : t = 8 := by omega
    have d2 := x.2.2.2.1.2.1
    have q := hQ I' x f
    refine z_WP_gos [27] 1000 fun K C hK hC => ?_
    conv => whnf
    refine ⟨fun _ => ?_, fun h => absurd (by decide) h⟩
    conv => whnf
    rw [d2]
    cases hh : s_held (m_all r1 bus u m tu 8).2.1 bus <;> rw [hh] at q
    · repeat ((first | refine And.intro (by (conv => arg 2; whnf); (try simp only [z_lit, nI_add, pk_mul, z_pr1, z_pr2]); exact z_in (by omega) (by decide)) ?_ | refine z_bt1 (by decide) ?_ | refine z_bf1 (by decide) ?_ | refine z_bt2 (by decide) ?_ | refine z_bf2 (by decide) ?_); conv => whnf)
      exact q
    · repeat ((first | refine And.intro (by (conv => arg 2; whnf); (try simp only [z_lit, nI_add, pk_mul, z_pr1, z_pr2]); exact z_in (by omega) (by decide)) ?_ | refine z_bt1 (by decide) ?_ | refine z_bf1 (by decide) ?_ | refine z_bt2 (by decide) ?_ | refine z_bf2 (by decide) ?_); conv => whnf)
      exact q
  | succ j ih =>
    intro t I' ht x f
    have ht8 : t < 8 := by omega
    have inc : nI t + 1 = nI (t + 1) := nI_1 t
    have hW := x.2.2.2.2.1
    have w4 := x.1.2.1
    have z0 : v01 (nI 0) := Or.inl rfl
    have z1 : v01 (nI 1) := Or.inr rfl
    have ih' := fun I'' => ih (t + 1) I'' (by omega)
    rw [show m_all r1 bus u m tu (t + 1) = m_all1 (m_all r1 bus u m tu t) bus t u m tu from rfl] at ih'
    generalize m_all r1 bus u m tu t = S at *
    unfold m_all1 at ih'
    generalize s_cmdA u m = c at *
    have hs2 := stt_begins (s := S) (t := t) (c := c) ht8
    have o2 : ∀ j, 192 ≤ j → (m_begins S t c).2.1 j = S.2.1 j := fun j hj => m_begins_o (by omega) (by omega) (by omega) (by omega)
    have lg : s_legal (m_begins S t c).2.1 t u = s_legal S.2.1 t u := by unfold s_legal; rw [m_begins_o (by omega) (by omega) (by omega) (by omega)]
    have by' : (m_begins S t c).2.1 (40 + t) = S.2.1 (40 + t) := m_begins_o (by omega) (by omega) (by omega) (by omega)
    refine z_WP_gos [27] 1000 fun K C hK hC => ?_
    conv => whnf
    refine ⟨fun h => absurd h (nI_ge (a := t) (b := 8) (by omega) (by decide)), fun _ => ?_⟩
    conv => whnf
    refine hC _ _ _ _ _ _ _ _ _ _ (fun _ _ _ _ _ _ q => q) (ct_reaches (tu := tu &&& nI 1) x ht8 ?_)
    conv => whnf
    rw [dec01 (v01_and tu), Bool.and_comm]
    cases hh : (s_hear S.2.1 t bus && !decide (tu &&& nI 1 = nI 1))
    · rw [hh] at ih'
      repeat ((first | refine And.intro (by (conv => arg 2; whnf); (try simp only [z_lit, nI_add, pk_mul, z_pr1, z_pr2]); exact z_in (by omega) (by decide)) ?_ | refine z_bt1 (by decide) ?_ | refine z_bf1 (by decide) ?_ | refine z_bt2 (by decide) ?_ | refine z_bf2 (by decide) ?_); conv => whnf)
      rw [inc]
      refine hK _ _ _ _ _ _ _ _ _ _ (ih' I' x f)
    · rw [hh] at ih'
      simp only [cond_true, lg, by'] at ih'
      repeat ((first | refine And.intro (by (conv => arg 2; whnf); (try simp only [z_lit, nI_add, pk_mul, z_pr1, z_pr2]); exact z_in (by omega) (by decide)) ?_ | refine z_bt1 (by decide) ?_ | refine z_bf1 (by decide) ?_ | refine z_bt2 (by decide) ?_ | refine z_bf2 (by decide) ?_); conv => whnf)
      refine ⟨fun g => ?_, fun g => ?_⟩ <;> (try simp (disch := omega) only [z_lit, nI_add, pk_mul, z_pr1, z_pr2, nI_clamp, z_up_row, z_row_s, z_row_n, z_row_row, pk_us, pk_un] at g) <;> (conv => whnf)
      · rw [decide_eq_true g, Bool.true_and] at ih'
        refine hC _ _ _ _ _ _ _ _ _ _ (fun _ _ _ _ _ _ q => q) (cu_sendSpot ?_)
        conv => whnf
        refine hC _ _ _ _ _ _ _ _ _ _ (fun _ _ _ _ _ _ q => q) (cu_take (from' := 1152 + 8 * u) (u := u) ht8 hu hm (by omega) x.1.1 hW.1 (fun hl => ?_) (fun hl hbz => ?_) (fun hl hbz => ?_)) <;> (conv => whnf) <;> rw [inc]
        · rw [hl] at ih'
          simp only [cond_false] at ih'
          refine hK _ _ _ _ _ _ _ _ _ _ (ih' _ (xR_stt x ht8 (stt_errs ht8 hs2) hc z1 z0 z0 rfl (fun b h1 _ _ => z_row_n _ _ h1) (fun j hj => by rw [m_errs_o (by omega) (by omega) (by omega), o2 _ (by omega)]; exact w4 j hj) (fun j h1 h2 => by rw [m_errs_o (by omega) (by omega) (by omega), o2 _ (by omega)]; exact hW.2.2.1 j (by omega)) (fun j hj => by rw [m_errs_o (by omega) (by omega) (by omega), o2 _ (by omega)])) (fr_t f (fr_w fr_r (by decide))))
        · rw [hl, hbz] at ih'
          simp only [cond_true] at ih'
          rw [if_neg (by decide)] at ih'
          refine hK _ _ _ _ _ _ _ _ _ _ (ih' _ (xR_stt x ht8 hs2 hc z0 z0 z0 rfl (fun b h1 _ _ => z_row_n _ _ h1) (fun j hj => by rw [o2 _ (by omega)]; exact w4 j hj) (fun j h1 h2 => by rw [o2 _ (by omega)]; exact hW.2.2.1 j (by omega)) (fun j hj => by rw [o2 _ (by omega)])) (fr_t f (fr_w fr_r (by decide))))
        · rw [hl, hbz] at ih'
          simp only [cond_true, if_true] at ih'
          have oa : ∀ j, 192 ≤ j → (m_alls (m_copy (m_begins S t c) (1344 + 8 * u) (576 + 8 * (6 * t + u)) m) t).2.1 j = (m_copy (m_begins S t c) (1344 + 8 * u) (576 + 8 * (6 * t + u)) m).2.1 j := fun j hj => (pk_un (by omega)).trans (pk_un (by omega))
          refine hK _ _ _ _ _ _ _ _ _ _ (ih' _ (xR_stt x ht8 (stt_alls ht8 (stt_copy (x := 1344 + 8 * u) (y := 576 + 8 * (6 * t + u)) (n := m) hs2 ht8 (by omega))) hc z0 z1 z0 rfl (fun b h1 h2 _ => by rw [z_row_n _ _ h1, z_row_n _ _ h2]) (fun j hj => ?_) (fun j h1 h2 => ?_) (fun j hj => ?_)) (fr_t f (fr_w (fr_w fr_r (by decide)) (by decide))))
          · rw [oa _ (by omega), show 1344 + 8 * u = 192 + (1152 + 8 * u) by omega, show 576 + 8 * (6 * t + u) = 192 + (384 + 8 * (6 * t + u)) by omega]
            exact cpy_rel w4 (fun j hj => o2 j hj) hj (by omega) (by omega)
          · rw [oa _ h1]
            exact cpy_b16 (fun j h1 h2 => by rw [o2 _ h1]; exact hW.2.2.1 j (by omega)) (by omega) (by omega) h1 h2
          · rw [oa _ (by omega), m_copy_o (by omega), o2 _ (by omega)]
      · rw [decide_eq_false g, Bool.false_and] at ih'
        simp only [cond_false] at ih'
        refine hC _ _ _ _ _ _ _ _ _ _ (fun _ _ _ _ _ _ q => q) (cu_settle ht8 ?_)
        conv => whnf
        rw [inc]
        refine hK _ _ _ _ _ _ _ _ _ _ (ih' _ (xR_stt x ht8 (stt_errs ht8 hs2) hc z1 z0 z0 rfl (fun b h1 _ _ => z_row_n _ _ h1) (fun j hj => by rw [m_errs_o (by omega) (by omega) (by omega), o2 _ (by omega)]; exact w4 j hj) (fun j h1 h2 => by rw [m_errs_o (by omega) (by omega) (by omega), o2 _ (by omega)]; exact hW.2.2.1 j (by omega)) (fun j hj => by rw [m_errs_o (by omega) (by omega) (by omega), o2 _ (by omega)])) (fr_t f (fr_w fr_r (by decide))))
theorem ct_sendAll {u m : Nat} (h : xR I F s n k bus f0) (hb : bus < 2) (hu : u < 6) (hm : m ≤ 8) (hn : n + 30 < 2 ^ 30) (hk : k + 2 < 2 ^ 30)
    (hQ : ∀ I' n' k', xR I' F (m_tellsAll s bus u m).1 n' k' bus f0 → n' ≤ n + 20 → k' ≤ k + 2 → fr cT I I' → Q (some (.int (m_tellsAll s bus u m).2)) I' (z_R0 kp sp wd) J F cn) :
    z_M (z_X0 L xs) z_P0 (d + 4) m_Trial_sendAll [.ref 29, .int (nI (u + 1)), .int (nI m)] I (z_R0 kp sp wd) J F cn Q := by
  have hc : b16 (s_cmdA u m) := s_cmd_b (by omega) (by omega) (by omega) (by omega)
  have hhd : s_held (m_tellsAll s bus u m).1.2.1 bus = s_held s.2.1 bus := s_held_c (m_tellsAll_o hb hu hm (by omega)) (fun j hj => m_tellsAll_o hb hu hm (by omega))
  unfold m_tellsAll at hQ hhd
  simp only at hQ hhd
  rw [← hhd] at hQ
  refine z_WP_gos [27] 1000 fun K C hK hC => ?_
  conv => whnf
  refine hC _ _ _ _ _ _ _ _ _ _ (fun _ _ _ _ _ _ q => q) (ct_readySend (t := 31) hu hm ?_)
  conv => whnf
  repeat ((first | refine And.intro (by (conv => arg 2; whnf); (try simp only [z_lit, nI_add, pk_mul, z_pr1, z_pr2]); exact z_in (by omega) (by decide)) ?_ | refine z_bt1 (by decide) ?_ | refine z_bf1 (by decide) ?_ | refine z_bt2 (by decide) ?_ | refine z_bf2 (by decide) ?_); conv => whnf)
  have hy := ready_y (u := u) (m := m) (t := 31) h hu hm hc
  simp (disch := omega) only [z_lit, nI_add, pk_mul, z_pr1, z_pr2, nI_clamp, z_up_row, z_row_s, z_row_n, z_row_row, pk_us, pk_un]
  rw [pk_cpy_out (by omega), pk_us, Nat.add_comm m 1, show s_cmd (nI 31) (nI 0) (nI (u + 1)) (nI m) = s_cmdA u m from rfl]
  have x0 : xR (z_row I 30 (va_cpy (I 4) (upd (I 30) 0 (s_cmdA u m)) (1152 + 8 * u) 1 m)) F (m_ready (s.1, s.2.1, upd s.2.2 0 (s_cmdA u m)) u m) n k bus f0 := xR_30 h (fun b hb => z_row_n _ _ hb) rfl rfl
  have f0' : fr cT I (z_row I 30 (va_cpy (I 4) (upd (I 30) 0 (s_cmdA u m)) (1152 + 8 * u) 1 m)) := fr_w fr_r (by decide)
  rw [show s.2.1 3 = (m_ready (s.1, s.2.1, upd s.2.2 0 (s_cmdA u m)) u m).2.1 3 from rfl] at hQ
  generalize m_ready (s.1, s.2.1, upd s.2.2 0 (s_cmdA u m)) u m = s0 at *
  generalize z_row I 30 (va_cpy (I 4) (upd (I 30) 0 (s_cmdA u m)) (1152 + 8 * u) 1 m) = I0 at *
  refine hC _ _ _ _ _ _ _ _ _ _ (fun _ _ _ _ _ _ q => q) (ct_say (s := s0) (many := 1 + m) x0 hb (by omega) (by omega) (by omega) hy (fun I1 x1 e1 f1 => ?_))
  conv => whnf
  have f1' := fr_t f0' f1
  generalize m_lays s0 bus (s0.2.1 3) (1 + m) = r at *
  obtain ⟨r1, tu⟩ := r
  simp only at x1 hQ ⊢
  refine hK _ _ _ _ _ _ _ _ _ _ (lp_sendAll (I := I) hb hu hm hc (by omega) (by omega) (fun I' x' f' => hQ I' _ _ x' (by omega) (by omega) f') 8 0 I1 (by omega) x1 f1')
end
