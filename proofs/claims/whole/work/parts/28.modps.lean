/-! the model's messages: PASS, whole -/
section
variable {L : Nat} {xs : Nat → Int32} {d : Nat} {kp sp wd : Value} {I : z_I} {s : z_sg} {R : z_R} {J : z_J} {F : z_F} {cn : Nat} {Q : z_Q}
/-- behind the two commands -/
def m_pass2 (s1 : z_sg) (bus t u v r n : Nat) (c1 tu : Int32) (hears : Bool) : z_sg × Int32 :=
  bif s_hear s1.2.1 t bus && decide (tu &&& nI 2 = nI 0) then
    let s2 := m_begins s1 t c1
    let q := m_tw (upd s2.1 8 (nI 0), s2.2.1, s2.2.2) bus t u n
    if q.2 = nI 0 then
      bif hears then
        let k := m_taken q.1 v r
        m_ends (bif k.2 then m_copy k.1 (192 + 8 * (6 * t + u)) (576 + 8 * (6 * v + r)) n else k.1) bus v
      else (m_quiet q.1, nI 1)
    else (if q.2 = nI 2 then (bif hears then m_errs q.1 v else q.1) else q.1, q.2)
  else (m_quiet s1, nI 1)
theorem tl_passes {bus t u v r n B : Nat} {tu : Int32} {he : Bool} (hb : bus < 2) (ht : t < 8) (hu : u < 6) (hv : v < 8) (hr : r < 6) (hn : n ≤ 8) (hs : m_ok s B) (hB : B + 40 < 2 ^ 29)
    (hQ : Q (some (.int (m_pass2 s bus t u v r n (s_cmd (nI t) (nI 1) (nI (u + 1)) (nI n)) tu he).2)) (z_ms I (m_pass2 s bus t u v r n (s_cmd (nI t) (nI 1) (nI (u + 1)) (nI n)) tu he).1) (z_R0 kp sp wd) J F cn) :
    z_WP (z_X0 L xs) z_P0 (d + 6) m_Mod_passes 89 [some (.ref 40), some (.int (nI bus)), some (.int (nI t)), some (.int (nI (u + 1))), some (.int (nI v)), some (.int (nI (r + 1))), some (.int (nI n)), some (.int tu), some (.int (z_bi he)), none, none] [] (z_ms I s) (z_R0 kp sp wd) J F cn 0 0 Q := by
  unfold m_pass2 at hQ
  simp only at hQ
  refine z_WP_gos [188] 1000 fun K C hK hC => ?_
  conv => whnf
  refine hC _ _ _ _ _ _ _ _ _ _ (fun _ _ _ _ _ _ q => q) (sp_hear (by omega) hb ?_)
  conv => whnf
  cases hl : s_hear s.2.1 t bus with
  | false =>
    rw [hl] at hQ
    repeat ((first | refine And.intro (by (conv => arg 2; whnf); (try simp only [z_lit, nI_add, pk_mul, z_pr1, z_pr2]); exact z_in (by omega) (by decide)) ?_ | refine z_bt1 (by decide) ?_ | refine z_bf1 (by decide) ?_ | refine z_bt2 (by decide) ?_ | refine z_bf2 (by decide) ?_); conv => whnf)
    refine hC _ _ _ _ _ _ _ _ _ _ (fun _ _ _ _ _ _ q => q) (sp_Mod_noAnswer ?_)
    conv => whnf
    exact hQ
  | true =>
    rw [hl] at hQ
    repeat ((first | refine And.intro (by (conv => arg 2; whnf); (try simp only [z_lit, nI_add, pk_mul, z_pr1, z_pr2]); exact z_in (by omega) (by decide)) ?_ | refine z_bt1 (by decide) ?_ | refine z_bf1 (by decide) ?_ | refine z_bt2 (by decide) ?_ | refine z_bf2 (by decide) ?_); conv => whnf)
    refine ⟨fun h => ?_, fun h => ?_⟩ <;> (try simp (disch := omega) only [z_lit, nI_add, pk_mul, z_pr1, z_pr2, nI_clamp, z_m3_40, z_m3_41, z_m3_44, z_m3_u40, z_m3_u41, z_m3_u44, z_m3_m3, pk_us, pk_un] at h) <;> (conv => whnf)
    · rw [decide_eq_true h] at hQ
      simp only [Bool.and_true, cond_true] at hQ
      refine hC _ _ _ _ _ _ _ _ _ _ (fun _ _ _ _ _ _ q => q) (sp_cmd ?_)
      conv => whnf
      refine hC _ _ _ _ _ _ _ _ _ _ (fun _ _ _ _ _ _ q => q) (sp_begins (c := s_cmd (nI t) (nI 1) (nI (u + 1)) (nI n)) ht ?_)
      conv => whnf
      have hs2 := m_begins_ok (c := s_cmd (nI t) (nI 1) (nI (u + 1)) (nI n)) ht hs
      generalize m_begins s t (s_cmd (nI t) (nI 1) (nI (u + 1)) (nI n)) = s2 at hQ hs2 ⊢
      simp (disch := omega) only [z_lit, nI_add, pk_mul, z_pr1, z_pr2, nI_clamp, z_m3_40, z_m3_41, z_m3_44, z_m3_u40, z_m3_u41, z_m3_u44, z_m3_m3, pk_us, pk_un]
      refine hC _ _ _ _ _ _ _ _ _ _ (fun _ _ _ _ _ _ q => q) (sp_tellsWords (s := (upd s2.1 8 (nI 0), s2.2.1, s2.2.2)) hb ht hu hn hs2 (by omega) ?_)
      conv => whnf
      have hs3 := m_tw_ok (s := (upd s2.1 8 (nI 0), s2.2.1, s2.2.2)) (u := u) (n := n) hb ht hn hs2 (by omega)
      generalize m_tw (upd s2.1 8 (nI 0), s2.2.1, s2.2.2) bus t u n = q at hQ hs3 ⊢
      refine ⟨fun g => ?_, fun g => ?_⟩ <;> (try simp (disch := omega) only [z_lit, nI_add, pk_mul, z_pr1, z_pr2, nI_clamp, z_m3_40, z_m3_41, z_m3_44, z_m3_u40, z_m3_u41, z_m3_u44, z_m3_m3, pk_us, pk_un] at g) <;> (conv => whnf)
      · refine ⟨fun g2 => ?_, fun g2 => ?_⟩ <;> (try simp (disch := omega) only [z_lit, nI_add, pk_mul, z_pr1, z_pr2, nI_clamp, z_m3_40, z_m3_41, z_m3_44, z_m3_u40, z_m3_u41, z_m3_u44, z_m3_m3, pk_us, pk_un] at g2) <;> (conv => whnf)
        · rw [if_pos g2] at hQ
          cases he with
          | true =>
            repeat ((first | refine And.intro (by (conv => arg 2; whnf); (try simp only [z_lit, nI_add, pk_mul, z_pr1, z_pr2]); exact z_in (by omega) (by decide)) ?_ | refine z_bt1 (by decide) ?_ | refine z_bf1 (by decide) ?_ | refine z_bt2 (by decide) ?_ | refine z_bf2 (by decide) ?_); conv => whnf)
            refine hC _ _ _ _ _ _ _ _ _ _ (fun _ _ _ _ _ _ q => q) (sp_taken hv ?_)
            conv => whnf
            have hs4 := m_taken_ok (u := r) hv hs3
            simp only [cond_true] at hQ
            generalize m_taken q.1 v r = k at hQ hs4 ⊢
            obtain ⟨s4, bk⟩ := k
            simp only at hQ hs4 ⊢
            cases bk with
            | true =>
              repeat ((first | refine And.intro (by (conv => arg 2; whnf); (try simp only [z_lit, nI_add, pk_mul, z_pr1, z_pr2]); exact z_in (by omega) (by decide)) ?_ | refine z_bt1 (by decide) ?_ | refine z_bf1 (by decide) ?_ | refine z_bt2 (by decide) ?_ | refine z_bf2 (by decide) ?_); conv => whnf)
              refine hK _ _ _ _ _ _ _ _ _ _ (?_)
              have e := lp_passes (L := L) (xs := xs) (d := d) (tu := tu) (he := z_bi true) (is := q.2) hb ht hu hv hr hn hs4 (by omega) hQ n 0 (by omega)
              rw [m_copy_0] at e
              exact e
            | false =>
              repeat ((first | refine And.intro (by (conv => arg 2; whnf); (try simp only [z_lit, nI_add, pk_mul, z_pr1, z_pr2]); exact z_in (by omega) (by decide)) ?_ | refine z_bt1 (by decide) ?_ | refine z_bf1 (by decide) ?_ | refine z_bt2 (by decide) ?_ | refine z_bf2 (by decide) ?_); conv => whnf)
              refine hC _ _ _ _ _ _ _ _ _ _ (fun _ _ _ _ _ _ q => q) (sp_ends hb hv hs4 (by omega) ?_)
              conv => whnf
              exact hQ
          | false =>
            repeat ((first | refine And.intro (by (conv => arg 2; whnf); (try simp only [z_lit, nI_add, pk_mul, z_pr1, z_pr2]); exact z_in (by omega) (by decide)) ?_ | refine z_bt1 (by decide) ?_ | refine z_bf1 (by decide) ?_ | refine z_bt2 (by decide) ?_ | refine z_bf2 (by decide) ?_); conv => whnf)
            refine hC _ _ _ _ _ _ _ _ _ _ (fun _ _ _ _ _ _ q => q) (sp_Mod_noAnswer ?_)
            conv => whnf
            exact hQ
        · rw [if_neg g2, if_neg g] at hQ
          exact hQ
      · have g2 : ¬ q.2 = nI 0 := by rw [g]; decide
        rw [if_neg g2, if_pos g] at hQ
        cases he with
        | true =>
          repeat ((first | refine And.intro (by (conv => arg 2; whnf); (try simp only [z_lit, nI_add, pk_mul, z_pr1, z_pr2]); exact z_in (by omega) (by decide)) ?_ | refine z_bt1 (by decide) ?_ | refine z_bf1 (by decide) ?_ | refine z_bt2 (by decide) ?_ | refine z_bf2 (by decide) ?_); conv => whnf)
          refine hC _ _ _ _ _ _ _ _ _ _ (fun _ _ _ _ _ _ q => q) (sp_errs hv ?_)
          conv => whnf
          refine z_bf1 g2 ?_
          conv => whnf
          exact hQ
        | false =>
          repeat ((first | refine And.intro (by (conv => arg 2; whnf); (try simp only [z_lit, nI_add, pk_mul, z_pr1, z_pr2]); exact z_in (by omega) (by decide)) ?_ | refine z_bt1 (by decide) ?_ | refine z_bf1 (by decide) ?_ | refine z_bt2 (by decide) ?_ | refine z_bf2 (by decide) ?_); conv => whnf)
          refine z_bf1 g2 ?_
          conv => whnf
          exact hQ
    · rw [decide_eq_false h] at hQ
      refine hC _ _ _ _ _ _ _ _ _ _ (fun _ _ _ _ _ _ q => q) (sp_Mod_noAnswer ?_)
      conv => whnf
      exact hQ
theorem sp_passes {bus t u v r n B : Nat} (hb : bus < 2) (ht : t < 8) (hu : u < 6) (hv : v < 8) (hr : r < 6) (hn : n ≤ 8) (hs : m_ok s B) (hB : B + 60 < 2 ^ 29) (hQ : Q (some (.int (m_passes s bus t u v r n).2)) (z_ms I (m_passes s bus t u v r n).1) (z_R0 kp sp wd) J F cn) : z_M (z_X0 L xs) z_P0 (d + 6) m_Mod_passes [.ref 40, .int (nI bus), .int (nI t), .int (nI (u + 1)), .int (nI v), .int (nI (r + 1)), .int (nI n)] (z_ms I s) (z_R0 kp sp wd) J F cn Q := by
  unfold m_passes at hQ
  simp only at hQ
  have hs1 := m_lays_ok (s := (s.1, s.2.1, upd (upd s.2.2 0 (s_cmd (nI v) (nI 0) (nI (r + 1)) (nI n))) 1 (s_cmd (nI t) (nI 1) (nI (u + 1)) (nI n)))) (who := s.2.1 3) (many := 2) hb hs (by omega)
  refine z_WP_gos [89] 1000 fun K C hK hC => ?_
  conv => whnf
  refine hC _ _ _ _ _ _ _ _ _ _ (fun _ _ _ _ _ _ q => q) (sp_cmd ?_)
  conv => whnf
  repeat ((first | refine And.intro (by (conv => arg 2; whnf); (try simp only [z_lit, nI_add, pk_mul, z_pr1, z_pr2]); exact z_in (by omega) (by decide)) ?_ | refine z_bt1 (by decide) ?_ | refine z_bf1 (by decide) ?_ | refine z_bt2 (by decide) ?_ | refine z_bf2 (by decide) ?_); conv => whnf)
  simp (disch := omega) only [z_lit, nI_add, pk_mul, z_pr1, z_pr2, nI_clamp, z_m3_40, z_m3_41, z_m3_44, z_m3_u40, z_m3_u41, z_m3_u44, z_m3_m3, pk_us, pk_un]
  refine hC _ _ _ _ _ _ _ _ _ _ (fun _ _ _ _ _ _ q => q) (sp_cmd ?_)
  conv => whnf
  repeat ((first | refine And.intro (by (conv => arg 2; whnf); (try simp only [z_lit, nI_add, pk_mul, z_pr1, z_pr2]); exact z_in (by omega) (by decide)) ?_ | refine z_bt1 (by decide) ?_ | refine z_bf1 (by decide) ?_ | refine z_bt2 (by decide) ?_ | refine z_bf2 (by decide) ?_); conv => whnf)
  simp (disch := omega) only [z_lit, nI_add, pk_mul, z_pr1, z_pr2, nI_clamp, z_m3_40, z_m3_41, z_m3_44, z_m3_u40, z_m3_u41, z_m3_u44, z_m3_m3, pk_us, pk_un]
  refine hC _ _ _ _ _ _ _ _ _ _ (fun _ _ _ _ _ _ q => q) (sp_Mod_lays (s := (s.1, s.2.1, upd (upd s.2.2 0 (s_cmd (nI v) (nI 0) (nI (r + 1)) (nI n))) 1 (s_cmd (nI t) (nI 1) (nI (u + 1)) (nI n)))) (who := s.2.1 3) hb (by omega) hs (by omega) ?_)
  conv => whnf
  generalize m_lays (s.1, s.2.1, upd (upd s.2.2 0 (s_cmd (nI v) (nI 0) (nI (r + 1)) (nI n))) 1 (s_cmd (nI t) (nI 1) (nI (u + 1)) (nI n))) bus (s.2.1 3) 2 = l at hQ hs1 ⊢
  refine hC _ _ _ _ _ _ _ _ _ _ (fun _ _ _ _ _ _ q => q) (sp_hear (by omega) hb ?_)
  conv => whnf
  cases hl : s_hear l.1.2.1 v bus with
  | false =>
    rw [hl] at hQ
    repeat ((first | refine And.intro (by (conv => arg 2; whnf); (try simp only [z_lit, nI_add, pk_mul, z_pr1, z_pr2]); exact z_in (by omega) (by decide)) ?_ | refine z_bt1 (by decide) ?_ | refine z_bf1 (by decide) ?_ | refine z_bt2 (by decide) ?_ | refine z_bf2 (by decide) ?_); conv => whnf)
    refine hK _ _ _ _ _ _ _ _ _ _ (tl_passes (he := false) hb ht hu hv hr hn hs1 (by omega) hQ)
  | true =>
    rw [hl] at hQ
    repeat ((first | refine And.intro (by (conv => arg 2; whnf); (try simp only [z_lit, nI_add, pk_mul, z_pr1, z_pr2]); exact z_in (by omega) (by decide)) ?_ | refine z_bt1 (by decide) ?_ | refine z_bf1 (by decide) ?_ | refine z_bt2 (by decide) ?_ | refine z_bf2 (by decide) ?_); conv => whnf)
    refine ⟨fun h => ?_, fun h => ?_⟩ <;> (try simp (disch := omega) only [z_lit, nI_add, pk_mul, z_pr1, z_pr2, nI_clamp, z_m3_40, z_m3_41, z_m3_44, z_m3_u40, z_m3_u41, z_m3_u44, z_m3_m3, pk_us, pk_un] at h) <;> (conv => whnf)
    · rw [decide_eq_false h] at hQ
      repeat ((first | refine And.intro (by (conv => arg 2; whnf); (try simp only [z_lit, nI_add, pk_mul, z_pr1, z_pr2]); exact z_in (by omega) (by decide)) ?_ | refine z_bt1 (by decide) ?_ | refine z_bf1 (by decide) ?_ | refine z_bt2 (by decide) ?_ | refine z_bf2 (by decide) ?_); conv => whnf)
      refine hK _ _ _ _ _ _ _ _ _ _ (tl_passes (he := false) hb ht hu hv hr hn hs1 (by omega) hQ)
    · rw [decide_eq_true h] at hQ
      repeat ((first | refine And.intro (by (conv => arg 2; whnf); (try simp only [z_lit, nI_add, pk_mul, z_pr1, z_pr2]); exact z_in (by omega) (by decide)) ?_ | refine z_bt1 (by decide) ?_ | refine z_bf1 (by decide) ?_ | refine z_bt2 (by decide) ?_ | refine z_bf2 (by decide) ?_); conv => whnf)
      refine hC _ _ _ _ _ _ _ _ _ _ (fun _ _ _ _ _ _ q => q) (sp_cmd ?_)
      conv => whnf
      refine hC _ _ _ _ _ _ _ _ _ _ (fun _ _ _ _ _ _ q => q) (sp_begins (c := s_cmd (nI v) (nI 0) (nI (r + 1)) (nI n)) hv ?_)
      conv => whnf
      refine hK _ _ _ _ _ _ _ _ _ _ (tl_passes (he := true) hb ht hu hv hr hn (m_begins_ok hv hs1) (by omega) hQ)
end
