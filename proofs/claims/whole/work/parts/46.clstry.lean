/-! the class's tries: their small steps -/
abbrev cT : List Nat := [3, 4, 9, 10, 11, 12, 13, 14, 15, 16, 17, 29, 30]
theorem fr_ct {S : List Nat} {I I' : z_I} (h : fr S I I') (g : ∀ b, b ∈ S → b ∈ cT) : fr cT I I' := fr_m h g
def c_out (tu st : Int32) : Int32 := if tu = nI 0 then (if st &&& nI 1024 = nI 0 then (if st &&& nI 8 = nI 0 then nI 0 else nI 4) else nI 3) else nI 2
section
variable {L : Nat} {xs : Nat → Int32} {d : Nat} {kp sp wd : Value} {I : z_I} {s : z_sg} {R : z_R} {J : z_J} {F : z_F} {cn : Nat} {Q : z_Q} {n k bus : Nat} {f0 : Int32}
theorem ct_encode {t k sub n : Int32} {I : z_I} {R : z_R} (hQ : Q (some (.int (s_cmd t k sub n))) I R J F cn) : z_M (z_X0 L xs) z_P0 d m_Trial_encode [.int t, .int k, .int sub, .int n] I R J F cn Q := by
  refine z_WP_gos [] 1000 fun K C hK hC => ?_
  conv => whnf
  exact hQ
theorem ct_isLost {o : Int32} {I : z_I} {R : z_R} (hQ : Q (some (.int (z_bi (decide (o = nI 1) || decide (o = nI 2))))) I R J F cn) : z_M (z_X0 L xs) z_P0 d m_Trial_isLost [.int o] I R J F cn Q := by
  refine z_WP_gos [] 1000 fun K C hK hC => ?_
  conv => whnf
  refine ⟨fun h => ?_, fun h => ?_⟩ <;> (try simp (disch := omega) only [z_lit, nI_add, pk_mul, z_pr1, z_pr2, nI_clamp, z_up_row, z_row_s, z_row_n, z_row_row, pk_us, pk_un] at h) <;> (conv => whnf)
  · exact z_Q1 hQ (by rw [h]; rfl)
  · refine ⟨fun g => ?_, fun g => ?_⟩ <;> (try simp (disch := omega) only [z_lit, nI_add, pk_mul, z_pr1, z_pr2, nI_clamp, z_up_row, z_row_s, z_row_n, z_row_row, pk_us, pk_un] at g) <;> (conv => whnf)
    · exact z_Q0 hQ (by simp [h, g])
    · exact z_Q1 hQ (by rw [g]; rfl)
theorem xR_lays {I I' : z_I} {many : Nat} {who x : Int32} {s' : z_sg} (h : xR I F s n k bus f0) (hb : bus < 2) (hw : s'.2.1 = s.2.1) (h7 : s'.1 7 = s.1 7) (h6 : v01 (s'.1 6)) (hf : fr [10, 11, 12, 13, 14, 15, 16, 17] (z_row I 29 (upd (I 29) 6 x)) I') (hx : s'.1 4 + nI (20 * many) = f0 + x) (hR : wR I' (m_lays s' bus who many).1.2.1 (n + many) (k + 1)) : xR I' F (m_lays s' bus who many).1 (n + many) (k + 1) bus f0 := by
  have g : ∀ b, b ∉ [10, 11, 12, 13, 14, 15, 16, 17] → b ≠ 29 → I' b = I b := fun b hb h2 => (hf b hb).trans (z_row_n _ _ h2)
  have g29 : I' 29 = upd (I 29) 6 x := (hf 29 (by decide)).trans (z_row_s _ _ _)
  refine xR_of h (fun b hb => g b ?_ (by omega)) (fun j hj => ?_) hR (by rw [g29, pk_un (by omega)]) (by rw [g29, pk_un (by omega)]) ?_ ?_ ?_
  · simp only [List.mem_cons, List.not_mem_nil, or_false, not_or]; omega
  · rw [m_lays_lo hb (by omega), hw]
  · rw [g29, pk_us, ← hx]
    rfl
  · rw [g29, pk_un (by omega)]
    show _ = s'.1 7
    rw [h7]
    exact h.2.2.2.1.2.2.2
  · exact h6
theorem ct_say {many : Nat} (h : xR I F s n k bus f0) (hb : bus < 2) (hm : many ≤ 9) (hn : n + 10 < 2 ^ 30) (hk : k < 2 ^ 30) (hy : ∀ j, j < many → I 30 j = s.2.2 j ∧ b16 (s.2.2 j))
    (hQ : ∀ I', xR I' F (m_lays s bus (s.2.1 3) many).1 (n + many) (k + 1) bus f0 → I' 30 = I 30 → fr cT I I' → Q (some (.int (m_lays s bus (s.2.1 3) many).2)) I' (z_R0 kp sp wd) J F cn) :
    z_M (z_X0 L xs) z_P0 (d + 3) m_Trial_say [.ref 29, .int (nI many)] I (z_R0 kp sp wd) J F cn Q := by
  have h8 := h.2.2.1.2
  obtain ⟨d1, d2, d3, d4⟩ := h.2.2.2.1
  refine z_WP_gos [] 1000 fun K C hK hC => ?_
  conv => whnf
  simp (disch := omega) only [z_lit, nI_add, pk_mul, z_pr1, z_pr2, nI_clamp, z_up_row, z_row_s, z_row_n, z_row_row, pk_us, pk_un]
  rw [h8, d1, d2]
  refine hC _ _ _ _ _ _ _ _ _ _ (fun _ _ _ _ _ _ q => q) (cw_lay (s := s) (n := n) (k := k) hb hm hn hk hy h.2.1 (fun I' f r => ?_))
  conv => whnf
  refine hQ I' (xR_lays h hb rfl rfl h.2.2.2.2.2 f ?_ r) ?_ ?_
  · rw [d3]; exact Int32.add_assoc _ _ _
  · exact f 30 (by decide)
  · exact fr_t (fr_w fr_r (by decide)) (fr_m f (by decide))
theorem ct_reaches {t : Nat} {tu : Int32} (h : xR I F s n k bus f0) (ht : t < 8) (hQ : Q (some (.int (z_bi (decide (tu = nI 0) && s_hear s.2.1 t bus)))) I (z_R0 kp sp wd) J F cn) : z_M (z_X0 L xs) z_P0 (d + 2) m_Trial_reaches [.ref 29, .int (nI t), .int tu] I (z_R0 kp sp wd) J F cn Q := by
  have h8 := h.2.2.1.2
  have d1 := h.2.2.2.1.1
  refine z_WP_gos [] 1000 fun K C hK hC => ?_
  conv => whnf
  refine ⟨fun g => ?_, fun g => ?_⟩ <;> (try simp (disch := omega) only [z_lit, nI_add, pk_mul, z_pr1, z_pr2, nI_clamp, z_up_row, z_row_s, z_row_n, z_row_row, pk_us, pk_un] at g) <;> (conv => whnf)
  · exact z_Q0 hQ (by rw [decide_eq_false g]; rfl)
  · rw [decide_eq_true g, Bool.true_and] at hQ
    rw [h8, d1]
    refine hC _ _ _ _ _ _ _ _ _ _ (fun _ _ _ _ _ _ q => q) (cu_hears ht h.1.1 h.2.2.2.2.1.1 ?_)
    conv => whnf
    cases hh : s_hear s.2.1 t bus <;> rw [hh] at hQ
    · repeat ((first | refine And.intro (by (conv => arg 2; whnf); (try simp only [z_lit, nI_add, pk_mul, z_pr1, z_pr2]); exact z_in (by omega) (by decide)) ?_ | refine z_bt1 (by decide) ?_ | refine z_bf1 (by decide) ?_ | refine z_bt2 (by decide) ?_ | refine z_bf2 (by decide) ?_); conv => whnf)
      exact z_Q0 hQ rfl
    · repeat ((first | refine And.intro (by (conv => arg 2; whnf); (try simp only [z_lit, nI_add, pk_mul, z_pr1, z_pr2]); exact z_in (by omega) (by decide)) ?_ | refine z_bt1 (by decide) ?_ | refine z_bf1 (by decide) ?_ | refine z_bt2 (by decide) ?_ | refine z_bf2 (by decide) ?_); conv => whnf)
      exact z_Q1 hQ rfl
theorem ct_reaches8 {tu : Int32} (h : xR I F s n k bus f0) (hb : bus < 2) (hQ : Q (some (.int (z_bi (decide (tu = nI 0) && (decide (s.2.1 39 = nI 1) && !decide (s.2.1 3 = nI 8)))))) I (z_R0 kp sp wd) J F cn) : z_M (z_X0 L xs) z_P0 (d + 2) m_Trial_reaches [.ref 29, .int (nI 8), .int tu] I (z_R0 kp sp wd) J F cn Q := by
  have h8 := h.2.2.1.2
  have d1 := h.2.2.2.1.1
  refine z_WP_gos [] 1000 fun K C hK hC => ?_
  conv => whnf
  refine ⟨fun g => ?_, fun g => ?_⟩ <;> (try simp (disch := omega) only [z_lit, nI_add, pk_mul, z_pr1, z_pr2, nI_clamp, z_up_row, z_row_s, z_row_n, z_row_row, pk_us, pk_un] at g) <;> (conv => whnf)
  · exact z_Q0 hQ (by rw [decide_eq_false g]; rfl)
  · rw [decide_eq_true g, Bool.true_and] at hQ
    rw [h8, d1]
    refine hC _ _ _ _ _ _ _ _ _ _ (fun _ _ _ _ _ _ q => q) (cu_hears8 hb h.1.1 h.2.2.2.2.1.1 ?_)
    conv => whnf
    cases hh : (decide (s.2.1 39 = nI 1) && !decide (s.2.1 3 = nI 8)) <;> rw [hh] at hQ
    · repeat ((first | refine And.intro (by (conv => arg 2; whnf); (try simp only [z_lit, nI_add, pk_mul, z_pr1, z_pr2]); exact z_in (by omega) (by decide)) ?_ | refine z_bt1 (by decide) ?_ | refine z_bf1 (by decide) ?_ | refine z_bt2 (by decide) ?_ | refine z_bf2 (by decide) ?_); conv => whnf)
      exact z_Q0 hQ rfl
    · repeat ((first | refine And.intro (by (conv => arg 2; whnf); (try simp only [z_lit, nI_add, pk_mul, z_pr1, z_pr2]); exact z_in (by omega) (by decide)) ?_ | refine z_bt1 (by decide) ?_ | refine z_bf1 (by decide) ?_ | refine z_bt2 (by decide) ?_ | refine z_bf2 (by decide) ?_); conv => whnf)
      exact z_Q1 hQ rfl
theorem xR_time {x : Int32} {s' : z_sg} {I' : z_I} (h : xR I F s n k bus f0) (hw : s'.2.1 = s.2.1) (h7 : s'.1 7 = s.1 7) (h6 : v01 (s'.1 6)) (hx : s'.1 4 = f0 + x) (hI : I' = z_row I 29 (upd (I 29) 6 x)) : xR I' F s' n k bus f0 := by
  subst hI
  refine xR_of h (fun b hb => z_row_n _ _ (by omega)) (fun j _ => by rw [hw]) (wR_of h.2.1 (fun b _ _ => z_row_n _ _ (by omega)) (fun j _ => by rw [hw])) ?_ ?_ ?_ ?_ h6
  · rw [z_row_s, pk_un (by omega)]
  · rw [z_row_s, pk_un (by omega)]
  · rw [z_row_s, pk_us, hx]
  · rw [z_row_s, pk_un (by omega), h7]; exact h.2.2.2.1.2.2.2
theorem ct_noAnswer (h : xR I F s n k bus f0) (hQ : ∀ I', xR I' F (m_quiet s) n k bus f0 → I' 30 = I 30 → fr cT I I' → Q (some (.int (nI 1))) I' (z_R0 kp sp wd) J F cn) : z_M (z_X0 L xs) z_P0 d m_Trial_noAnswer [.ref 29] I (z_R0 kp sp wd) J F cn Q := by
  obtain ⟨d1, d2, d3, d4⟩ := h.2.2.2.1
  refine z_WP_gos [] 1000 fun K C hK hC => ?_
  conv => whnf
  simp (disch := omega) only [z_lit, nI_add, pk_mul, z_pr1, z_pr2, nI_clamp, z_up_row, z_row_s, z_row_n, z_row_row, pk_us, pk_un]
  refine hQ _ (xR_time (s' := m_quiet s) h rfl ?_ ?_ ?_ rfl) rfl (fr_w fr_r (by decide))
  · rfl
  · exact h.2.2.2.2.2
  · show s.1 4 + nI 14 = _
    rw [d3]; exact Int32.add_assoc _ _ _
def m_eight (s : z_sg) : z_sg := (upd s.1 4 (s.1 4 + nI 8), s.2.1, s.2.2)
theorem ct_answer {t many : Nat} {sh : Bool} (h : xR I F s n k bus f0) (hb : bus < 2) (hm : many ≤ 9) (h1 : 1 ≤ many) (hn : n + 10 < 2 ^ 30) (hk : k < 2 ^ 30) (hy : ∀ j, j < many → I 30 j = s.2.2 j ∧ b16 (s.2.2 j))
    (hS : ∀ (d : Nat) (Q : z_Q), Q (some (.int (z_bi sh))) I (z_R0 kp sp wd) J F cn → z_M (z_X0 L xs) z_P0 d m_Units_isShut [.ref 2, .int (nI t), .int (nI bus)] I (z_R0 kp sp wd) J F cn Q)
    (hQ1 : sh = true → ∀ I', xR I' F (m_quiet s) n k bus f0 → I' 30 = I 30 → fr cT I I' → Q (some (.int (nI 1))) I' (z_R0 kp sp wd) J F cn)
    (hQ2 : sh = false → ∀ I', xR I' F (m_lays (m_eight s) bus (nI t) many).1 (n + many) (k + 1) bus f0 → I' 30 = I 30 → fr cT I I' → Q (some (.int (c_out (m_lays (m_eight s) bus (nI t) many).2 (I 30 0)))) I' (z_R0 kp sp wd) J F cn) :
    z_M (z_X0 L xs) z_P0 (d + 3) m_Trial_answer [.ref 29, .int (nI t), .int (nI many)] I (z_R0 kp sp wd) J F cn Q := by
  obtain ⟨d1, d2, d3, d4⟩ := h.2.2.2.1
  refine z_WP_gos [] 1000 fun K C hK hC => ?_
  conv => whnf
  rw [d1]
  refine hC _ _ _ _ _ _ _ _ _ _ (fun _ _ _ _ _ _ q => q) (hS _ _ ?_)
  conv => whnf
  cases sh
  · repeat ((first | refine And.intro (by (conv => arg 2; whnf); (try simp only [z_lit, nI_add, pk_mul, z_pr1, z_pr2]); exact z_in (by omega) (by decide)) ?_ | refine z_bt1 (by decide) ?_ | refine z_bf1 (by decide) ?_ | refine z_bt2 (by decide) ?_ | refine z_bf2 (by decide) ?_); conv => whnf)
    simp (disch := omega) only [z_lit, nI_add, pk_mul, z_pr1, z_pr2, nI_clamp, z_up_row, z_row_s, z_row_n, z_row_row, pk_us, pk_un]
    rw [d1, d2]
    refine hC _ _ _ _ _ _ _ _ _ _ (fun _ _ _ _ _ _ q => q) (cw_lay (s := m_eight s) (n := n) (k := k) hb hm hn hk hy h.2.1 (fun I' f r => ?_))
    conv => whnf
    have hX : xR I' F (m_lays (m_eight s) bus (nI t) many).1 (n + many) (k + 1) bus f0 := by
      refine xR_lays (s' := m_eight s) h hb rfl ?_ ?_ f ?_ r
      · rfl
      · exact h.2.2.2.2.2
      · show s.1 4 + nI 8 + _ = _
        rw [d3, Int32.add_assoc, Int32.add_assoc, nI_add]
    have hI : I' 30 = I 30 := f 30 (by decide)
    have hF : fr cT I I' := fr_t (fr_w fr_r (by decide)) (fr_m f (by decide))
    have q := hQ2 rfl I' hX hI hF
    unfold c_out at q
    refine ⟨fun g => ?_, fun g => ?_⟩ <;> (try simp (disch := omega) only [z_lit, nI_add, pk_mul, z_pr1, z_pr2, nI_clamp, z_up_row, z_row_s, z_row_n, z_row_row, pk_us, pk_un] at g) <;> (conv => whnf)
    · rw [if_pos g] at q
      repeat ((first | refine And.intro (by (conv => arg 2; whnf); (try simp only [z_lit, nI_add, pk_mul, z_pr1, z_pr2]); exact z_in (by omega) (by decide)) ?_ | refine z_bt1 (by decide) ?_ | refine z_bf1 (by decide) ?_ | refine z_bt2 (by decide) ?_ | refine z_bf2 (by decide) ?_); conv => whnf)
      refine ⟨fun g2 => ?_, fun g2 => ?_⟩ <;> (try simp (disch := omega) only [z_lit, nI_add, pk_mul, z_pr1, z_pr2, nI_clamp, z_up_row, z_row_s, z_row_n, z_row_row, pk_us, pk_un] at g2) <;> (conv => whnf)
      · rw [hI] at g2
        rw [if_pos g2] at q
        repeat ((first | refine And.intro (by (conv => arg 2; whnf); (try simp only [z_lit, nI_add, pk_mul, z_pr1, z_pr2]); exact z_in (by omega) (by decide)) ?_ | refine z_bt1 (by decide) ?_ | refine z_bf1 (by decide) ?_ | refine z_bt2 (by decide) ?_ | refine z_bf2 (by decide) ?_); conv => whnf)
        refine ⟨fun g3 => ?_, fun g3 => ?_⟩ <;> (try simp (disch := omega) only [z_lit, nI_add, pk_mul, z_pr1, z_pr2, nI_clamp, z_up_row, z_row_s, z_row_n, z_row_row, pk_us, pk_un] at g3) <;> (conv => whnf)
        · rw [hI] at g3
          rw [if_pos g3] at q
          exact q
        · rw [hI] at g3
          rw [if_neg g3] at q
          exact q
      · rw [hI] at g2
        rw [if_neg g2] at q
        exact q
    · rw [if_neg g] at q
      exact q
  · repeat ((first | refine And.intro (by (conv => arg 2; whnf); (try simp only [z_lit, nI_add, pk_mul, z_pr1, z_pr2]); exact z_in (by omega) (by decide)) ?_ | refine z_bt1 (by decide) ?_ | refine z_bf1 (by decide) ?_ | refine z_bt2 (by decide) ?_ | refine z_bf2 (by decide) ?_); conv => whnf)
    refine hC _ _ _ _ _ _ _ _ _ _ (fun _ _ _ _ _ _ q => q) (ct_noAnswer h (fun I' a b c => ?_))
    conv => whnf
    exact hQ1 rfl I' a b c
def m_want (s : z_sg) (t : Nat) : z_sg := (upd s.1 7 (s.1 7 ||| nI 1 <<< (nI t &&& nI 31)), s.2.1, s.2.2)
theorem ct_heed {t : Nat} {o : Int32} (h : xR I F s n k bus f0)
    (h0 : (o = nI 1 ∨ o = nI 2) ∨ I 30 0 &&& nI 256 = nI 0 → Q (some (.int o)) I (z_R0 kp sp wd) J F cn)
    (h1 : ¬ o = nI 1 → ¬ o = nI 2 → ¬ I 30 0 &&& nI 256 = nI 0 → ∀ I', xR I' F (m_want s t) n k bus f0 → I' 30 = I 30 → fr cT I I' → Q (some (.int o)) I' (z_R0 kp sp wd) J F cn) :
    z_M (z_X0 L xs) z_P0 (d + 1) m_Trial_heedService [.ref 29, .int (nI t), .int o] I (z_R0 kp sp wd) J F cn Q := by
  obtain ⟨d1, d2, d3, d4⟩ := h.2.2.2.1
  refine z_WP_gos [] 1000 fun K C hK hC => ?_
  conv => whnf
  refine hC _ _ _ _ _ _ _ _ _ _ (fun _ _ _ _ _ _ q => q) (ct_isLost ?_)
  conv => whnf
  cases hl : (decide (o = nI 1) || decide (o = nI 2))
  · simp only [Bool.or_eq_false_iff, decide_eq_false_iff_not] at hl
    repeat ((first | refine And.intro (by (conv => arg 2; whnf); (try simp only [z_lit, nI_add, pk_mul, z_pr1, z_pr2]); exact z_in (by omega) (by decide)) ?_ | refine z_bt1 (by decide) ?_ | refine z_bf1 (by decide) ?_ | refine z_bt2 (by decide) ?_ | refine z_bf2 (by decide) ?_); conv => whnf)
    refine ⟨fun g => ?_, fun g => ?_⟩ <;> (try simp (disch := omega) only [z_lit, nI_add, pk_mul, z_pr1, z_pr2, nI_clamp, z_up_row, z_row_s, z_row_n, z_row_row, pk_us, pk_un] at g) <;> (conv => whnf)
    · exact h0 (Or.inr g)
    · simp (disch := omega) only [z_lit, nI_add, pk_mul, z_pr1, z_pr2, nI_clamp, z_up_row, z_row_s, z_row_n, z_row_row, pk_us, pk_un]
      refine h1 hl.1 hl.2 g _ ?_ rfl (fr_w fr_r (by decide))
      refine xR_of h (fun b hb => z_row_n _ _ (by omega)) (fun j _ => rfl) (wR_of h.2.1 (fun b _ _ => z_row_n _ _ (by omega)) (fun j _ => rfl)) ?_ ?_ ?_ ?_ ?_
      · rw [z_row_s, pk_un (by omega)]
      · rw [z_row_s, pk_un (by omega)]
      · rw [z_row_s, pk_un (by omega)]
        exact d3
      · rw [z_row_s, pk_us, d4]
        rfl
      · exact h.2.2.2.2.2
  · simp only [Bool.or_eq_true, decide_eq_true_eq] at hl
    repeat ((first | refine And.intro (by (conv => arg 2; whnf); (try simp only [z_lit, nI_add, pk_mul, z_pr1, z_pr2]); exact z_in (by omega) (by decide)) ?_ | refine z_bt1 (by decide) ?_ | refine z_bf1 (by decide) ?_ | refine z_bt2 (by decide) ?_ | refine z_bf2 (by decide) ?_); conv => whnf)
    exact h0 (Or.inl hl)
theorem cu_take {t u m from' : Nat} {c bits : Int32} {w : Nat → Int32} (ht : t < 8) (hu6 : u < 6) (hm : m ≤ 8) (hfrom : from' + m ≤ 1200) (hu : uT (I 3) w) (ho : uW w)
    (h0 : s_legal w t u = false → Q (some (.int (c_st (I 3) t (nI 1024)))) (z_row I 3 (c_settle (I 3) t c (nI 1024))) (z_R0 kp sp wd) J F cn)
    (h1 : s_legal w t u = true → w (40 + t) = nI 1 → Q (some (.int (c_st (I 3) t (nI 0)))) (z_row I 3 (c_settle (I 3) t c (nI 0))) (z_R0 kp sp wd) J F cn)
    (h2 : s_legal w t u = true → w (40 + t) = nI 0 → Q (some (.int (c_st (I 3) t bits))) (z_row (z_row I 4 (va_cpy (I 4) (I 4) from' (384 + 8 * (6 * t + u)) m)) 3 (c_settle (I 3) t c bits)) (z_R0 kp sp wd) J F cn) :
    z_M (z_X0 L xs) z_P0 (d + 2) m_Units_take [.ref 2, .int (nI t), .int (nI (u + 1)), .int (nI m), .int c, .int (nI from'), .int bits] I (z_R0 kp sp wd) J F cn Q := by
  have v := ho.2.1 (40 + t) (by omega) (by omega)
  refine z_WP_gos [] 1000 fun K C hK hC => ?_
  conv => whnf
  refine hC _ _ _ _ _ _ _ _ _ _ (fun _ _ _ _ _ _ q => q) (cu_isLegal ht hu ?_)
  conv => whnf
  cases hl : s_legal w t u
  · repeat ((first | refine And.intro (by (conv => arg 2; whnf); (try simp only [z_lit, nI_add, pk_mul, z_pr1, z_pr2]); exact z_in (by omega) (by decide)) ?_ | refine z_bt1 (by decide) ?_ | refine z_bf1 (by decide) ?_ | refine z_bt2 (by decide) ?_ | refine z_bf2 (by decide) ?_); conv => whnf)
    refine hC _ _ _ _ _ _ _ _ _ _ (fun _ _ _ _ _ _ q => q) (cu_settle ht ?_)
    conv => whnf
    exact h0 hl
  · repeat ((first | refine And.intro (by (conv => arg 2; whnf); (try simp only [z_lit, nI_add, pk_mul, z_pr1, z_pr2]); exact z_in (by omega) (by decide)) ?_ | refine z_bt1 (by decide) ?_ | refine z_bf1 (by decide) ?_ | refine z_bt2 (by decide) ?_ | refine z_bf2 (by decide) ?_); conv => whnf)
    refine hC _ _ _ _ _ _ _ _ _ _ (fun _ _ _ _ _ _ q => q) (cu_isBusy ht hu ho ?_)
    conv => whnf
    cases hb : decide (w (40 + t) = nI 1)
    · have hb' : w (40 + t) = nI 0 := by
        rcases v with v | v
        · exact v
        · rw [v] at hb; exact absurd hb (by decide)
      repeat ((first | refine And.intro (by (conv => arg 2; whnf); (try simp only [z_lit, nI_add, pk_mul, z_pr1, z_pr2]); exact z_in (by omega) (by decide)) ?_ | refine z_bt1 (by decide) ?_ | refine z_bf1 (by decide) ?_ | refine z_bt2 (by decide) ?_ | refine z_bf2 (by decide) ?_); conv => whnf)
      refine hC _ _ _ _ _ _ _ _ _ _ (fun _ _ _ _ _ _ q => q) (cu_spot (k := 1) ?_)
      conv => whnf
      refine And.intro ⟨(by (try simp only [z_lit, nI_add, pk_mul]); exact nI_pos (by omega)), (by (try simp only [z_lit, nI_add, pk_mul]); exact nI_pos (by omega)), (by (try simp only [z_lit, nI_add, pk_mul]); exact nI_pos (by omega)), (by (try simp (disch := omega) only [z_lit, nI_clamp, nI_add, pk_mul]); exact (show _ ≤ (1200 : Nat) by omega)), (by (try simp (disch := omega) only [z_lit, nI_clamp, nI_add, pk_mul]); exact (show _ ≤ (1200 : Nat) by omega))⟩ ?_
      conv => whnf
      refine hC _ _ _ _ _ _ _ _ _ _ (fun _ _ _ _ _ _ q => q) (cu_settle ht ?_)
      conv => whnf
      have q := h2 hl hb'
      refine z_Qi q rfl ?_
      simp (disch := omega) only [z_lit, nI_clamp, z_cpy]
      rfl
    · repeat ((first | refine And.intro (by (conv => arg 2; whnf); (try simp only [z_lit, nI_add, pk_mul, z_pr1, z_pr2]); exact z_in (by omega) (by decide)) ?_ | refine z_bt1 (by decide) ?_ | refine z_bf1 (by decide) ?_ | refine z_bt2 (by decide) ?_ | refine z_bf2 (by decide) ?_); conv => whnf)
      refine hC _ _ _ _ _ _ _ _ _ _ (fun _ _ _ _ _ _ q => q) (cu_settle ht ?_)
      conv => whnf
      exact h1 hl (by simpa using hb)
end
