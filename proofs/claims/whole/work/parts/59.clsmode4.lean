/-! MODE: codes 2, 18, 16; the whole -/
section
variable {L : Nat} {xs : Nat → Int32} {d : Nat} {kp sp wd : Value} {I : z_I} {s : z_sg} {R : z_R} {J : z_J} {F : z_F} {cn : Nat} {Q : z_Q} {n k bus : Nat} {f0 : Int32}
theorem out_lost {tu st : Int32} : (decide (c_out tu st = nI 1) || decide (c_out tu st = nI 2)) = !decide (tu = nI 0) := by
  by_cases h : tu = nI 0
  · subst h
    rw [decide_eq_false (@out_n st).1, decide_eq_false (@out_n st).2, decide_eq_true rfl]; rfl
  · rw [out_2 h, decide_eq_false h]; decide
theorem tl_apart {t code : Nat} {c : Int32} {lc : Option Value} (h : xR I F s n k bus f0) (hb : bus < 2) (ht : t < 8) (hco : code = 2 ∨ code = 18) (hn : n + 10 < 2 ^ 30) (hk : k < 2 ^ 30)
    (hQ : ∀ I' n' k', xR I' F (m_mt s bus t code).1 n' k' bus f0 → n' ≤ n + 10 → k' ≤ k + 1 → fr cT I I' → Q (some (.int (m_mt s bus t code).2)) I' (z_R0 kp sp wd) J F cn) :
    z_WP (z_X0 L xs) z_P0 (d + 4) m_Trial_mode 117 [some (.ref 29), some (.int (nI t)), some (.int (nI code)), some (.int c), some (.int (nI 0)), lc] [] I (z_R0 kp sp wd) J F cn 0 0 Q := by
  have hap : s_apart code = true := by rcases hco with z | z <;> subst z <;> decide
  have g16 : ¬ nI code = nI 16 := by rcases hco with z | z <;> subst z <;> decide
  have mt := mt_apart (s2 := s) (bus := bus) (t := t) (code := code) (by omega) hap g16
  have hmany : (if code = 2 then 1 else 2) = (if code = 16 ∨ code = 18 ∨ code = 19 then 2 else 1) := by rcases hco with z | z <;> subst z <;> decide
  have hm9 : (if code = 16 ∨ code = 18 ∨ code = 19 then 2 else 1) ≤ 2 ∧ 1 ≤ (if code = 16 ∨ code = 18 ∨ code = 19 then 2 else 1) := by split <;> omega
  have hmw : code = 18 → s_mw s.2.1 t code = s.2.1 (144 + t) := fun z => by subst z; unfold s_mw; rw [if_neg (by decide), if_pos rfl]
  refine z_WP_gos [] 1000 fun K C hK hC => ?_
  conv => whnf
  refine hC _ _ _ _ _ _ _ _ _ _ (fun _ _ _ _ _ _ q => q) (cr_apart h ht hco (fun I1 x1 e0 e1 f1 => ?_))
  conv => whnf
  rw [hmany]
  refine hC _ _ _ _ _ _ _ _ _ _ (fun _ _ _ _ _ _ q => q) (ct_answer (s := m_syn s t code) (sh := s_shut s.2.1 t bus) x1 hb (by omega) (by omega) hn hk (fun j hj => ?_) (fun d Q q => cu_isShut ht x1.1.1 q) (fun hs I2 x2 e2 f2 => ?_) (fun hs I2 x2 e2 f2 => ?_))
  · rcases (show j = 0 ∨ j = 1 by omega) with z | z <;> subst z
    · show I1 30 0 = s.2.1 (136 + t) ∧ b16 (s.2.1 (136 + t))
      exact ⟨e0, x1.2.2.2.2.1.2.2.1 _ (by omega)⟩
    · have z : code = 18 := by
        rcases hco with z | z
        · subst z; exact absurd hj (by decide)
        · exact z
      show I1 30 1 = s_mw s.2.1 t code ∧ b16 (s_mw s.2.1 t code)
      rw [hmw z]
      exact ⟨e1, x1.2.2.2.2.1.2.2.1 _ (by omega)⟩
  · have q := mt.2.1 hs
    rw [q] at hQ
    have x3 : xR I2 F (upd (m_quiet s).1 6 (s.1 6), (m_quiet s).2.1, (m_quiet s).2.2) n k bus f0 := xR_f x2 rfl rfl rfl rfl
    rcases hco with z | z <;> subst z
    · conv => whnf
      repeat ((first | refine And.intro (by (conv => arg 2; whnf); (try simp only [z_lit, nI_add, pk_mul, z_pr1, z_pr2]); exact z_in (by omega) (by decide)) ?_ | refine z_bt1 (by decide) ?_ | refine z_bf1 (by decide) ?_ | refine z_bt2 (by decide) ?_ | refine z_bf2 (by decide) ?_); conv => whnf)
      refine hC _ _ _ _ _ _ _ _ _ _ (fun _ _ _ _ _ _ q => q) (ct_isLost ?_)
      conv => whnf
      repeat ((first | refine And.intro (by (conv => arg 2; whnf); (try simp only [z_lit, nI_add, pk_mul, z_pr1, z_pr2]); exact z_in (by omega) (by decide)) ?_ | refine z_bt1 (by decide) ?_ | refine z_bf1 (by decide) ?_ | refine z_bt2 (by decide) ?_ | refine z_bf2 (by decide) ?_); conv => whnf)
      exact hQ I2 n k x3 (by omega) (by omega) (fr_t f1 f2)
    · conv => whnf
      repeat ((first | refine And.intro (by (conv => arg 2; whnf); (try simp only [z_lit, nI_add, pk_mul, z_pr1, z_pr2]); exact z_in (by omega) (by decide)) ?_ | refine z_bt1 (by decide) ?_ | refine z_bf1 (by decide) ?_ | refine z_bt2 (by decide) ?_ | refine z_bf2 (by decide) ?_); conv => whnf)
      refine hC _ _ _ _ _ _ _ _ _ _ (fun _ _ _ _ _ _ q => q) (ct_isLost ?_)
      conv => whnf
      repeat ((first | refine And.intro (by (conv => arg 2; whnf); (try simp only [z_lit, nI_add, pk_mul, z_pr1, z_pr2]); exact z_in (by omega) (by decide)) ?_ | refine z_bt1 (by decide) ?_ | refine z_bf1 (by decide) ?_ | refine z_bt2 (by decide) ?_ | refine z_bf2 (by decide) ?_); conv => whnf)
      exact hQ I2 n k x3 (by omega) (by omega) (fr_t f1 f2)
  · obtain ⟨q2, q4, q7, qw⟩ := mt.2.2 hs
    have x3 : xR I2 F (m_mt s bus t code).1 (n + (if code = 16 ∨ code = 18 ∨ code = 19 then 2 else 1)) (k + 1) bus f0 := xR_f x2 q4 (by rw [mt.1, m_lays_f4 (by omega)]; rfl) (by rw [q7, m_lays_f4 (by omega)]; rfl) qw
    have q := hQ I2 _ _ x3 (by omega) (by omega) (fr_t f1 f2)
    rw [q2] at q
    have ol := @out_lost (m_lays (m_eight (m_syn s t code)) bus (nI t) (if code = 16 ∨ code = 18 ∨ code = 19 then 2 else 1)).2 (I1 30 0)
    generalize hr2 : (m_lays (m_eight (m_syn s t code)) bus (nI t) (if code = 16 ∨ code = 18 ∨ code = 19 then 2 else 1)).2 = r2 at *
    clear x2 x3 mt q2 q4 q7 qw hmany hm9 hmw hap g16
    rcases hco with z | z <;> subst z
    · conv => whnf
      repeat ((first | refine And.intro (by (conv => arg 2; whnf); (try simp only [z_lit, nI_add, pk_mul, z_pr1, z_pr2]); exact z_in (by omega) (by decide)) ?_ | refine z_bt1 (by decide) ?_ | refine z_bf1 (by decide) ?_ | refine z_bt2 (by decide) ?_ | refine z_bf2 (by decide) ?_); conv => whnf)
      refine hC _ _ _ _ _ _ _ _ _ _ (fun _ _ _ _ _ _ q => q) (ct_isLost ?_)
      conv => whnf
      rw [ol]
      by_cases z : r2 = nI 0
      · rw [if_pos z] at q
        rw [decide_eq_true z]
        repeat ((first | refine And.intro (by (conv => arg 2; whnf); (try simp only [z_lit, nI_add, pk_mul, z_pr1, z_pr2]); exact z_in (by omega) (by decide)) ?_ | refine z_bt1 (by decide) ?_ | refine z_bf1 (by decide) ?_ | refine z_bt2 (by decide) ?_ | refine z_bf2 (by decide) ?_); conv => whnf)
        exact q
      · rw [if_neg z] at q
        rw [decide_eq_false z, out_2 z]
        repeat ((first | refine And.intro (by (conv => arg 2; whnf); (try simp only [z_lit, nI_add, pk_mul, z_pr1, z_pr2]); exact z_in (by omega) (by decide)) ?_ | refine z_bt1 (by decide) ?_ | refine z_bf1 (by decide) ?_ | refine z_bt2 (by decide) ?_ | refine z_bf2 (by decide) ?_); conv => whnf)
        exact q
    · conv => whnf
      repeat ((first | refine And.intro (by (conv => arg 2; whnf); (try simp only [z_lit, nI_add, pk_mul, z_pr1, z_pr2]); exact z_in (by omega) (by decide)) ?_ | refine z_bt1 (by decide) ?_ | refine z_bf1 (by decide) ?_ | refine z_bt2 (by decide) ?_ | refine z_bf2 (by decide) ?_); conv => whnf)
      refine hC _ _ _ _ _ _ _ _ _ _ (fun _ _ _ _ _ _ q => q) (ct_isLost ?_)
      conv => whnf
      rw [ol]
      by_cases z : r2 = nI 0
      · rw [if_pos z] at q
        rw [decide_eq_true z]
        repeat ((first | refine And.intro (by (conv => arg 2; whnf); (try simp only [z_lit, nI_add, pk_mul, z_pr1, z_pr2]); exact z_in (by omega) (by decide)) ?_ | refine z_bt1 (by decide) ?_ | refine z_bf1 (by decide) ?_ | refine z_bt2 (by decide) ?_ | refine z_bf2 (by decide) ?_); conv => whnf)
        exact q
      · rw [if_neg z] at q
        rw [decide_eq_false z, out_2 z]
        repeat ((first | refine And.intro (by (conv => arg 2; whnf); (try simp only [z_lit, nI_add, pk_mul, z_pr1, z_pr2]); exact z_in (by omega) (by decide)) ?_ | refine z_bt1 (by decide) ?_ | refine z_bf1 (by decide) ?_ | refine z_bt2 (by decide) ?_ | refine z_bf2 (by decide) ?_); conv => whnf)
        exact q
theorem tl_vec {t : Nat} {c : Int32} {lc : Option Value} (h : xR I F s n k bus f0) (hb : bus < 2) (ht : t < 8) (hc : b16 c) (h6 : s.1 6 = nI 0) (hn : n + 10 < 2 ^ 30) (hk : k < 2 ^ 30)
    (hQ : ∀ I' n' k', xR I' F (m_mt (m_last (m_does (m_begins s t c) bus t 16) t) bus t 16).1 n' k' bus f0 → n' ≤ n + 10 → k' ≤ k + 1 → fr cT I I' → Q (some (.int (m_mt (m_last (m_does (m_begins s t c) bus t 16) t) bus t 16).2)) I' (z_R0 kp sp wd) J F cn) :
    z_WP (z_X0 L xs) z_P0 (d + 4) m_Trial_mode 117 [some (.ref 29), some (.int (nI t)), some (.int (nI 16)), some (.int c), some (.int (nI 0)), lc] [] I (z_R0 kp sp wd) J F cn 0 0 Q := by
  have hs := stt_does (s := s) (bus := bus) (t := t) (code := 16) (c := c) ht (by decide) (by decide) (by decide) h6
  have z0 : v01 (nI 0) := Or.inl rfl
  have o104 : (m_last (m_does (m_begins s t c) bus t 16) t).2.1 (104 + t) = s.2.1 (104 + t) := hs.1 _ (by omega) (by omega) (by omega) (by omega) (by omega) (by omega)
  have hst := stb_of ht h.2.2.2.2.1.1 hs z0 z0 h.2.2.2.2.2
  have v176 : v01 ((m_last (m_does (m_begins s t c) bus t 16) t).2.1 (176 + t)) := by rw [hs.2.2.2.2.1]; exact z0
  have v40 : v01 ((m_last (m_does (m_begins s t c) bus t 16) t).2.1 (40 + t)) := by
    rw [hs.1 _ (by omega) (by omega) (by omega) (by omega) (by omega) (by omega)]; exact h.2.2.2.2.1.1.2.1 _ (by omega) (by omega)
  refine z_WP_gos [] 1000 fun K C hK hC => ?_
  conv => whnf
  refine hC _ _ _ _ _ _ _ _ _ _ (fun _ _ _ _ _ _ q => q) (cr_norm h hb ht hc (by decide) (by decide) (by decide) h6 (fun I1 x1 e0 e1 f1 => ?_))
  conv => whnf
  rw [if_pos rfl] at x1 e1
  have mt := mt_vec (s2 := m_last (m_does (m_begins s t c) bus t 16) t) (bus := bus) (t := t) hb ht v176
  generalize m_mt (m_last (m_does (m_begins s t c) bus t 16) t) bus t 16 = M at *
  generalize m_last (m_does (m_begins s t c) bus t 16) t = s2 at *
  have hmw : s_mw (upd s2.2.1 (48 + t) (nI 0)) t 16 = s.2.1 (104 + t) := by
    unfold s_mw; rw [if_pos rfl, pk_un (by omega), o104]
  have hsh : s_shut (m_w s2 (48 + t) (nI 0)).2.1 t bus = s_shut s2.2.1 t bus := by
    show s_shut (upd s2.2.1 (48 + t) (nI 0)) t bus = _
    unfold s_shut; rw [pk_un (by omega)]
  refine hC _ _ _ _ _ _ _ _ _ _ (fun _ _ _ _ _ _ q => q) (ct_answer (s := m_syn (m_w s2 (48 + t) (nI 0)) t 16) (sh := s_shut s2.2.1 t bus) (many := 2) x1 hb (by omega) (by omega) hn hk (fun j hj => ?_) (fun d Q q => cu_isShut ht x1.1.1 (by rw [hsh]; exact q)) (fun hs' I2 x2 e2 f2 => ?_) (fun hs' I2 x2 e2 f2 => ?_))
  · rcases (show j = 0 ∨ j = 1 by omega) with z | z <;> subst z
    · show I1 30 0 = upd s2.2.1 (48 + t) (nI 0) (136 + t) ∧ b16 (upd s2.2.1 (48 + t) (nI 0) (136 + t))
      rw [pk_un (by omega)]
      refine ⟨e0, ?_⟩
      have := x1.2.2.2.2.1.2.2.1 (136 + t) (by omega)
      rw [show (m_w s2 (48 + t) (nI 0)).2.1 (136 + t) = s2.2.1 (136 + t) from pk_un (by omega)] at this
      exact this
    · show I1 30 1 = s_mw (upd s2.2.1 (48 + t) (nI 0)) t 16 ∧ b16 (s_mw (upd s2.2.1 (48 + t) (nI 0)) t 16)
      rw [hmw]
      exact ⟨e1, h.2.2.2.2.1.2.2.1 _ (by omega)⟩
  · have q := mt.2.1 hs'
    have x3 : xR I2 F M.1 n k bus f0 := by rw [q]; exact xR_f x2 rfl rfl rfl rfl
    have q9 := hQ I2 n k x3 (by omega) (by omega) (fr_t f1 f2)
    rw [q] at q9
    conv => whnf
    repeat ((first | refine And.intro (by (conv => arg 2; whnf); (try simp only [z_lit, nI_add, pk_mul, z_pr1, z_pr2]); exact z_in (by omega) (by decide)) ?_ | refine z_bt1 (by decide) ?_ | refine z_bf1 (by decide) ?_ | refine z_bt2 (by decide) ?_ | refine z_bf2 (by decide) ?_); conv => whnf)
    refine hC _ _ _ _ _ _ _ _ _ _ (fun _ _ _ _ _ _ q => q) (ct_isLost ?_)
    conv => whnf
    repeat ((first | refine And.intro (by (conv => arg 2; whnf); (try simp only [z_lit, nI_add, pk_mul, z_pr1, z_pr2]); exact z_in (by omega) (by decide)) ?_ | refine z_bt1 (by decide) ?_ | refine z_bf1 (by decide) ?_ | refine z_bt2 (by decide) ?_ | refine z_bf2 (by decide) ?_); conv => whnf)
    exact q9
  · obtain ⟨q4, q7, q2, qw⟩ := mt.2.2 hs'
    have m6 := mt.1
    have ol := @out_lost (m_lays (m_eight (m_syn (m_w s2 (48 + t) (nI 0)) t 16)) bus (nI t) 2).2 (I1 30 0)
    have l104 : (m_lays (m_eight (m_syn (m_w s2 (48 + t) (nI 0)) t 16)) bus (nI t) 2).1.2.1 (104 + t) = s.2.1 (104 + t) := by
      rw [m_lays_lo hb (by omega), ← o104]
      exact pk_un (by omega)
    have l6 : (m_lays (m_eight (m_syn (m_w s2 (48 + t) (nI 0)) t 16)) bus (nI t) 2).1.1 6 = s2.1 6 := by rw [m_lays_f4 (by omega)]; rfl
    have l7 : (m_lays (m_eight (m_syn (m_w s2 (48 + t) (nI 0)) t 16)) bus (nI t) 2).1.1 7 = s2.1 7 := by rw [m_lays_f4 (by omega)]; rfl
    generalize m_lays (m_eight (m_syn (m_w s2 (48 + t) (nI 0)) t 16)) bus (nI t) 2 = r at *
    obtain ⟨r1, r2⟩ := r
    simp only at *
    by_cases z : r2 = nI 0
    · rw [if_pos z] at q2 qw
      rw [decide_eq_true z] at ol
      have oj : c_out r2 (I1 30 0) = s_judged s2.2.1 t := by rw [z, e0]; exact out_j v176 v40 hst
      rw [oj] at ol ⊢
      conv => whnf
      repeat ((first | refine And.intro (by (conv => arg 2; whnf); (try simp only [z_lit, nI_add, pk_mul, z_pr1, z_pr2]); exact z_in (by omega) (by decide)) ?_ | refine z_bt1 (by decide) ?_ | refine z_bf1 (by decide) ?_ | refine z_bt2 (by decide) ?_ | refine z_bf2 (by decide) ?_); conv => whnf)
      refine hC _ _ _ _ _ _ _ _ _ _ (fun _ _ _ _ _ _ q => q) (ct_isLost ?_)
      conv => whnf
      rw [ol]
      repeat ((first | refine And.intro (by (conv => arg 2; whnf); (try simp only [z_lit, nI_add, pk_mul, z_pr1, z_pr2]); exact z_in (by omega) (by decide)) ?_ | refine z_bt1 (by decide) ?_ | refine z_bf1 (by decide) ?_ | refine z_bt2 (by decide) ?_ | refine z_bf2 (by decide) ?_); conv => whnf)
      refine hC _ _ _ _ _ _ _ _ _ _ (fun _ _ _ _ _ _ q => q) (cu_noteVector x2 ht (by rw [e2, l104]; exact e1) (fun I3 x3 e3 f3 => ?_))
      conv => whnf
      rw [q2] at hQ
      exact hQ I3 _ _ (xR_f x3 (by rw [q4]; rfl) (by rw [m6, ← l6]; rfl) (by rw [q7, ← l7]; rfl) qw) (by omega) (by omega) (fr_t (fr_t f1 f2) f3)
    · rw [if_neg z] at q2 qw
      rw [decide_eq_false z] at ol
      rw [out_2 z] at ol ⊢
      conv => whnf
      repeat ((first | refine And.intro (by (conv => arg 2; whnf); (try simp only [z_lit, nI_add, pk_mul, z_pr1, z_pr2]); exact z_in (by omega) (by decide)) ?_ | refine z_bt1 (by decide) ?_ | refine z_bf1 (by decide) ?_ | refine z_bt2 (by decide) ?_ | refine z_bf2 (by decide) ?_); conv => whnf)
      refine hC _ _ _ _ _ _ _ _ _ _ (fun _ _ _ _ _ _ q => q) (ct_isLost ?_)
      conv => whnf
      rw [ol]
      repeat ((first | refine And.intro (by (conv => arg 2; whnf); (try simp only [z_lit, nI_add, pk_mul, z_pr1, z_pr2]); exact z_in (by omega) (by decide)) ?_ | refine z_bt1 (by decide) ?_ | refine z_bf1 (by decide) ?_ | refine z_bt2 (by decide) ?_ | refine z_bf2 (by decide) ?_); conv => whnf)
      rw [q2] at hQ
      exact hQ I2 _ _ (xR_f x2 q4 (by rw [m6, ← l6]) (by rw [q7, ← l7]) qw) (by omega) (by omega) (fr_t f1 f2)
def m_md (r1 : z_sg) (bus t code : Nat) (c tu : Int32) : z_sg × Int32 :=
  bif s_hear r1.2.1 t bus && !decide (tu &&& nI 1 = nI 1) then
    let s1 := bif s_apart code then (upd r1.1 6 (nI 0), r1.2.1, r1.2.2) else m_begins (upd r1.1 6 (nI 0), r1.2.1, r1.2.2) t c
    if tu = nI 0 then m_mt (bif s_apart code then m_does s1 bus t code else m_last (m_does s1 bus t code) t) bus t code
    else (m_quiet (m_errs s1 t), nI 1)
  else (m_quiet r1, nI 1)
theorem m_modes_eq {t code : Nat} (ht : t < 8) : m_modes s bus t code = (let c := s_cmd (nI t) (if nI code = nI 17 then nI 0 else nI 1) (nI 0) (nI code)
    let r := m_lays (s.1, s.2.1, upd (upd s.2.2 0 c) 1 (s.2.1 2 &&& nI 65535)) bus (s.2.1 3) (if nI code = nI 17 then 2 else 1)
    m_md r.1 bus t code c r.2) := by
  unfold m_modes
  rw [if_neg (nI_ne (by omega) (by omega) (by omega))]
  rfl
theorem tl_mode2 {t code : Nat} {c tu : Int32} {l4 l5 : Option Value} (h : xR I F s n k bus f0) (hb : bus < 2) (ht : t < 8) (hc : b16 c) (hco : code < 32) (hv : code ≠ 17 → v01 tu) (hn : n + 10 < 2 ^ 30) (hk : k < 2 ^ 30)
    (hQ : ∀ I' n' k', xR I' F (m_md s bus t code c tu).1 n' k' bus f0 → n' ≤ n + 10 → k' ≤ k + 1 → fr cT I I' → (code = 0 → (m_md s bus t code c tu).2 = nI 0 → (I' 30 0 &&& nI 2 = nI 0 ↔ (m_md s bus t code c tu).1.1 6 = nI 0)) → Q (some (.int (m_md s bus t code c tu).2)) I' (z_R0 kp sp wd) J F cn) :
    z_WP (z_X0 L xs) z_P0 (d + 4) m_Trial_mode 53 [some (.ref 29), some (.int (nI t)), some (.int (nI code)), some (.int c), l4, l5] [.int tu] I (z_R0 kp sp wd) J F cn 0 0 Q := by
  have z0 : v01 (nI 0) := Or.inl rfl
  have z1 : v01 (nI 1) := Or.inr rfl
  have g8 : ¬ nI t = nI 8 := nI_ne (by omega) (by omega) (by omega)
  unfold m_md at hQ
  simp only at hQ
  refine z_WP_gos [117] 1000 fun K C hK hC => ?_
  conv => whnf
  refine hC _ _ _ _ _ _ _ _ _ _ (fun _ _ _ _ _ _ q => q) (ct_reaches (tu := tu &&& nI 1) h ht ?_)
  conv => whnf
  rw [dec01 (v01_and tu), Bool.and_comm]
  cases hh : (s_hear s.2.1 t bus && !decide (tu &&& nI 1 = nI 1))
  · rw [hh] at hQ
    repeat ((first | refine And.intro (by (conv => arg 2; whnf); (try simp only [z_lit, nI_add, pk_mul, z_pr1, z_pr2]); exact z_in (by omega) (by decide)) ?_ | refine z_bt1 (by decide) ?_ | refine z_bf1 (by decide) ?_ | refine z_bt2 (by decide) ?_ | refine z_bf2 (by decide) ?_); conv => whnf)
    refine hC _ _ _ _ _ _ _ _ _ _ (fun _ _ _ _ _ _ q => q) (ct_noAnswer h (fun I2 x2 e2 f2 => ?_))
    conv => whnf
    exact hQ I2 n k x2 (by omega) (by omega) f2 (fun _ z => absurd (show nI 1 = nI 0 from z) (by decide))
  · rw [hh] at hQ
    simp only [cond_true] at hQ
    have hW := h.2.2.2.2.1
    have w4 := h.1.2.1
    have x0 : xR I F (upd s.1 6 (nI 0), s.2.1, s.2.2) n k bus f0 := xR_6 h z0 rfl rfl
    repeat ((first | refine And.intro (by (conv => arg 2; whnf); (try simp only [z_lit, nI_add, pk_mul, z_pr1, z_pr2]); exact z_in (by omega) (by decide)) ?_ | refine z_bt1 (by decide) ?_ | refine z_bf1 (by decide) ?_ | refine z_bt2 (by decide) ?_ | refine z_bf2 (by decide) ?_ | refine z_bt1 (by first | exact g8) ?_ | refine z_bf1 (by first | exact g8) ?_ | refine z_bt2 (by first | exact g8) ?_ | refine z_bf2 (by first | exact g8) ?_); conv => whnf)
    refine ⟨fun g => ?_, fun g => ?_⟩ <;> (try simp (disch := omega) only [z_lit, nI_add, pk_mul, z_pr1, z_pr2, nI_clamp, z_up_row, z_row_s, z_row_n, z_row_row, pk_us, pk_un] at g) <;> (conv => whnf)
    · subst g
      rw [if_pos rfl] at hQ
      by_cases ha : code = 2 ∨ code = 18
      · have hap : s_apart code = true := by rcases ha with z | z <;> subst z <;> decide
        have hd : m_does (upd s.1 6 (nI 0), s.2.1, s.2.2) bus t code = (upd s.1 6 (nI 0), s.2.1, s.2.2) := by rcases ha with z | z <;> subst z <;> rfl
        rw [hap] at hQ
        simp only [cond_true] at hQ
        rw [hd] at hQ
        refine hK _ _ _ _ _ _ _ _ _ _ (tl_apart x0 hb ht ha hn hk (fun I' n' k' x' n1 k1 f' => hQ I' n' k' x' n1 k1 f' (fun z => by subst z; exact absurd ha (by decide))))
      · have n2 : code ≠ 2 := fun z => ha (Or.inl z)
        have n18 : code ≠ 18 := fun z => ha (Or.inr z)
        have hap : s_apart code = false := s_ap0 (nI_ne (by omega) (by omega) n2) (nI_ne (by omega) (by omega) n18)
        rw [hap] at hQ
        simp only [cond_false] at hQ
        by_cases n16 : code = 16
        · subst n16
          refine hK _ _ _ _ _ _ _ _ _ _ (tl_vec x0 hb ht hc rfl hn hk (fun I' n' k' x' n1 k1 f' => hQ I' n' k' x' n1 k1 f' (fun z => absurd z (by decide))))
        · refine hK _ _ _ _ _ _ _ _ _ _ (tl_norm x0 hb ht hc hco n2 n18 n16 rfl hn hk (fun I' n' k' x' n1 k1 f' t' => hQ I' n' k' x' n1 k1 f' (fun _ _ => t')))
    · rw [if_neg g] at hQ
      have h17 : code = 17 := by
        apply Decidable.byContradiction; intro z
        have v := hv z
        rw [Bool.and_eq_true] at hh
        have hh2 := hh.2
        rcases v with v | v
        · exact g v
        · rw [v] at hh2; exact absurd hh2 (by decide)
      subst h17
      have hs2 := stt_begins (s := (upd s.1 6 (nI 0), s.2.1, s.2.2)) (t := t) (c := c) ht
      have o2 : ∀ j, 192 ≤ j → (m_begins (upd s.1 6 (nI 0), s.2.1, s.2.2) t c).2.1 j = s.2.1 j := fun j hj => m_begins_o (by omega) (by omega) (by omega) (by omega)
      refine hC _ _ _ _ _ _ _ _ _ _ (fun _ _ _ _ _ _ q => q) (cu_settle ht ?_)
      conv => whnf
      have x2 : xR (z_row I 3 (c_settle (I 3) t c (nI 1024))) F (m_errs (m_begins (upd s.1 6 (nI 0), s.2.1, s.2.2) t c) t) n k bus f0 := xR_stt x0 ht (stt_errs ht hs2) hc z1 z0 z0 rfl (fun b h1 _ _ => z_row_n _ _ h1) (fun j hj => by rw [m_errs_o (by omega) (by omega) (by omega), o2 _ (by omega)]; exact w4 j hj) (fun j h1 h2 => by rw [m_errs_o (by omega) (by omega) (by omega), o2 _ (by omega)]; exact hW.2.2.1 j (by omega)) (fun j hj => by rw [m_errs_o (by omega) (by omega) (by omega)]; exact o2 _ (by omega))
      refine hC _ _ _ _ _ _ _ _ _ _ (fun _ _ _ _ _ _ q => q) (ct_noAnswer x2 (fun I3 x3 e3 f3 => ?_))
      conv => whnf
      exact hQ I3 n k x3 (by omega) (by omega) (fr_t (fr_w fr_r (by decide)) f3) (fun _ z => absurd (show nI 1 = nI 0 from z) (by decide))
theorem lays1 {who : Int32} : v01 (m_lays s bus who 1).2 := by
  show v01 (nI 0 ||| (bif _ then nI 1 <<< (nI 0 &&& nI 31) else nI 0))
  generalize (s_lay1 _ _ _ _ _ _).2 = b
  cases b
  · exact Or.inl (by decide)
  · exact Or.inr (by decide)
theorem ct_mode {t code : Nat} (h : xR I F s n k bus f0) (hb : bus < 2) (ht : t < 8) (hco : code < 32) (hn : n + 30 < 2 ^ 30) (hk : k + 2 < 2 ^ 30)
    (hQ : ∀ I' n' k', xR I' F (m_modes s bus t code).1 n' k' bus f0 → n' ≤ n + 20 → k' ≤ k + 2 → fr cT I I' → (code = 0 → (m_modes s bus t code).2 = nI 0 → (I' 30 0 &&& nI 2 = nI 0 ↔ (m_modes s bus t code).1.1 6 = nI 0)) → Q (some (.int (m_modes s bus t code).2)) I' (z_R0 kp sp wd) J F cn) :
    z_M (z_X0 L xs) z_P0 (d + 4) m_Trial_mode [.ref 29, .int (nI t), .int (nI code)] I (z_R0 kp sp wd) J F cn Q := by
  have c1 := h.2.2.1.1
  obtain ⟨fq, hfq, hf2⟩ := h.2.2.2.2.1.2.2.2.2
  have hfr : s.2.1 2 &&& nI 65535 = s.2.1 2 := by
    rw [hf2, pk_andN (by omega) 16 (by decide), Nat.mod_eq_of_lt (by omega)]
  have hfb : b16 (s.2.1 2) := ⟨fq, by omega, hf2⟩
  rw [m_modes_eq ht, hfr] at hQ
  simp only at hQ
  by_cases h17 : code = 17
  · subst h17
    rw [if_pos rfl, if_pos rfl] at hQ
    have hc : b16 (s_cmd (nI t) (nI 0) (nI 0) (nI 17)) := s_cmd_b (by omega) (by omega) (by omega) (by omega)
    generalize hcc : s_cmd (nI t) (nI 0) (nI 0) (nI 17) = c at hc hQ
    refine z_WP_gos [53] 1000 fun K C hK hC => ?_
    conv => whnf
    repeat ((first | refine And.intro (by (conv => arg 2; whnf); (try simp only [z_lit, nI_add, pk_mul, z_pr1, z_pr2]); exact z_in (by omega) (by decide)) ?_ | refine z_bt1 (by decide) ?_ | refine z_bf1 (by decide) ?_ | refine z_bt2 (by decide) ?_ | refine z_bf2 (by decide) ?_); conv => whnf)
    refine hC _ _ _ _ _ _ _ _ _ _ (fun _ _ _ _ _ _ q => q) (ct_encode ?_)
    conv => whnf
    repeat ((first | refine And.intro (by (conv => arg 2; whnf); (try simp only [z_lit, nI_add, pk_mul, z_pr1, z_pr2]); exact z_in (by omega) (by decide)) ?_ | refine z_bt1 (by decide) ?_ | refine z_bf1 (by decide) ?_ | refine z_bt2 (by decide) ?_ | refine z_bf2 (by decide) ?_); conv => whnf)
    simp (disch := omega) only [z_lit, nI_add, pk_mul, z_pr1, z_pr2, nI_clamp, z_up_row, z_row_s, z_row_n, z_row_row, pk_us, pk_un]
    rw [hcc, c1]
    have x0 : xR (z_row I 30 (upd (upd (I 30) 0 c) 1 (s.2.1 2))) F (s.1, s.2.1, upd (upd s.2.2 0 c) 1 (s.2.1 2)) n k bus f0 := xR_30 h (fun b hb => z_row_n _ _ hb) rfl rfl
    refine hC _ _ _ _ _ _ _ _ _ _ (fun _ _ _ _ _ _ q => q) (ct_say (s := (s.1, s.2.1, upd (upd s.2.2 0 c) 1 (s.2.1 2))) (many := 2) x0 hb (by omega) (by omega) (by omega) (fun j hj => ?_) (fun I1 x1 e1 f1 => ?_))
    conv => whnf
    · rcases (show j = 0 ∨ j = 1 by omega) with e | e <;> subst e
      · exact ⟨rfl, hc⟩
      · exact ⟨rfl, hfb⟩
    refine hK _ _ _ _ _ _ _ _ _ _ (tl_mode2 x1 hb ht hc hco (fun z => absurd rfl z) (by omega) (by omega) (fun I' n' k' x' n1 k1 f' t' => hQ I' n' k' x' (by omega) (by omega) (fr_t (fr_t (fr_w fr_r (by decide)) f1) f') t'))
  · have g17 : ¬ nI code = nI 17 := nI_ne (by omega) (by omega) h17
    rw [if_neg g17, if_neg g17] at hQ
    have hc : b16 (s_cmd (nI t) (nI 1) (nI 0) (nI code)) := s_cmd_b (by omega) (by omega) (by omega) (by omega)
    generalize hcc : s_cmd (nI t) (nI 1) (nI 0) (nI code) = c at hc hQ
    refine z_WP_gos [53] 1000 fun K C hK hC => ?_
    conv => whnf
    repeat ((first | refine And.intro (by (conv => arg 2; whnf); (try simp only [z_lit, nI_add, pk_mul, z_pr1, z_pr2]); exact z_in (by omega) (by decide)) ?_ | refine z_bt1 (by decide) ?_ | refine z_bf1 (by decide) ?_ | refine z_bt2 (by decide) ?_ | refine z_bf2 (by decide) ?_ | refine z_bt1 (by first | exact g17) ?_ | refine z_bf1 (by first | exact g17) ?_ | refine z_bt2 (by first | exact g17) ?_ | refine z_bf2 (by first | exact g17) ?_); conv => whnf)
    refine hC _ _ _ _ _ _ _ _ _ _ (fun _ _ _ _ _ _ q => q) (ct_encode ?_)
    conv => whnf
    repeat ((first | refine And.intro (by (conv => arg 2; whnf); (try simp only [z_lit, nI_add, pk_mul, z_pr1, z_pr2]); exact z_in (by omega) (by decide)) ?_ | refine z_bt1 (by decide) ?_ | refine z_bf1 (by decide) ?_ | refine z_bt2 (by decide) ?_ | refine z_bf2 (by decide) ?_ | refine z_bt1 (by first | exact g17) ?_ | refine z_bf1 (by first | exact g17) ?_ | refine z_bt2 (by first | exact g17) ?_ | refine z_bf2 (by first | exact g17) ?_); conv => whnf)
    simp (disch := omega) only [z_lit, nI_add, pk_mul, z_pr1, z_pr2, nI_clamp, z_up_row, z_row_s, z_row_n, z_row_row, pk_us, pk_un]
    rw [hcc, c1]
    have x0 : xR (z_row I 30 (upd (upd (I 30) 0 c) 1 (s.2.1 2))) F (s.1, s.2.1, upd (upd s.2.2 0 c) 1 (s.2.1 2)) n k bus f0 := xR_30 h (fun b hb => z_row_n _ _ hb) rfl rfl
    refine hC _ _ _ _ _ _ _ _ _ _ (fun _ _ _ _ _ _ q => q) (ct_say (s := (s.1, s.2.1, upd (upd s.2.2 0 c) 1 (s.2.1 2))) (many := 1) x0 hb (by omega) (by omega) (by omega) (fun j hj => ?_) (fun I1 x1 e1 f1 => ?_))
    conv => whnf
    · obtain rfl : j = 0 := by omega
      exact ⟨rfl, hc⟩
    refine hK _ _ _ _ _ _ _ _ _ _ (tl_mode2 x1 hb ht hc hco (fun _ => lays1) (by omega) (by omega) (fun I' n' k' x' n1 k1 f' t' => hQ I' n' k' x' (by omega) (by omega) (fr_t (fr_t (fr_w fr_r (by decide)) f1) f') t'))
end
