/-! MODE: its answer -/
def m_syn (s2 : z_sg) (t code : Nat) : z_sg := (s2.1, s2.2.1, upd (upd s2.2.2 0 (s2.2.1 (136 + t))) 1 (s_mw s2.2.1 t code))
def m_mt (s2 : z_sg) (bus t code : Nat) : z_sg × Int32 :=
  let q := m_tellsMode s2 bus t code
  let s3 := (upd q.1.1 6 (s2.1 6), q.1.2.1, q.1.2.2)
  (if nI code = nI 16 then m_w s3 (48 + t) (nI 0) else s3, q.2)
theorem m_ans_6 {s : z_sg} {bus t many : Nat} : (m_ans s bus t many).1.1 6 = s.1 6 := by
  unfold m_ans
  cases s_shut s.2.1 t bus
  · simp only [cond_false]
    rw [m_answers_eq]
    simp only
    split
    · rw [m_want_f (by omega), m_lays_f4 (by omega)]; rfl
    · rw [m_lays_f4 (by omega)]; rfl
  · rfl
theorem mt_6 {s2 : z_sg} {bus t code : Nat} : (m_mt s2 bus t code).1.1 6 = s2.1 6 := by
  have h : upd (m_tellsMode s2 bus t code).1.1 6 (s2.1 6) 6 = s2.1 6 := pk_us
  unfold m_mt
  simp only
  by_cases z : nI code = nI 16
  · rw [if_pos z]; exact h
  · rw [if_neg z]; exact h
theorem many_eq {code : Nat} (hc : code < 32) : (if nI code = nI 16 ∨ nI code = nI 18 ∨ nI code = nI 19 then 2 else 1) = if code = 16 ∨ code = 18 ∨ code = 19 then 2 else 1 := by
  have : ∀ c : Fin 32, (if nI c.val = nI 16 ∨ nI c.val = nI 18 ∨ nI c.val = nI 19 then 2 else 1) = if c.val = 16 ∨ c.val = 18 ∨ c.val = 19 then 2 else 1 := by decide
  exact this ⟨code, hc⟩
theorem mt_norm {s2 : z_sg} {bus t code : Nat} (hc : code < 32) (ha : s_apart code = false) (h16 : ¬ nI code = nI 16) : (m_mt s2 bus t code).2 = (m_ans (m_syn s2 t code) bus t (if code = 16 ∨ code = 18 ∨ code = 19 then 2 else 1)).2 ∧ (∀ j, j ≠ 6 → (m_mt s2 bus t code).1.1 j = (m_ans (m_syn s2 t code) bus t (if code = 16 ∨ code = 18 ∨ code = 19 then 2 else 1)).1.1 j) ∧ (m_mt s2 bus t code).1.1 6 = s2.1 6 ∧ (m_mt s2 bus t code).1.2.1 = (m_ans (m_syn s2 t code) bus t (if code = 16 ∨ code = 18 ∨ code = 19 then 2 else 1)).1.2.1 := by
  unfold m_mt m_tellsMode m_ans
  simp only
  rw [ha, decide_eq_false h16, if_neg h16, if_neg h16, many_eq hc]
  rw [show ((s2.1, s2.2.1, upd (upd s2.2.2 0 (s2.2.1 (136 + t))) 1 (s_mw s2.2.1 t code)) : z_sg) = m_syn s2 t code from rfl, show (m_syn s2 t code).2.1 = s2.2.1 from rfl]
  cases s_shut s2.2.1 t bus
  · simp only [cond_false, Bool.false_or]
    generalize m_answers (m_syn s2 t code) bus t (if code = 16 ∨ code = 18 ∨ code = 19 then 2 else 1) = r
    obtain ⟨⟨f, w, y⟩, r2⟩ := r
    simp only
    by_cases z : r2 = nI 0
    · rw [if_pos z, if_pos z]
      exact ⟨rfl, fun j hj => pk_un hj, pk_us, rfl⟩
    · rw [if_neg z, if_neg z]
      exact ⟨rfl, fun j hj => pk_un hj, pk_us, rfl⟩
  · simp only [cond_true]
    exact ⟨trivial, fun j hj => pk_un hj, pk_us, rfl⟩
/-- codes 2, 18: what came of who is wanted is taken back -/
theorem mt_apart {s2 : z_sg} {bus t code : Nat} (hc : code < 32) (ha : s_apart code = true) (h16 : ¬ nI code = nI 16) : (m_mt s2 bus t code).1.1 6 = s2.1 6 ∧ (s_shut s2.2.1 t bus = true → m_mt s2 bus t code = ((upd (m_quiet s2).1 6 (s2.1 6), (m_quiet s2).2.1, (m_quiet s2).2.2), nI 1)) ∧
    (s_shut s2.2.1 t bus = false → (m_mt s2 bus t code).2 = (if (m_lays (m_eight (m_syn s2 t code)) bus (nI t) (if code = 16 ∨ code = 18 ∨ code = 19 then 2 else 1)).2 = nI 0 then nI 0 else nI 2) ∧ (m_mt s2 bus t code).1.1 4 = (m_lays (m_eight (m_syn s2 t code)) bus (nI t) (if code = 16 ∨ code = 18 ∨ code = 19 then 2 else 1)).1.1 4 ∧ (m_mt s2 bus t code).1.1 7 = s2.1 7 ∧ (m_mt s2 bus t code).1.2.1 = (m_lays (m_eight (m_syn s2 t code)) bus (nI t) (if code = 16 ∨ code = 18 ∨ code = 19 then 2 else 1)).1.2.1) := by
  refine ⟨mt_6, ?_⟩
  unfold m_mt m_tellsMode
  simp only
  rw [ha, decide_eq_false h16, if_neg h16, if_neg h16, many_eq hc]
  rw [show ((s2.1, s2.2.1, upd (upd s2.2.2 0 (s2.2.1 (136 + t))) 1 (s_mw s2.2.1 t code)) : z_sg) = m_syn s2 t code from rfl]
  refine ⟨fun h => by rw [h]; rfl, fun h => ?_⟩
  rw [h, m_answers_eq]
  simp only [cond_false, cond_true, Bool.true_or]
  generalize m_lays (m_eight (m_syn s2 t code)) bus (nI t) (if code = 16 ∨ code = 18 ∨ code = 19 then 2 else 1) = r
  obtain ⟨⟨f, w, y⟩, r2⟩ := r
  simp only
  by_cases z : r2 = nI 0
  · rw [if_pos z, if_pos z]
    split
    · exact ⟨rfl, rfl, rfl, rfl⟩
    · exact ⟨rfl, rfl, rfl, rfl⟩
  · rw [if_neg z, if_neg z, if_neg (fun q => z q.1)]
    exact ⟨rfl, rfl, rfl, rfl⟩
/-- code 16: SERVICE is none behind it -/
theorem mt_vec {s2 : z_sg} {bus t : Nat} (hb : bus < 2) (ht : t < 8) (h48 : v01 (s2.2.1 (176 + t))) :
    (m_mt s2 bus t 16).1.1 6 = s2.1 6 ∧ (s_shut s2.2.1 t bus = true → m_mt s2 bus t 16 = (m_w (upd (m_quiet s2).1 6 (s2.1 6), (m_quiet s2).2.1, (m_quiet s2).2.2) (48 + t) (nI 0), nI 1)) ∧
    (s_shut s2.2.1 t bus = false → (m_mt s2 bus t 16).1.1 4 = (m_lays (m_eight (m_syn (m_w s2 (48 + t) (nI 0)) t 16)) bus (nI t) 2).1.1 4 ∧ (m_mt s2 bus t 16).1.1 7 = s2.1 7 ∧
      (m_mt s2 bus t 16).2 = (if (m_lays (m_eight (m_syn (m_w s2 (48 + t) (nI 0)) t 16)) bus (nI t) 2).2 = nI 0 then s_judged s2.2.1 t else nI 2) ∧
      (m_mt s2 bus t 16).1.2.1 = (if (m_lays (m_eight (m_syn (m_w s2 (48 + t) (nI 0)) t 16)) bus (nI t) 2).2 = nI 0 then m_came (m_lays (m_eight (m_syn (m_w s2 (48 + t) (nI 0)) t 16)) bus (nI t) 2).1 t else (m_lays (m_eight (m_syn (m_w s2 (48 + t) (nI 0)) t 16)) bus (nI t) 2).1).2.1) := by
  have e : m_eight (m_syn (m_w s2 (48 + t) (nI 0)) t 16) = m_w (m_eight (m_syn s2 t 16)) (48 + t) (nI 0) := by
    have a : s_mw (m_w s2 (48 + t) (nI 0)).2.1 t 16 = s_mw s2.2.1 t 16 := by
      show s_mw (upd s2.2.1 (48 + t) (nI 0)) t 16 = _
      unfold s_mw; rw [if_pos rfl, if_pos rfl, pk_un (by omega)]
    have b : (m_w s2 (48 + t) (nI 0)).2.1 (136 + t) = s2.2.1 (136 + t) := pk_un (by omega)
    unfold m_syn
    rw [a, b]
    rfl
  rw [e, mw_lays hb (by omega)]
  have hj : ∀ j, 31 ≤ j → j < 2220 → (m_lays (m_eight (m_syn s2 t 16)) bus (nI t) 2).1.2.1 j = s2.2.1 j := fun j a b => m_lays_lo hb (by omega)
  refine ⟨mt_6, ?_⟩
  unfold m_mt m_tellsMode
  rw [show s_apart 16 = false by decide]
  simp only [if_true, true_or, decide_true, Bool.false_or, cond_true, cond_false]
  rw [show ((s2.1, s2.2.1, upd (upd s2.2.2 0 (s2.2.1 (136 + t))) 1 (s_mw s2.2.1 t 16)) : z_sg) = m_syn s2 t 16 from rfl]
  refine ⟨fun h => by rw [h]; rfl, fun h => ?_⟩
  rw [h, m_answers_eq]
  simp only [cond_false]
  generalize m_lays (m_eight (m_syn s2 t 16)) bus (nI t) 2 = r at *
  obtain ⟨⟨f, w, y⟩, r2⟩ := r
  simp only at hj ⊢
  have hjud : ∀ f' y', s_judged (m_came ((f', w, y') : z_sg) t).2.1 t = s_judged s2.2.1 t := fun f' y' => by
    have o : ∀ j, j ≠ 160 + t → j ≠ 168 + t → (m_came ((f', w, y') : z_sg) t).2.1 j = w j := fun j h1 h2 => (pk_un h2).trans (pk_un h1)
    unfold s_judged
    rw [o (176 + t) (by omega) (by omega), o (40 + t) (by omega) (by omega), hj _ (by omega) (by omega), hj _ (by omega) (by omega)]
  have hcm : ∀ f' y', upd (m_came ((f', w, y') : z_sg) t).2.1 (48 + t) (nI 0) = (m_came (m_w ((f, w, y) : z_sg) (48 + t) (nI 0)) t).2.1 := fun f' y' => by
    show upd (upd (upd w (160 + t) (w (104 + t))) (168 + t) (w (168 + t) + nI 1)) (48 + t) (nI 0) = upd (upd (upd w (48 + t) (nI 0)) (160 + t) (upd w (48 + t) (nI 0) (104 + t))) (168 + t) (upd w (48 + t) (nI 0) (168 + t) + nI 1)
    rw [pk_un (show 104 + t ≠ 48 + t by omega), pk_un (show 168 + t ≠ 48 + t by omega)]
    rw [uq_u (q := 48 + t) (k := 160 + t) (by omega), uq_u (q := 48 + t) (k := 168 + t) (by omega)]
  have hwo : s2.2.1 (48 + t) = (m_syn s2 t 16).2.1 (48 + t) := rfl
  by_cases z : r2 = nI 0
  · rw [if_pos z, if_pos z, if_pos z]
    split
    · exact ⟨rfl, rfl, hjud _ _, hcm _ _⟩
    · exact ⟨rfl, rfl, hjud _ _, hcm _ _⟩
  · rw [if_neg z, if_neg z, if_neg z, if_neg (fun q => z q.1)]
    exact ⟨rfl, rfl, rfl, rfl⟩
section
variable {L : Nat} {xs : Nat → Int32} {d : Nat} {kp sp wd : Value} {I : z_I} {s : z_sg} {R : z_R} {J : z_J} {F : z_F} {cn : Nat} {Q : z_Q} {n k bus : Nat} {f0 : Int32}
theorem cu_noteVector {t : Nat} {x : Int32} (h : xR I F s n k bus f0) (ht : t < 8) (hx : x = s.2.1 (104 + t)) (hQ : ∀ I', xR I' F (m_came s t) n k bus f0 → I' 30 = I 30 → fr cT I I' → Q none I' (z_R0 kp sp wd) J F cn) : z_M (z_X0 L xs) z_P0 d m_Units_noteVector [.ref 2, .int (nI t), .int x] I (z_R0 kp sp wd) J F cn Q := by
  have e : I 3 (t * 18 + 17) = s.2.1 (168 + t) := h.1.1.1 t ht 17 (by decide) (by decide)
  subst hx
  refine z_WP_gos [] 1000 fun K C hK hC => ?_
  conv => whnf
  repeat ((first | refine And.intro (by (conv => arg 2; whnf); (try simp only [z_lit, nI_add, pk_mul, z_pr1, z_pr2]); exact z_in (by omega) (by decide)) ?_ | refine z_bt1 (by decide) ?_ | refine z_bf1 (by decide) ?_ | refine z_bt2 (by decide) ?_ | refine z_bf2 (by decide) ?_); conv => whnf)
  simp (disch := omega) only [z_lit, nI_add, pk_mul, z_pr1, z_pr2, nI_clamp, z_up_row, z_row_s, z_row_n, z_row_row, pk_us, pk_un]
  rw [e]
  have x1 : xR (z_row I 3 (upd (I 3) (t * 18 + 16) (s.2.1 (104 + t)))) F (m_w s (160 + t) (s.2.1 (104 + t))) n k bus f0 := xR_told (q := 16) h ht (by omega) (fun z => by omega) (z_row_s _ _ _) (fun b h1 _ => z_row_n _ _ h1) rfl rfl
  refine hQ _ (xR_told (q := 17) (x := s.2.1 (168 + t) + nI 1) (s' := m_came s t) x1 ht (by omega) (fun z => by omega) (z_row_s _ _ _) (fun b h1 _ => ?_) rfl rfl) rfl (fr_w fr_r (by decide))
  rw [z_row_n _ _ h1, z_row_n _ _ h1]
/-- the answer to a code, but 2, 18, 16 -/
theorem tl_norm {t code : Nat} {c : Int32} {lc : Option Value} (h : xR I F s n k bus f0) (hb : bus < 2) (ht : t < 8) (hc : b16 c) (hco : code < 32) (h2 : code ≠ 2) (h18 : code ≠ 18) (h16 : code ≠ 16) (h6 : s.1 6 = nI 0) (hn : n + 10 < 2 ^ 30) (hk : k < 2 ^ 30)
    (hQ : ∀ I' n' k', xR I' F (m_mt (m_last (m_does (m_begins s t c) bus t code) t) bus t code).1 n' k' bus f0 → n' ≤ n + 10 → k' ≤ k + 1 → fr cT I I' → (I' 30 0 &&& nI 2 = nI 0 ↔ (m_mt (m_last (m_does (m_begins s t c) bus t code) t) bus t code).1.1 6 = nI 0) → Q (some (.int (m_mt (m_last (m_does (m_begins s t c) bus t code) t) bus t code).2)) I' (z_R0 kp sp wd) J F cn) :
    z_WP (z_X0 L xs) z_P0 (d + 4) m_Trial_mode 117 [some (.ref 29), some (.int (nI t)), some (.int (nI code)), some (.int c), some (.int (nI 0)), lc] [] I (z_R0 kp sp wd) J F cn 0 0 Q := by
  have g2 : ¬ nI code = nI 2 := nI_ne (by omega) (by omega) h2
  have g18 : ¬ nI code = nI 18 := nI_ne (by omega) (by omega) h18
  have g16 : ¬ nI code = nI 16 := nI_ne (by omega) (by omega) h16
  have hap := s_ap0 g2 g18
  have hs := stt_does (s := s) (bus := bus) (t := t) (code := code) (c := c) ht hco h2 h18 h6
  have z0 : v01 (nI 0) := Or.inl rfl
  have he := m_er_01 hco
  refine z_WP_gos [] 1000 fun K C hK hC => ?_
  conv => whnf
  refine hC _ _ _ _ _ _ _ _ _ _ (fun _ _ _ _ _ _ q => q) (cr_norm h hb ht hc hco h2 h18 h6 (fun I1 x1 e0 e1 f1 => ?_))
  conv => whnf
  rw [if_neg h16] at x1 e1
  have mt := mt_norm (s2 := m_last (m_does (m_begins s t c) bus t code) t) (bus := bus) (t := t) hco hap g16
  rw [mt.1] at hQ
  have hk6 : v01 ((m_dz s bus t code).1 6) := by rw [← hs.2.2.2.2.2.2.1]; exact x1.2.2.2.2.2
  have hW0 : uW (m_dz s bus t code).2.1 := by
    refine ⟨fun u hu => ?_, fun j a b => ?_, fun j a b => ?_⟩
    · rw [← hs.1 _ (by omega) (by omega) (by omega) (by omega) (by omega) (by omega)]; exact x1.2.2.2.2.1.1.1 u hu
    · rw [← hs.1 _ (by omega) (by omega) (by omega) (by omega) (by omega) (by omega)]; exact x1.2.2.2.2.1.1.2.1 j a b
    · rw [← hs.1 _ (by omega) (by omega) (by omega) (by omega) (by omega) (by omega)]; exact x1.2.2.2.2.1.1.2.2 j a b
  have hst := stb_of ht hW0 hs he z0 hk6
  have htk : ((m_last (m_does (m_begins s t c) bus t code) t).2.1 (136 + t) &&& nI 2 = nI 0) ↔ (m_mt (m_last (m_does (m_begins s t c) bus t code) t) bus t code).1.1 6 = nI 0 := by
    rw [mt.2.2.1, hs.2.2.1, (s_stat_b ht hW0 he z0 hk6).2.2.2.2, hs.2.2.2.2.2.2.1]
  have hmany : (if code = 16 ∨ code = 19 then 2 else 1) = (if code = 16 ∨ code = 18 ∨ code = 19 then 2 else 1) := by
    by_cases z : code = 19
    · rw [if_pos (Or.inr z), if_pos (Or.inr (Or.inr z))]
    · rw [if_neg (fun q => q.elim h16 z), if_neg (fun q => q.elim h16 (fun q => q.elim h18 z))]
  rw [hmany]
  have hk2 : ∀ {I' n' k'}, xR I' F (m_ans (m_syn (m_last (m_does (m_begins s t c) bus t code) t) t code) bus t (if code = 16 ∨ code = 18 ∨ code = 19 then 2 else 1)).1 n' k' bus f0 → xR I' F (m_mt (m_last (m_does (m_begins s t c) bus t code) t) bus t code).1 n' k' bus f0 := fun x => xR_f x (mt.2.1 4 (by omega)) (by rw [mt.2.2.1, m_ans_6]; rfl) (mt.2.1 7 (by omega)) mt.2.2.2
  generalize (m_mt (m_last (m_does (m_begins s t c) bus t code) t) bus t code).1 = S9 at *
  generalize m_last (m_does (m_begins s t c) bus t code) t = s2 at *
  have hm9 : (if code = 16 ∨ code = 18 ∨ code = 19 then 2 else 1) ≤ 2 ∧ 1 ≤ (if code = 16 ∨ code = 18 ∨ code = 19 then 2 else 1) := by split <;> omega
  have hmw : s_mw s2.2.1 t code = s2.2.1 (128 + t) &&& nI 65535 := by unfold s_mw; rw [if_neg g16, if_neg g18]
  refine hC _ _ _ _ _ _ _ _ _ _ (fun _ _ _ _ _ _ q => q) (ct_ah (Q := fun r I R J F cn => ∃ x, r = some (.int x) ∧ Q r I R J F cn) (C := z_M (z_X0 L xs) z_P0) (s := m_syn s2 t code) (t := t) (many := if code = 16 ∨ code = 18 ∨ code = 19 then 2 else 1) x1 hb ht (by omega) (by omega) hn hk (fun j hj => ?_) (by rw [e0]; exact hst) (fun d k as I R J F cn Q Q' hq w => z_WP_mo _ _ _ _ _ _ _ _ _ _ _ _ Q Q' hq w) (fun o I' q => ?_) (fun I' n' k' x' n1 k1 e' f' => ?_))
  · rcases (show j = 0 ∨ j = 1 by omega) with z | z <;> subst z
    · show I1 30 0 = s2.2.1 (136 + t) ∧ b16 (s2.2.1 (136 + t))
      exact ⟨e0, x1.2.2.2.2.1.2.2.1 _ (by omega)⟩
    · show I1 30 1 = s_mw s2.2.1 t code ∧ b16 (s_mw s2.2.1 t code)
      rw [hmw]
      refine ⟨e1, ?_⟩
      obtain ⟨j, hj, ej⟩ := pk_andE (s2.2.1 (128 + t)) (m := nI 65535) 16 (by decide)
      exact ⟨j, hj, ej⟩
  · conv => whnf
    repeat ((first | refine And.intro (by (conv => arg 2; whnf); (try simp only [z_lit, nI_add, pk_mul, z_pr1, z_pr2]); exact z_in (by omega) (by decide)) ?_ | refine z_bt1 (by decide) ?_ | refine z_bf1 (by decide) ?_ | refine z_bt2 (by decide) ?_ | refine z_bf2 (by decide) ?_ | refine z_bt1 (by first | exact g2 | exact g18 | exact g16) ?_ | refine z_bf1 (by first | exact g2 | exact g18 | exact g16) ?_ | refine z_bt2 (by first | exact g2 | exact g18 | exact g16) ?_ | refine z_bf2 (by first | exact g2 | exact g18 | exact g16) ?_); conv => whnf)
    refine hC _ _ _ _ _ _ _ _ _ _ (fun r I R J F cn z => ?_) q
    obtain ⟨x, rfl, z⟩ := z
    conv => whnf
    exact z
  · refine ⟨_, rfl, hQ I' n' k' (hk2 x') n1 k1 (fr_t f1 f') ?_⟩
    rw [e', e0]; exact htk
end
