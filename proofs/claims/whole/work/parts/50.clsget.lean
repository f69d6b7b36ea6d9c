/-! GET -/
section
variable {L : Nat} {xs : Nat → Int32} {d : Nat} {kp sp wd : Value} {I : z_I} {s : z_sg} {R : z_R} {J : z_J} {F : z_F} {cn : Nat} {Q : z_Q} {n k bus : Nat} {f0 : Int32}
theorem xR_f {s' : z_sg} (h : xR I F s n k bus f0) (h4 : s'.1 4 = s.1 4) (h6 : s'.1 6 = s.1 6) (h7 : s'.1 7 = s.1 7) (h2 : s'.2.1 = s.2.1) : xR I F s' n k bus f0 := by
  obtain ⟨d1, d2, d3, d4⟩ := h.2.2.2.1
  exact xR_of h (fun b hb => rfl) (fun j _ => by rw [h2]) (wR_of h.2.1 (fun b _ _ => rfl) (fun j _ => by rw [h2])) rfl rfl (by rw [h4, d3]) (by rw [h7, d4]) (by rw [h6]; exact h.2.2.2.2.2)
def s_le (w : Nat → Int32) (t u : Nat) : Int32 := bif s_legal w t u then nI 0 else nI 1
theorem s_le_01 {w : Nat → Int32} {t u : Nat} : v01 (s_le w t u) := by
  unfold s_le; cases s_legal w t u
  · exact Or.inr rfl
  · exact Or.inl rfl
theorem stt_taken {s2 : z_sg} {t u : Nat} {c : Int32} (ht : t < 8) (h : stt s s2 t c (nI 0) (nI 0) (nI 0)) : stt s (m_taken s2 t u).1 t c (s_le s.2.1 t u) (nI 0) (nI 0) ∧ (m_taken s2 t u).2 = (s_legal s.2.1 t u && decide (s.2.1 (40 + t) = nI 0)) := by
  have lg : s_legal s2.2.1 t u = s_legal s.2.1 t u := by unfold s_legal; rw [h.1 _ (by omega) (by omega) (by omega) (by omega) (by omega) (by omega)]
  have hb : s2.2.1 (40 + t) = s.2.1 (40 + t) := h.1 _ (by omega) (by omega) (by omega) (by omega) (by omega) (by omega)
  unfold m_taken s_le
  rw [lg, hb]
  cases s_legal s.2.1 t u
  · exact ⟨stt_errs ht h, rfl⟩
  · exact ⟨h, rfl⟩
theorem m_taken_hi {s2 : z_sg} {t u j : Nat} (ht : t < 8) (hj : 192 ≤ j) : (m_taken s2 t u).1.2.1 j = s2.2.1 j := m_taken_o (by omega) (by omega) (by omega)
theorem ct_readyOut {t u m : Nat} {c : Int32} (h : xR I F s n k bus f0) (ht : t < 8) (hu : u < 6) (hm : m ≤ 8) (hc : b16 c)
    (hQ : ∀ I', xR I' F (m_last (m_taken (m_begins s t c) t u).1 t) n k bus f0 → I' 30 0 = (m_last (m_taken (m_begins s t c) t u).1 t).2.1 (136 + t) → ((m_taken (m_begins s t c) t u).2 = true → ∀ j, j < m → I' 30 (1 + j) = s.2.1 (192 + 8 * (6 * t + u) + j)) → fr cT I I' → Q (some (.int (nI (bif (m_taken (m_begins s t c) t u).2 then 1 + m else 1)))) I' (z_R0 kp sp wd) J F cn) :
    z_M (z_X0 L xs) z_P0 (d + 2) m_Trial_readyOut [.ref 29, .int (nI t), .int (nI (u + 1)), .int (nI m), .int c] I (z_R0 kp sp wd) J F cn Q := by
  have hW := h.2.2.2.2.1
  have z0 : v01 (nI 0) := Or.inl rfl
  obtain ⟨hs, hcan⟩ := stt_taken (u := u) ht (stt_begins (s := s) (c := c) ht)
  have hs1 := stt_last ht hs
  have w4 := h.1.2.1
  have o : ∀ j, 192 ≤ j → (m_last (m_taken (m_begins s t c) t u).1 t).2.1 j = s.2.1 j := fun j hj => by rw [m_last_o (by omega), m_taken_hi ht hj, m_begins_o (by omega) (by omega) (by omega) (by omega)]
  have fin : ∀ I', I' 3 = c_settle (I 3) t c (s_bt (s_le s.2.1 t u) (nI 0) (nI 0)) → (∀ b, b ≠ 3 → b ≠ 4 → b ≠ 30 → I' b = I b) → I' 4 = I 4 → xR I' F (m_last (m_taken (m_begins s t c) t u).1 t) n k bus f0 := fun I' e3 eI e4 => xR_stt h ht hs1 hc s_le_01 z0 z0 e3 eI (fun j hj => by rw [e4, o _ (by omega)]; exact w4 j hj) (fun j h1 h2 => by rw [o _ h1]; exact hW.2.2.1 j (by omega)) (fun j hj => o j (by omega))
  have est : c_st (I 3) t (s_bt (s_le s.2.1 t u) (nI 0) (nI 0)) = (m_last (m_taken (m_begins s t c) t u).1 t).2.1 (136 + t) := by rw [hs1.2.2.1]; exact c_st_eq ht h.1.1 hW.1
  have v := hW.1.2.1 (40 + t) (by omega) (by omega)
  rw [hcan] at hQ
  generalize m_last (m_taken (m_begins s t c) t u).1 t = s1 at *
  unfold s_le at fin est
  refine z_WP_gos [] 1000 fun K C hK hC => ?_
  conv => whnf
  refine hC _ _ _ _ _ _ _ _ _ _ (fun _ _ _ _ _ _ q => q) (cu_isLegal ht h.1.1 ?_)
  conv => whnf
  cases hl : s_legal s.2.1 t u <;> rw [hl] at hQ fin est
  · repeat ((first | refine And.intro (by (conv => arg 2; whnf); (try simp only [z_lit, nI_add, pk_mul, z_pr1, z_pr2]); exact z_in (by omega) (by decide)) ?_ | refine z_bt1 (by decide) ?_ | refine z_bf1 (by decide) ?_ | refine z_bt2 (by decide) ?_ | refine z_bf2 (by decide) ?_); conv => whnf)
    refine hC _ _ _ _ _ _ _ _ _ _ (fun _ _ _ _ _ _ q => q) (cu_settle ht ?_)
    conv => whnf
    repeat ((first | refine And.intro (by (conv => arg 2; whnf); (try simp only [z_lit, nI_add, pk_mul, z_pr1, z_pr2]); exact z_in (by omega) (by decide)) ?_ | refine z_bt1 (by decide) ?_ | refine z_bf1 (by decide) ?_ | refine z_bt2 (by decide) ?_ | refine z_bf2 (by decide) ?_); conv => whnf)
    refine hQ _ (fin _ rfl (fun b h1 h2 h3 => ?_) rfl) (est ▸ rfl) (fun z => absurd (show false = true from z) (by decide)) ?_
    · simp (disch := omega) only [z_lit, nI_add, pk_mul, z_pr1, z_pr2, nI_clamp, z_up_row, z_row_s, z_row_n, z_row_row, pk_us, pk_un]
    · simp (disch := omega) only [z_lit, nI_add, pk_mul, z_pr1, z_pr2, nI_clamp, z_up_row, z_row_s, z_row_n, z_row_row, pk_us, pk_un]
      exact fr_w (fr_w fr_r (by decide)) (by decide)
  · repeat ((first | refine And.intro (by (conv => arg 2; whnf); (try simp only [z_lit, nI_add, pk_mul, z_pr1, z_pr2]); exact z_in (by omega) (by decide)) ?_ | refine z_bt1 (by decide) ?_ | refine z_bf1 (by decide) ?_ | refine z_bt2 (by decide) ?_ | refine z_bf2 (by decide) ?_); conv => whnf)
    refine hC _ _ _ _ _ _ _ _ _ _ (fun _ _ _ _ _ _ q => q) (cu_settle ht ?_)
    conv => whnf
    repeat ((first | refine And.intro (by (conv => arg 2; whnf); (try simp only [z_lit, nI_add, pk_mul, z_pr1, z_pr2]); exact z_in (by omega) (by decide)) ?_ | refine z_bt1 (by decide) ?_ | refine z_bf1 (by decide) ?_ | refine z_bt2 (by decide) ?_ | refine z_bf2 (by decide) ?_); conv => whnf)
    simp (disch := omega) only [z_lit, nI_add, pk_mul, z_pr1, z_pr2, nI_clamp, z_up_row, z_row_s, z_row_n, z_row_row, pk_us, pk_un]
    have x1 := fin (z_row (z_row I 3 (c_settle (I 3) t c (nI 0))) 30 (upd (I 30) 0 (c_st (I 3) t (nI 0)))) rfl (fun b h1 h2 h3 => by rw [z_row_n _ _ h3, z_row_n _ _ h1]) rfl
    have hW1 := x1.2.2.2.2.1.1
    have hb1 : s1.2.1 (40 + t) = s.2.1 (40 + t) := hs1.1 _ (by omega) (by omega) (by omega) (by omega) (by omega) (by omega)
    refine hC _ _ _ _ _ _ _ _ _ _ (fun _ _ _ _ _ _ q => q) (cu_isBusy ht x1.1.1 hW1 ?_)
    conv => whnf
    rw [hb1]
    rcases v with v | v <;> rw [v] at hQ ⊢
    · repeat ((first | refine And.intro (by (conv => arg 2; whnf); (try simp only [z_lit, nI_add, pk_mul, z_pr1, z_pr2]); exact z_in (by omega) (by decide)) ?_ | refine z_bt1 (by decide) ?_ | refine z_bf1 (by decide) ?_ | refine z_bt2 (by decide) ?_ | refine z_bf2 (by decide) ?_); conv => whnf)
      refine hC _ _ _ _ _ _ _ _ _ _ (fun _ _ _ _ _ _ q => q) (cu_spot (k := 0) ?_)
      conv => whnf
      refine And.intro ⟨(by (try simp only [z_lit, nI_add, pk_mul]); exact nI_pos (by omega)), (by (try simp only [z_lit, nI_add, pk_mul]); exact nI_pos (by omega)), (by (try simp only [z_lit, nI_add, pk_mul]); exact nI_pos (by omega)), (by (try simp (disch := omega) only [z_lit, nI_clamp, nI_add, pk_mul]); exact (show _ ≤ (1200 : Nat) by omega)), (by (try simp (disch := omega) only [z_lit, nI_clamp, nI_add, pk_mul]); exact (show _ ≤ (9 : Nat) by omega))⟩ ?_
      conv => whnf
      simp (disch := omega) only [z_lit, nI_clamp, z_cpy, z_row_s, z_row_n, z_row_row, nI_add]
      rw [Nat.add_comm m 1]
      refine hQ _ (fin _ rfl (fun b h1 h2 h3 => by rw [z_row_n _ _ h3, z_row_n _ _ h1]) rfl) ?_ (fun _ j hj => ?_) (fr_w (fr_w fr_r (by decide)) (by decide))
      · rw [z_row_s, pk_cpy_out (by omega), pk_us]
        exact est
      · rw [z_row_s, pk_cpy_in (by omega) (by omega), w4 _ (by omega)]
        exact congrArg s.2.1 (by omega)
    · repeat ((first | refine And.intro (by (conv => arg 2; whnf); (try simp only [z_lit, nI_add, pk_mul, z_pr1, z_pr2]); exact z_in (by omega) (by decide)) ?_ | refine z_bt1 (by decide) ?_ | refine z_bf1 (by decide) ?_ | refine z_bt2 (by decide) ?_ | refine z_bf2 (by decide) ?_); conv => whnf)
      exact hQ _ x1 (est ▸ rfl) (fun z => absurd z (by decide)) (fr_w (fr_w fr_r (by decide)) (by decide))
/-- the words that are to be said -/
def m_sy (s1 : z_sg) (t u m : Nat) : z_sg := m_says (s1.1, s1.2.1, upd s1.2.2 0 (s1.2.1 (136 + t))) (192 + 8 * (6 * t + u)) m
theorem m_tw_eq {s2 : z_sg} {t u m : Nat} : (m_tw s2 bus t u m).2 = (m_ans (m_sy (m_last (m_taken s2 t u).1 t) t u m) bus t (bif (m_taken s2 t u).2 then 1 + m else 1)).2 ∧ (∀ j, j ≠ 8 → (m_tw s2 bus t u m).1.1 j = (m_ans (m_sy (m_last (m_taken s2 t u).1 t) t u m) bus t (bif (m_taken s2 t u).2 then 1 + m else 1)).1.1 j) ∧ (m_tw s2 bus t u m).1.2.1 = (m_ans (m_sy (m_last (m_taken s2 t u).1 t) t u m) bus t (bif (m_taken s2 t u).2 then 1 + m else 1)).1.2.1 := by
  unfold m_tw m_ans m_sy
  simp only
  have e : (m_says ((m_last (m_taken s2 t u).1 t).1, (m_last (m_taken s2 t u).1 t).2.1, upd (m_last (m_taken s2 t u).1 t).2.2 0 ((m_last (m_taken s2 t u).1 t).2.1 (136 + t))) (192 + 8 * (6 * t + u)) m).2.1 = (m_last (m_taken s2 t u).1 t).2.1 := rfl
  rw [e]
  cases s_shut (m_last (m_taken s2 t u).1 t).2.1 t bus
  · refine ⟨rfl, fun j hj => ?_, rfl⟩
    exact pk_un hj
  · exact ⟨rfl, fun j hj => rfl, rfl⟩
theorem ct_tw {t u m : Nat} {c : Int32} (h : xR I F s n k bus f0) (hb : bus < 2) (ht : t < 8) (hu : u < 6) (hm : m ≤ 8) (hn : n + 10 < 2 ^ 30) (hk : k < 2 ^ 30) (hc : b16 c)
    {C : z_C} (hC : z_CM (z_M (z_X0 L xs) z_P0) C) {Qa Qb : z_Q} (hA : ∀ (o : Nat) I', C (d + 3) m_Trial_answer [.ref 29, .int (nI t), .int (nI o)] I' (z_R0 kp sp wd) J F cn Qb → Qa (some (.int (nI o))) I' (z_R0 kp sp wd) J F cn)
    (hB : ∀ o I', C (d + 3) m_Trial_heedService [.ref 29, .int (nI t), .int o] I' (z_R0 kp sp wd) J F cn Q → Qb (some (.int o)) I' (z_R0 kp sp wd) J F cn)
    (hQ : ∀ I' n' k', xR I' F (m_tw (m_begins s t c) bus t u m).1 n' k' bus f0 → n' ≤ n + 10 → k' ≤ k + 1 → fr cT I I' → Q (some (.int (m_tw (m_begins s t c) bus t u m).2)) I' (z_R0 kp sp wd) J F cn) :
    z_M (z_X0 L xs) z_P0 (d + 3) m_Trial_readyOut [.ref 29, .int (nI t), .int (nI (u + 1)), .int (nI m), .int c] I (z_R0 kp sp wd) J F cn Qa := by
  refine ct_readyOut (d := d + 1) h ht hu hm hc (fun I1 x1 e0 e1 f1 => hA _ _ (hC _ _ _ _ _ _ _ _ _ _ (fun _ _ _ _ _ _ q => q) ?_))
  have hW := h.2.2.2.2.1
  have z0 : v01 (nI 0) := Or.inl rfl
  obtain ⟨hs, hcan⟩ := stt_taken (u := u) ht (stt_begins (s := s) (c := c) ht)
  have hs1 := stt_last ht hs
  have hst := stb_of ht hW.1 hs1 s_le_01 z0 z0
  have o : ∀ j, 192 ≤ j → (m_last (m_taken (m_begins s t c) t u).1 t).2.1 j = s.2.1 j := fun j hj => by rw [m_last_o (by omega), m_taken_hi ht hj, m_begins_o (by omega) (by omega) (by omega) (by omega)]
  have tw := m_tw_eq (s2 := m_begins s t c) (bus := bus) (t := t) (u := u) (m := m)
  rw [tw.1] at hQ
  have hk2 : ∀ {I' n' k'}, xR I' F (m_ans (m_sy (m_last (m_taken (m_begins s t c) t u).1 t) t u m) bus t (bif (m_taken (m_begins s t c) t u).2 then 1 + m else 1)).1 n' k' bus f0 → xR I' F (m_tw (m_begins s t c) bus t u m).1 n' k' bus f0 := fun x => xR_f x (tw.2.1 4 (by omega)) (tw.2.1 6 (by omega)) (tw.2.1 7 (by omega)) tw.2.2
  generalize (m_tw (m_begins s t c) bus t u m).1 = s9 at *
  have hmany : (bif (m_taken (m_begins s t c) t u).2 then 1 + m else 1) ≤ 9 ∧ 1 ≤ (bif (m_taken (m_begins s t c) t u).2 then 1 + m else 1) := by cases (m_taken (m_begins s t c) t u).2 <;> simp <;> omega
  refine ct_ah (s := m_sy (m_last (m_taken (m_begins s t c) t u).1 t) t u m) x1 hb ht hmany.1 hmany.2 hn hk (fun j hj => ?_) (by rw [e0]; exact hst) hC hB (fun I' n' k' x' n1 k1 e' f' => hQ I' n' k' (hk2 x') n1 k1 (fr_t f1 f'))
  show I1 30 j = va_cpy (m_last (m_taken (m_begins s t c) t u).1 t).2.1 (upd (m_last (m_taken (m_begins s t c) t u).1 t).2.2 0 ((m_last (m_taken (m_begins s t c) t u).1 t).2.1 (136 + t))) (192 + 8 * (6 * t + u)) 1 m j ∧ b16 (va_cpy (m_last (m_taken (m_begins s t c) t u).1 t).2.1 (upd (m_last (m_taken (m_begins s t c) t u).1 t).2.2 0 ((m_last (m_taken (m_begins s t c) t u).1 t).2.1 (136 + t))) (192 + 8 * (6 * t + u)) 1 m j)
  by_cases e : j = 0
  · subst e
    rw [pk_cpy_out (by omega), pk_us]
    exact ⟨e0, x1.2.2.2.2.1.2.2.1 _ (by omega)⟩
  · have hq : (m_taken (m_begins s t c) t u).2 = true := by
      cases hq : (m_taken (m_begins s t c) t u).2
      · rw [hq] at hj; simp only [cond_false] at hj; omega
      · rfl
    rw [hq] at hj
    simp only [cond_true] at hj
    have := e1 hq (j - 1) (by omega)
    rw [pk_cpy_in (by omega) (by omega), o _ (by omega)]
    rw [show 1 + (j - 1) = j by omega] at this
    exact ⟨this, hW.2.2.1 _ (by omega)⟩
theorem tw_gW {s2 : z_sg} {t u m : Nat} (hb : bus < 2) (ht : t < 8) (h : gW s2.2.1) : gW (m_tw s2 bus t u m).1.2.1 := ⟨fun c hc => by rw [m_tw_o hb ht (by omega)]; exact h.1 c hc, fun c hc => by rw [m_tw_o hb ht (by omega)]; exact h.2 c hc⟩
theorem lays_gW {many : Nat} {who : Int32} (hb : bus < 2) (h : gW s.2.1) : gW (m_lays s bus who many).1.2.1 := ⟨fun c hc => by rw [m_lays_lo hb (by omega)]; exact h.1 c hc, fun c hc => by rw [m_lays_lo hb (by omega)]; exact h.2 c hc⟩
theorem begins_gW {t : Nat} {c : Int32} (ht : t < 8) (h : gW s.2.1) : gW (m_begins s t c).2.1 := ⟨fun c hc => by rw [m_begins_o (by omega) (by omega) (by omega) (by omega)]; exact h.1 c hc, fun c hc => by rw [m_begins_o (by omega) (by omega) (by omega) (by omega)]; exact h.2 c hc⟩
theorem ct_get {t u m : Nat} (h : xR I F s n k bus f0) (hg : gW s.2.1) (hb : bus < 2) (ht : t < 8) (hu : u < 6) (hm1 : 1 ≤ m) (hm : m ≤ 8) (hn : n + 30 < 2 ^ 30) (hk : k + 2 < 2 ^ 30)
    (hQ : ∀ I' F' n' k', xR I' F' (m_gets s bus t u m).1 n' k' bus f0 → n' ≤ n + 20 → k' ≤ k + 2 → fr cT I I' → (∀ b, b ≠ 8 → F' b = F b) → Q (some (.int (m_gets s bus t u m).2)) I' (z_R0 kp sp wd) J F' cn) :
    z_M (z_X0 L xs) z_P0 (d + 4) m_Trial_get [.ref 29, .int (nI t), .int (nI (u + 1)), .int (nI m)] I (z_R0 kp sp wd) J F cn Q := by
  have hc : b16 (s_cmd (nI t) (nI 1) (nI (u + 1)) (nI m)) := s_cmd_b (by omega) (by omega) (by omega) (by omega)
  unfold m_gets at hQ
  simp only at hQ
  generalize hcc : s_cmd (nI t) (nI 1) (nI (u + 1)) (nI m) = c at hc hQ
  refine z_WP_gos [] 1000 fun K C hK hC => ?_
  conv => whnf
  refine hC _ _ _ _ _ _ _ _ _ _ (fun _ _ _ _ _ _ q => q) (ct_encode ?_)
  conv => whnf
  repeat ((first | refine And.intro (by (conv => arg 2; whnf); (try simp only [z_lit, nI_add, pk_mul, z_pr1, z_pr2]); exact z_in (by omega) (by decide)) ?_ | refine z_bt1 (by decide) ?_ | refine z_bf1 (by decide) ?_ | refine z_bt2 (by decide) ?_ | refine z_bf2 (by decide) ?_); conv => whnf)
  simp (disch := omega) only [z_lit, nI_add, pk_mul, z_pr1, z_pr2, nI_clamp, z_up_row, z_row_s, z_row_n, z_row_row, pk_us, pk_un]
  rw [hcc]
  have x0 : xR (z_row I 30 (upd (I 30) 0 c)) F (s.1, s.2.1, upd s.2.2 0 c) n k bus f0 := xR_30 h (fun b hb => z_row_n _ _ hb) rfl rfl
  have hy : ∀ j, j < 1 → (z_row I 30 (upd (I 30) 0 c)) 30 j = ((s.1, s.2.1, upd s.2.2 0 c) : z_sg).2.2 j ∧ b16 (((s.1, s.2.1, upd s.2.2 0 c) : z_sg).2.2 j) := fun j hj => by
    obtain rfl : j = 0 := by omega
    simp only [z_row_s, pk_us]
    exact ⟨trivial, hc⟩
  have f0' : fr cT I (z_row I 30 (upd (I 30) 0 c)) := fr_w fr_r (by decide)
  have hg0 : gW ((s.1, s.2.1, upd s.2.2 0 c) : z_sg).2.1 := hg
  rw [show s.2.1 3 = ((s.1, s.2.1, upd s.2.2 0 c) : z_sg).2.1 3 from rfl] at hQ
  generalize ((s.1, s.2.1, upd s.2.2 0 c) : z_sg) = s0 at *
  generalize z_row I 30 (upd (I 30) 0 c) = I0 at *
  refine hC _ _ _ _ _ _ _ _ _ _ (fun _ _ _ _ _ _ q => q) (ct_say (s := s0) (many := 1) x0 hb (by omega) (by omega) (by omega) hy (fun I1 x1 e1 f1 => ?_))
  conv => whnf
  have f1' := fr_t f0' f1
  have hg1 := lays_gW (many := 1) (who := s0.2.1 3) hb hg0
  generalize m_lays s0 bus (s0.2.1 3) 1 = r at *
  obtain ⟨r1, tu⟩ := r
  simp only at x1 hQ hg1 ⊢
  refine hC _ _ _ _ _ _ _ _ _ _ (fun _ _ _ _ _ _ q => q) (ct_reaches x1 ht ?_)
  conv => whnf
  rw [Bool.and_comm]
  cases hh : (s_hear r1.2.1 t bus && decide (tu = nI 0))
  · rw [hh] at hQ
    repeat ((first | refine And.intro (by (conv => arg 2; whnf); (try simp only [z_lit, nI_add, pk_mul, z_pr1, z_pr2]); exact z_in (by omega) (by decide)) ?_ | refine z_bt1 (by decide) ?_ | refine z_bf1 (by decide) ?_ | refine z_bt2 (by decide) ?_ | refine z_bf2 (by decide) ?_); conv => whnf)
    refine hC _ _ _ _ _ _ _ _ _ _ (fun _ _ _ _ _ _ q => q) (ct_noAnswer x1 (fun I2 x2 e2 f2 => ?_))
    conv => whnf
    exact hQ I2 F _ _ x2 (by omega) (by omega) (fr_t f1' f2) (fun _ _ => rfl)
  · rw [hh] at hQ
    simp only [cond_true] at hQ
    have hg2 := tw_gW (bus := bus) (t := t) (u := u) (m := m) hb ht (begins_gW (s := r1) (t := t) (c := c) ht hg1)
    repeat ((first | refine And.intro (by (conv => arg 2; whnf); (try simp only [z_lit, nI_add, pk_mul, z_pr1, z_pr2]); exact z_in (by omega) (by decide)) ?_ | refine z_bt1 (by decide) ?_ | refine z_bf1 (by decide) ?_ | refine z_bt2 (by decide) ?_ | refine z_bf2 (by decide) ?_); conv => whnf)
    refine hC _ _ _ _ _ _ _ _ _ _ (fun _ _ _ _ _ _ q => q) (ct_tw (t := t) (u := u) (m := m) (c := c) x1 hb ht hu hm (by omega) (by omega) hc hC (fun o I' q => q) (fun o I' q => q) (fun I' n' k' x' n1 k1 f' => ?_))
    conv => whnf
    generalize m_tw (m_begins r1 t c) bus t u m = q at *
    obtain ⟨q1, q2⟩ := q
    simp only at x' hQ hg2 ⊢
    refine ⟨fun g => ?_, fun g => ?_⟩ <;> (try simp (disch := omega) only [z_lit, nI_add, pk_mul, z_pr1, z_pr2, nI_clamp, z_up_row, z_row_s, z_row_n, z_row_row, pk_us, pk_un] at g) <;> (conv => whnf)
    · rw [if_neg g] at hQ
      exact hQ I' F n' k' x' (by omega) (by omega) (fr_t f1' f') (fun _ _ => rfl)
    · rw [if_pos g] at hQ
      subst g
      refine hC _ _ _ _ _ _ _ _ _ _ (fun _ _ _ _ _ _ q => q) (cu_keep x' hg2 ht hu hm1 hm (fun I'' F'' x'' f'' fF => ?_))
      conv => whnf
      exact hQ I'' F'' n' k' x'' (by omega) (by omega) (fr_t (fr_t f1' f') f'') fF
end
