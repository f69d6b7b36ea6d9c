/-! one try, asked for: the class -/
section
variable {L : Nat} {xs : Nat → Int32} {d : Nat} {kp sp wd : Value} {I : z_I} {s : z_sg} {R : z_R} {J : z_J} {F : z_F} {cn : Nat} {Q : z_Q} {n k : Nat}
theorem hR_try {I' : z_I} {F' : z_F} {S : z_sg} {n' k' ln : Nat} {w : Nat → Int32} (h : hR I F w n k ln) (x : yR I' F' S n' k') (f : fr cT I I') (o1 : ∀ j, j ≤ 4 ∨ (6 ≤ j ∧ j ≤ 9) ∨ (31 ≤ j ∧ j < 48) ∨ (56 ≤ j ∧ j < 112) ∨ (192 ≤ j ∧ j < 576) ∨ (1344 ≤ j ∧ j < 1536) ∨ (1584 ≤ j ∧ j < 2220) ∨ 2572 ≤ j → S.2.1 j = w j) (hg : gW S.2.1) : hR I' F' S.2.1 n' k' ln := by
  obtain ⟨-, ⟨c5, c6, c7, c10⟩, ⟨r9, r8, r11⟩, ⟨p, tb, rt, hrt, ert⟩, hD, hJ, hsc, he, hgS⟩ := h
  obtain ⟨y1, y2, ⟨y3, y4⟩, y5, y6, y7⟩ := x
  have i1 : I' 1 = I 1 := f 1 (by decide)
  refine ⟨⟨y1, y2, y6, hg⟩, ⟨?_, ?_, ?_, ?_⟩, ⟨?_, ?_, ?_⟩, ⟨?_, ?_, rt, hrt, ?_⟩, ?_, ?_, ?_, ?_, ?_⟩
  · rw [i1, o1 0 (by omega)]; exact c5
  · rw [i1, o1 1 (by omega)]; exact c6
  · rw [i1, o1 2 (by omega)]; exact c7
  · rw [i1, o1 7 (by omega)]; exact c10
  · rw [i1, o1 4 (by omega)]; exact r9
  · rw [i1, o1 3 (by omega)]; exact r8
  · rw [i1, o1 6 (by omega)]; exact r11
  · exact pS_c p (by rw [f 18 (by decide)]) (f 19 (by decide)) (o1 8 (by omega)) tb.2.1 (fun i f a b => o1 _ (by omega))
  · exact tb_c tb (o1 8 (by omega)) (fun i f a b => o1 _ (by omega))
  · rw [o1 1 (by omega)]; exact ert
  · exact pD_k hD tb.2.1 (f 20 (by decide)) (f 21 (by decide)) (f 22 (by decide)) (fun j hj => o1 _ (by omega))
  · rw [f 27 (by decide), f 28 (by decide)]; exact jR_k hJ (fun j hj => o1 _ (by omega))
  · exact scR_k hsc he.2.1 (f 25 (by decide)) (f 26 (by decide)) (fun j hj => o1 _ (by omega))
  · exact ev_k he (fun j hj => o1 _ (by omega))
  · exact ⟨fun c hc => by rw [o1 _ (by omega), o1 _ (by omega)]; exact hgS.1 c hc, by rw [o1 2 (by omega)]; exact hgS.2⟩
theorem hR_yR {ln : Nat} (h : hR I F s.2.1 n k ln) (h6 : v01 (s.1 6)) : yR I F (upd s.1 7 (I 29 7), s.2.1, s.2.2) n k := by
  obtain ⟨⟨u, wr, kw, g⟩, ⟨c5, c6, c7, c10⟩, ⟨r9, r8, r11⟩, -⟩ := h
  exact ⟨u, wr, ⟨c7, r8⟩, (pk_us (f := s.1) (k := 7) (x := I 29 7)).symm, kw, by show v01 (upd s.1 7 (I 29 7) 6); rw [pk_un (by omega)]; exact h6⟩
theorem E7_7 {v : Int32} : E7 ((upd s.1 7 v, s.2.1, s.2.2) : z_sg) s := ⟨fun j hj => pk_un hj, rfl⟩
theorem cb_once {b kk t u m : Int32} {ln : Nat} (h : hR I F s.2.1 n k ln) (h6 : v01 (s.1 6)) (hn : n + 60 < 2 ^ 30) (hk : k + 6 < 2 ^ 30)
    (h1 : ∀ B K T U N I' F' n' k', oq s.2.1 b kk t u m B K T U N → hR I' F' (m_onc s B K T U N).1.2.1 n' k' ln → v01 ((m_onc s B K T U N).1.1 6) → n' ≤ n + 30 → k' ≤ k + 5 → fr cT I I' → (∀ b, b ≠ 8 → F' b = F b) → Q (some (.int (m_onc s B K T U N).2)) I' (z_R0 kp sp wd) J F' cn)
    (h0 : (∀ B K T U N, ¬ oq s.2.1 b kk t u m B K T U N) → Q (some (.int (-1))) I (z_R0 kp sp wd) J F cn) :
    z_M (z_X0 L xs) z_P0 (d + 6) m_Bus_once [.ref 0, .int b, .int kk, .int t, .int u, .int m] I (z_R0 kp sp wd) J F cn Q := by
  have hy := hR_yR h h6
  have e7 : E7 ((upd s.1 7 (I 29 7), s.2.1, s.2.2) : z_sg) s := E7_7
  have hw : ((upd s.1 7 (I 29 7), s.2.1, s.2.2) : z_sg).2.1 = s.2.1 := rfl
  generalize ((upd s.1 7 (I 29 7), s.2.1, s.2.2) : z_sg) = z at hy e7 hw
  have gw := h.1.2.2.2
  have kw := h.1.2.2.1
  obtain ⟨c, hc, h3⟩ := kw.2.2.2.1
  have ecp : s_ctp s.2.1 = s.2.1 (31 + c) := by unfold s_ctp; rw [h3, nI_clamp (by omega)]
  have r8 : I 1 8 = s.2.1 3 := h.2.2.1.2.1
  have fin : ∀ B K T U N I' F' n' k', oq s.2.1 b kk t u m B K T U N → yR I' F' (m_onc z B K T U N).1 n' k' → n' ≤ n + 30 → k' ≤ k + 5 → fr cT I I' → (∀ b, b ≠ 8 → F' b = F b) → Q (some (.int (m_onc z B K T U N).2)) I' (z_R0 kp sp wd) J F' cn := by
    intro B K T U N I' F' n' k' hq x a b' f g
    have e := onc_E7 (B := B) (K := K) (T := T) (U := U) (N := N) e7
    rw [e.2]
    have hq' : oq z.2.1 b kk t u m B K T U N := by rw [hw]; exact hq
    have gw' : gW z.2.1 := by rw [hw]; exact gw
    have o1 : ∀ j, j ≤ 4 ∨ (6 ≤ j ∧ j ≤ 9) ∨ (31 ≤ j ∧ j < 48) ∨ (56 ≤ j ∧ j < 112) ∨ (192 ≤ j ∧ j < 576) ∨ (1344 ≤ j ∧ j < 1536) ∨ (1584 ≤ j ∧ j < 2220) ∨ 2572 ≤ j → (m_onc z B K T U N).1.2.1 j = s.2.1 j := fun j hj => by rw [onc_o hq' hj, hw]
    have gg : gW (m_onc z B K T U N).1.2.1 := ⟨fun c hc => by rw [o1 _ (by omega)]; exact gw.1 c hc, onc_fok hq' gw'.2⟩
    have r := hR_try h x f o1 gg
    have v6 := x.2.2.2.2.2
    rw [e.1.1 6 (by omega)] at v6
    rw [E7_w e.1] at r
    exact h1 B K T U N I' F' n' k' hq r v6 a b' f g
  refine z_WP_gos [] 1000 fun K C hK hC => ?_
  conv => whnf
  refine ⟨fun g => ?_, fun g => ?_⟩
  · conv => whnf
    refine h0 fun B K T U N h => absurd g (Int32.not_lt.mpr ?_)
    rw [h.1.1]; have := h.1.2; exact nI_pos' (by omega)
  conv => whnf
  refine ⟨fun g2 => ?_, fun g2 => ?_⟩
  · conv => whnf
    refine h0 fun B K T U N h => absurd g2 (Int32.not_lt.mpr ?_)
    rw [h.1.1]; exact nI_le (b := 1) h.1.2 (by decide)
  obtain ⟨B, hB, eb⟩ := isIn_nat (b := 1) (by decide) (Int32.not_lt.mp g) (Int32.not_lt.mp g2)
  conv => whnf
  refine ⟨fun g3 => ?_, fun g3 => ?_⟩
  · conv => whnf
    refine h0 fun B K T U N h => absurd g3 (Int32.not_lt.mpr ?_)
    rw [h.2.1.1]; have := h.2.1.2; exact nI_pos' (by omega)
  conv => whnf
  refine ⟨fun g4 => ?_, fun g4 => ?_⟩
  · conv => whnf
    refine h0 fun B K T U N h => absurd g4 (Int32.not_lt.mpr ?_)
    rw [h.2.1.1]; exact nI_le (b := 3) h.2.1.2 (by decide)
  obtain ⟨K, hK, ek⟩ := isIn_nat (b := 3) (by decide) (Int32.not_lt.mp g3) (Int32.not_lt.mp g4)
  conv => whnf
  simp (disch := omega) only [z_lit, nI_add, pk_mul, z_pr1, z_pr2, nI_clamp, z_up_row, z_row_s, z_row_n, z_row_row, pk_us, pk_un]
  rw [r8, h3]
  refine hC _ _ _ _ _ _ _ _ _ _ (fun _ _ _ _ _ _ q => q) (cu_hasPower (w := s.2.1) (by omega) h.1.1.1 kw.1 ?_)
  conv => whnf
  have pv := kw.1.1 c (by omega)
  by_cases pw : s.2.1 (31 + c) = nI 1
  rotate_left
  · rw [decide_eq_false pw]
    repeat ((first | refine And.intro (by (conv => arg 2; whnf); (try simp only [z_lit, nI_add, pk_mul, z_pr1, z_pr2]); exact z_in (by omega) (by decide)) ?_ | refine z_bt1 (by decide) ?_ | refine z_bf1 (by decide) ?_ | refine z_bt2 (by decide) ?_ | refine z_bf2 (by decide) ?_); conv => whnf)
    refine h0 fun B K T U N h => h.2.2.1 ?_
    rw [ecp]
    rcases pv with z | z
    · exact z
    · exact absurd z pw
  rw [decide_eq_true pw]
  have hpw : ¬ s_ctp s.2.1 = nI 0 := by rw [ecp, pw]; decide
  have c8 : ¬ nI c = nI 9 := nI_ne (by omega) (by omega) (by omega)
  have hK' : K = 0 ∨ K = 1 ∨ K = 2 ∨ K = 3 := by omega
  subst eb
  rcases hK' with rfl | rfl | rfl | rfl <;> subst ek
  · repeat ((first | refine And.intro (by (conv => arg 2; whnf); (try simp only [z_lit, nI_add, pk_mul, z_pr1, z_pr2]); exact z_in (by omega) (by decide)) ?_ | refine z_bt1 (by decide) ?_ | refine z_bf1 (by decide) ?_ | refine z_bt2 (by decide) ?_ | refine z_bf2 (by decide) ?_); conv => whnf)
    refine ⟨fun g => ?_, fun g => ?_⟩
    · conv => whnf
      refine h0 fun B' K T U N h => absurd g (Int32.not_lt.mpr ?_)
      obtain rfl := k3_inj 0 (by omega) K h.2.1.2 h.2.1.1
      have q := h.2.2.2.2.2 (by omega)
      rw [q.1.1]; exact nI_pos' (by omega)
    conv => whnf
    refine ⟨fun g2 => ?_, fun g2 => ?_⟩
    · conv => whnf
      refine h0 fun B' K T U N h => ?_
      obtain rfl := k3_inj 0 (by omega) K h.2.1.2 h.2.1.1
      have q := h.2.2.2.2.2 (by omega)
      rw [q.1.1] at g2; exact nI_ge (b := 8) (by omega) (by omega) g2
    obtain ⟨T, hT, et⟩ := isIn_nat (b := 8) (by decide) (Int32.not_lt.mp g) (Int32.le_of_lt (Int32.not_le.mp g2))
    have hT8 : T < 8 := by
      rcases Nat.lt_or_eq_of_le hT with z | z
      · exact z
      · rw [et, z] at g2; exact absurd (Int32.le_refl _) g2
    conv => whnf
    simp (disch := omega) only [z_lit, nI_add, pk_mul, z_pr1, z_pr2, nI_clamp, z_up_row, z_row_s, z_row_n, z_row_row, pk_us, pk_un]
    rw [r8]
    refine ⟨fun g3 => ?_, fun g3 => ?_⟩
    rotate_left
    · conv => whnf
      refine h0 fun B' K T U N h => ?_
      obtain rfl := k3_inj 0 (by omega) K h.2.1.2 h.2.1.1
      exact (h.2.2.2.2.2 (by omega)).2 g3
    conv => whnf
    repeat ((first | refine And.intro (by (conv => arg 2; whnf); (try simp only [z_lit, nI_add, pk_mul, z_pr1, z_pr2]); exact z_in (by omega) (by decide)) ?_ | refine z_bt1 (by decide) ?_ | refine z_bf1 (by decide) ?_ | refine z_bt2 (by decide) ?_ | refine z_bf2 (by decide) ?_); conv => whnf)
    refine hC _ _ _ _ _ _ _ _ _ _ (fun _ _ _ _ _ _ q => q) (cb_isSub (fun U hU eu => ?_) (fun x => ?_))
    conv => whnf
    rotate_left
    · repeat ((first | refine And.intro (by (conv => arg 2; whnf); (try simp only [z_lit, nI_add, pk_mul, z_pr1, z_pr2]); exact z_in (by omega) (by decide)) ?_ | refine z_bt1 (by decide) ?_ | refine z_bf1 (by decide) ?_ | refine z_bt2 (by decide) ?_ | refine z_bf2 (by decide) ?_); conv => whnf)
      refine h0 fun B' K T U N h => ?_
      obtain rfl := k3_inj 0 (by omega) K h.2.1.2 h.2.1.1
      have q := h.2.2.2.1 (by omega)
      exact x U q.1.2 q.1.1
    repeat ((first | refine And.intro (by (conv => arg 2; whnf); (try simp only [z_lit, nI_add, pk_mul, z_pr1, z_pr2]); exact z_in (by omega) (by decide)) ?_ | refine z_bt1 (by decide) ?_ | refine z_bf1 (by decide) ?_ | refine z_bt2 (by decide) ?_ | refine z_bf2 (by decide) ?_); conv => whnf)
    refine ⟨fun g4 => ?_, fun g4 => ?_⟩
    · conv => whnf
      refine h0 fun B' K T U N h => absurd g4 (Int32.not_lt.mpr ?_)
      obtain rfl := k3_inj 0 (by omega) K h.2.1.2 h.2.1.1
      have q := h.2.2.2.1 (by omega)
      rw [q.2.1]; exact nI_le (a := 1) (by omega) (by omega)
    conv => whnf
    refine ⟨fun g5 => ?_, fun g5 => ?_⟩
    rotate_left
    · conv => whnf
      refine h0 fun B' K T U N h => g5 ?_
      obtain rfl := k3_inj 0 (by omega) K h.2.1.2 h.2.1.1
      have q := h.2.2.2.1 (by omega)
      rw [q.2.1]; exact nI_le (b := 8) (by omega) (by decide)
    obtain ⟨N, hN, en⟩ := isIn_1 (b := 8) (by decide) (Int32.not_lt.mp g4) g5
    have hq : oq s.2.1 (nI B) (nI 0) t u m B 0 T U (N + 1) := ⟨⟨rfl, hB⟩, ⟨rfl, by omega⟩, hpw, fun _ => ⟨⟨eu, by omega⟩, en, by omega, hN⟩, fun z => by omega, fun _ => ⟨⟨et, hT8⟩, g3⟩⟩
    have q := fun I' F' n' k' => fin B 0 T U (N + 1) I' F' n' k' hq
    rw [onc_0] at q
    subst eu en et
    conv => whnf
    repeat ((first | refine And.intro (by (conv => arg 2; whnf); (try simp only [z_lit, nI_add, pk_mul, z_pr1, z_pr2]); exact z_in (by omega) (by decide)) ?_ | refine z_bt1 (by decide) ?_ | refine z_bf1 (by decide) ?_ | refine z_bt2 (by decide) ?_ | refine z_bf2 (by decide) ?_); conv => whnf)
    refine hC _ _ _ _ _ _ _ _ _ _ (fun _ _ _ _ _ _ q => q) (ca_send hy (by omega) hT8 hU hN hn hk (fun I' n' k' y yt a b f => ?_))
    conv => whnf
    exact q I' F n' k' y a b f (fun _ _ => rfl)
  · repeat ((first | refine And.intro (by (conv => arg 2; whnf); (try simp only [z_lit, nI_add, pk_mul, z_pr1, z_pr2]); exact z_in (by omega) (by decide)) ?_ | refine z_bt1 (by decide) ?_ | refine z_bf1 (by decide) ?_ | refine z_bt2 (by decide) ?_ | refine z_bf2 (by decide) ?_); conv => whnf)
    refine ⟨fun g => ?_, fun g => ?_⟩
    · conv => whnf
      refine h0 fun B' K T U N h => absurd g (Int32.not_lt.mpr ?_)
      obtain rfl := k3_inj 1 (by omega) K h.2.1.2 h.2.1.1
      have q := h.2.2.2.2.2 (by omega)
      rw [q.1.1]; exact nI_pos' (by omega)
    conv => whnf
    refine ⟨fun g2 => ?_, fun g2 => ?_⟩
    · conv => whnf
      refine h0 fun B' K T U N h => ?_
      obtain rfl := k3_inj 1 (by omega) K h.2.1.2 h.2.1.1
      have q := h.2.2.2.2.2 (by omega)
      rw [q.1.1] at g2; exact nI_ge (b := 8) (by omega) (by omega) g2
    obtain ⟨T, hT, et⟩ := isIn_nat (b := 8) (by decide) (Int32.not_lt.mp g) (Int32.le_of_lt (Int32.not_le.mp g2))
    have hT8 : T < 8 := by
      rcases Nat.lt_or_eq_of_le hT with z | z
      · exact z
      · rw [et, z] at g2; exact absurd (Int32.le_refl _) g2
    conv => whnf
    simp (disch := omega) only [z_lit, nI_add, pk_mul, z_pr1, z_pr2, nI_clamp, z_up_row, z_row_s, z_row_n, z_row_row, pk_us, pk_un]
    rw [r8]
    refine ⟨fun g3 => ?_, fun g3 => ?_⟩
    rotate_left
    · conv => whnf
      refine h0 fun B' K T U N h => ?_
      obtain rfl := k3_inj 1 (by omega) K h.2.1.2 h.2.1.1
      exact (h.2.2.2.2.2 (by omega)).2 g3
    conv => whnf
    repeat ((first | refine And.intro (by (conv => arg 2; whnf); (try simp only [z_lit, nI_add, pk_mul, z_pr1, z_pr2]); exact z_in (by omega) (by decide)) ?_ | refine z_bt1 (by decide) ?_ | refine z_bf1 (by decide) ?_ | refine z_bt2 (by decide) ?_ | refine z_bf2 (by decide) ?_); conv => whnf)
    refine hC _ _ _ _ _ _ _ _ _ _ (fun _ _ _ _ _ _ q => q) (cb_isSub (fun U hU eu => ?_) (fun x => ?_))
    conv => whnf
    rotate_left
    · repeat ((first | refine And.intro (by (conv => arg 2; whnf); (try simp only [z_lit, nI_add, pk_mul, z_pr1, z_pr2]); exact z_in (by omega) (by decide)) ?_ | refine z_bt1 (by decide) ?_ | refine z_bf1 (by decide) ?_ | refine z_bt2 (by decide) ?_ | refine z_bf2 (by decide) ?_); conv => whnf)
      refine h0 fun B' K T U N h => ?_
      obtain rfl := k3_inj 1 (by omega) K h.2.1.2 h.2.1.1
      have q := h.2.2.2.1 (by omega)
      exact x U q.1.2 q.1.1
    repeat ((first | refine And.intro (by (conv => arg 2; whnf); (try simp only [z_lit, nI_add, pk_mul, z_pr1, z_pr2]); exact z_in (by omega) (by decide)) ?_ | refine z_bt1 (by decide) ?_ | refine z_bf1 (by decide) ?_ | refine z_bt2 (by decide) ?_ | refine z_bf2 (by decide) ?_); conv => whnf)
    refine ⟨fun g4 => ?_, fun g4 => ?_⟩
    · conv => whnf
      refine h0 fun B' K T U N h => absurd g4 (Int32.not_lt.mpr ?_)
      obtain rfl := k3_inj 1 (by omega) K h.2.1.2 h.2.1.1
      have q := h.2.2.2.1 (by omega)
      rw [q.2.1]; exact nI_le (a := 1) (by omega) (by omega)
    conv => whnf
    refine ⟨fun g5 => ?_, fun g5 => ?_⟩
    rotate_left
    · conv => whnf
      refine h0 fun B' K T U N h => g5 ?_
      obtain rfl := k3_inj 1 (by omega) K h.2.1.2 h.2.1.1
      have q := h.2.2.2.1 (by omega)
      rw [q.2.1]; exact nI_le (b := 8) (by omega) (by decide)
    obtain ⟨N, hN, en⟩ := isIn_1 (b := 8) (by decide) (Int32.not_lt.mp g4) g5
    have hq : oq s.2.1 (nI B) (nI 1) t u m B 1 T U (N + 1) := ⟨⟨rfl, hB⟩, ⟨rfl, by omega⟩, hpw, fun _ => ⟨⟨eu, by omega⟩, en, by omega, hN⟩, fun z => by omega, fun _ => ⟨⟨et, hT8⟩, g3⟩⟩
    have q := fun I' F' n' k' => fin B 1 T U (N + 1) I' F' n' k' hq
    rw [onc_1] at q
    have gz : gW z.2.1 := by rw [hw]; exact gw
    subst eu en et
    conv => whnf
    repeat ((first | refine And.intro (by (conv => arg 2; whnf); (try simp only [z_lit, nI_add, pk_mul, z_pr1, z_pr2]); exact z_in (by omega) (by decide)) ?_ | refine z_bt1 (by decide) ?_ | refine z_bf1 (by decide) ?_ | refine z_bt2 (by decide) ?_ | refine z_bf2 (by decide) ?_); conv => whnf)
    refine hC _ _ _ _ _ _ _ _ _ _ (fun _ _ _ _ _ _ q => q) (ca_get hy gz (by omega) hT8 hU (by omega) hN hn hk (fun I' F' n' k' y yt a b f ff => ?_))
    conv => whnf
    exact q I' F' n' k' y a b f ff
  · repeat ((first | refine And.intro (by (conv => arg 2; whnf); (try simp only [z_lit, nI_add, pk_mul, z_pr1, z_pr2]); exact z_in (by omega) (by decide)) ?_ | refine z_bt1 (by decide) ?_ | refine z_bf1 (by decide) ?_ | refine z_bt2 (by decide) ?_ | refine z_bf2 (by decide) ?_); conv => whnf)
    refine hC _ _ _ _ _ _ _ _ _ _ (fun _ _ _ _ _ _ q => q) (cb_isSub (fun U hU eu => ?_) (fun x => ?_))
    conv => whnf
    rotate_left
    · repeat ((first | refine And.intro (by (conv => arg 2; whnf); (try simp only [z_lit, nI_add, pk_mul, z_pr1, z_pr2]); exact z_in (by omega) (by decide)) ?_ | refine z_bt1 (by decide) ?_ | refine z_bf1 (by decide) ?_ | refine z_bt2 (by decide) ?_ | refine z_bf2 (by decide) ?_); conv => whnf)
      refine h0 fun B' K T U N h => ?_
      obtain rfl := k3_inj 2 (by omega) K h.2.1.2 h.2.1.1
      have q := h.2.2.2.1 (by omega)
      exact x U q.1.2 q.1.1
    repeat ((first | refine And.intro (by (conv => arg 2; whnf); (try simp only [z_lit, nI_add, pk_mul, z_pr1, z_pr2]); exact z_in (by omega) (by decide)) ?_ | refine z_bt1 (by decide) ?_ | refine z_bf1 (by decide) ?_ | refine z_bt2 (by decide) ?_ | refine z_bf2 (by decide) ?_); conv => whnf)
    refine ⟨fun g4 => ?_, fun g4 => ?_⟩
    · conv => whnf
      refine h0 fun B' K T U N h => absurd g4 (Int32.not_lt.mpr ?_)
      obtain rfl := k3_inj 2 (by omega) K h.2.1.2 h.2.1.1
      have q := h.2.2.2.1 (by omega)
      rw [q.2.1]; exact nI_le (a := 1) (by omega) (by omega)
    conv => whnf
    refine ⟨fun g5 => ?_, fun g5 => ?_⟩
    rotate_left
    · conv => whnf
      refine h0 fun B' K T U N h => g5 ?_
      obtain rfl := k3_inj 2 (by omega) K h.2.1.2 h.2.1.1
      have q := h.2.2.2.1 (by omega)
      rw [q.2.1]; exact nI_le (b := 8) (by omega) (by decide)
    obtain ⟨N, hN, en⟩ := isIn_1 (b := 8) (by decide) (Int32.not_lt.mp g4) g5
    have hq : oq s.2.1 (nI B) (nI 2) t u m B 2 0 U (N + 1) := ⟨⟨rfl, hB⟩, ⟨rfl, by omega⟩, hpw, fun _ => ⟨⟨eu, by omega⟩, en, by omega, hN⟩, fun z => by omega, fun z => absurd rfl z⟩
    have q := fun I' F' n' k' => fin B 2 0 U (N + 1) I' F' n' k' hq
    rw [onc_2] at q
    subst eu en
    conv => whnf
    repeat ((first | refine And.intro (by (conv => arg 2; whnf); (try simp only [z_lit, nI_add, pk_mul, z_pr1, z_pr2]); exact z_in (by omega) (by decide)) ?_ | refine z_bt1 (by decide) ?_ | refine z_bf1 (by decide) ?_ | refine z_bt2 (by decide) ?_ | refine z_bf2 (by decide) ?_); conv => whnf)
    refine hC _ _ _ _ _ _ _ _ _ _ (fun _ _ _ _ _ _ q => q) (ca_all hy (by omega) hU hN hn hk (fun I' n' k' y yt a b f => ?_))
    conv => whnf
    exact q I' F n' k' y a b f (fun _ _ => rfl)
  · repeat ((first | refine And.intro (by (conv => arg 2; whnf); (try simp only [z_lit, nI_add, pk_mul, z_pr1, z_pr2]); exact z_in (by omega) (by decide)) ?_ | refine z_bt1 (by decide) ?_ | refine z_bf1 (by decide) ?_ | refine z_bt2 (by decide) ?_ | refine z_bf2 (by decide) ?_); conv => whnf)
    refine ⟨fun g => ?_, fun g => ?_⟩
    · conv => whnf
      refine h0 fun B' K T U N h => absurd g (Int32.not_lt.mpr ?_)
      obtain rfl := k3_inj 3 (by omega) K h.2.1.2 h.2.1.1
      have q := h.2.2.2.2.2 (by omega)
      rw [q.1.1]; exact nI_pos' (by omega)
    conv => whnf
    refine ⟨fun g2 => ?_, fun g2 => ?_⟩
    · conv => whnf
      refine h0 fun B' K T U N h => ?_
      obtain rfl := k3_inj 3 (by omega) K h.2.1.2 h.2.1.1
      have q := h.2.2.2.2.2 (by omega)
      rw [q.1.1] at g2; exact nI_ge (b := 8) (by omega) (by omega) g2
    obtain ⟨T, hT, et⟩ := isIn_nat (b := 8) (by decide) (Int32.not_lt.mp g) (Int32.le_of_lt (Int32.not_le.mp g2))
    have hT8 : T < 8 := by
      rcases Nat.lt_or_eq_of_le hT with z | z
      · exact z
      · rw [et, z] at g2; exact absurd (Int32.le_refl _) g2
    conv => whnf
    simp (disch := omega) only [z_lit, nI_add, pk_mul, z_pr1, z_pr2, nI_clamp, z_up_row, z_row_s, z_row_n, z_row_row, pk_us, pk_un]
    rw [r8]
    refine ⟨fun g3 => ?_, fun g3 => ?_⟩
    rotate_left
    · conv => whnf
      refine h0 fun B' K T U N h => ?_
      obtain rfl := k3_inj 3 (by omega) K h.2.1.2 h.2.1.1
      exact (h.2.2.2.2.2 (by omega)).2 g3
    conv => whnf
    repeat ((first | refine And.intro (by (conv => arg 2; whnf); (try simp only [z_lit, nI_add, pk_mul, z_pr1, z_pr2]); exact z_in (by omega) (by decide)) ?_ | refine z_bt1 (by decide) ?_ | refine z_bf1 (by decide) ?_ | refine z_bt2 (by decide) ?_ | refine z_bf2 (by decide) ?_); conv => whnf)
    refine ⟨fun g4 => ?_, fun g4 => ?_⟩
    · conv => whnf
      refine h0 fun B' K T U N h => absurd g4 (Int32.not_lt.mpr ?_)
      obtain rfl := k3_inj 3 (by omega) K h.2.1.2 h.2.1.1
      have q := h.2.2.2.2.1 rfl
      rw [q.1]; exact nI_le (a := 1) (by omega) (by omega)
    conv => whnf
    refine ⟨fun g5 => ?_, fun g5 => ?_⟩
    rotate_left
    · conv => whnf
      refine h0 fun B' K T U N h => g5 ?_
      obtain rfl := k3_inj 3 (by omega) K h.2.1.2 h.2.1.1
      have q := h.2.2.2.2.1 rfl
      rw [q.1]; exact nI_le (b := 31) (by omega) (by decide)
    obtain ⟨N, hN, en⟩ := isIn_1 (b := 31) (by decide) (Int32.not_lt.mp g4) g5
    have hq : oq s.2.1 (nI B) (nI 3) t u m B 3 T 0 (N + 1) := ⟨⟨rfl, hB⟩, ⟨rfl, by omega⟩, hpw, fun z => by omega, fun _ => ⟨en, by omega, hN⟩, fun _ => ⟨⟨et, hT8⟩, g3⟩⟩
    have q := fun I' F' n' k' => fin B 3 T 0 (N + 1) I' F' n' k' hq
    rw [onc_3] at q
    subst en et
    conv => whnf
    repeat ((first | refine And.intro (by (conv => arg 2; whnf); (try simp only [z_lit, nI_add, pk_mul, z_pr1, z_pr2]); exact z_in (by omega) (by decide)) ?_ | refine z_bt1 (by decide) ?_ | refine z_bf1 (by decide) ?_ | refine z_bt2 (by decide) ?_ | refine z_bf2 (by decide) ?_); conv => whnf)
    refine hC _ _ _ _ _ _ _ _ _ _ (fun _ _ _ _ _ _ q => q) (ca_mode (kd := 4) hy (Or.inl rfl) (by omega) (by omega) (by omega) (fun z => by omega) hn hk (fun I' n' k' y yt a b f _ => ?_))
    conv => whnf
    exact q I' F n' k' y a b f (fun _ _ => rfl)
end
