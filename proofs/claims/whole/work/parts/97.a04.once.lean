/-! one try, asked for: in both -/
def oq (w : Nat → Int32) (b k t u n : Int32) (B K T U N : Nat) : Prop := (b = nI B ∧ B ≤ 1) ∧ (k = nI K ∧ K ≤ 3) ∧ ¬ s_ctp w = nI 0 ∧ (K < 3 → (u = nI (U + 1) ∧ U < 6) ∧ (n = nI N ∧ 1 ≤ N ∧ N ≤ 8)) ∧ (K = 3 → n = nI N ∧ 1 ≤ N ∧ N ≤ 31) ∧ (K ≠ 2 → (t = nI T ∧ T < 8) ∧ ¬ t = w 3)
def m_onc (s : z_sg) (B K T U N : Nat) : z_sg × Int32 := if K = 0 then m_tries s (m_sends s B T U N) B T else if K = 1 then m_tries s (m_gets s B T U N) B T else if K = 2 then (m_slot (m_tellsAll s B U N).1 B (s.1 4), (m_tellsAll s B U N).2) else m_tries s (m_modes s B T N) B T
theorem onc_0 {s : z_sg} {B T U N : Nat} : m_onc s B 0 T U N = m_tries s (m_sends s B T U N) B T := if_pos rfl
theorem onc_1 {s : z_sg} {B T U N : Nat} : m_onc s B 1 T U N = m_tries s (m_gets s B T U N) B T := rfl
theorem onc_2 {s : z_sg} {B T U N : Nat} : m_onc s B 2 T U N = (m_slot (m_tellsAll s B U N).1 B (s.1 4), (m_tellsAll s B U N).2) := rfl
theorem onc_3 {s : z_sg} {B T U N : Nat} : m_onc s B 3 T U N = m_tries s (m_modes s B T N) B T := rfl
theorem onc_E7 {a b : z_sg} {B K T U N : Nat} (h : E7 a b) : E7p (m_onc a B K T U N) (m_onc b B K T U N) := by
  unfold m_onc
  refine E7p_ite (E7_tries h (E7_sends h)) (E7p_ite (E7_tries h (E7_gets h)) (E7p_ite ?_ (E7_tries h (E7_modes h))))
  have q := E7_tellsAll (bus := B) (u := U) (n := N) h
  rw [h.1 4 (by omega)]
  exact ⟨E7_slot q.1, q.2⟩
section
variable {L : Nat} {xs : Nat → Int32} {d : Nat} {kp sp wd : Value} {I : z_I} {s : z_sg} {R : z_R} {J : z_J} {F : z_F} {cn : Nat} {Q : z_Q} {n k : Nat}
theorem onc_o {b kk t u m : Int32} {B K T U N j : Nat} (h : oq s.2.1 b kk t u m B K T U N) (hj : j ≤ 4 ∨ (6 ≤ j ∧ j ≤ 9) ∨ (31 ≤ j ∧ j < 48) ∨ (56 ≤ j ∧ j < 112) ∨ (192 ≤ j ∧ j < 576) ∨ (1344 ≤ j ∧ j < 1536) ∨ (1584 ≤ j ∧ j < 2220) ∨ 2572 ≤ j) : (m_onc s B K T U N).1.2.1 j = s.2.1 j := by
  obtain ⟨⟨-, hb⟩, ⟨-, hK⟩, -, h3, h4, h5⟩ := h
  have hj2 : j ≤ 4 ∨ (6 ≤ j ∧ j ≤ 9) ∨ (31 ≤ j ∧ j < 48) ∨ (56 ≤ j ∧ j < 112) ∨ (192 ≤ j ∧ j < 576) ∨ (1344 ≤ j ∧ j < 2220) ∨ 2572 ≤ j := by omega
  have hK' : K = 0 ∨ K = 1 ∨ K = 2 ∨ K = 3 := by omega
  rcases hK' with rfl | rfl | rfl | rfl
  · obtain ⟨⟨-, hu⟩, -, -, hN⟩ := h3 (by omega)
    obtain ⟨⟨-, hT⟩, -⟩ := h5 (by omega)
    rw [onc_0]
    exact trs_o (by omega) (by omega) oc_sends hj2 (m_sends_o (by omega) hT hu hN hj2)
  · obtain ⟨⟨-, hu⟩, -, -, hN⟩ := h3 (by omega)
    obtain ⟨⟨-, hT⟩, -⟩ := h5 (by omega)
    rw [onc_1]
    exact trs_o (by omega) (by omega) oc_gets hj2 (m_gets_o (by omega) hT hu hN hj)
  · obtain ⟨⟨-, hu⟩, -, -, hN⟩ := h3 (by omega)
    rw [onc_2]
    exact (m_slot_o (by omega) hj2).trans (m_tellsAll_o (by omega) hu hN hj2)
  · obtain ⟨⟨-, hT⟩, -⟩ := h5 (by omega)
    rw [onc_3]
    exact trs_o (by omega) (by omega) oc_modes hj2 (m_modes_o (by omega) (by omega) hj2)
theorem onc_fok {b kk t u m : Int32} {B K T U N : Nat} (h : oq s.2.1 b kk t u m B K T U N) (hf : m_fok s) : m_fok (m_onc s B K T U N).1 := by
  obtain ⟨⟨-, hb⟩, ⟨-, hK⟩, -, h3, h4, h5⟩ := h
  have hK' : K = 0 ∨ K = 1 ∨ K = 2 ∨ K = 3 := by omega
  rcases hK' with rfl | rfl | rfl | rfl
  · obtain ⟨⟨-, hu⟩, -, -, hN⟩ := h3 (by omega)
    obtain ⟨⟨-, hT⟩, -⟩ := h5 (by omega)
    rw [onc_0]
    exact m_fok_of hf fun c hc => trs_o (by omega) (by omega) oc_sends (by omega) (m_sends_o (by omega) hT hu hN (by omega))
  · obtain ⟨⟨-, hu⟩, -, -, hN⟩ := h3 (by omega)
    obtain ⟨⟨-, hT⟩, -⟩ := h5 (by omega)
    rw [onc_1]
    refine m_fok_of (m_gets_fok (bus := B) (by omega) hT hu hN hf) (fun c hc => ?_)
    unfold m_tries
    exact (m_tally_o oc_gets (by omega) (by omega)).trans (m_slot_o (by omega) (by omega))
  · obtain ⟨⟨-, hu⟩, -, -, hN⟩ := h3 (by omega)
    rw [onc_2]
    exact m_fok_of hf fun c hc => (m_slot_o (by omega) (by omega)).trans (m_tellsAll_o (by omega) hu hN (by omega))
  · obtain ⟨⟨-, hT⟩, -⟩ := h5 (by omega)
    rw [onc_3]
    exact m_fok_of hf fun c hc => trs_o (by omega) (by omega) oc_modes (by omega) (m_modes_o (by omega) (by omega) (by omega))
theorem k3_inj : ∀ a, a ≤ 3 → ∀ b, b ≤ 3 → nI a = nI b → a = b := by decide
theorem sp_once {b kk t u m : Int32} {B0 c : Nat} (h3 : s.2.1 3 = nI c) (hc : c ≤ 8) (hs : m_ok s B0) (hf : m_fok s) (hB : B0 + 60 < 2 ^ 29)
    (h1 : ∀ B K T U N, oq s.2.1 b kk t u m B K T U N → Q (some (.int (m_onc s B K T U N).2)) (z_ms I (m_onc s B K T U N).1) (z_R0 kp sp wd) J F cn)
    (h0 : (∀ B K T U N, ¬ oq s.2.1 b kk t u m B K T U N) → Q (some (.int (-1))) (z_ms I s) (z_R0 kp sp wd) J F cn) :
    z_M (z_X0 L xs) z_P0 (d + 8) m_Mod_once [.ref 40, .int b, .int kk, .int t, .int u, .int m] (z_ms I s) (z_R0 kp sp wd) J F cn Q := by
  have ecp : s_ctp s.2.1 = s.2.1 (31 + c) := by unfold s_ctp; rw [h3, nI_clamp (by omega)]
  have h3' := h3
  refine z_WP_gos [] 1000 fun K C hK hC => ?_
  conv => whnf
  refine hC _ _ _ _ _ _ _ _ _ _ (fun _ _ _ _ _ _ q => q) (sp_Mod_isIn (fun x1 x2 => ?_) (fun x => ?_))
  conv => whnf
  rotate_left
  · repeat ((first | refine And.intro (by (conv => arg 2; whnf); (try simp only [z_lit, nI_add, pk_mul, z_pr1, z_pr2]); exact z_in (by omega) (by decide)) ?_ | refine z_bt1 (by decide) ?_ | refine z_bf1 (by decide) ?_ | refine z_bt2 (by decide) ?_ | refine z_bf2 (by decide) ?_); conv => whnf)
    refine h0 fun B K T U N h => x ?_
    rw [h.1.1]; have := h.1.2
    exact ⟨nI_pos' (by omega), nI_le (b := 1) this (by decide)⟩
  obtain ⟨B, hB1, eb⟩ := isIn_nat (b := 1) (by decide) x1 x2
  repeat ((first | refine And.intro (by (conv => arg 2; whnf); (try simp only [z_lit, nI_add, pk_mul, z_pr1, z_pr2]); exact z_in (by omega) (by decide)) ?_ | refine z_bt1 (by decide) ?_ | refine z_bf1 (by decide) ?_ | refine z_bt2 (by decide) ?_ | refine z_bf2 (by decide) ?_); conv => whnf)
  refine hC _ _ _ _ _ _ _ _ _ _ (fun _ _ _ _ _ _ q => q) (sp_Mod_isIn (fun y1 y2 => ?_) (fun x => ?_))
  conv => whnf
  rotate_left
  · repeat ((first | refine And.intro (by (conv => arg 2; whnf); (try simp only [z_lit, nI_add, pk_mul, z_pr1, z_pr2]); exact z_in (by omega) (by decide)) ?_ | refine z_bt1 (by decide) ?_ | refine z_bf1 (by decide) ?_ | refine z_bt2 (by decide) ?_ | refine z_bf2 (by decide) ?_); conv => whnf)
    refine h0 fun B K T U N h => x ?_
    rw [h.2.1.1]; have := h.2.1.2
    exact ⟨nI_pos' (by omega), nI_le (b := 3) this (by decide)⟩
  obtain ⟨K, hK, ek⟩ := isIn_nat (b := 3) (by decide) y1 y2
  repeat ((first | refine And.intro (by (conv => arg 2; whnf); (try simp only [z_lit, nI_add, pk_mul, z_pr1, z_pr2]); exact z_in (by omega) (by decide)) ?_ | refine z_bt1 (by decide) ?_ | refine z_bf1 (by decide) ?_ | refine z_bt2 (by decide) ?_ | refine z_bf2 (by decide) ?_); conv => whnf)
  simp (disch := omega) only [z_lit, nI_add, pk_mul, z_pr1, z_pr2, nI_clamp, z_m3_40, z_m3_41, z_m3_44, z_m3_u40, z_m3_u41, z_m3_u44, z_m3_m3, pk_us, pk_un]
  rw [h3]
  conv => whnf
  repeat ((first | refine And.intro (by (conv => arg 2; whnf); (try simp only [z_lit, nI_add, pk_mul, z_pr1, z_pr2]); exact z_in (by omega) (by decide)) ?_ | refine z_bt1 (by decide) ?_ | refine z_bf1 (by decide) ?_ | refine z_bt2 (by decide) ?_ | refine z_bf2 (by decide) ?_); conv => whnf)
  simp (disch := omega) only [z_lit, nI_add, pk_mul, z_pr1, z_pr2, nI_clamp, z_m3_40, z_m3_41, z_m3_44, z_m3_u40, z_m3_u41, z_m3_u44, z_m3_m3, pk_us, pk_un]
  refine ⟨fun g => ?_, fun g => ?_⟩
  rotate_left
  · conv => whnf
    exact h0 fun B K T U N h => h.2.2.1 (ecp.trans g)
  have hpw : ¬ s_ctp s.2.1 = nI 0 := fun z => g (ecp.symm.trans z)
  conv => whnf
  have hK' : K = 0 ∨ K = 1 ∨ K = 2 ∨ K = 3 := by omega
  subst eb
  rcases hK' with rfl | rfl | rfl | rfl <;> subst ek
  · repeat ((first | refine And.intro (by (conv => arg 2; whnf); (try simp only [z_lit, nI_add, pk_mul, z_pr1, z_pr2]); exact z_in (by omega) (by decide)) ?_ | refine z_bt1 (by decide) ?_ | refine z_bf1 (by decide) ?_ | refine z_bt2 (by decide) ?_ | refine z_bf2 (by decide) ?_); conv => whnf)
    refine hC _ _ _ _ _ _ _ _ _ _ (fun _ _ _ _ _ _ q => q) (sp_Mod_isIn (fun z1 z2 => ?_) (fun x => ?_))
    conv => whnf
    rotate_left
    · repeat ((first | refine And.intro (by (conv => arg 2; whnf); (try simp only [z_lit, nI_add, pk_mul, z_pr1, z_pr2]); exact z_in (by omega) (by decide)) ?_ | refine z_bt1 (by decide) ?_ | refine z_bf1 (by decide) ?_ | refine z_bt2 (by decide) ?_ | refine z_bf2 (by decide) ?_); conv => whnf)
      refine h0 fun B' K T U N h => x ?_
      obtain rfl := k3_inj 0 (by omega) K h.2.1.2 h.2.1.1
      have q := h.2.2.2.1 (by omega)
      rw [q.1.1]; have := q.1.2
      exact ⟨nI_le (a := 1) (by omega) (by omega), nI_le (b := 6) (by omega) (by decide)⟩
    obtain ⟨U, hU, eu⟩ := isIn_1 (b := 6) (by decide) z1 z2
    repeat ((first | refine And.intro (by (conv => arg 2; whnf); (try simp only [z_lit, nI_add, pk_mul, z_pr1, z_pr2]); exact z_in (by omega) (by decide)) ?_ | refine z_bt1 (by decide) ?_ | refine z_bf1 (by decide) ?_ | refine z_bt2 (by decide) ?_ | refine z_bf2 (by decide) ?_); conv => whnf)
    refine hC _ _ _ _ _ _ _ _ _ _ (fun _ _ _ _ _ _ q => q) (sp_Mod_isIn (fun w1 w2 => ?_) (fun x => ?_))
    conv => whnf
    rotate_left
    · repeat ((first | refine And.intro (by (conv => arg 2; whnf); (try simp only [z_lit, nI_add, pk_mul, z_pr1, z_pr2]); exact z_in (by omega) (by decide)) ?_ | refine z_bt1 (by decide) ?_ | refine z_bf1 (by decide) ?_ | refine z_bt2 (by decide) ?_ | refine z_bf2 (by decide) ?_); conv => whnf)
      refine h0 fun B' K T U N h => x ?_
      obtain rfl := k3_inj 0 (by omega) K h.2.1.2 h.2.1.1
      have q := h.2.2.2.1 (by omega)
      rw [q.2.1]; have := q.2.2
      exact ⟨nI_le (a := 1) (by omega) (by omega), nI_le (b := 8) (by omega) (by decide)⟩
    obtain ⟨N, hN, en⟩ := isIn_1 (b := 8) (by decide) w1 w2
    repeat ((first | refine And.intro (by (conv => arg 2; whnf); (try simp only [z_lit, nI_add, pk_mul, z_pr1, z_pr2]); exact z_in (by omega) (by decide)) ?_ | refine z_bt1 (by decide) ?_ | refine z_bf1 (by decide) ?_ | refine z_bt2 (by decide) ?_ | refine z_bf2 (by decide) ?_); conv => whnf)
    refine hC _ _ _ _ _ _ _ _ _ _ (fun _ _ _ _ _ _ q => q) (sp_Mod_isTerminal (fun T hT et => ?_) (fun x => ?_))
    conv => whnf
    rotate_left
    · repeat ((first | refine And.intro (by (conv => arg 2; whnf); (try simp only [z_lit, nI_add, pk_mul, z_pr1, z_pr2]); exact z_in (by omega) (by decide)) ?_ | refine z_bt1 (by decide) ?_ | refine z_bf1 (by decide) ?_ | refine z_bt2 (by decide) ?_ | refine z_bf2 (by decide) ?_); conv => whnf)
      refine h0 fun B' K T U N h => ?_
      obtain rfl := k3_inj 0 (by omega) K h.2.1.2 h.2.1.1
      have q := h.2.2.2.2.2 (by omega)
      exact x T q.1.2 q.1.1
    repeat ((first | refine And.intro (by (conv => arg 2; whnf); (try simp only [z_lit, nI_add, pk_mul, z_pr1, z_pr2]); exact z_in (by omega) (by decide)) ?_ | refine z_bt1 (by decide) ?_ | refine z_bf1 (by decide) ?_ | refine z_bt2 (by decide) ?_ | refine z_bf2 (by decide) ?_); conv => whnf)
    simp (disch := omega) only [z_lit, nI_add, pk_mul, z_pr1, z_pr2, nI_clamp, z_m3_40, z_m3_41, z_m3_44, z_m3_u40, z_m3_u41, z_m3_u44, z_m3_m3, pk_us, pk_un]
    refine ⟨fun g => ?_, fun g => ?_⟩
    rotate_left
    · conv => whnf
      refine h0 fun B' K T U N h => ?_
      obtain rfl := k3_inj 0 (by omega) K h.2.1.2 h.2.1.1
      exact (h.2.2.2.2.2 (by omega)).2 g
    have hq : oq s.2.1 (nI B) (nI 0) t u m B 0 T U (N + 1) := ⟨⟨rfl, hB1⟩, ⟨rfl, by omega⟩, hpw, fun _ => ⟨⟨eu, by omega⟩, en, by omega, hN⟩, fun z => by omega, fun _ => ⟨⟨et, hT⟩, g⟩⟩
    have q := h1 B 0 T U (N + 1) hq
    rw [onc_0] at q
    subst eu en et
    conv => whnf
    repeat ((first | refine And.intro (by (conv => arg 2; whnf); (try simp only [z_lit, nI_add, pk_mul, z_pr1, z_pr2]); exact z_in (by omega) (by decide)) ?_ | refine z_bt1 (by decide) ?_ | refine z_bf1 (by decide) ?_ | refine z_bt2 (by decide) ?_ | refine z_bf2 (by decide) ?_); conv => whnf)
    refine hC _ _ _ _ _ _ _ _ _ _ (fun _ _ _ _ _ _ q => q) (tries_send (B := B0) (by omega) hT (by omega) hN hs hB ?_)
    conv => whnf
    exact q
  · repeat ((first | refine And.intro (by (conv => arg 2; whnf); (try simp only [z_lit, nI_add, pk_mul, z_pr1, z_pr2]); exact z_in (by omega) (by decide)) ?_ | refine z_bt1 (by decide) ?_ | refine z_bf1 (by decide) ?_ | refine z_bt2 (by decide) ?_ | refine z_bf2 (by decide) ?_); conv => whnf)
    refine hC _ _ _ _ _ _ _ _ _ _ (fun _ _ _ _ _ _ q => q) (sp_Mod_isIn (fun z1 z2 => ?_) (fun x => ?_))
    conv => whnf
    rotate_left
    · repeat ((first | refine And.intro (by (conv => arg 2; whnf); (try simp only [z_lit, nI_add, pk_mul, z_pr1, z_pr2]); exact z_in (by omega) (by decide)) ?_ | refine z_bt1 (by decide) ?_ | refine z_bf1 (by decide) ?_ | refine z_bt2 (by decide) ?_ | refine z_bf2 (by decide) ?_); conv => whnf)
      refine h0 fun B' K T U N h => x ?_
      obtain rfl := k3_inj 1 (by omega) K h.2.1.2 h.2.1.1
      have q := h.2.2.2.1 (by omega)
      rw [q.1.1]; have := q.1.2
      exact ⟨nI_le (a := 1) (by omega) (by omega), nI_le (b := 6) (by omega) (by decide)⟩
    obtain ⟨U, hU, eu⟩ := isIn_1 (b := 6) (by decide) z1 z2
    repeat ((first | refine And.intro (by (conv => arg 2; whnf); (try simp only [z_lit, nI_add, pk_mul, z_pr1, z_pr2]); exact z_in (by omega) (by decide)) ?_ | refine z_bt1 (by decide) ?_ | refine z_bf1 (by decide) ?_ | refine z_bt2 (by decide) ?_ | refine z_bf2 (by decide) ?_); conv => whnf)
    refine hC _ _ _ _ _ _ _ _ _ _ (fun _ _ _ _ _ _ q => q) (sp_Mod_isIn (fun w1 w2 => ?_) (fun x => ?_))
    conv => whnf
    rotate_left
    · repeat ((first | refine And.intro (by (conv => arg 2; whnf); (try simp only [z_lit, nI_add, pk_mul, z_pr1, z_pr2]); exact z_in (by omega) (by decide)) ?_ | refine z_bt1 (by decide) ?_ | refine z_bf1 (by decide) ?_ | refine z_bt2 (by decide) ?_ | refine z_bf2 (by decide) ?_); conv => whnf)
      refine h0 fun B' K T U N h => x ?_
      obtain rfl := k3_inj 1 (by omega) K h.2.1.2 h.2.1.1
      have q := h.2.2.2.1 (by omega)
      rw [q.2.1]; have := q.2.2
      exact ⟨nI_le (a := 1) (by omega) (by omega), nI_le (b := 8) (by omega) (by decide)⟩
    obtain ⟨N, hN, en⟩ := isIn_1 (b := 8) (by decide) w1 w2
    repeat ((first | refine And.intro (by (conv => arg 2; whnf); (try simp only [z_lit, nI_add, pk_mul, z_pr1, z_pr2]); exact z_in (by omega) (by decide)) ?_ | refine z_bt1 (by decide) ?_ | refine z_bf1 (by decide) ?_ | refine z_bt2 (by decide) ?_ | refine z_bf2 (by decide) ?_); conv => whnf)
    refine hC _ _ _ _ _ _ _ _ _ _ (fun _ _ _ _ _ _ q => q) (sp_Mod_isTerminal (fun T hT et => ?_) (fun x => ?_))
    conv => whnf
    rotate_left
    · repeat ((first | refine And.intro (by (conv => arg 2; whnf); (try simp only [z_lit, nI_add, pk_mul, z_pr1, z_pr2]); exact z_in (by omega) (by decide)) ?_ | refine z_bt1 (by decide) ?_ | refine z_bf1 (by decide) ?_ | refine z_bt2 (by decide) ?_ | refine z_bf2 (by decide) ?_); conv => whnf)
      refine h0 fun B' K T U N h => ?_
      obtain rfl := k3_inj 1 (by omega) K h.2.1.2 h.2.1.1
      have q := h.2.2.2.2.2 (by omega)
      exact x T q.1.2 q.1.1
    repeat ((first | refine And.intro (by (conv => arg 2; whnf); (try simp only [z_lit, nI_add, pk_mul, z_pr1, z_pr2]); exact z_in (by omega) (by decide)) ?_ | refine z_bt1 (by decide) ?_ | refine z_bf1 (by decide) ?_ | refine z_bt2 (by decide) ?_ | refine z_bf2 (by decide) ?_); conv => whnf)
    simp (disch := omega) only [z_lit, nI_add, pk_mul, z_pr1, z_pr2, nI_clamp, z_m3_40, z_m3_41, z_m3_44, z_m3_u40, z_m3_u41, z_m3_u44, z_m3_m3, pk_us, pk_un]
    refine ⟨fun g => ?_, fun g => ?_⟩
    rotate_left
    · conv => whnf
      refine h0 fun B' K T U N h => ?_
      obtain rfl := k3_inj 1 (by omega) K h.2.1.2 h.2.1.1
      exact (h.2.2.2.2.2 (by omega)).2 g
    have hq : oq s.2.1 (nI B) (nI 1) t u m B 1 T U (N + 1) := ⟨⟨rfl, hB1⟩, ⟨rfl, by omega⟩, hpw, fun _ => ⟨⟨eu, by omega⟩, en, by omega, hN⟩, fun z => by omega, fun _ => ⟨⟨et, hT⟩, g⟩⟩
    have q := h1 B 1 T U (N + 1) hq
    rw [onc_1] at q
    subst eu en et
    conv => whnf
    repeat ((first | refine And.intro (by (conv => arg 2; whnf); (try simp only [z_lit, nI_add, pk_mul, z_pr1, z_pr2]); exact z_in (by omega) (by decide)) ?_ | refine z_bt1 (by decide) ?_ | refine z_bf1 (by decide) ?_ | refine z_bt2 (by decide) ?_ | refine z_bf2 (by decide) ?_); conv => whnf)
    refine hC _ _ _ _ _ _ _ _ _ _ (fun _ _ _ _ _ _ q => q) (tries_get (B := B0) (by omega) hT (by omega) hN hs (m_fok_fine hf) hB ?_)
    conv => whnf
    exact q
  · repeat ((first | refine And.intro (by (conv => arg 2; whnf); (try simp only [z_lit, nI_add, pk_mul, z_pr1, z_pr2]); exact z_in (by omega) (by decide)) ?_ | refine z_bt1 (by decide) ?_ | refine z_bf1 (by decide) ?_ | refine z_bt2 (by decide) ?_ | refine z_bf2 (by decide) ?_); conv => whnf)
    refine hC _ _ _ _ _ _ _ _ _ _ (fun _ _ _ _ _ _ q => q) (sp_Mod_isIn (fun z1 z2 => ?_) (fun x => ?_))
    conv => whnf
    rotate_left
    · repeat ((first | refine And.intro (by (conv => arg 2; whnf); (try simp only [z_lit, nI_add, pk_mul, z_pr1, z_pr2]); exact z_in (by omega) (by decide)) ?_ | refine z_bt1 (by decide) ?_ | refine z_bf1 (by decide) ?_ | refine z_bt2 (by decide) ?_ | refine z_bf2 (by decide) ?_); conv => whnf)
      refine h0 fun B' K T U N h => x ?_
      obtain rfl := k3_inj 2 (by omega) K h.2.1.2 h.2.1.1
      have q := h.2.2.2.1 (by omega)
      rw [q.1.1]; have := q.1.2
      exact ⟨nI_le (a := 1) (by omega) (by omega), nI_le (b := 6) (by omega) (by decide)⟩
    obtain ⟨U, hU, eu⟩ := isIn_1 (b := 6) (by decide) z1 z2
    repeat ((first | refine And.intro (by (conv => arg 2; whnf); (try simp only [z_lit, nI_add, pk_mul, z_pr1, z_pr2]); exact z_in (by omega) (by decide)) ?_ | refine z_bt1 (by decide) ?_ | refine z_bf1 (by decide) ?_ | refine z_bt2 (by decide) ?_ | refine z_bf2 (by decide) ?_); conv => whnf)
    refine hC _ _ _ _ _ _ _ _ _ _ (fun _ _ _ _ _ _ q => q) (sp_Mod_isIn (fun w1 w2 => ?_) (fun x => ?_))
    conv => whnf
    rotate_left
    · repeat ((first | refine And.intro (by (conv => arg 2; whnf); (try simp only [z_lit, nI_add, pk_mul, z_pr1, z_pr2]); exact z_in (by omega) (by decide)) ?_ | refine z_bt1 (by decide) ?_ | refine z_bf1 (by decide) ?_ | refine z_bt2 (by decide) ?_ | refine z_bf2 (by decide) ?_); conv => whnf)
      refine h0 fun B' K T U N h => x ?_
      obtain rfl := k3_inj 2 (by omega) K h.2.1.2 h.2.1.1
      have q := h.2.2.2.1 (by omega)
      rw [q.2.1]; have := q.2.2
      exact ⟨nI_le (a := 1) (by omega) (by omega), nI_le (b := 8) (by omega) (by decide)⟩
    obtain ⟨N, hN, en⟩ := isIn_1 (b := 8) (by decide) w1 w2
    have hq : oq s.2.1 (nI B) (nI 2) t u m B 2 0 U (N + 1) := ⟨⟨rfl, hB1⟩, ⟨rfl, by omega⟩, hpw, fun _ => ⟨⟨eu, by omega⟩, en, by omega, hN⟩, fun z => by omega, fun z => absurd rfl z⟩
    have q := h1 B 2 0 U (N + 1) hq
    rw [onc_2] at q
    subst eu en
    repeat ((first | refine And.intro (by (conv => arg 2; whnf); (try simp only [z_lit, nI_add, pk_mul, z_pr1, z_pr2]); exact z_in (by omega) (by decide)) ?_ | refine z_bt1 (by decide) ?_ | refine z_bf1 (by decide) ?_ | refine z_bt2 (by decide) ?_ | refine z_bf2 (by decide) ?_); conv => whnf)
    refine hC _ _ _ _ _ _ _ _ _ _ (fun _ _ _ _ _ _ q => q) (tries_all (B := B0) (by omega) (by omega) hN hs hB ?_)
    conv => whnf
    exact q
  · repeat ((first | refine And.intro (by (conv => arg 2; whnf); (try simp only [z_lit, nI_add, pk_mul, z_pr1, z_pr2]); exact z_in (by omega) (by decide)) ?_ | refine z_bt1 (by decide) ?_ | refine z_bf1 (by decide) ?_ | refine z_bt2 (by decide) ?_ | refine z_bf2 (by decide) ?_); conv => whnf)
    refine hC _ _ _ _ _ _ _ _ _ _ (fun _ _ _ _ _ _ q => q) (sp_Mod_isIn (fun w1 w2 => ?_) (fun x => ?_))
    conv => whnf
    rotate_left
    · repeat ((first | refine And.intro (by (conv => arg 2; whnf); (try simp only [z_lit, nI_add, pk_mul, z_pr1, z_pr2]); exact z_in (by omega) (by decide)) ?_ | refine z_bt1 (by decide) ?_ | refine z_bf1 (by decide) ?_ | refine z_bt2 (by decide) ?_ | refine z_bf2 (by decide) ?_); conv => whnf)
      refine h0 fun B' K T U N h => x ?_
      obtain rfl := k3_inj 3 (by omega) K h.2.1.2 h.2.1.1
      have q := h.2.2.2.2.1 rfl
      rw [q.1]; have := q.2
      exact ⟨nI_le (a := 1) (by omega) (by omega), nI_le (b := 31) (by omega) (by decide)⟩
    obtain ⟨N, hN, en⟩ := isIn_1 (b := 31) (by decide) w1 w2
    repeat ((first | refine And.intro (by (conv => arg 2; whnf); (try simp only [z_lit, nI_add, pk_mul, z_pr1, z_pr2]); exact z_in (by omega) (by decide)) ?_ | refine z_bt1 (by decide) ?_ | refine z_bf1 (by decide) ?_ | refine z_bt2 (by decide) ?_ | refine z_bf2 (by decide) ?_); conv => whnf)
    refine hC _ _ _ _ _ _ _ _ _ _ (fun _ _ _ _ _ _ q => q) (sp_Mod_isTerminal (fun T hT et => ?_) (fun x => ?_))
    conv => whnf
    rotate_left
    · repeat ((first | refine And.intro (by (conv => arg 2; whnf); (try simp only [z_lit, nI_add, pk_mul, z_pr1, z_pr2]); exact z_in (by omega) (by decide)) ?_ | refine z_bt1 (by decide) ?_ | refine z_bf1 (by decide) ?_ | refine z_bt2 (by decide) ?_ | refine z_bf2 (by decide) ?_); conv => whnf)
      refine h0 fun B' K T U N h => ?_
      obtain rfl := k3_inj 3 (by omega) K h.2.1.2 h.2.1.1
      have q := h.2.2.2.2.2 (by omega)
      exact x T q.1.2 q.1.1
    repeat ((first | refine And.intro (by (conv => arg 2; whnf); (try simp only [z_lit, nI_add, pk_mul, z_pr1, z_pr2]); exact z_in (by omega) (by decide)) ?_ | refine z_bt1 (by decide) ?_ | refine z_bf1 (by decide) ?_ | refine z_bt2 (by decide) ?_ | refine z_bf2 (by decide) ?_); conv => whnf)
    simp (disch := omega) only [z_lit, nI_add, pk_mul, z_pr1, z_pr2, nI_clamp, z_m3_40, z_m3_41, z_m3_44, z_m3_u40, z_m3_u41, z_m3_u44, z_m3_m3, pk_us, pk_un]
    refine ⟨fun g => ?_, fun g => ?_⟩
    rotate_left
    · conv => whnf
      refine h0 fun B' K T U N h => ?_
      obtain rfl := k3_inj 3 (by omega) K h.2.1.2 h.2.1.1
      exact (h.2.2.2.2.2 (by omega)).2 g
    have hq : oq s.2.1 (nI B) (nI 3) t u m B 3 T 0 (N + 1) := ⟨⟨rfl, hB1⟩, ⟨rfl, by omega⟩, hpw, fun z => by omega, fun _ => ⟨en, by omega, hN⟩, fun _ => ⟨⟨et, hT⟩, g⟩⟩
    have q := h1 B 3 T 0 (N + 1) hq
    rw [onc_3] at q
    subst en et
    conv => whnf
    repeat ((first | refine And.intro (by (conv => arg 2; whnf); (try simp only [z_lit, nI_add, pk_mul, z_pr1, z_pr2]); exact z_in (by omega) (by decide)) ?_ | refine z_bt1 (by decide) ?_ | refine z_bf1 (by decide) ?_ | refine z_bt2 (by decide) ?_ | refine z_bf2 (by decide) ?_); conv => whnf)
    refine hC _ _ _ _ _ _ _ _ _ _ (fun _ _ _ _ _ _ q => q) (tries_mode (B := B0) (by omega) (by omega) (by omega) hs hB ?_)
    conv => whnf
    exact q
end
