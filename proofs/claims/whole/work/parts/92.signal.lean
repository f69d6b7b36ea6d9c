/-! signals told, in both -/
def sgr (v : Int32) : Prop := -nI 999999 ≤ v ∧ v ≤ nI 999999
def sgv (t u a b : Int32) (t' u' : Nat) : Prop := t = nI t' ∧ u = nI (u' + 1) ∧ t' < 8 ∧ u' < 6 ∧ sgr a ∧ sgr b
def m_sgl (s : z_sg) (c : Nat) (a b : Int32) : z_sg := m_w (m_w (m_w s (1392 + c) (nI 1)) (1440 + c) a) (1488 + c) b
theorem sgr_ok {v : Int32} (h : sgr v) : g_ok v := by
  obtain ⟨h1, h2⟩ := h
  have a := Int32.le_iff_toInt_le.mp h1
  have b := Int32.le_iff_toInt_le.mp h2
  have e1 : (-nI 999999).toInt = -999999 := by decide
  have e2 : (nI 999999).toInt = 999999 := by decide
  rw [e1] at a
  rw [e2] at b
  unfold g_ok
  omega
section
variable {L : Nat} {xs : Nat → Int32} {d : Nat} {kp sp wd : Value} {I : z_I} {s : z_sg} {R : z_R} {J : z_J} {F : z_F} {cn : Nat} {Q : z_Q} {n k : Nat}
theorem isIn_1 {v : Int32} {b : Nat} (hb : b < 2 ^ 31) (h : nI 1 ≤ v) (g : v ≤ nI b) : ∃ j : Nat, j + 1 ≤ b ∧ v = nI (j + 1) := by
  obtain ⟨j, hj, e⟩ := isIn_nat hb (Int32.le_trans (by decide) h) g
  subst e
  have : 1 ≤ j := by
    apply Nat.le_of_not_lt; intro z
    exact nI_ge (a := j) (b := 1) z (by decide) h
  exact ⟨j - 1, by omega, by rw [Nat.sub_add_cancel this]⟩
theorem sp_signal {t u a b : Int32} (h1 : ∀ t' u', sgv t u a b t' u' → Q (some (.int 1)) (z_ms I (m_sgl s (6 * t' + u') a b)) (z_R0 kp sp wd) J F cn) (h0 : (∀ t' u', ¬ sgv t u a b t' u') → Q (some (.int 0)) (z_ms I s) (z_R0 kp sp wd) J F cn) :
    z_M (z_X0 L xs) z_P0 (d + 2) m_Mod_signal [.ref 40, .int t, .int u, .int a, .int b] (z_ms I s) (z_R0 kp sp wd) J F cn Q := by
  obtain ⟨ff, w, y⟩ := s
  unfold m_sgl m_w at h1
  simp only at h1
  have bad : ((∀ t' u', ¬ sgv t u a b t' u')) → ((0 : Int32) = 0 ∨ (0 : Int32) = 1) ∧ Q (some (.int 0)) (z_ms I (ff, w, y)) (z_R0 kp sp wd) J F cn := fun h => ⟨Or.inl rfl, h0 h⟩
  refine z_WP_gos [] 1000 fun K C hK hC => ?_
  conv => whnf
  refine hC _ _ _ _ _ _ _ _ _ _ (fun _ _ _ _ _ _ q => q) (sp_Mod_isTerminal (fun t' ht et => ?_) (fun ht => ?_))
  conv => whnf
  · subst et
    repeat ((first | refine And.intro (by (conv => arg 2; whnf); (try simp only [z_lit, nI_add, pk_mul, z_pr1, z_pr2]); exact z_in (by omega) (by decide)) ?_ | refine z_bt1 (by decide) ?_ | refine z_bf1 (by decide) ?_ | refine z_bt2 (by decide) ?_ | refine z_bf2 (by decide) ?_); conv => whnf)
    refine hC _ _ _ _ _ _ _ _ _ _ (fun _ _ _ _ _ _ q => q) (sp_Mod_isIn (fun x1 x2 => ?_) (fun x => ?_))
    conv => whnf
    · obtain ⟨u', hu, eu⟩ := isIn_1 (b := 6) (by decide) x1 x2
      subst eu
      repeat ((first | refine And.intro (by (conv => arg 2; whnf); (try simp only [z_lit, nI_add, pk_mul, z_pr1, z_pr2]); exact z_in (by omega) (by decide)) ?_ | refine z_bt1 (by decide) ?_ | refine z_bf1 (by decide) ?_ | refine z_bt2 (by decide) ?_ | refine z_bf2 (by decide) ?_); conv => whnf)
      refine hC _ _ _ _ _ _ _ _ _ _ (fun _ _ _ _ _ _ q => q) (sp_Mod_isIn (fun y1 y2 => ?_) (fun y => ?_))
      conv => whnf
      · repeat ((first | refine And.intro (by (conv => arg 2; whnf); (try simp only [z_lit, nI_add, pk_mul, z_pr1, z_pr2]); exact z_in (by omega) (by decide)) ?_ | refine z_bt1 (by decide) ?_ | refine z_bf1 (by decide) ?_ | refine z_bt2 (by decide) ?_ | refine z_bf2 (by decide) ?_); conv => whnf)
        refine hC _ _ _ _ _ _ _ _ _ _ (fun _ _ _ _ _ _ q => q) (sp_Mod_isIn (fun z1 z2 => ?_) (fun z => ?_))
        conv => whnf
        · have q := h1 t' u' ⟨rfl, rfl, ht, by omega, ⟨y1, y2⟩, ⟨z1, z2⟩⟩
          repeat ((first | refine And.intro (by (conv => arg 2; whnf); (try simp only [z_lit, nI_add, pk_mul, z_pr1, z_pr2]); exact z_in (by omega) (by decide)) ?_ | refine z_bt1 (by decide) ?_ | refine z_bf1 (by decide) ?_ | refine z_bt2 (by decide) ?_ | refine z_bf2 (by decide) ?_); conv => whnf)
          refine hC _ _ _ _ _ _ _ _ _ _ (fun _ _ _ _ _ _ q => q) (sp_at0 ?_)
          conv => whnf
          repeat ((first | refine And.intro (by (conv => arg 2; whnf); (try simp only [z_lit, nI_add, pk_mul, z_pr1, z_pr2]); exact z_in (by omega) (by decide)) ?_ | refine z_bt1 (by decide) ?_ | refine z_bf1 (by decide) ?_ | refine z_bt2 (by decide) ?_ | refine z_bf2 (by decide) ?_); conv => whnf)
          refine hC _ _ _ _ _ _ _ _ _ _ (fun _ _ _ _ _ _ q => q) (sp_at0 ?_)
          conv => whnf
          repeat ((first | refine And.intro (by (conv => arg 2; whnf); (try simp only [z_lit, nI_add, pk_mul, z_pr1, z_pr2]); exact z_in (by omega) (by decide)) ?_ | refine z_bt1 (by decide) ?_ | refine z_bf1 (by decide) ?_ | refine z_bt2 (by decide) ?_ | refine z_bf2 (by decide) ?_); conv => whnf)
          refine hC _ _ _ _ _ _ _ _ _ _ (fun _ _ _ _ _ _ q => q) (sp_at0 ?_)
          conv => whnf
          repeat ((first | refine And.intro (by (conv => arg 2; whnf); (try simp only [z_lit, nI_add, pk_mul, z_pr1, z_pr2]); exact z_in (by omega) (by decide)) ?_ | refine z_bt1 (by decide) ?_ | refine z_bf1 (by decide) ?_ | refine z_bt2 (by decide) ?_ | refine z_bf2 (by decide) ?_); conv => whnf)
          refine ⟨Or.inr rfl, ?_⟩
          simp (disch := omega) only [z_lit, nI_add, pk_mul, z_pr1, z_pr2, nI_clamp, z_m3_40, z_m3_41, z_m3_44, z_m3_u40, z_m3_u41, z_m3_u44, z_m3_m3, pk_us, pk_un]
          exact q
        · repeat ((first | refine And.intro (by (conv => arg 2; whnf); (try simp only [z_lit, nI_add, pk_mul, z_pr1, z_pr2]); exact z_in (by omega) (by decide)) ?_ | refine z_bt1 (by decide) ?_ | refine z_bf1 (by decide) ?_ | refine z_bt2 (by decide) ?_ | refine z_bf2 (by decide) ?_); conv => whnf)
          exact bad fun x y h => z h.2.2.2.2.2
      · repeat ((first | refine And.intro (by (conv => arg 2; whnf); (try simp only [z_lit, nI_add, pk_mul, z_pr1, z_pr2]); exact z_in (by omega) (by decide)) ?_ | refine z_bt1 (by decide) ?_ | refine z_bf1 (by decide) ?_ | refine z_bt2 (by decide) ?_ | refine z_bf2 (by decide) ?_); conv => whnf)
        exact bad fun x z h => y h.2.2.2.2.1
    · repeat ((first | refine And.intro (by (conv => arg 2; whnf); (try simp only [z_lit, nI_add, pk_mul, z_pr1, z_pr2]); exact z_in (by omega) (by decide)) ?_ | refine z_bt1 (by decide) ?_ | refine z_bf1 (by decide) ?_ | refine z_bt2 (by decide) ?_ | refine z_bf2 (by decide) ?_); conv => whnf)
      refine bad fun x' y h => x ?_
      rw [h.2.1]
      have := h.2.2.2.1
      exact ⟨nI_le (a := 1) (by omega) (by omega), nI_le (b := 6) (by omega) (by decide)⟩
  · repeat ((first | refine And.intro (by (conv => arg 2; whnf); (try simp only [z_lit, nI_add, pk_mul, z_pr1, z_pr2]); exact z_in (by omega) (by decide)) ?_ | refine z_bt1 (by decide) ?_ | refine z_bf1 (by decide) ?_ | refine z_bt2 (by decide) ?_ | refine z_bf2 (by decide) ?_); conv => whnf)
    exact bad fun x y h => ht x h.2.2.1 h.1
theorem cb_isSub {v : Int32} (h1 : ∀ u : Nat, u < 6 → v = nI (u + 1) → Q (some (.int 1)) I R J F cn) (h0 : (∀ u : Nat, u < 6 → ¬ v = nI (u + 1)) → Q (some (.int 0)) I R J F cn) : z_M (z_X0 L xs) z_P0 d m_Bus_isSub [.int v] I R J F cn Q := by
  refine z_WP_gos [] 1000 fun K C hK hC => ?_
  conv => whnf
  refine ⟨fun g => ?_, fun g => ?_⟩
  · conv => whnf
    refine ⟨Or.inl rfl, h0 fun u hu e => absurd g (Int32.not_lt.mpr ?_)⟩
    rw [e]; exact nI_le (a := 1) (by omega) (by omega)
  conv => whnf
  refine ⟨fun g2 => ?_, fun g2 => ?_⟩
  · conv => whnf
    refine ⟨Or.inl rfl, h0 fun u hu e => absurd g2 (Int32.not_lt.mpr ?_)⟩
    rw [e]; exact nI_le (b := 6) (by omega) (by decide)
  · obtain ⟨u, hu, e⟩ := isIn_1 (b := 6) (by decide) (Int32.not_lt.mp g) (Int32.not_lt.mp g2)
    conv => whnf
    exact ⟨Or.inr rfl, h1 u (by omega) e⟩
theorem cb_isTh {v : Int32} (h1 : sgr v → Q (some (.int 1)) I R J F cn) (h0 : ¬ sgr v → Q (some (.int 0)) I R J F cn) : z_M (z_X0 L xs) z_P0 d m_Bus_isThousandths [.int v] I R J F cn Q := by
  refine z_WP_gos [] 1000 fun K C hK hC => ?_
  conv => whnf
  refine ⟨fun g => ?_, fun g => ?_⟩
  · conv => whnf
    exact ⟨Or.inl rfl, h0 fun e => absurd g (Int32.not_lt.mpr e.1)⟩
  conv => whnf
  refine ⟨fun g2 => ?_, fun g2 => ?_⟩
  · conv => whnf
    exact ⟨Or.inl rfl, h0 fun e => absurd g2 (Int32.not_lt.mpr e.2)⟩
  · conv => whnf
    exact ⟨Or.inr rfl, h1 ⟨Int32.not_lt.mp g, Int32.not_lt.mp g2⟩⟩
theorem cu_tellSignal {t u : Nat} {a b : Int32} (ht : t < 8) (hu : u < 6) (hQ : Q none (z_row (z_row (z_row I 5 (upd (I 5) (6 * t + u) a)) 6 (upd (I 6) (6 * t + u) b)) 7 (upd (I 7) (6 * t + u) (nI 1))) (z_R0 kp sp wd) J F cn) : z_M (z_X0 L xs) z_P0 (d + 1) m_Units_tellSignal [.ref 2, .int (nI t), .int (nI (u + 1)), .int a, .int b] I (z_R0 kp sp wd) J F cn Q := by
  refine z_WP_gos [] 1000 fun K C hK hC => ?_
  conv => whnf
  refine hC _ _ _ _ _ _ _ _ _ _ (fun _ _ _ _ _ _ q => q) (cu_cell ?_)
  conv => whnf
  repeat ((first | refine And.intro (by (conv => arg 2; whnf); (try simp only [z_lit, nI_add, pk_mul, z_pr1, z_pr2]); exact z_in (by omega) (by decide)) ?_ | refine z_bt1 (by decide) ?_ | refine z_bf1 (by decide) ?_ | refine z_bt2 (by decide) ?_ | refine z_bf2 (by decide) ?_); conv => whnf)
  simp (disch := omega) only [z_lit, nI_add, pk_mul, z_pr1, z_pr2, nI_clamp, z_up_row, z_row_s, z_row_n, z_row_row, pk_us, pk_un]
  exact hQ
theorem sgl_o {c j : Nat} {a b : Int32} (hc : c < 48) (hj : j < 1392 ∨ 1536 ≤ j) : (m_sgl s c a b).2.1 j = s.2.1 j := by
  show upd (upd (upd s.2.1 (1392 + c) (nI 1)) (1440 + c) a) (1488 + c) b j = s.2.1 j
  rw [pk_un (by omega), pk_un (by omega), pk_un (by omega)]
theorem hR_sgl {I' : z_I} {c ln : Nat} {a b : Int32} (h : hR I F s.2.1 n k ln) (hc : c < 48) (ha : sgr a) (hb : sgr b) (h5 : I' 5 = upd (I 5) c a) (h6 : I' 6 = upd (I 6) c b) (h7 : I' 7 = upd (I 7) c (nI 1)) (hI : ∀ b, b ≠ 5 → b ≠ 6 → b ≠ 7 → I' b = I b) : hR I' F (m_sgl s c a b).2.1 n k ln := by
  obtain ⟨⟨⟨u1, u2, u3, u4⟩, wr, kw, g⟩, ⟨c5, c6, c7, c10⟩, ⟨r9, r8, r11⟩, ⟨p, tb, rt, hrt, ert⟩, hD, hJ, hsc, he, hg⟩ := h
  have i1 : I' 1 = I 1 := hI 1 (by decide) (by decide) (by decide)
  have o : ∀ j, j < 1392 ∨ 1536 ≤ j → (m_sgl s c a b).2.1 j = s.2.1 j := fun j hj => sgl_o hc hj
  have e7 : ∀ j, j < 48 → (m_sgl s c a b).2.1 (1392 + j) = upd (fun j => s.2.1 (1392 + j)) c (nI 1) j := fun j hj => by
    show upd (upd (upd s.2.1 (1392 + c) (nI 1)) (1440 + c) a) (1488 + c) b (1392 + j) = _
    rw [pk_un (by omega), pk_un (by omega)]
    by_cases z : j = c
    · subst z; rw [pk_us, pk_us]
    · rw [pk_un z, pk_un (by omega)]
  have e5 : ∀ j, j < 48 → (m_sgl s c a b).2.1 (1440 + j) = upd (fun j => s.2.1 (1440 + j)) c a j := fun j hj => by
    show upd (upd (upd s.2.1 (1392 + c) (nI 1)) (1440 + c) a) (1488 + c) b (1440 + j) = _
    rw [pk_un (by omega)]
    by_cases z : j = c
    · subst z; rw [pk_us, pk_us]
    · rw [pk_un z, pk_un (by omega), pk_un (by omega)]
  have e6 : ∀ j, j < 48 → (m_sgl s c a b).2.1 (1488 + j) = upd (fun j => s.2.1 (1488 + j)) c b j := fun j hj => by
    show upd (upd (upd s.2.1 (1392 + c) (nI 1)) (1440 + c) a) (1488 + c) b (1488 + j) = _
    by_cases z : j = c
    · subst z; rw [pk_us, pk_us]
    · rw [pk_un z, pk_un (by omega), pk_un (by omega), pk_un (by omega)]
  refine ⟨⟨⟨uT_of u1 (hI 3 (by decide) (by decide) (by decide)) (fun j x y => o j (by omega)), fun j hj => ?_, fun j hj => ⟨?_, ?_, ?_, ?_⟩, fun j hj => ?_⟩, wR_of wr (fun b x y => hI b (by omega) (by omega) (by omega)) (fun j hj => o j (by omega)), kW_of kw (fun j hj => o j (by omega)), ⟨fun j hj => ?_, fun j hj => ?_⟩⟩, ⟨?_, ?_, ?_, ?_⟩, ⟨?_, ?_, ?_⟩, ⟨?_, ?_, rt, hrt, ?_⟩, ?_, ?_, ?_, ?_, ⟨fun j hj => ⟨?_, ?_⟩, ?_⟩⟩
  · rw [hI 4 (by decide) (by decide) (by decide), o _ (by omega)]; exact u2 j hj
  · rw [h5, e5 j hj]
    by_cases z : j = c
    · subst z; rw [pk_us, pk_us]
    · rw [pk_un z, pk_un z]; exact (u3 j hj).1
  · rw [h6, e6 j hj]
    by_cases z : j = c
    · subst z; rw [pk_us, pk_us]
    · rw [pk_un z, pk_un z]; exact (u3 j hj).2.1
  · rw [h7, e7 j hj]
    by_cases z : j = c
    · subst z; rw [pk_us, pk_us]
    · rw [pk_un z, pk_un z]; exact (u3 j hj).2.2.1
  · rw [o _ (by omega)]; exact (u3 j hj).2.2.2
  · rw [hI 9 (by decide) (by decide) (by decide), o _ (by omega)]; exact u4 j hj
  · rw [e7 j hj]
    by_cases z : j = c
    · subst z; rw [pk_us]; exact Or.inr rfl
    · rw [pk_un z]; exact g.1 j hj
  · rw [o _ (by omega)]; exact g.2 j hj
  · rw [i1, o 0 (by omega)]; exact c5
  · rw [i1, o 1 (by omega)]; exact c6
  · rw [i1, o 2 (by omega)]; exact c7
  · rw [i1, o 7 (by omega)]; exact c10
  · rw [i1, o 4 (by omega)]; exact r9
  · rw [i1, o 3 (by omega)]; exact r8
  · rw [i1, o 6 (by omega)]; exact r11
  · exact pS_c p (by rw [hI 18 (by decide) (by decide) (by decide)]) (hI 19 (by decide) (by decide) (by decide)) (o 8 (by omega)) tb.2.1 (fun i f x y => o _ (by omega))
  · exact tb_c tb (o 8 (by omega)) (fun i f x y => o _ (by omega))
  · rw [o 1 (by omega)]; exact ert
  · exact pD_k hD tb.2.1 (hI 20 (by decide) (by decide) (by decide)) (hI 21 (by decide) (by decide) (by decide)) (hI 22 (by decide) (by decide) (by decide)) (fun j hj => o _ (by omega))
  · rw [hI 27 (by decide) (by decide) (by decide), hI 28 (by decide) (by decide) (by decide)]
    exact jR_k hJ (fun j hj => o _ (by omega))
  · exact scR_k hsc he.2.1 (hI 25 (by decide) (by decide) (by decide)) (hI 26 (by decide) (by decide) (by decide)) (fun j hj => o _ (by omega))
  · exact ev_k he (fun j hj => o _ (by omega))
  · rw [e5 j hj]
    by_cases z : j = c
    · subst z; rw [pk_us]; exact sgr_ok ha
    · rw [pk_un z]; exact (hg.1 j hj).1
  · rw [e6 j hj]
    by_cases z : j = c
    · subst z; rw [pk_us]; exact sgr_ok hb
    · rw [pk_un z]; exact (hg.1 j hj).2
  · rw [o 2 (by omega)]; exact hg.2
theorem cb_signal {t u a b : Int32} {ln : Nat} (h : hR I F s.2.1 n k ln) (h1 : ∀ t' u' I', sgv t u a b t' u' → hR I' F (m_sgl s (6 * t' + u') a b).2.1 n k ln → fr [5, 6, 7] I I' → Q (some (.int 1)) I' (z_R0 kp sp wd) J F cn) (h0 : (∀ t' u', ¬ sgv t u a b t' u') → Q (some (.int 0)) I (z_R0 kp sp wd) J F cn) :
    z_M (z_X0 L xs) z_P0 (d + 2) m_Bus_signal [.ref 0, .int t, .int u, .int a, .int b] I (z_R0 kp sp wd) J F cn Q := by
  have bad : ((∀ t' u', ¬ sgv t u a b t' u')) → ((0 : Int32) = 0 ∨ (0 : Int32) = 1) ∧ Q (some (.int 0)) I (z_R0 kp sp wd) J F cn := fun h => ⟨Or.inl rfl, h0 h⟩
  refine z_WP_gos [] 1000 fun K C hK hC => ?_
  conv => whnf
  refine ⟨fun g => ?_, fun g => ?_⟩
  · conv => whnf
    refine bad fun x y z => absurd g (Int32.not_lt.mpr ?_)
    rw [z.1]; exact nI_pos' (by have := z.2.2.1; omega)
  conv => whnf
  refine ⟨fun g2 => ?_, fun g2 => ?_⟩
  · conv => whnf
    refine bad fun x y z => absurd g2 ?_
    rw [z.1]; exact nI_ge (b := 8) z.2.2.1 (by decide)
  obtain ⟨t', ht8, et⟩ := isIn_nat (b := 8) (by decide) (Int32.not_lt.mp g) (Int32.le_of_lt (Int32.not_le.mp g2))
  subst et
  have ht : t' < 8 := by
    rcases Nat.lt_or_eq_of_le ht8 with z | z
    · exact z
    · rw [z] at g2; exact absurd (by decide) g2
  conv => whnf
  refine hC _ _ _ _ _ _ _ _ _ _ (fun _ _ _ _ _ _ q => q) (cb_isSub (fun u' hu eu => ?_) (fun hu => ?_))
  conv => whnf
  · subst eu
    repeat ((first | refine And.intro (by (conv => arg 2; whnf); (try simp only [z_lit, nI_add, pk_mul, z_pr1, z_pr2]); exact z_in (by omega) (by decide)) ?_ | refine z_bt1 (by decide) ?_ | refine z_bf1 (by decide) ?_ | refine z_bt2 (by decide) ?_ | refine z_bf2 (by decide) ?_); conv => whnf)
    refine hC _ _ _ _ _ _ _ _ _ _ (fun _ _ _ _ _ _ q => q) (cb_isTh (fun ha => ?_) (fun ha => ?_))
    conv => whnf
    · repeat ((first | refine And.intro (by (conv => arg 2; whnf); (try simp only [z_lit, nI_add, pk_mul, z_pr1, z_pr2]); exact z_in (by omega) (by decide)) ?_ | refine z_bt1 (by decide) ?_ | refine z_bf1 (by decide) ?_ | refine z_bt2 (by decide) ?_ | refine z_bf2 (by decide) ?_); conv => whnf)
      refine hC _ _ _ _ _ _ _ _ _ _ (fun _ _ _ _ _ _ q => q) (cb_isTh (fun hb => ?_) (fun hb => ?_))
      conv => whnf
      · repeat ((first | refine And.intro (by (conv => arg 2; whnf); (try simp only [z_lit, nI_add, pk_mul, z_pr1, z_pr2]); exact z_in (by omega) (by decide)) ?_ | refine z_bt1 (by decide) ?_ | refine z_bf1 (by decide) ?_ | refine z_bt2 (by decide) ?_ | refine z_bf2 (by decide) ?_); conv => whnf)
        refine hC _ _ _ _ _ _ _ _ _ _ (fun _ _ _ _ _ _ q => q) (cu_tellSignal ht hu ?_)
        conv => whnf
        refine ⟨Or.inr rfl, h1 t' u' _ ⟨rfl, rfl, ht, hu, ha, hb⟩ (hR_sgl h (by omega) ha hb ?_ ?_ (z_row_s _ _ _) (fun b x y z => by rw [z_row_n _ _ z, z_row_n _ _ y, z_row_n _ _ x])) (fr_w (fr_w (fr_w fr_r (by decide)) (by decide)) (by decide))⟩
        · rw [z_row_n _ _ (by decide), z_row_n _ _ (by decide), z_row_s]
        · rw [z_row_n _ _ (by decide), z_row_s]
      · repeat ((first | refine And.intro (by (conv => arg 2; whnf); (try simp only [z_lit, nI_add, pk_mul, z_pr1, z_pr2]); exact z_in (by omega) (by decide)) ?_ | refine z_bt1 (by decide) ?_ | refine z_bf1 (by decide) ?_ | refine z_bt2 (by decide) ?_ | refine z_bf2 (by decide) ?_); conv => whnf)
        exact bad fun x y h => hb h.2.2.2.2.2
    · repeat ((first | refine And.intro (by (conv => arg 2; whnf); (try simp only [z_lit, nI_add, pk_mul, z_pr1, z_pr2]); exact z_in (by omega) (by decide)) ?_ | refine z_bt1 (by decide) ?_ | refine z_bf1 (by decide) ?_ | refine z_bt2 (by decide) ?_ | refine z_bf2 (by decide) ?_); conv => whnf)
      exact bad fun x y h => ha h.2.2.2.2.1
  · repeat ((first | refine And.intro (by (conv => arg 2; whnf); (try simp only [z_lit, nI_add, pk_mul, z_pr1, z_pr2]); exact z_in (by omega) (by decide)) ?_ | refine z_bt1 (by decide) ?_ | refine z_bf1 (by decide) ?_ | refine z_bt2 (by decide) ?_ | refine z_bf2 (by decide) ?_); conv => whnf)
    exact bad fun x y h => hu y h.2.2.2.1 h.2.1
end
