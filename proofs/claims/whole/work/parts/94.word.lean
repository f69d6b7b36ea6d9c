/-! words told, in both -/
def wdu (u i v : Int32) (u' i' v' : Nat) : Prop := u = nI (u' + 1) ∧ u' < 6 ∧ i = nI i' ∧ i' < 8 ∧ v = nI v' ∧ v' ≤ 65535
def wdt (t : Int32) (u' i' a : Nat) : Prop := (t = -1 ∧ a = 1344 + 8 * u' + i') ∨ ∃ t', t' < 8 ∧ t = nI t' ∧ a = 192 + 8 * (6 * t' + u') + i'
def wdv (t u i v : Int32) (a v' : Nat) : Prop := ∃ u' i', wdu u i v u' i' v' ∧ wdt t u' i' a
section
variable {L : Nat} {xs : Nat → Int32} {d : Nat} {kp sp wd : Value} {I : z_I} {s : z_sg} {R : z_R} {J : z_J} {F : z_F} {cn : Nat} {Q : z_Q} {n k : Nat}
theorem sp_isWord {u i : Int32} (h1 : ∀ u' i', u = nI (u' + 1) → u' < 6 → i = nI i' → i' < 8 → Q (some (.int 1)) I R J F cn) (h0 : (∀ u' i', u = nI (u' + 1) → u' < 6 → i = nI i' → ¬ i' < 8) → Q (some (.int 0)) I R J F cn) : z_M (z_X0 L xs) z_P0 (d + 1) m_Mod_isWord [.int u, .int i] I R J F cn Q := by
  refine z_WP_gos [] 1000 fun K C hK hC => ?_
  conv => whnf
  refine hC _ _ _ _ _ _ _ _ _ _ (fun _ _ _ _ _ _ q => q) (sp_Mod_isIn (fun x1 x2 => ?_) (fun x => ?_))
  conv => whnf
  · obtain ⟨u', hu, eu⟩ := isIn_1 (b := 6) (by decide) x1 x2
    repeat ((first | refine And.intro (by (conv => arg 2; whnf); (try simp only [z_lit, nI_add, pk_mul, z_pr1, z_pr2]); exact z_in (by omega) (by decide)) ?_ | refine z_bt1 (by decide) ?_ | refine z_bf1 (by decide) ?_ | refine z_bt2 (by decide) ?_ | refine z_bf2 (by decide) ?_); conv => whnf)
    refine hC _ _ _ _ _ _ _ _ _ _ (fun _ _ _ _ _ _ q => q) (sp_Mod_isIn (fun y1 y2 => ?_) (fun y => ?_))
    conv => whnf
    · obtain ⟨i', hi, ei⟩ := isIn_nat (b := 7) (by decide) y1 y2
      repeat ((first | refine And.intro (by (conv => arg 2; whnf); (try simp only [z_lit, nI_add, pk_mul, z_pr1, z_pr2]); exact z_in (by omega) (by decide)) ?_ | refine z_bt1 (by decide) ?_ | refine z_bf1 (by decide) ?_ | refine z_bt2 (by decide) ?_ | refine z_bf2 (by decide) ?_); conv => whnf)
      exact ⟨Or.inr rfl, h1 u' i' eu (by omega) ei (by omega)⟩
    · repeat ((first | refine And.intro (by (conv => arg 2; whnf); (try simp only [z_lit, nI_add, pk_mul, z_pr1, z_pr2]); exact z_in (by omega) (by decide)) ?_ | refine z_bt1 (by decide) ?_ | refine z_bf1 (by decide) ?_ | refine z_bt2 (by decide) ?_ | refine z_bf2 (by decide) ?_); conv => whnf)
      refine ⟨Or.inl rfl, h0 fun a b c e g z => y ?_⟩
      rw [g]; exact ⟨nI_pos' (by omega), nI_le (b := 7) (by omega) (by decide)⟩
  · repeat ((first | refine And.intro (by (conv => arg 2; whnf); (try simp only [z_lit, nI_add, pk_mul, z_pr1, z_pr2]); exact z_in (by omega) (by decide)) ?_ | refine z_bt1 (by decide) ?_ | refine z_bf1 (by decide) ?_ | refine z_bt2 (by decide) ?_ | refine z_bf2 (by decide) ?_); conv => whnf)
    refine ⟨Or.inl rfl, h0 fun a b c e g z => x ?_⟩
    rw [c]; exact ⟨nI_le (a := 1) (by omega) (by omega), nI_le (b := 6) (by omega) (by decide)⟩
theorem sp_word {t u i v : Int32} (h1 : ∀ a v', wdv t u i v a v' → Q (some (.int 1)) (z_ms I (m_w s a (nI v'))) (z_R0 kp sp wd) J F cn) (h0 : (∀ a v', ¬ wdv t u i v a v') → Q (some (.int 0)) (z_ms I s) (z_R0 kp sp wd) J F cn) :
    z_M (z_X0 L xs) z_P0 (d + 2) m_Mod_word [.ref 40, .int t, .int u, .int i, .int v] (z_ms I s) (z_R0 kp sp wd) J F cn Q := by
  obtain ⟨ff, w, y⟩ := s
  unfold m_w at h1
  simp only at h1
  have bad : ((∀ a v', ¬ wdv t u i v a v')) → ((0 : Int32) = 0 ∨ (0 : Int32) = 1) ∧ Q (some (.int 0)) (z_ms I (ff, w, y)) (z_R0 kp sp wd) J F cn := fun h => ⟨Or.inl rfl, h0 h⟩
  have tne : ∀ t, t < 9 → ¬ nI t = -1 := by decide
  have tail : (t = -1 ∨ ∃ t', t' < 8 ∧ t = nI t') → z_WP (z_X0 L xs) z_P0 (d + 2) m_Mod_word 12 [some (.ref 40), some (.int t), some (.int u), some (.int i), some (.int v)] [] (z_ms I (ff, w, y)) (z_R0 kp sp wd) J F cn 0 0 Q := by
    intro ht
    refine z_WP_gos [] 1000 fun K C hK hC => ?_
    conv => whnf
    refine hC _ _ _ _ _ _ _ _ _ _ (fun _ _ _ _ _ _ q => q) (sp_isWord (fun u' i' eu hu ei hi => ?_) (fun hw => ?_))
    conv => whnf
    · repeat ((first | refine And.intro (by (conv => arg 2; whnf); (try simp only [z_lit, nI_add, pk_mul, z_pr1, z_pr2]); exact z_in (by omega) (by decide)) ?_ | refine z_bt1 (by decide) ?_ | refine z_bf1 (by decide) ?_ | refine z_bt2 (by decide) ?_ | refine z_bf2 (by decide) ?_); conv => whnf)
      refine hC _ _ _ _ _ _ _ _ _ _ (fun _ _ _ _ _ _ q => q) (sp_Mod_isIn (fun y1 y2 => ?_) (fun y => ?_))
      conv => whnf
      · obtain ⟨v', hv, ev⟩ := isIn_nat (b := 65535) (by decide) y1 y2
        have hd : wdu u i v u' i' v' := ⟨eu, hu, ei, hi, ev, hv⟩
        have q := fun a ha => h1 a v' ⟨u', i', hd, ha⟩
        subst eu ei ev
        repeat ((first | refine And.intro (by (conv => arg 2; whnf); (try simp only [z_lit, nI_add, pk_mul, z_pr1, z_pr2]); exact z_in (by omega) (by decide)) ?_ | refine z_bt1 (by decide) ?_ | refine z_bf1 (by decide) ?_ | refine z_bt2 (by decide) ?_ | refine z_bf2 (by decide) ?_); conv => whnf)
        rcases ht with rfl | ⟨t', ht', rfl⟩
        · have q' := q (1344 + 8 * u' + i') (Or.inl ⟨rfl, rfl⟩)
          repeat ((first | refine And.intro (by (conv => arg 2; whnf); (try simp only [z_lit, nI_add, pk_mul, z_pr1, z_pr2]); exact z_in (by omega) (by decide)) ?_ | refine z_bt1 (by decide) ?_ | refine z_bf1 (by decide) ?_ | refine z_bt2 (by decide) ?_ | refine z_bf2 (by decide) ?_); conv => whnf)
          simp (disch := omega) only [z_lit, nI_add, pk_mul, z_pr1, z_pr2, nI_clamp, z_m3_40, z_m3_41, z_m3_44, z_m3_u40, z_m3_u41, z_m3_u44, z_m3_m3, pk_us, pk_un]
          exact ⟨Or.inr trivial, q'⟩
        · have q' := q (192 + 8 * (6 * t' + u') + i') (Or.inr ⟨t', ht', rfl, rfl⟩)
          refine ⟨fun _ => ?_, fun g => absurd g (tne t' (by omega))⟩
          conv => whnf
          refine hC _ _ _ _ _ _ _ _ _ _ (fun _ _ _ _ _ _ q => q) (sp_at0 ?_)
          conv => whnf
          repeat ((first | refine And.intro (by (conv => arg 2; whnf); (try simp only [z_lit, nI_add, pk_mul, z_pr1, z_pr2]); exact z_in (by omega) (by decide)) ?_ | refine z_bt1 (by decide) ?_ | refine z_bf1 (by decide) ?_ | refine z_bt2 (by decide) ?_ | refine z_bf2 (by decide) ?_); conv => whnf)
          refine ⟨Or.inr rfl, ?_⟩
          simp (disch := omega) only [z_lit, nI_add, pk_mul, z_pr1, z_pr2, nI_clamp, z_m3_40, z_m3_41, z_m3_44, z_m3_u40, z_m3_u41, z_m3_u44, z_m3_m3, pk_us, pk_un]
          exact q'
      · repeat ((first | refine And.intro (by (conv => arg 2; whnf); (try simp only [z_lit, nI_add, pk_mul, z_pr1, z_pr2]); exact z_in (by omega) (by decide)) ?_ | refine z_bt1 (by decide) ?_ | refine z_bf1 (by decide) ?_ | refine z_bt2 (by decide) ?_ | refine z_bf2 (by decide) ?_); conv => whnf)
        refine bad fun a v' z => ?_
        obtain ⟨u1, i1, ⟨_, _, _, _, e, le⟩, _⟩ := z
        exact y (by rw [e]; exact ⟨nI_pos' (by omega), nI_le (b := 65535) le (by decide)⟩)
    · repeat ((first | refine And.intro (by (conv => arg 2; whnf); (try simp only [z_lit, nI_add, pk_mul, z_pr1, z_pr2]); exact z_in (by omega) (by decide)) ?_ | refine z_bt1 (by decide) ?_ | refine z_bf1 (by decide) ?_ | refine z_bt2 (by decide) ?_ | refine z_bf2 (by decide) ?_); conv => whnf)
      refine bad fun a v' z => ?_
      obtain ⟨u1, i1, ⟨e1, e2, e3, e4, _⟩, _⟩ := z
      exact hw u1 i1 e1 e2 e3 e4
  refine z_WP_gos [12] 1000 fun K C hK hC => ?_
  conv => whnf
  refine ⟨fun g => ?_, fun g => ?_⟩
  · conv => whnf
    refine hK _ _ _ _ _ _ _ _ _ _ (tail (Or.inl g))
  · conv => whnf
    refine hC _ _ _ _ _ _ _ _ _ _ (fun _ _ _ _ _ _ q => q) (sp_Mod_isTerminal (fun t' ht et => ?_) (fun ht => ?_))
    conv => whnf
    · repeat ((first | refine And.intro (by (conv => arg 2; whnf); (try simp only [z_lit, nI_add, pk_mul, z_pr1, z_pr2]); exact z_in (by omega) (by decide)) ?_ | refine z_bt1 (by decide) ?_ | refine z_bf1 (by decide) ?_ | refine z_bt2 (by decide) ?_ | refine z_bf2 (by decide) ?_); conv => whnf)
      refine hK _ _ _ _ _ _ _ _ _ _ (tail (Or.inr ⟨t', ht, et⟩))
    · repeat ((first | refine And.intro (by (conv => arg 2; whnf); (try simp only [z_lit, nI_add, pk_mul, z_pr1, z_pr2]); exact z_in (by omega) (by decide)) ?_ | refine z_bt1 (by decide) ?_ | refine z_bf1 (by decide) ?_ | refine z_bt2 (by decide) ?_ | refine z_bf2 (by decide) ?_); conv => whnf)
      refine bad fun a v' z => ?_
      obtain ⟨u1, i1, _, z | ⟨t', x, y, _⟩⟩ := z
      · exact g z.1
      · exact ht t' x y
theorem cb_word {t u i v : Int32} (h1 : ∀ a v', wdv t u i v a v' → Q (some (.int 1)) (z_row I 4 (upd (I 4) (a - 192) (nI v'))) (z_R0 kp sp wd) J F cn) (h0 : (∀ a v', ¬ wdv t u i v a v') → Q (some (.int 0)) I (z_R0 kp sp wd) J F cn) :
    z_M (z_X0 L xs) z_P0 (d + 2) m_Bus_word [.ref 0, .int t, .int u, .int i, .int v] I (z_R0 kp sp wd) J F cn Q := by
  have bad : ((∀ a v', ¬ wdv t u i v a v')) → ((0 : Int32) = 0 ∨ (0 : Int32) = 1) ∧ Q (some (.int 0)) I (z_R0 kp sp wd) J F cn := fun h => ⟨Or.inl rfl, h0 h⟩
  have tne : ∀ t, t < 9 → ¬ nI t = -1 := by decide
  have tge : ∀ t, t < 9 → ¬ nI t < -1 := by decide
  have tm : ∀ t : Int32, ¬ t < -1 → ¬ nI 8 ≤ t → t = -1 ∨ ∃ t', t' < 8 ∧ t = nI t' := by
    intro t a b
    by_cases z : nI 0 ≤ t
    · obtain ⟨t', ht8, et⟩ := isIn_nat (b := 8) (by decide) z (Int32.le_of_lt (Int32.not_le.mp b))
      subst et
      refine Or.inr ⟨t', ?_, rfl⟩
      rcases Nat.lt_or_eq_of_le ht8 with y | y
      · exact y
      · rw [y] at b; exact absurd (by decide) b
    · refine Or.inl ?_
      have a' := Int32.le_iff_toInt_le.mp (Int32.not_lt.mp a)
      have z' := Int32.lt_iff_toInt_lt.mp (Int32.not_le.mp z)
      have e1 : (-1 : Int32).toInt = -1 := by decide
      have e2 : (nI 0).toInt = 0 := by decide
      rw [e1] at a'
      rw [e2] at z'
      apply Int32.toInt_inj.mp
      rw [e1]; omega
  refine z_WP_gos [] 1000 fun K C hK hC => ?_
  conv => whnf
  refine ⟨fun g => ?_, fun g => ?_⟩
  · conv => whnf
    refine bad fun a v' z => ?_
    obtain ⟨u1, i1, _, z | ⟨t', x, y, _⟩⟩ := z
    · rw [z.1] at g; exact absurd g (by decide)
    · rw [y] at g; exact tge t' (by omega) g
  conv => whnf
  refine ⟨fun g2 => ?_, fun g2 => ?_⟩
  · conv => whnf
    refine bad fun a v' z => ?_
    obtain ⟨u1, i1, _, z | ⟨t', x, y, _⟩⟩ := z
    · rw [z.1] at g2; exact absurd g2 (by decide)
    · rw [y] at g2; exact nI_ge (b := 8) x (by decide) g2
  have ht := tm t g g2
  conv => whnf
  refine hC _ _ _ _ _ _ _ _ _ _ (fun _ _ _ _ _ _ q => q) (cb_isSub (fun u' hu eu => ?_) (fun hu => ?_))
  conv => whnf
  · repeat ((first | refine And.intro (by (conv => arg 2; whnf); (try simp only [z_lit, nI_add, pk_mul, z_pr1, z_pr2]); exact z_in (by omega) (by decide)) ?_ | refine z_bt1 (by decide) ?_ | refine z_bf1 (by decide) ?_ | refine z_bt2 (by decide) ?_ | refine z_bf2 (by decide) ?_); conv => whnf)
    refine ⟨fun g3 => ?_, fun g3 => ?_⟩
    · conv => whnf
      refine bad fun a v' z => ?_
      obtain ⟨u1, i1, ⟨_, _, e3, e4, _⟩, _⟩ := z
      rw [e3] at g3; exact absurd g3 (Int32.not_lt.mpr (nI_pos' (by omega)))
    conv => whnf
    refine ⟨fun g4 => ?_, fun g4 => ?_⟩
    · conv => whnf
      refine bad fun a v' z => ?_
      obtain ⟨u1, i1, ⟨_, _, e3, e4, _⟩, _⟩ := z
      rw [e3] at g4; exact absurd g4 (Int32.not_lt.mpr (nI_le (b := 7) (by omega) (by decide)))
    obtain ⟨i', hi, ei⟩ := isIn_nat (b := 7) (by decide) (Int32.not_lt.mp g3) (Int32.not_lt.mp g4)
    conv => whnf
    refine ⟨fun g5 => ?_, fun g5 => ?_⟩
    · conv => whnf
      refine bad fun a v' z => ?_
      obtain ⟨u1, i1, ⟨_, _, _, _, e5, e6⟩, _⟩ := z
      rw [e5] at g5; exact absurd g5 (Int32.not_lt.mpr (nI_pos' (by omega)))
    conv => whnf
    refine ⟨fun g6 => ?_, fun g6 => ?_⟩
    · obtain ⟨v', hv, ev⟩ := isIn_nat (b := 65535) (by decide) (Int32.not_lt.mp g5) g6
      have hd : wdu u i v u' i' v' := ⟨eu, hu, ei, by omega, ev, hv⟩
      have q := fun a ha => h1 a v' ⟨u', i', hd, ha⟩
      subst eu ei ev
      conv => whnf
      rcases ht with rfl | ⟨t', ht', rfl⟩
      · have q' := q (1344 + 8 * u' + i') (Or.inl ⟨rfl, rfl⟩)
        rw [show 1344 + 8 * u' + i' - 192 = 1152 + 8 * u' + i' by omega] at q'
        repeat ((first | refine And.intro (by (conv => arg 2; whnf); (try simp only [z_lit, nI_add, pk_mul, z_pr1, z_pr2]); exact z_in (by omega) (by decide)) ?_ | refine z_bt1 (by decide) ?_ | refine z_bf1 (by decide) ?_ | refine z_bt2 (by decide) ?_ | refine z_bf2 (by decide) ?_); conv => whnf)
        refine hC _ _ _ _ _ _ _ _ _ _ (fun _ _ _ _ _ _ q => q) (cu_sendSpot ?_)
        conv => whnf
        repeat ((first | refine And.intro (by (conv => arg 2; whnf); (try simp only [z_lit, nI_add, pk_mul, z_pr1, z_pr2]); exact z_in (by omega) (by decide)) ?_ | refine z_bt1 (by decide) ?_ | refine z_bf1 (by decide) ?_ | refine z_bt2 (by decide) ?_ | refine z_bf2 (by decide) ?_); conv => whnf)
        simp (disch := omega) only [z_lit, nI_add, pk_mul, z_pr1, z_pr2, nI_clamp, z_up_row, z_row_s, z_row_n, z_row_row, pk_us, pk_un]
        exact ⟨Or.inr trivial, q'⟩
      · have q' := q (192 + 8 * (6 * t' + u') + i') (Or.inr ⟨t', ht', rfl, rfl⟩)
        rw [show 192 + 8 * (6 * t' + u') + i' - 192 = 384 * 0 + 8 * (6 * t' + u') + i' by omega] at q'
        refine ⟨fun _ => ?_, fun g => absurd g (tne t' (by omega))⟩
        conv => whnf
        refine hC _ _ _ _ _ _ _ _ _ _ (fun _ _ _ _ _ _ q => q) (cu_spot (k := 0) ?_)
        conv => whnf
        repeat ((first | refine And.intro (by (conv => arg 2; whnf); (try simp only [z_lit, nI_add, pk_mul, z_pr1, z_pr2]); exact z_in (by omega) (by decide)) ?_ | refine z_bt1 (by decide) ?_ | refine z_bf1 (by decide) ?_ | refine z_bt2 (by decide) ?_ | refine z_bf2 (by decide) ?_); conv => whnf)
        simp (disch := omega) only [z_lit, nI_add, pk_mul, z_pr1, z_pr2, nI_clamp, z_up_row, z_row_s, z_row_n, z_row_row, pk_us, pk_un]
        exact ⟨Or.inr trivial, q'⟩
    · conv => whnf
      refine bad fun a v' z => ?_
      obtain ⟨u1, i1, ⟨_, _, _, _, e5, e6⟩, _⟩ := z
      exact g6 (by rw [e5]; exact nI_le (b := 65535) e6 (by decide))
  · repeat ((first | refine And.intro (by (conv => arg 2; whnf); (try simp only [z_lit, nI_add, pk_mul, z_pr1, z_pr2]); exact z_in (by omega) (by decide)) ?_ | refine z_bt1 (by decide) ?_ | refine z_bf1 (by decide) ?_ | refine z_bt2 (by decide) ?_ | refine z_bf2 (by decide) ?_); conv => whnf)
    refine bad fun a v' z => ?_
    obtain ⟨u1, i1, ⟨e1, e2, _⟩, _⟩ := z
    exact hu u1 e2 e1
theorem wdv_a {t u i v : Int32} {a v' : Nat} (h : wdv t u i v a v') : 192 ≤ a ∧ a < 1392 ∧ v' ≤ 65535 := by
  obtain ⟨u1, i1, ⟨_, e2, _, e4, _, e6⟩, z | ⟨t', x, y, z⟩⟩ := h
  · have := z.2; omega
  · omega
/-- home behind a word -/
theorem hR_word {I' : z_I} {a ln : Nat} {x : Int32} {w : Nat → Int32} (h : hR I F w n k ln) (h1 : 192 ≤ a) (h2 : a < 1392) (hx : b16 x) (h4 : I' 4 = upd (I 4) (a - 192) x) (hI : ∀ b, b ≠ 4 → I' b = I b) : hR I' F (upd w a x) n k ln := by
  obtain ⟨⟨⟨u1, u2, u3, u4⟩, wr, ⟨k1, k2, k3, k4, k5⟩, g⟩, ⟨c5, c6, c7, c10⟩, ⟨r9, r8, r11⟩, ⟨p, tb, rt, hrt, ert⟩, hD, hJ, hsc, he, hg⟩ := h
  have i1 : I' 1 = I 1 := hI 1 (by decide)
  have o : ∀ j, j < 192 ∨ 1392 ≤ j → upd w a x j = w j := fun j hj => pk_un (by omega)
  refine ⟨⟨⟨uT_of u1 (hI 3 (by decide)) (fun j x y => o j (by omega)), fun j hj => ?_, fun j hj => ?_, fun j hj => ?_⟩, wR_of wr (fun b x y => hI b (by omega)) (fun j hj => o j (by omega)), ⟨⟨fun t ht => ?_, fun j x y => ?_, fun j x y => ?_⟩, fun j x y => ?_, fun j hj => ?_, ?_, ?_⟩, gW_k g (fun j x y => o j (by omega))⟩, ⟨?_, ?_, ?_, ?_⟩, ⟨?_, ?_, ?_⟩, ⟨?_, ?_, rt, hrt, ?_⟩, ?_, ?_, ?_, ?_, ?_⟩
  · rw [h4]
    by_cases z : 192 + j = a
    · rw [z, pk_us, show a - 192 = j by omega, pk_us]
    · rw [pk_un z, pk_un (by omega)]; exact u2 j hj
  · rw [hI 5 (by decide), hI 6 (by decide), hI 7 (by decide), o _ (by omega), o _ (by omega), o _ (by omega), o _ (by omega)]; exact u3 j hj
  · rw [hI 9 (by decide), o _ (by omega)]; exact u4 j hj
  · rw [o _ (by omega)]; exact k1.1 t ht
  · rw [o _ (by omega)]; exact k1.2.1 j x y
  · rw [o _ (by omega)]; exact k1.2.2 j x y
  · rw [o _ (by omega)]; exact k2 j x y
  · by_cases z : j = a
    · rw [z, pk_us]; exact hx
    · rw [pk_un z]; exact k3 j hj
  · rw [o _ (by omega)]; exact k4
  · rw [o _ (by omega)]; exact k5
  · rw [i1, o 0 (by omega)]; exact c5
  · rw [i1, o 1 (by omega)]; exact c6
  · rw [i1, o 2 (by omega)]; exact c7
  · rw [i1, o 7 (by omega)]; exact c10
  · rw [i1, o 4 (by omega)]; exact r9
  · rw [i1, o 3 (by omega)]; exact r8
  · rw [i1, o 6 (by omega)]; exact r11
  · exact pS_c p (by rw [hI 18 (by decide)]) (hI 19 (by decide)) (o 8 (by omega)) tb.2.1 (fun i f x y => o _ (by omega))
  · exact tb_c tb (o 8 (by omega)) (fun i f x y => o _ (by omega))
  · rw [o 1 (by omega)]; exact ert
  · exact pD_k hD tb.2.1 (hI 20 (by decide)) (hI 21 (by decide)) (hI 22 (by decide)) (fun j hj => o _ (by omega))
  · rw [hI 27 (by decide), hI 28 (by decide)]
    exact jR_k hJ (fun j hj => o _ (by omega))
  · exact scR_k hsc he.2.1 (hI 25 (by decide)) (hI 26 (by decide)) (fun j hj => o _ (by omega))
  · exact ev_k he (fun j hj => o _ (by omega))
  · exact ⟨fun c hc => by rw [o _ (by omega), o _ (by omega)]; exact hg.1 c hc, by rw [o 2 (by omega)]; exact hg.2⟩
end
