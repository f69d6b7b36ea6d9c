/-! events as a text: the class's events -/
def evA (q g : Nat → Int32) (m : Nat) : Prop := ∀ i, i < m → ∀ a, a < 4 → q (i * 4 + a) = g (14 * i + a)
section
variable {L : Nat} {xs : Nat → Int32} {d : Nat} {kp sp wd : Value} {I I0 : z_I} {s : z_sg} {R : z_R} {J : z_J} {F : z_F} {cn : Nat} {Q : z_Q} {n k m st c p nn kk ln : Nat} {t : Nat → Nat} {w g g0 : Nat → Int32}
theorem cs_begE0 (hn : n ≤ 500) (h : lvC t n kO4 vO4 (I 32) st) {v : Int32} (hQ : ∀ I', fr [32] I I' → ddC (I' 32) 1 st → Q (some (.int 0)) I' (z_R0 kp sp wd) J F cn) : z_M (z_X0 L xs) z_P0 (d + 1) m_Reader_beginsLine [.ref 32, .int 0, .int v] I (z_R0 kp sp wd) J F cn Q := by
  have h8 := h.2.2.2.2.2.1
  refine z_WP_gos [] 1000 fun K C hK hC => ?_
  conv => whnf
  repeat ((first | refine And.intro (by (conv => arg 2; whnf); (try simp only [z_lit, nI_add, pk_mul, z_pr1, z_pr2]); exact z_in (by omega) (by decide)) ?_ | refine z_bt1 (by decide) ?_ | refine z_bf1 (by decide) ?_ | refine z_bt2 (by decide) ?_ | refine z_bf2 (by decide) ?_); conv => whnf)
  simp (disch := omega) only [z_lit, nI_add, pk_mul, z_pr1, z_pr2, nI_clamp, z_up_row, z_row_s, z_row_n, z_row_row, pk_us, pk_un]
  rw [h8]
  refine hC _ _ _ _ _ _ _ _ _ _ (fun _ _ _ _ _ _ q => q) (cs_fail (kO := kO4) (vO := vO4) (c := 1) (p := st) h hn (by decide) (by decide) (fun I' f' d' => ?_))
  conv => whnf
  have e3 := d'.2.2.1
  simp (disch := omega) only [z_lit, nI_add, pk_mul, z_pr1, z_pr2, nI_clamp, z_up_row, z_row_s, z_row_n, z_row_row, pk_us, pk_un]
  rw [e3]
  refine ⟨fun _ => ?_, fun z => absurd z (by decide)⟩
  conv => whnf
  exact ⟨Or.inl rfl, hQ I' f' d'⟩
theorem cs_begE3 (hn : n ≤ 500) (h : lvC t n kO4 vO4 (I 32) st) (hQ : ∀ I', fr [32] I I' → ddC (I' 32) 3 st → Q (some (.int 0)) I' (z_R0 kp sp wd) J F cn) : z_M (z_X0 L xs) z_P0 (d + 1) m_Reader_beginsLine [.ref 32, .int 1, .int (nI 24)] I (z_R0 kp sp wd) J F cn Q := by
  have h8 := h.2.2.2.2.2.1
  refine z_WP_gos [] 1000 fun K C hK hC => ?_
  conv => whnf
  repeat ((first | refine And.intro (by (conv => arg 2; whnf); (try simp only [z_lit, nI_add, pk_mul, z_pr1, z_pr2]); exact z_in (by omega) (by decide)) ?_ | refine z_bt1 (by decide) ?_ | refine z_bf1 (by decide) ?_ | refine z_bt2 (by decide) ?_ | refine z_bf2 (by decide) ?_); conv => whnf)
  simp (disch := omega) only [z_lit, nI_add, pk_mul, z_pr1, z_pr2, nI_clamp, z_up_row, z_row_s, z_row_n, z_row_row, pk_us, pk_un]
  rw [h8]
  refine hC _ _ _ _ _ _ _ _ _ _ (fun _ _ _ _ _ _ q => q) (cs_fail (kO := kO4) (vO := vO4) (c := 3) (p := st) h hn (by decide) (by decide) (fun I' f' d' => ?_))
  conv => whnf
  have e3 := d'.2.2.1
  simp (disch := omega) only [z_lit, nI_add, pk_mul, z_pr1, z_pr2, nI_clamp, z_up_row, z_row_s, z_row_n, z_row_row, pk_us, pk_un]
  rw [e3]
  refine ⟨fun _ => ?_, fun z => absurd z (by decide)⟩
  conv => whnf
  exact ⟨Or.inl rfl, hQ I' f' d'⟩
theorem cs_begE1 (hm : m < 24) (h : lvC t n kO4 vO4 (I 32) st) (hQ : Q (some (.int 1)) I (z_R0 kp sp wd) J F cn) : z_M (z_X0 L xs) z_P0 (d + 1) m_Reader_beginsLine [.ref 32, .int 1, .int (nI m)] I (z_R0 kp sp wd) J F cn Q := by
  have h3 := h.2.2.1
  refine z_WP_gos [] 1000 fun K C hK hC => ?_
  conv => whnf
  refine ⟨fun _ => ?_, fun z => absurd z (by decide)⟩
  conv => whnf
  refine ⟨fun _ => ?_, fun z => absurd (nI_lt (b := 24) hm (by decide)) z⟩
  conv => whnf
  simp (disch := omega) only [z_lit, nI_add, pk_mul, z_pr1, z_pr2, nI_clamp, z_up_row, z_row_s, z_row_n, z_row_row, pk_us, pk_un]
  rw [h3]
  refine ⟨fun z => absurd rfl z, fun _ => ?_⟩
  conv => whnf
  exact ⟨Or.inr rfl, hQ⟩
theorem dE76 {av bv : Int32} (hD : ∀ I', fr [32, 34] I0 I' → rdC (I' 32) (nI c) (nI p) → Q (some (.int (-1))) I' (z_R0 kp sp (.retAddr 4)) J F cn) (f : fr [32, 34] I0 I) (h : ddC (I 32) c p) : z_WP (z_X0 L xs) z_P0 (d + 10) m_Reader_readEvents 76 [some (.ref 32), some (.int av), some (.int bv)] [] I (z_R0 kp sp (.retAddr 4)) J F cn 0 0 Q := by
  obtain ⟨h0, hc, h3, h4, -⟩ := h
  have q := hD (z_row I 32 (upd (I 32) 2 (nI 0))) (fr_w f (by decide)) (by rw [z_row_s]; exact ⟨pk_us, by rw [pk_un (by decide)]; exact h3, by rw [pk_un (by decide)]; exact h4⟩)
  refine z_WP_gos [] 1000 fun K C hK hC => ?_
  conv => whnf
  simp (disch := omega) only [z_lit, nI_add, pk_mul, z_pr1, z_pr2, nI_clamp, z_up_row, z_row_s, z_row_n, z_row_row, pk_us, pk_un]
  rw [h3]
  refine ⟨fun _ => ?_, fun z => absurd (nI_inj9 (b := 0) (by omega) (by omega) z) h0⟩
  conv => whnf
  exact q
theorem dE10 {av bv : Int32} (hD : ∀ I', fr [32, 34] I0 I' → rdC (I' 32) (nI c) (nI p) → Q (some (.int (-1))) I' (z_R0 kp sp (.retAddr 4)) J F cn) (f : fr [32, 34] I0 I) (h : ddC (I 32) c p) : z_WP (z_X0 L xs) z_P0 (d + 10) m_Reader_readEvents 10 [some (.ref 32), some (.int av), some (.int bv)] [] I (z_R0 kp sp (.retAddr 4)) J F cn 0 0 Q := by
  obtain ⟨h0, hc, h3, h4, -⟩ := id h
  refine z_WP_gos [76] 1000 fun K C hK hC => ?_
  conv => whnf
  refine ⟨fun _ => ?_, fun _ => ?_⟩
  · conv => whnf
    refine hK _ _ _ _ _ _ _ _ _ _ (dE76 hD f h)
  conv => whnf
  simp (disch := omega) only [z_lit, nI_add, pk_mul, z_pr1, z_pr2, nI_clamp, z_up_row, z_row_s, z_row_n, z_row_row, pk_us, pk_un]
  rw [h3]
  refine ⟨fun _ => ?_, fun z => absurd (nI_inj9 (b := 0) (by omega) (by omega) z) h0⟩
  conv => whnf
  refine hK _ _ _ _ _ _ _ _ _ _ (dE76 hD f h)
theorem lp_re (hT : rT I0 t n) (hn : n ≤ 500) :
    ∀ j m g st I, m + j = 24 → fr [32, 34] I0 I → evA (I 34) g m → lvC t n kO4 vO4 (I 32) st →
    okQ (peall t n j m g st) (fun g' c => ∀ I', fr [32, 34] I0 I' → evA (I' 34) g' c → rdC (I' 32) (nI 0) (-1) → Q (some (.int (nI c))) I' (z_R0 kp sp (.retAddr 4)) J F cn) (fun c p => ∀ I', fr [32, 34] I0 I' → rdC (I' 32) (nI c) (nI p) → Q (some (.int (-1))) I' (z_R0 kp sp (.retAddr 4)) J F cn) →
    z_WP (z_X0 L xs) z_P0 (d + 10) m_Reader_readEvents 10 [some (.ref 32), some (.int (nI m)), some (.int (nI m))] [] I (z_R0 kp sp (.retAddr 4)) J F cn 0 0 Q := by
  have k1 : ∀ m, m ≤ 22 → kO4 m ≤ 4 ∧ vO4 m < 30 ∧ (kO4 m = 0 ↔ m = 0) ∧ ((kO4 m = 1 ∧ vO4 m = 9) ↔ m = 10) := by decide
  intro j
  induction j with
  | zero =>
    intro m g st I hm f hA h hQ
    obtain rfl : m = 24 := by omega
    obtain ⟨h0, h2, h3, h4, h9, h8, h6, h71, h72, h73⟩ := id h
    have hl := tkM_le (t := t) (n := n) (st := st)
    obtain ⟨ka, kb, kc, kd⟩ := k1 _ hl
    unfold peall at hQ
    refine z_WP_gos [53] 1000 fun K C hK hC => ?_
    conv => whnf
    repeat ((first | refine And.intro (by (conv => arg 2; whnf); (try simp only [z_lit, nI_add, pk_mul, z_pr1, z_pr2]); exact z_in (by omega) (by decide)) ?_ | refine z_bt1 (by decide) ?_ | refine z_bf1 (by decide) ?_ | refine z_bt2 (by decide) ?_ | refine z_bf2 (by decide) ?_); conv => whnf)
    simp (disch := omega) only [z_lit, nI_add, pk_mul, z_pr1, z_pr2, nI_clamp, z_up_row, z_row_s, z_row_n, z_row_row, pk_us, pk_un]
    rw [h3]
    refine ⟨fun z => absurd rfl z, fun _ => ?_⟩
    conv => whnf
    simp (disch := omega) only [z_lit, nI_add, pk_mul, z_pr1, z_pr2, nI_clamp, z_up_row, z_row_s, z_row_n, z_row_row, pk_us, pk_un]
    rw [h6]
    refine ⟨fun g1 => ?_, fun g1 => ?_⟩
    · have e0 : tkM t n st = 0 := kc.mp (nI_inj9 (b := 0) (by omega) (by omega) g1)
      rw [if_pos e0] at hQ
      have q := hQ (z_row I 32 (upd (I 32) 2 (nI 0))) (fr_w f (by decide)) (by rw [z_row_n _ _ (by decide)]; exact hA) (by rw [z_row_s]; exact ⟨pk_us, by rw [pk_un (by decide)]; exact h3, by rw [pk_un (by decide)]; exact h4⟩)
      conv => whnf
      simp (disch := omega) only [z_lit, nI_add, pk_mul, z_pr1, z_pr2, nI_clamp, z_up_row, z_row_s, z_row_n, z_row_row, pk_us, pk_un]
      rw [h3]
      refine ⟨fun z => absurd rfl z, fun _ => ?_⟩
      conv => whnf
      exact q
    have e0 : ¬ tkM t n st = 0 := fun z => g1 (by rw [kc.mpr z])
    rw [if_neg e0] at hQ
    have no : ¬ tkM t n st = 10 → z_WP (z_X0 L xs) z_P0 (d + 10) m_Reader_readEvents 53 [some (.ref 32), some (.int (nI 24)), some (.int (nI 24))] [.int 0, .ref 32] I (z_R0 kp sp (.retAddr 4)) J F cn 0 0 Q := by
      intro x
      rw [if_neg x] at hQ
      refine z_WP_gos [10] 1000 fun K C hK hC => ?_
      conv => whnf
      refine hC _ _ _ _ _ _ _ _ _ _ (fun _ _ _ _ _ _ q => q) (cs_begE0 hn h (fun I' f' d' => ?_))
      conv => whnf
      repeat ((first | refine And.intro (by (conv => arg 2; whnf); (try simp only [z_lit, nI_add, pk_mul, z_pr1, z_pr2]); exact z_in (by omega) (by decide)) ?_ | refine z_bt1 (by decide) ?_ | refine z_bf1 (by decide) ?_ | refine z_bt2 (by decide) ?_ | refine z_bf2 (by decide) ?_); conv => whnf)
      simp (disch := omega) only [z_lit, nI_add, pk_mul, z_pr1, z_pr2, nI_clamp, z_up_row, z_row_s, z_row_n, z_row_row, pk_us, pk_un]
      refine hK _ _ _ _ _ _ _ _ _ _ (dE10 hQ (cld_r f f') d')
    conv => whnf
    simp (disch := omega) only [z_lit, nI_add, pk_mul, z_pr1, z_pr2, nI_clamp, z_up_row, z_row_s, z_row_n, z_row_row, pk_us, pk_un]
    rw [h6]
    refine ⟨fun g2 => ?_, fun g2 => ?_⟩
    · conv => whnf
      refine hK _ _ _ _ _ _ _ _ _ _ (no (fun z => g2 (by rw [(kd.mpr z).1])))
    have e1 : kO4 (tkM t n st) = 1 := nI_inj9 (b := 1) (by omega) (by omega) g2
    conv => whnf
    simp (disch := omega) only [z_lit, nI_add, pk_mul, z_pr1, z_pr2, nI_clamp, z_up_row, z_row_s, z_row_n, z_row_row, pk_us, pk_un]
    rw [h71 e1]
    refine ⟨fun g3 => ?_, fun g3 => ?_⟩
    · conv => whnf
      refine hK _ _ _ _ _ _ _ _ _ _ (no (fun z => g3 (by rw [(kd.mpr z).2])))
    have e10 := kd.mp ⟨e1, nI_inj9 (b := 9) (by omega) (by omega) g3⟩
    rw [if_pos e10] at hQ
    conv => whnf
    refine hK _ _ _ _ _ _ _ _ _ _ (?_)
    refine z_WP_gos [10] 1000 fun K C hK hC => ?_
    conv => whnf
    refine hC _ _ _ _ _ _ _ _ _ _ (fun _ _ _ _ _ _ q => q) (cs_begE3 hn h (fun I' f' d' => ?_))
    conv => whnf
    repeat ((first | refine And.intro (by (conv => arg 2; whnf); (try simp only [z_lit, nI_add, pk_mul, z_pr1, z_pr2]); exact z_in (by omega) (by decide)) ?_ | refine z_bt1 (by decide) ?_ | refine z_bf1 (by decide) ?_ | refine z_bt2 (by decide) ?_ | refine z_bf2 (by decide) ?_); conv => whnf)
    simp (disch := omega) only [z_lit, nI_add, pk_mul, z_pr1, z_pr2, nI_clamp, z_up_row, z_row_s, z_row_n, z_row_row, pk_us, pk_un]
    refine hK _ _ _ _ _ _ _ _ _ _ (dE10 hQ (cld_r f f') d')
  | succ j ih =>
    intro m g st I hm f hA h hQ
    obtain ⟨h0, h2, h3, h4, h9, h8, h6, h71, h72, h73⟩ := id h
    have hl := tkM_le (t := t) (n := n) (st := st)
    obtain ⟨ka, kb, kc, kd⟩ := k1 _ hl
    unfold peall at hQ
    refine z_WP_gos [53] 1000 fun K C hK hC => ?_
    conv => whnf
    refine ⟨fun z => absurd z (nI_nlt (a := 24) (b := m) (by omega) (by omega)), fun _ => ?_⟩
    conv => whnf
    simp (disch := omega) only [z_lit, nI_add, pk_mul, z_pr1, z_pr2, nI_clamp, z_up_row, z_row_s, z_row_n, z_row_row, pk_us, pk_un]
    rw [h3]
    refine ⟨fun z => absurd rfl z, fun _ => ?_⟩
    conv => whnf
    simp (disch := omega) only [z_lit, nI_add, pk_mul, z_pr1, z_pr2, nI_clamp, z_up_row, z_row_s, z_row_n, z_row_row, pk_us, pk_un]
    rw [h6]
    refine ⟨fun g1 => ?_, fun g1 => ?_⟩
    · have e0 : tkM t n st = 0 := kc.mp (nI_inj9 (b := 0) (by omega) (by omega) g1)
      rw [if_pos e0] at hQ
      have q := hQ (z_row I 32 (upd (I 32) 2 (nI 0))) (fr_w f (by decide)) (by rw [z_row_n _ _ (by decide)]; exact hA) (by rw [z_row_s]; exact ⟨pk_us, by rw [pk_un (by decide)]; exact h3, by rw [pk_un (by decide)]; exact h4⟩)
      conv => whnf
      simp (disch := omega) only [z_lit, nI_add, pk_mul, z_pr1, z_pr2, nI_clamp, z_up_row, z_row_s, z_row_n, z_row_row, pk_us, pk_un]
      rw [h3]
      refine ⟨fun z => absurd rfl z, fun _ => ?_⟩
      conv => whnf
      exact q
    have e0 : ¬ tkM t n st = 0 := fun z => g1 (by rw [kc.mpr z])
    rw [if_neg e0] at hQ
    have no : ¬ tkM t n st = 10 → z_WP (z_X0 L xs) z_P0 (d + 10) m_Reader_readEvents 53 [some (.ref 32), some (.int (nI m)), some (.int (nI m))] [.int 0, .ref 32] I (z_R0 kp sp (.retAddr 4)) J F cn 0 0 Q := by
      intro x
      rw [if_neg x] at hQ
      refine z_WP_gos [10] 1000 fun K C hK hC => ?_
      conv => whnf
      refine hC _ _ _ _ _ _ _ _ _ _ (fun _ _ _ _ _ _ q => q) (cs_begE0 hn h (fun I' f' d' => ?_))
      conv => whnf
      repeat ((first | refine And.intro (by (conv => arg 2; whnf); (try simp only [z_lit, nI_add, pk_mul, z_pr1, z_pr2]); exact z_in (by omega) (by decide)) ?_ | refine z_bt1 (by decide) ?_ | refine z_bf1 (by decide) ?_ | refine z_bt2 (by decide) ?_ | refine z_bf2 (by decide) ?_); conv => whnf)
      simp (disch := omega) only [z_lit, nI_add, pk_mul, z_pr1, z_pr2, nI_clamp, z_up_row, z_row_s, z_row_n, z_row_row, pk_us, pk_un]
      refine hK _ _ _ _ _ _ _ _ _ _ (dE10 hQ (cld_r f f') d')
    conv => whnf
    simp (disch := omega) only [z_lit, nI_add, pk_mul, z_pr1, z_pr2, nI_clamp, z_up_row, z_row_s, z_row_n, z_row_row, pk_us, pk_un]
    rw [h6]
    refine ⟨fun g2 => ?_, fun g2 => ?_⟩
    · conv => whnf
      refine hK _ _ _ _ _ _ _ _ _ _ (no (fun z => g2 (by rw [(kd.mpr z).1])))
    have e1 : kO4 (tkM t n st) = 1 := nI_inj9 (b := 1) (by omega) (by omega) g2
    conv => whnf
    simp (disch := omega) only [z_lit, nI_add, pk_mul, z_pr1, z_pr2, nI_clamp, z_up_row, z_row_s, z_row_n, z_row_row, pk_us, pk_un]
    rw [h71 e1]
    refine ⟨fun g3 => ?_, fun g3 => ?_⟩
    · conv => whnf
      refine hK _ _ _ _ _ _ _ _ _ _ (no (fun z => g3 (by rw [(kd.mpr z).2])))
    have e10 := kd.mp ⟨e1, nI_inj9 (b := 9) (by omega) (by omega) g3⟩
    rw [if_pos e10] at hQ
    conv => whnf
    refine hK _ _ _ _ _ _ _ _ _ _ (?_)
    refine z_WP_gos [10] 1000 fun K C hK hC => ?_
    conv => whnf
    have rt : ∀ {I' : z_I}, fr [32, 34] I0 I' → rT I' t n := fun f => rT_k hT (f 33 (by decide))
    have hQ1 := okQ_and (okQ_b hQ) (C := fun g' _ => ∀ j, j < 14 * m → g' j = g j) (fun f' s' e => (pevl_ok e).2)
    clear hQ
    refine hC _ _ _ _ _ _ _ _ _ _ (fun _ _ _ _ _ _ q => q) (cs_begE1 (m := m) (by omega) h ?_)
    conv => whnf
    refine ⟨fun z => absurd z (by decide), fun _ => ?_⟩
    conv => whnf
    simp (disch := omega) only [z_lit, nI_add, pk_mul, z_pr1, z_pr2, nI_clamp, z_up_row, z_row_s, z_row_n, z_row_row, pk_us, pk_un]
    refine hC _ _ _ _ _ _ _ _ _ _ (fun _ _ _ _ _ _ q => q) (cs_readEvent (m := m) (g := g) (rt f) hn (by omega) e10 h (okQ_m hQ1 (fun g2 st2 hQ I2 cl2 h2 => ?_) (fun c p hQ I2 f2 dd => ?_)))
    conv => whnf
    · obtain ⟨q4, hQ⟩ := hQ
      simp (disch := omega) only [z_lit, nI_add, pk_mul, z_pr1, z_pr2, nI_clamp, z_up_row, z_row_s, z_row_n, z_row_row, pk_us, pk_un]
      refine hK _ _ _ _ _ _ _ _ _ _ (ih (m + 1) g2 st2 I2 (by omega) (fr_t f cl2.1) (fun i hi a ha => ?_) h2 hQ)
      by_cases z : i = m
      · subst z; exact cl2.2.2 a ha
      · rw [cl2.2.1 _ (by omega), q4 _ (by omega)]
        exact hA i (by omega) a ha
    · conv => whnf
      simp (disch := omega) only [z_lit, nI_add, pk_mul, z_pr1, z_pr2, nI_clamp, z_up_row, z_row_s, z_row_n, z_row_row, pk_us, pk_un]
      refine hK _ _ _ _ _ _ _ _ _ _ (dE10 hQ (fr_t f f2) dd)
theorem cs_open4 (hT : rT I t n) (hn : n ≤ 500) (h2 : I 32 2 = nI n) (hQ : ∀ I', fr [32] I I' → lvC t n kO4 vO4 (I' 32) (tkS t n 0) → Q none I' (z_R0 kp sp (.retAddr 4)) J F cn) :
    z_M (z_X0 L xs) z_P0 (d + 7) m_Reader_open [.ref 32, .retAddr 4] I (z_R0 kp sp wd) J F cn Q := by
  refine z_WP_gos [] 1000 fun K C hK hC => ?_
  conv => whnf
  simp (disch := omega) only [z_lit, nI_add, pk_mul, z_pr1, z_pr2, nI_clamp, z_up_row, z_row_s, z_row_n, z_row_row, pk_us, pk_un]
  rw [z_R0_w]
  have c := tkS_b (t := t) (n := n) (p := 0) (by omega)
  refine hC _ _ _ _ _ _ _ _ _ _ (fun _ _ _ _ _ _ q => q) (cr_step4 (p := 0) (rT_k hT (z_row_n _ _ (by decide))) hn (by rw [z_row_s, pk_un (by decide), pk_un (by decide), pk_un (by decide)]; exact h2) (by rw [z_row_s, pk_us]) (by omega) (fun r hk a9 a8 a6 a7 a72 a73 => ?_))
  conv => whnf
  rw [z_row_row]
  refine hQ (z_row I 32 r) (fr_w fr_r (by decide)) ?_
  rw [z_row_s] at hk ⊢
  have tk := tk4 (t := t) (n := n) (st := tkS t n 0)
  rw [tk.1] at a6 a7 a72 a73
  exact ⟨c.2, (hk 2 (by omega)).trans (by rw [pk_un (by decide), pk_un (by decide), pk_un (by decide)]; exact h2), (hk 3 (by omega)).trans (by rw [pk_un (by decide), pk_un (by decide), pk_us]), (hk 4 (by omega)).trans (by rw [pk_un (by decide), pk_us]; rfl), a9, a8, a6, fun z => (a7 z).trans (by rw [tk.2 (tk.1.trans z)]), a72, a73⟩
theorem cs_readEvents (hT : rT I t n) (hn : n ≤ 500) (h2 : I 32 2 = nI n) (hQ : okQ (peall t n 24 0 g (tkS t n 0)) (fun g' c => ∀ I', fr [32, 34] I I' → evA (I' 34) g' c → rdC (I' 32) (nI 0) (-1) → Q (some (.int (nI c))) I' (z_R0 kp sp (.retAddr 4)) J F cn) (fun c p => ∀ I', fr [32, 34] I I' → rdC (I' 32) (nI c) (nI p) → Q (some (.int (-1))) I' (z_R0 kp sp (.retAddr 4)) J F cn)) :
    z_M (z_X0 L xs) z_P0 (d + 10) m_Reader_readEvents [.ref 32] I (z_R0 kp sp wd) J F cn Q := by
  refine z_WP_gos [10] 1000 fun K C hK hC => ?_
  conv => whnf
  refine hC _ _ _ _ _ _ _ _ _ _ (fun _ _ _ _ _ _ q => q) (cs_open4 hT hn h2 (fun I1 f1 l1 => ?_))
  conv => whnf
  refine hK _ _ _ _ _ _ _ _ _ _ (lp_re (I0 := I) hT hn 24 0 g (tkS t n 0) I1 rfl (fr_m f1 (by decide)) (fun i hi => by omega) l1 hQ)
end
