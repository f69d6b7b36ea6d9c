/-! what a text says: when, the class -/
section
variable {L : Nat} {xs : Nat → Int32} {d : Nat} {kp sp wd : Value} {I I0 : z_I} {s : z_sg} {R : z_R} {J : z_J} {F : z_F} {cn : Nat} {Q : z_Q} {n k m st c p : Nat} {t : Nat → Nat} {g g0 : Nat → Int32}
theorem cs_periodD (h : ddC (I 32) c p) (hQ : Q (some (.int 0)) I (z_R0 kp sp wd) J F cn) : z_M (z_X0 L xs) z_P0 (d + 1) m_Reader_period [.ref 32] I (z_R0 kp sp wd) J F cn Q := by
  refine z_WP_gos [] 1000 fun K C hK hC => ?_
  conv => whnf
  refine hC _ _ _ _ _ _ _ _ _ _ (fun _ _ _ _ _ _ q => q) (cs_numberD h ?_)
  conv => whnf
  repeat ((first | refine And.intro (by (conv => arg 2; whnf); (try simp only [z_lit, nI_add, pk_mul, z_pr1, z_pr2]); exact z_in (by omega) (by decide)) ?_ | refine z_bt1 (by decide) ?_ | refine z_bf1 (by decide) ?_ | refine z_bt2 (by decide) ?_ | refine z_bf2 (by decide) ?_); conv => whnf)
  exact hQ
theorem cs_period (hT : rT I t n) (hn : n ≤ 500) (h : lvC t n kO2 vO2 (I 32) st) (hQ : okQ (if tkM t n st = 2 ∧ pev (tkV t n st) = false then p_bad 2 st else pnum t n m k 1 8 g st) (fun fr' st' => ∀ v I', fr' = upd g (14 * m + k) (nI v) → 1 ≤ v → v ≤ 8 → fr [32] I I' → lvC t n kO2 vO2 (I' 32) st' → Q (some (.int (nI v))) I' (z_R0 kp sp (.retAddr 2)) J F cn) (fun c p => ∀ v I', fr [32] I I' → ddC (I' 32) c p → Q (some (.int v)) I' (z_R0 kp sp (.retAddr 2)) J F cn)) :
    z_M (z_X0 L xs) z_P0 (d + 8) m_Reader_period [.ref 32] I (z_R0 kp sp (.retAddr 2)) J F cn Q := by
  have h8 := h.2.2.2.2.2.1
  have hv := tkV_lt2 hT h.1
  have bits : ∀ v, v ≤ 8 → 1 ≤ v → (nI v &&& (nI v - 1) = 0 ↔ pev v = true) := by decide
  have key : okQ (pnum t n m k 1 8 g st) (fun fr' st' => (fr' = upd g (14 * m + k) (nI (tkV t n st)) ∧ tkM t n st = 2 ∧ (1 ≤ tkV t n st ∧ tkV t n st ≤ 8) ∧ st' = nx t n st)) (fun c p => (tkM t n st = 2 → ¬ (1 ≤ tkV t n st ∧ tkV t n st ≤ 8) ∧ c = 2 ∧ p = st) ∧ okQ (pnum t n m k 1 8 g st) (fun _ _ => False) (fun c' p' => c' = c ∧ p' = p)) := by
    unfold pnum
    by_cases a : tkM t n st = 2
    · rw [if_pos a]
      by_cases b : 1 ≤ tkV t n st ∧ tkV t n st ≤ 8
      · rw [if_pos b]; exact ⟨rfl, a, b, rfl⟩
      · rw [if_neg b]; exact ⟨fun _ => ⟨b, rfl, rfl⟩, rfl, rfl⟩
    · rw [if_neg a]; exact ⟨fun z => absurd z a, rfl, rfl⟩
  refine z_WP_gos [] 1000 fun K C hK hC => ?_
  conv => whnf
  simp (disch := omega) only [z_lit, nI_add, pk_mul, z_pr1, z_pr2, nI_clamp, z_up_row, z_row_s, z_row_n, z_row_row, pk_us, pk_un]
  rw [h8]
  refine hC _ _ _ _ _ _ _ _ _ _ (fun _ _ _ _ _ _ q => q) (cs_number2 (m := m) (k := k) (fr0 := g) (lo := 1) (hi := 8) hT hn (by decide) (by decide) h (okQ_m key (fun fr2 st2 hq v I' e1 v1 v2 ev em f' l' => ?_) (fun c p hq I' f' d' => ?_)))
  · obtain ⟨-, -, -, es⟩ := hq
    subst es
    have bv := bits v v2 v1
    conv => whnf
    refine ⟨fun gg => ?_, fun gg => ?_⟩
    · have pe : pev v = true := bv.mp gg
      have ne : ¬ (tkM t n st = 2 ∧ pev (tkV t n st) = false) := fun z => by rw [← ev, pe] at z; exact absurd z.2 (by decide)
      rw [if_neg ne] at hQ
      unfold pnum at hQ
      rw [if_pos em, if_pos ⟨by omega, by omega⟩] at hQ
      conv => whnf
      exact hQ v I' (by rw [ev]) v1 v2 f' l'
    · have pe : pev v = false := Bool.eq_false_iff.mpr fun z => gg (bv.mpr z)
      rw [if_pos ⟨em, by rw [← ev]; exact pe⟩] at hQ
      conv => whnf
      refine hC _ _ _ _ _ _ _ _ _ _ (fun _ _ _ _ _ _ q => q) (cs_fail (kO := kO2) (vO := vO2) (c := 2) (p := st) l' hn (by decide) (by decide) (fun I2 f2 d2 => ?_))
      conv => whnf
      exact hQ _ I2 (fr_t f' f2) d2
  · have hb : ∀ v, Q (some (.int v)) I' (z_R0 kp sp (.retAddr 2)) J F cn := by
      obtain ⟨y, z⟩ := hq
      by_cases x : tkM t n st = 2 ∧ pev (tkV t n st) = false
      · rw [if_pos x] at hQ
        obtain ⟨-, rfl, rfl⟩ := y x.1
        exact fun v => hQ v I' f' d'
      · rw [if_neg x] at hQ
        generalize pnum t n m k 1 8 g st = P at z hQ
        cases P with
        | inl x =>
          obtain ⟨rfl, rfl⟩ := z
          exact fun v => hQ v I' f' d'
        | inr x => exact z.elim
    conv => whnf
    repeat ((first | refine And.intro (by (conv => arg 2; whnf); (try simp only [z_lit, nI_add, pk_mul, z_pr1, z_pr2]); exact z_in (by omega) (by decide)) ?_ | refine z_bt1 (by decide) ?_ | refine z_bf1 (by decide) ?_ | refine z_bt2 (by decide) ?_ | refine z_bf2 (by decide) ?_); conv => whnf)
    exact hb _
theorem dR89 (hm : m < 24) (hD : ∀ I', fr [32, 34] I0 I' → ddC (I' 32) c p → Q none I' (z_R0 kp sp (.retAddr 2)) J F cn) (f : fr [32, 34] I0 I) (h : ddC (I 32) c p) : z_WP (z_X0 L xs) z_P0 (d + 9) m_Reader_readWhen 89 [some (.ref 32), some (.int (nI (m * 11)))] [] I (z_R0 kp sp (.retAddr 2)) J F cn 0 0 Q := by
  refine z_WP_gos [] 1000 fun K C hK hC => ?_
  conv => whnf
  refine hC _ _ _ _ _ _ _ _ _ _ (fun _ _ _ _ _ _ q => q) (cs_expectD h ?_)
  conv => whnf
  refine hC _ _ _ _ _ _ _ _ _ _ (fun _ _ _ _ _ _ q => q) (cs_numberD h ?_)
  conv => whnf
  repeat ((first | refine And.intro (by (conv => arg 2; whnf); (try simp only [z_lit, nI_add, pk_mul, z_pr1, z_pr2]); exact z_in (by omega) (by decide)) ?_ | refine z_bt1 (by decide) ?_ | refine z_bf1 (by decide) ?_ | refine z_bt2 (by decide) ?_ | refine z_bf2 (by decide) ?_); conv => whnf)
  simp (disch := omega) only [z_lit, nI_add, pk_mul, z_pr1, z_pr2, nI_clamp, z_up_row, z_row_s, z_row_n, z_row_row, pk_us, pk_un]
  have h' : ddC ((z_row I 34 (upd (I 34) (m * 11 + 9) (nI 0))) 32) c p := by rw [z_row_n _ _ (by decide)]; exact h
  refine hC _ _ _ _ _ _ _ _ _ _ (fun _ _ _ _ _ _ q => q) (cs_expectD h' ?_)
  conv => whnf
  exact hD _ (fr_w f (by decide)) h'
theorem dR57 (hm : m < 24) (hD : ∀ I', fr [32, 34] I0 I' → ddC (I' 32) c p → Q none I' (z_R0 kp sp (.retAddr 2)) J F cn) (f : fr [32, 34] I0 I) (h : ddC (I 32) c p) : z_WP (z_X0 L xs) z_P0 (d + 9) m_Reader_readWhen 57 [some (.ref 32), some (.int (nI (m * 11)))] [] I (z_R0 kp sp (.retAddr 2)) J F cn 0 0 Q := by
  refine z_WP_gos [89] 1000 fun K C hK hC => ?_
  conv => whnf
  refine hC _ _ _ _ _ _ _ _ _ _ (fun _ _ _ _ _ _ q => q) (cs_expectD h ?_)
  conv => whnf
  repeat ((first | refine And.intro (by (conv => arg 2; whnf); (try simp only [z_lit, nI_add, pk_mul, z_pr1, z_pr2]); exact z_in (by omega) (by decide)) ?_ | refine z_bt1 (by decide) ?_ | refine z_bf1 (by decide) ?_ | refine z_bt2 (by decide) ?_ | refine z_bf2 (by decide) ?_); conv => whnf)
  refine hC _ _ _ _ _ _ _ _ _ _ (fun _ _ _ _ _ _ q => q) (cs_numberD h ?_)
  conv => whnf
  repeat ((first | refine And.intro (by (conv => arg 2; whnf); (try simp only [z_lit, nI_add, pk_mul, z_pr1, z_pr2]); exact z_in (by omega) (by decide)) ?_ | refine z_bt1 (by decide) ?_ | refine z_bf1 (by decide) ?_ | refine z_bt2 (by decide) ?_ | refine z_bf2 (by decide) ?_); conv => whnf)
  simp (disch := omega) only [z_lit, nI_add, pk_mul, z_pr1, z_pr2, nI_clamp, z_up_row, z_row_s, z_row_n, z_row_row, pk_us, pk_un]
  refine hK _ _ _ _ _ _ _ _ _ _ (dR89 hm hD (fr_w f (by decide)) (by rw [z_row_n _ _ (by decide)]; exact h))
theorem dR20 (hm : m < 24) (hD : ∀ I', fr [32, 34] I0 I' → ddC (I' 32) c p → Q none I' (z_R0 kp sp (.retAddr 2)) J F cn) (f : fr [32, 34] I0 I) (h : ddC (I 32) c p) : z_WP (z_X0 L xs) z_P0 (d + 9) m_Reader_readWhen 20 [some (.ref 32), some (.int (nI (m * 11)))] [] I (z_R0 kp sp (.retAddr 2)) J F cn 0 0 Q := by
  refine z_WP_gos [57, 89] 1000 fun K C hK hC => ?_
  conv => whnf
  refine ⟨fun _ => ?_, fun _ => ?_⟩
  · conv => whnf
    refine hK _ _ _ _ _ _ _ _ _ _ (dR57 hm hD f h)
  conv => whnf
  refine ⟨fun _ => ?_, fun _ => ?_⟩
  · conv => whnf
    refine hK _ _ _ _ _ _ _ _ _ _ (dR57 hm hD f h)
  conv => whnf
  repeat ((first | refine And.intro (by (conv => arg 2; whnf); (try simp only [z_lit, nI_add, pk_mul, z_pr1, z_pr2]); exact z_in (by omega) (by decide)) ?_ | refine z_bt1 (by decide) ?_ | refine z_bf1 (by decide) ?_ | refine z_bt2 (by decide) ?_ | refine z_bf2 (by decide) ?_); conv => whnf)
  simp (disch := omega) only [z_lit, nI_add, pk_mul, z_pr1, z_pr2, nI_clamp, z_up_row, z_row_s, z_row_n, z_row_row, pk_us, pk_un]
  have h' : ddC ((z_row I 34 (upd (I 34) (m * 11 + 8) (nI 1))) 32) c p := by rw [z_row_n _ _ (by decide)]; exact h
  refine hC _ _ _ _ _ _ _ _ _ _ (fun _ _ _ _ _ _ q => q) (cs_expectD h' ?_)
  conv => whnf
  refine hK _ _ _ _ _ _ _ _ _ _ (dR89 hm hD (fr_w f (by decide)) h')
theorem dR7 (hm : m < 24) (hD : ∀ I', fr [32, 34] I0 I' → ddC (I' 32) c p → Q none I' (z_R0 kp sp (.retAddr 2)) J F cn) (f : fr [32, 34] I0 I) (h : ddC (I 32) c p) : z_WP (z_X0 L xs) z_P0 (d + 9) m_Reader_readWhen 7 [some (.ref 32), some (.int (nI (m * 11)))] [] I (z_R0 kp sp (.retAddr 2)) J F cn 0 0 Q := by
  refine z_WP_gos [20] 1000 fun K C hK hC => ?_
  conv => whnf
  refine hC _ _ _ _ _ _ _ _ _ _ (fun _ _ _ _ _ _ q => q) (cs_periodD h ?_)
  conv => whnf
  repeat ((first | refine And.intro (by (conv => arg 2; whnf); (try simp only [z_lit, nI_add, pk_mul, z_pr1, z_pr2]); exact z_in (by omega) (by decide)) ?_ | refine z_bt1 (by decide) ?_ | refine z_bf1 (by decide) ?_ | refine z_bt2 (by decide) ?_ | refine z_bf2 (by decide) ?_); conv => whnf)
  simp (disch := omega) only [z_lit, nI_add, pk_mul, z_pr1, z_pr2, nI_clamp, z_up_row, z_row_s, z_row_n, z_row_row, pk_us, pk_un]
  refine hK _ _ _ _ _ _ _ _ _ _ (dR20 hm hD (fr_w f (by decide)) (by rw [z_row_n _ _ (by decide)]; exact h))
theorem lR89 (hT : rT I0 t n) (hn : n ≤ 500) (hm : m < 24) (hk : k ≤ 5) (cl : cln I0 I m k g) (h : lvC t n kO2 vO2 (I 32) st) (hQ : okQ (pbind (pneed t n 12 g st) fun g st => pbind (pnum t n m 8 0 1 g st) fun g st => pneed t n 13 g st) (fun g' st' => ∀ I', cln I0 I' m k g' → lvC t n kO2 vO2 (I' 32) st' → Q none I' (z_R0 kp sp (.retAddr 2)) J F cn) (fun c p => ∀ I', fr [32, 34] I0 I' → ddC (I' 32) c p → Q none I' (z_R0 kp sp (.retAddr 2)) J F cn)) : z_WP (z_X0 L xs) z_P0 (d + 9) m_Reader_readWhen 89 [some (.ref 32), some (.int (nI (m * 11)))] [] I (z_R0 kp sp (.retAddr 2)) J F cn 0 0 Q := by
  have rt : ∀ {I' : z_I}, fr [32, 34] I0 I' → rT I' t n := fun f => rT_k hT (f 33 (by decide))
  refine z_WP_gos [] 1000 fun K C hK hC => ?_
  conv => whnf
  refine hC _ _ _ _ _ _ _ _ _ _ (fun _ _ _ _ _ _ q => q) (cs_expect2 (a := 1) (b := 9) (q := 12) (rt cl.1) hn (by decide) (by decide) (by decide) (Or.inl rfl) h (okQ_m (okQ_b hQ) (fun g2 st2 hQ I2 e2 f2 h => ?_) (fun c p hQ I2 f2 dd => ?_)))
  conv => whnf
  rotate_left
  · refine hC _ _ _ _ _ _ _ _ _ _ (fun _ _ _ _ _ _ q => q) (cs_numberD dd ?_)
    conv => whnf
    repeat ((first | refine And.intro (by (conv => arg 2; whnf); (try simp only [z_lit, nI_add, pk_mul, z_pr1, z_pr2]); exact z_in (by omega) (by decide)) ?_ | refine z_bt1 (by decide) ?_ | refine z_bf1 (by decide) ?_ | refine z_bt2 (by decide) ?_ | refine z_bf2 (by decide) ?_); conv => whnf)
    simp (disch := omega) only [z_lit, nI_add, pk_mul, z_pr1, z_pr2, nI_clamp, z_up_row, z_row_s, z_row_n, z_row_row, pk_us, pk_un]
    have dd' : ddC ((z_row I2 34 (upd (I2 34) (m * 11 + 9) (nI 0))) 32) c p := by rw [z_row_n _ _ (by decide)]; exact dd
    refine hC _ _ _ _ _ _ _ _ _ _ (fun _ _ _ _ _ _ q => q) (cs_expectD dd' ?_)
    conv => whnf
    exact hQ _ (fr_w (cld_r cl.1 f2) (by decide)) dd'
  replace e2 := e2.symm
  subst e2
  have cl := cln_r cl f2
  refine hC _ _ _ _ _ _ _ _ _ _ (fun _ _ _ _ _ _ q => q) (cs_number2 (m := m) (k := 8) (lo := 0) (hi := 1) (rt cl.1) hn (by decide) (by decide) h (okQ_m (okQ_b hQ) (fun g3 st3 hQ v I3 e1 _ v2 ev em f3 h => ?_) (fun c p hQ I3 f3 dd => ?_)))
  conv => whnf
  rotate_left
  · repeat ((first | refine And.intro (by (conv => arg 2; whnf); (try simp only [z_lit, nI_add, pk_mul, z_pr1, z_pr2]); exact z_in (by omega) (by decide)) ?_ | refine z_bt1 (by decide) ?_ | refine z_bf1 (by decide) ?_ | refine z_bt2 (by decide) ?_ | refine z_bf2 (by decide) ?_); conv => whnf)
    simp (disch := omega) only [z_lit, nI_add, pk_mul, z_pr1, z_pr2, nI_clamp, z_up_row, z_row_s, z_row_n, z_row_row, pk_us, pk_un]
    have dd' : ddC ((z_row I3 34 (upd (I3 34) (m * 11 + 9) (nI 0))) 32) c p := by rw [z_row_n _ _ (by decide)]; exact dd
    refine hC _ _ _ _ _ _ _ _ _ _ (fun _ _ _ _ _ _ q => q) (cs_expectD dd' ?_)
    conv => whnf
    exact hQ _ (fr_w (cld_r cl.1 f3) (by decide)) dd'
  subst e1
  have cl := cln_w (a := 9) (v := nI v) (cln_r cl f3) hk (by decide)
  have h : lvC t n kO2 vO2 ((z_row I3 34 (upd (I3 34) (m * 11 + 9) (nI v))) 32) st3 := by rw [z_row_n _ _ (by decide)]; exact h
  repeat ((first | refine And.intro (by (conv => arg 2; whnf); (try simp only [z_lit, nI_add, pk_mul, z_pr1, z_pr2]); exact z_in (by omega) (by decide)) ?_ | refine z_bt1 (by decide) ?_ | refine z_bf1 (by decide) ?_ | refine z_bt2 (by decide) ?_ | refine z_bf2 (by decide) ?_); conv => whnf)
  simp (disch := omega) only [z_lit, nI_add, pk_mul, z_pr1, z_pr2, nI_clamp, z_up_row, z_row_s, z_row_n, z_row_row, pk_us, pk_un]
  refine hC _ _ _ _ _ _ _ _ _ _ (fun _ _ _ _ _ _ q => q) (cs_expect2 (a := 3) (b := 0) (q := 13) (rt cl.1) hn (by decide) (by decide) (by decide) (Or.inr rfl) h (okQ_m hQ (fun g4 st4 hQ I4 e4 f4 h => ?_) (fun c p hQ I4 f4 dd => ?_)))
  conv => whnf
  · replace e4 := e4.symm
    subst e4
    exact hQ I4 (cln_r cl f4) h
  · exact hQ I4 (cld_r cl.1 f4) dd
theorem cs_readWhen (hT : rT I0 t n) (hn : n ≤ 500) (hm : m < 24) (hk : k ≤ 5) (cl : cln I0 I m k g) (h : lvC t n kO2 vO2 (I 32) st) (hQ : okQ (pbind (pwhen t n m g st) fun g st => pbind (pneed t n 12 g st) fun g st => pbind (pnum t n m 8 0 1 g st) fun g st => pneed t n 13 g st) (fun g' st' => ∀ I', cln I0 I' m k g' → lvC t n kO2 vO2 (I' 32) st' → Q none I' (z_R0 kp sp (.retAddr 2)) J F cn) (fun c p => ∀ I', fr [32, 34] I0 I' → ddC (I' 32) c p → Q none I' (z_R0 kp sp (.retAddr 2)) J F cn)) : z_M (z_X0 L xs) z_P0 (d + 9) m_Reader_readWhen [.ref 32, .int (nI (m * 11))] I (z_R0 kp sp (.retAddr 2)) J F cn Q := by
  have rt : ∀ {I' : z_I}, fr [32, 34] I0 I' → rT I' t n := fun f => rT_k hT (f 33 (by decide))
  have hQ1 := okQ_b hQ
  unfold pwhen at hQ1
  refine z_WP_gos [7] 1000 fun K C hK hC => ?_
  conv => whnf
  refine hC _ _ _ _ _ _ _ _ _ _ (fun _ _ _ _ _ _ q => q) (cs_expect2 (a := 1) (b := 6) (q := 9) (rt cl.1) hn (by decide) (by decide) (by decide) (Or.inl rfl) h (okQ_m (okQ_b hQ1) (fun g2 st2 hQ I2 e2 f2 h => ?_) (fun c p hQ I2 f2 dd => ?_)))
  conv => whnf
  rotate_left
  · refine hK _ _ _ _ _ _ _ _ _ _ (dR7 hm hQ (cld_r cl.1 f2) dd)
  replace e2 := e2.symm
  subst e2
  have cl := cln_r cl f2
  refine hK _ _ _ _ _ _ _ _ _ _ (?_)
  have hQ2 : okQ (if tkM t n st2 = 2 ∧ pev (tkV t n st2) = false then p_bad 2 st2 else pnum t n m 6 1 8 g st2) (fun g3 st3 => okQ (if tkM t n st3 = 11 then p_ok (upd g3 (14 * m + 9) (nI 1)) (nx t n st3) else pbind (pneed t n 10 g3 st3) fun fr st => pnum t n m 7 0 ((fr (14 * m + 6)).toNatClampNeg - 1) fr st) (fun g st => okQ (pbind (pneed t n 12 g st) fun g st => pbind (pnum t n m 8 0 1 g st) fun g st => pneed t n 13 g st) (fun g' st' => ∀ I', cln I0 I' m k g' → lvC t n kO2 vO2 (I' 32) st' → Q none I' (z_R0 kp sp (.retAddr 2)) J F cn) (fun c p => ∀ I', fr [32, 34] I0 I' → ddC (I' 32) c p → Q none I' (z_R0 kp sp (.retAddr 2)) J F cn)) (fun c p => ∀ I', fr [32, 34] I0 I' → ddC (I' 32) c p → Q none I' (z_R0 kp sp (.retAddr 2)) J F cn)) (fun c p => ∀ I', fr [32, 34] I0 I' → ddC (I' 32) c p → Q none I' (z_R0 kp sp (.retAddr 2)) J F cn) := by
    by_cases z : tkM t n st2 = 2 ∧ pev (tkV t n st2) = false
    · rw [if_pos z] at hQ ⊢; exact hQ
    · rw [if_neg z] at hQ ⊢; exact okQ_b hQ
  refine z_WP_gos [57, 89] 1000 fun K C hK hC => ?_
  conv => whnf
  refine hC _ _ _ _ _ _ _ _ _ _ (fun _ _ _ _ _ _ q => q) (cs_period (m := m) (k := 6) (rt cl.1) hn h (okQ_m hQ2 (fun g3 st3 hQ v I3 e1 v1 v2 f3 h => ?_) (fun c p hQ v I3 f3 dd => ?_)))
  conv => whnf
  rotate_left
  · repeat ((first | refine And.intro (by (conv => arg 2; whnf); (try simp only [z_lit, nI_add, pk_mul, z_pr1, z_pr2]); exact z_in (by omega) (by decide)) ?_ | refine z_bt1 (by decide) ?_ | refine z_bf1 (by decide) ?_ | refine z_bt2 (by decide) ?_ | refine z_bf2 (by decide) ?_); conv => whnf)
    simp (disch := omega) only [z_lit, nI_add, pk_mul, z_pr1, z_pr2, nI_clamp, z_up_row, z_row_s, z_row_n, z_row_row, pk_us, pk_un]
    have dd' : ddC ((z_row I3 34 (upd (I3 34) (m * 11 + 6) v)) 32) c p := by rw [z_row_n _ _ (by decide)]; exact dd
    have fd : fr [32, 34] I0 (z_row I3 34 (upd (I3 34) (m * 11 + 6) v)) := fr_w (cld_r cl.1 f3) (by decide)
    refine ⟨fun _ => ?_, fun _ => ?_⟩
    · conv => whnf
      refine hK _ _ _ _ _ _ _ _ _ _ (dR57 hm hQ fd dd')
    conv => whnf
    simp (disch := omega) only [z_lit, nI_add, pk_mul, z_pr1, z_pr2, nI_clamp, z_up_row, z_row_s, z_row_n, z_row_row, pk_us, pk_un]
    refine ⟨fun _ => ?_, fun _ => ?_⟩
    · conv => whnf
      refine hK _ _ _ _ _ _ _ _ _ _ (dR57 hm hQ fd dd')
    conv => whnf
    repeat ((first | refine And.intro (by (conv => arg 2; whnf); (try simp only [z_lit, nI_add, pk_mul, z_pr1, z_pr2]); exact z_in (by omega) (by decide)) ?_ | refine z_bt1 (by decide) ?_ | refine z_bf1 (by decide) ?_ | refine z_bt2 (by decide) ?_ | refine z_bf2 (by decide) ?_); conv => whnf)
    simp (disch := omega) only [z_lit, nI_add, pk_mul, z_pr1, z_pr2, nI_clamp, z_up_row, z_row_s, z_row_n, z_row_row, pk_us, pk_un]
    have dd2 : ddC ((z_row I3 34 (upd (upd (I3 34) (m * 11 + 6) v) (m * 11 + 8) (nI 1))) 32) c p := by rw [z_row_n _ _ (by decide)]; exact dd
    refine hC _ _ _ _ _ _ _ _ _ _ (fun _ _ _ _ _ _ q => q) (cs_expectD dd2 ?_)
    conv => whnf
    refine hK _ _ _ _ _ _ _ _ _ _ (dR89 hm hQ (fr_w (cld_r cl.1 f3) (by decide)) dd2)
  subst e1
  have cl := cln_w (a := 6) (v := nI v) (cln_r cl f3) hk (by decide)
  have h : lvC t n kO2 vO2 ((z_row I3 34 (upd (I3 34) (m * 11 + 6) (nI v))) 32) st3 := by rw [z_row_n _ _ (by decide)]; exact h
  have eg : (upd g (14 * m + 6) (nI v)) (14 * m + 6) = nI v := pk_us
  have hl := tkM_le (t := t) (n := n) (st := st3)
  have h6 := h.2.2.2.2.2.2.1
  have h71 := h.2.2.2.2.2.2.2.1
  rw [z_row_n _ _ (by decide)] at h6 h71
  have k11 : ∀ m, m ≤ 22 → (kO2 m ≤ 4 ∧ vO2 m < 30 ∧ (kO2 m = 1 → (vO2 m = 8 ↔ m = 11)) ∧ (m = 11 → kO2 m = 1)) := by decide
  obtain ⟨ka, kb, kc, kd⟩ := k11 _ hl
  have at57 : ¬ tkM t n st3 = 11 → z_WP (z_X0 L xs) z_P0 (d + 9) m_Reader_readWhen 57 [some (.ref 32), some (.int (nI (m * 11)))] [] (z_row I3 34 (upd (I3 34) (m * 11 + 6) (nI v))) (z_R0 kp sp (.retAddr 2)) J F cn 0 0 Q := by
    intro ne
    rw [if_neg ne] at hQ
    have key : okQ (pneed t n 10 (upd g (14 * m + 6) (nI v)) st3) (fun g4 st4 => okQ (pnum t n m 7 0 (v - 1) g4 st4) (fun g st => okQ (pbind (pneed t n 12 g st) fun g st => pbind (pnum t n m 8 0 1 g st) fun g st => pneed t n 13 g st) (fun g' st' => ∀ I', cln I0 I' m k g' → lvC t n kO2 vO2 (I' 32) st' → Q none I' (z_R0 kp sp (.retAddr 2)) J F cn) (fun c p => ∀ I', fr [32, 34] I0 I' → ddC (I' 32) c p → Q none I' (z_R0 kp sp (.retAddr 2)) J F cn)) (fun c p => ∀ I', fr [32, 34] I0 I' → ddC (I' 32) c p → Q none I' (z_R0 kp sp (.retAddr 2)) J F cn)) (fun c p => ∀ I', fr [32, 34] I0 I' → ddC (I' 32) c p → Q none I' (z_R0 kp sp (.retAddr 2)) J F cn) := by
      have z := okQ_b hQ
      by_cases a : tkM t n st3 = 10
      · rw [show pneed t n 10 (upd g (14 * m + 6) (nI v)) st3 = p_ok (upd g (14 * m + 6) (nI v)) (nx t n st3) from if_pos a] at z ⊢
        have ez : ∀ A B, okQ (p_ok (upd g (14 * m + 6) (nI v)) (nx t n st3)) (fun fr st => okQ (pnum t n m 7 0 ((fr (14 * m + 6)).toNatClampNeg - 1) fr st) A B) B = okQ (pnum t n m 7 0 (((upd g (14 * m + 6) (nI v)) (14 * m + 6)).toNatClampNeg - 1) (upd g (14 * m + 6) (nI v)) (nx t n st3)) A B := fun _ _ => rfl
        rw [ez, eg, nI_clamp (by omega)] at z
        exact z
      · rw [show pneed t n 10 (upd g (14 * m + 6) (nI v)) st3 = p_bad 1 st3 from if_neg a] at z ⊢; exact z
    refine z_WP_gos [89] 1000 fun K C hK hC => ?_
    conv => whnf
    refine hC _ _ _ _ _ _ _ _ _ _ (fun _ _ _ _ _ _ q => q) (cs_expect2 (a := 1) (b := 7) (q := 10) (rt cl.1) hn (by decide) (by decide) (by decide) (Or.inl rfl) h (okQ_m key (fun g4 st4 hQ I4 e4 f4 h => ?_) (fun c p hQ I4 f4 dd => ?_)))
    conv => whnf
    rotate_left
    · repeat ((first | refine And.intro (by (conv => arg 2; whnf); (try simp only [z_lit, nI_add, pk_mul, z_pr1, z_pr2]); exact z_in (by omega) (by decide)) ?_ | refine z_bt1 (by decide) ?_ | refine z_bf1 (by decide) ?_ | refine z_bt2 (by decide) ?_ | refine z_bf2 (by decide) ?_); conv => whnf)
      refine hC _ _ _ _ _ _ _ _ _ _ (fun _ _ _ _ _ _ q => q) (cs_numberD dd ?_)
      conv => whnf
      repeat ((first | refine And.intro (by (conv => arg 2; whnf); (try simp only [z_lit, nI_add, pk_mul, z_pr1, z_pr2]); exact z_in (by omega) (by decide)) ?_ | refine z_bt1 (by decide) ?_ | refine z_bf1 (by decide) ?_ | refine z_bt2 (by decide) ?_ | refine z_bf2 (by decide) ?_); conv => whnf)
      simp (disch := omega) only [z_lit, nI_add, pk_mul, z_pr1, z_pr2, nI_clamp, z_up_row, z_row_s, z_row_n, z_row_row, pk_us, pk_un]
      refine hK _ _ _ _ _ _ _ _ _ _ (dR89 hm hQ (fr_w (cld_r cl.1 f4) (by decide)) (by rw [z_row_n _ _ (by decide)]; exact dd))
    replace e4 := e4.symm
    subst e4
    have cl := cln_r cl f4
    have er := (cl.2.2 6 (by decide)).trans eg
    repeat ((first | refine And.intro (by (conv => arg 2; whnf); (try simp only [z_lit, nI_add, pk_mul, z_pr1, z_pr2]); exact z_in (by omega) (by decide)) ?_ | refine z_bt1 (by decide) ?_ | refine z_bf1 (by decide) ?_ | refine z_bt2 (by decide) ?_ | refine z_bf2 (by decide) ?_); conv => whnf)
    simp (disch := omega) only [z_lit, nI_add, pk_mul, z_pr1, z_pr2, nI_clamp, z_up_row, z_row_s, z_row_n, z_row_row, pk_us, pk_un]
    rw [er, pk_sub v1]
    refine hC _ _ _ _ _ _ _ _ _ _ (fun _ _ _ _ _ _ q => q) (cs_number2 (m := m) (k := 7) (lo := 0) (hi := v - 1) (rt cl.1) hn (by omega) (by decide) h (okQ_m hQ (fun g5 st5 hQ v5 I5 e5 _ v6 ev em f5 h => ?_) (fun c p hQ I5 f5 dd => ?_)))
    conv => whnf
    rotate_left
    · repeat ((first | refine And.intro (by (conv => arg 2; whnf); (try simp only [z_lit, nI_add, pk_mul, z_pr1, z_pr2]); exact z_in (by omega) (by decide)) ?_ | refine z_bt1 (by decide) ?_ | refine z_bf1 (by decide) ?_ | refine z_bt2 (by decide) ?_ | refine z_bf2 (by decide) ?_); conv => whnf)
      simp (disch := omega) only [z_lit, nI_add, pk_mul, z_pr1, z_pr2, nI_clamp, z_up_row, z_row_s, z_row_n, z_row_row, pk_us, pk_un]
      refine hK _ _ _ _ _ _ _ _ _ _ (dR89 hm hQ (fr_w (cld_r cl.1 f5) (by decide)) (by rw [z_row_n _ _ (by decide)]; exact dd))
    subst e5
    have cl := cln_w (a := 7) (v := nI v5) (cln_r cl f5) hk (by decide)
    have h : lvC t n kO2 vO2 ((z_row I5 34 (upd (I5 34) (m * 11 + 7) (nI v5))) 32) st5 := by rw [z_row_n _ _ (by decide)]; exact h
    repeat ((first | refine And.intro (by (conv => arg 2; whnf); (try simp only [z_lit, nI_add, pk_mul, z_pr1, z_pr2]); exact z_in (by omega) (by decide)) ?_ | refine z_bt1 (by decide) ?_ | refine z_bf1 (by decide) ?_ | refine z_bt2 (by decide) ?_ | refine z_bf2 (by decide) ?_); conv => whnf)
    simp (disch := omega) only [z_lit, nI_add, pk_mul, z_pr1, z_pr2, nI_clamp, z_up_row, z_row_s, z_row_n, z_row_row, pk_us, pk_un]
    refine hK _ _ _ _ _ _ _ _ _ _ (lR89 hT hn hm hk cl h hQ)
  repeat ((first | refine And.intro (by (conv => arg 2; whnf); (try simp only [z_lit, nI_add, pk_mul, z_pr1, z_pr2]); exact z_in (by omega) (by decide)) ?_ | refine z_bt1 (by decide) ?_ | refine z_bf1 (by decide) ?_ | refine z_bt2 (by decide) ?_ | refine z_bf2 (by decide) ?_); conv => whnf)
  simp (disch := omega) only [z_lit, nI_add, pk_mul, z_pr1, z_pr2, nI_clamp, z_up_row, z_row_s, z_row_n, z_row_row, pk_us, pk_un]
  rw [h6]
  refine ⟨fun g1 => ?_, fun g1 => ?_⟩
  · conv => whnf
    refine hK _ _ _ _ _ _ _ _ _ _ (at57 (fun z => g1 (by rw [kd z])))
  have e1 : kO2 (tkM t n st3) = 1 := nI_inj9 (b := 1) (by omega) (by omega) g1
  conv => whnf
  simp (disch := omega) only [z_lit, nI_add, pk_mul, z_pr1, z_pr2, nI_clamp, z_up_row, z_row_s, z_row_n, z_row_row, pk_us, pk_un]
  rw [h71 e1]
  refine ⟨fun g2x => ?_, fun g2x => ?_⟩
  · conv => whnf
    refine hK _ _ _ _ _ _ _ _ _ _ (at57 (fun z => g2x (by rw [(kc e1).mpr z])))
  have e11 : tkM t n st3 = 11 := (kc e1).mp (nI_inj9 (b := 8) (by omega) (by omega) g2x)
  rw [if_pos e11] at hQ
  have cl2 := cln_w (a := 8) (v := nI 1) cl hk (by decide)
  rw [z_row_s, z_row_row] at cl2
  have h2 : lvC t n kO2 vO2 ((z_row I3 34 (upd (upd (I3 34) (m * 11 + 6) (nI v)) (m * 11 + 8) (nI 1))) 32) st3 := by rw [z_row_n _ _ (by decide)]; rw [z_row_n _ _ (by decide)] at h; exact h
  have key : okQ (pneed t n 11 (upd (upd g (14 * m + 6) (nI v)) (14 * m + 9) (nI 1)) st3) (fun g st => okQ (pbind (pneed t n 12 g st) fun g st => pbind (pnum t n m 8 0 1 g st) fun g st => pneed t n 13 g st) (fun g' st' => ∀ I', cln I0 I' m k g' → lvC t n kO2 vO2 (I' 32) st' → Q none I' (z_R0 kp sp (.retAddr 2)) J F cn) (fun c p => ∀ I', fr [32, 34] I0 I' → ddC (I' 32) c p → Q none I' (z_R0 kp sp (.retAddr 2)) J F cn)) (fun c p => ∀ I', fr [32, 34] I0 I' → ddC (I' 32) c p → Q none I' (z_R0 kp sp (.retAddr 2)) J F cn) := by
    rw [show pneed t n 11 (upd (upd g (14 * m + 6) (nI v)) (14 * m + 9) (nI 1)) st3 = p_ok (upd (upd g (14 * m + 6) (nI v)) (14 * m + 9) (nI 1)) (nx t n st3) from if_pos e11]; exact hQ
  conv => whnf
  repeat ((first | refine And.intro (by (conv => arg 2; whnf); (try simp only [z_lit, nI_add, pk_mul, z_pr1, z_pr2]); exact z_in (by omega) (by decide)) ?_ | refine z_bt1 (by decide) ?_ | refine z_bf1 (by decide) ?_ | refine z_bt2 (by decide) ?_ | refine z_bf2 (by decide) ?_); conv => whnf)
  simp (disch := omega) only [z_lit, nI_add, pk_mul, z_pr1, z_pr2, nI_clamp, z_up_row, z_row_s, z_row_n, z_row_row, pk_us, pk_un]
  refine hC _ _ _ _ _ _ _ _ _ _ (fun _ _ _ _ _ _ q => q) (cs_expect2 (a := 1) (b := 8) (q := 11) (rt cl2.1) hn (by decide) (by decide) (by decide) (Or.inl rfl) h2 (okQ_m key (fun g4 st4 hQ I4 e4 f4 h => ?_) (fun c p hQ I4 f4 dd => ?_)))
  conv => whnf
  · replace e4 := e4.symm
    subst e4
    refine hK _ _ _ _ _ _ _ _ _ _ (lR89 hT hn hm hk (cln_r cl2 f4) h hQ)
  · refine hK _ _ _ _ _ _ _ _ _ _ (dR89 hm hQ (cld_r cl2.1 f4) dd)
end
