/-! the class's words -/
def rT (I : z_I) (t : Nat → Nat) (n : Nat) : Prop := ∀ k, k < n → I 33 k = nI (t k) ∧ t k < 256
section
variable {L : Nat} {xs : Nat → Int32} {d : Nat} {kp sp wd : Value} {I : z_I} {s : z_sg} {R : z_R} {J : z_J} {F : z_F} {cn : Nat} {Q : z_Q} {n k : Nat} {t : Nat → Nat}
theorem lp_stands2 {fm len st : Nat} {b : Bool} {W : List Nat} (h9 : I 32 9 = nI (st + len)) (h8 : I 32 8 = nI st) (hT : rT I t n) (hn : n ≤ 500) (hle : st + len ≤ n) (hfm : fm + len ≤ 44) (hW : ∀ i, i < len → S2.getD (fm + i) 0 = W.getD i 0) (hQ : Q (some (.int (z_bi b))) I (z_R0 kp sp (.retAddr 2)) J F cn) :
    ∀ j k, k + j = len → b = weq t st W j k → z_WP (z_X0 L xs) z_P0 (d + 4) m_Reader_stands 2 [some (.ref 32), some (.int (nI fm)), some (.int (nI k))] [] I (z_R0 kp sp (.retAddr 2)) J F cn 0 0 Q := by
  have e1 : nI (st + len) - nI st = nI len := by rw [pk_sub (by omega), Nat.add_sub_cancel_left]
  intro j
  induction j with
  | zero =>
    intro k hk e
    subst e
    refine z_WP_gos [2] 1000 fun K C hK hC => ?_
    conv => whnf
    simp (disch := omega) only [z_lit, nI_add, pk_mul, z_pr1, z_pr2, nI_clamp, z_up_row, z_row_s, z_row_n, z_row_row, pk_us, pk_un]
    rw [h9, h8, e1]
    refine ⟨fun _ => ?_, fun h => absurd (nI_le (a := len) (b := k) (by omega) (by omega)) h⟩
    conv => whnf
    exact ⟨Or.inr rfl, hQ⟩
  | succ j ih =>
    intro k hk e
    have ih' := ih (k + 1) (by omega)
    rw [weq_s] at e
    obtain ⟨et, hc⟩ := hT (st + k) (by omega)
    have hs : ∀ i, i < 44 → S2.getD i 0 < 128 := by decide +kernel
    have hsk := hs (fm + k) (by omega)
    have hw := hW k (by omega)
    rw [hw] at hsk
    refine z_WP_gos [2] 1000 fun K C hK hC => ?_
    conv => whnf
    simp (disch := omega) only [z_lit, nI_add, pk_mul, z_pr1, z_pr2, nI_clamp, z_up_row, z_row_s, z_row_n, z_row_row, pk_us, pk_un]
    rw [h9, h8, e1]
    refine ⟨fun h => absurd h (nI_ge (b := len) (by omega) (by omega)), fun _ => ?_⟩
    conv => whnf
    simp (disch := omega) only [z_lit, nI_add, pk_mul, z_pr1, z_pr2, nI_clamp, z_up_row, z_row_s, z_row_n, z_row_row, pk_us, pk_un]
    refine hC _ _ _ _ _ _ _ _ _ _ (fun _ _ _ _ _ _ q => q) (st_chr2 (k := fm + k) (by omega) ?_)
    conv => whnf
    rw [hw]
    simp (disch := omega) only [z_lit, nI_add, pk_mul, z_pr1, z_pr2, nI_clamp, z_up_row, z_row_s, z_row_n, z_row_row, pk_us, pk_un]
    rw [h8]
    repeat ((first | refine And.intro (by (conv => arg 2; whnf); (try simp only [z_lit, nI_add, pk_mul, z_pr1, z_pr2]); exact z_in (by omega) (by decide)) ?_ | refine z_bt1 (by decide) ?_ | refine z_bf1 (by decide) ?_ | refine z_bt2 (by decide) ?_ | refine z_bf2 (by decide) ?_); conv => whnf)
    simp (disch := omega) only [z_lit, nI_add, pk_mul, z_pr1, z_pr2, nI_clamp, z_up_row, z_row_s, z_row_n, z_row_row, pk_us, pk_un]
    rw [et]
    refine ⟨fun g => ?_, fun g => ?_⟩
    · have g' : t (st + k) = W.getD k 0 := (nI_inj9 (by omega) (by omega) g).symm
      rw [decide_eq_true g', Bool.true_and] at e
      conv => whnf
      simp (disch := omega) only [z_lit, nI_add, pk_mul, z_pr1, z_pr2, nI_clamp, z_up_row, z_row_s, z_row_n, z_row_row, pk_us, pk_un]
      refine hK _ _ _ _ _ _ _ _ _ _ (ih' e)
    · have g' : ¬ t (st + k) = W.getD k 0 := fun z => g (by rw [z])
      rw [decide_eq_false g'] at e
      subst e
      conv => whnf
      exact ⟨Or.inl rfl, hQ⟩
theorem cr_stands2 {fm len st : Nat} {W : List Nat} (h9 : I 32 9 = nI (st + len)) (h8 : I 32 8 = nI st) (hT : rT I t n) (hn : n ≤ 500) (hle : st + len ≤ n) (hfm : fm + len ≤ 44) (hW : ∀ i, i < len → S2.getD (fm + i) 0 = W.getD i 0) (hQ : Q (some (.int (z_bi (weq t st W len 0)))) I (z_R0 kp sp (.retAddr 2)) J F cn) :
    z_M (z_X0 L xs) z_P0 (d + 4) m_Reader_stands [.ref 32, .int (nI fm)] I (z_R0 kp sp (.retAddr 2)) J F cn Q := by
  refine z_WP_gos [2] 1000 fun K C hK hC => ?_
  conv => whnf
  refine hK _ _ _ _ _ _ _ _ _ _ (lp_stands2 h9 h8 hT hn hle hfm hW hQ len 0 (by omega) rfl)
theorem lp_skip2 {fm e : Nat} (h6 : I 32 6 = nI 4) (he : e < 44) (hQ : z_WP (z_X0 L xs) z_P0 (d + 5) m_Reader_readWord 48 [some (.ref 32), some (.int (nI fm)), some (.int (nI e))] [] I (z_R0 kp sp (.retAddr 2)) J F cn 0 0 Q) :
    ∀ j k, k + j = e → (∀ i, k ≤ i → i < e → ¬ S2.getD i 0 = 32) → z_WP (z_X0 L xs) z_P0 (d + 5) m_Reader_readWord 48 [some (.ref 32), some (.int (nI fm)), some (.int (nI k))] [] I (z_R0 kp sp (.retAddr 2)) J F cn 0 0 Q := by
  have hs : ∀ i, i < 44 → S2.getD i 0 < 128 := by decide +kernel
  intro j
  induction j with
  | zero =>
    intro k hk h
    obtain rfl : k = e := by omega
    exact hQ
  | succ j ih =>
    intro k hk h
    have ih' := ih (k + 1) (by omega) (fun i a b => h i (by omega) b)
    have hk2 := hs k (by omega)
    have hne := h k (Nat.le_refl _) (by omega)
    refine z_WP_gos [48] 1000 fun K C hK hC => ?_
    conv => whnf
    refine hC _ _ _ _ _ _ _ _ _ _ (fun _ _ _ _ _ _ q => q) (st_len2 ?_)
    conv => whnf
    refine ⟨fun z => absurd z (nI_ge (b := 44) (by omega) (by omega)), fun _ => ?_⟩
    conv => whnf
    simp (disch := omega) only [z_lit, nI_add, pk_mul, z_pr1, z_pr2, nI_clamp, z_up_row, z_row_s, z_row_n, z_row_row, pk_us, pk_un]
    rw [h6]
    refine ⟨fun z => absurd rfl z, fun _ => ?_⟩
    conv => whnf
    refine hC _ _ _ _ _ _ _ _ _ _ (fun _ _ _ _ _ _ q => q) (st_chr2 (k := k) (by omega) ?_)
    conv => whnf
    refine ⟨fun _ => ?_, fun z => absurd (nI_inj9 (b := 32) (by omega) (by omega) z) hne⟩
    conv => whnf
    simp (disch := omega) only [z_lit, nI_add, pk_mul, z_pr1, z_pr2, nI_clamp, z_up_row, z_row_s, z_row_n, z_row_row, pk_us, pk_un]
    refine hK _ _ _ _ _ _ _ _ _ _ (ih')
theorem lp_done2 {fm k : Nat} (h6 : I 32 6 = nI 1) (hk : k ≤ 44) (hQ : Q none I (z_R0 kp sp (.retAddr 2)) J F cn) : z_WP (z_X0 L xs) z_P0 (d + 5) m_Reader_readWord 48 [some (.ref 32), some (.int (nI fm)), some (.int (nI k))] [] I (z_R0 kp sp (.retAddr 2)) J F cn 0 0 Q := by
  refine z_WP_gos [48] 1000 fun K C hK hC => ?_
  conv => whnf
  refine hC _ _ _ _ _ _ _ _ _ _ (fun _ _ _ _ _ _ q => q) (st_len2 ?_)
  conv => whnf
  refine ⟨fun _ => ?_, fun _ => ?_⟩
  · conv => whnf
    exact hQ
  · conv => whnf
    simp (disch := omega) only [z_lit, nI_add, pk_mul, z_pr1, z_pr2, nI_clamp, z_up_row, z_row_s, z_row_n, z_row_row, pk_us, pk_un]
    rw [h6]
    refine ⟨fun _ => ?_, fun z => absurd z (by decide)⟩
    conv => whnf
    exact hQ
theorem lp_end2 {fm : Nat} (hQ : Q none I (z_R0 kp sp (.retAddr 2)) J F cn) : z_WP (z_X0 L xs) z_P0 (d + 5) m_Reader_readWord 48 [some (.ref 32), some (.int (nI fm)), some (.int (nI 44))] [] I (z_R0 kp sp (.retAddr 2)) J F cn 0 0 Q := by
  refine z_WP_gos [48] 1000 fun K C hK hC => ?_
  conv => whnf
  refine hC _ _ _ _ _ _ _ _ _ _ (fun _ _ _ _ _ _ q => q) (st_len2 ?_)
  conv => whnf
  repeat ((first | refine And.intro (by (conv => arg 2; whnf); (try simp only [z_lit, nI_add, pk_mul, z_pr1, z_pr2]); exact z_in (by omega) (by decide)) ?_ | refine z_bt1 (by decide) ?_ | refine z_bf1 (by decide) ?_ | refine z_bt2 (by decide) ?_ | refine z_bf2 (by decide) ?_); conv => whnf)
  exact hQ
/-- a word's end: it stands, or the next one is looked at -/
theorem lp_word2 {fm e v len st : Nat} {W : List Nat} (h6 : I 32 6 = nI 4) (h7 : I 32 7 = nI v) (h9 : I 32 9 = nI (st + len)) (h8 : I 32 8 = nI st) (hT : rT I t n) (hn : n ≤ 500) (hle : st + len ≤ n) (he : e < 44) (hfe : fm + W.length = e) (hb : S2.getD e 0 = 32) (hW : ∀ i, i < W.length → S2.getD (fm + i) 0 = W.getD i 0)
    (h1 : wm t st len W = true → Q none (z_row I 32 (upd (I 32) 6 (nI 1))) (z_R0 kp sp (.retAddr 2)) J F cn)
    (h0 : ¬ wm t st len W = true → z_WP (z_X0 L xs) z_P0 (d + 5) m_Reader_readWord 48 [some (.ref 32), some (.int (nI (e + 1))), some (.int (nI (e + 1)))] [] (z_row I 32 (upd (I 32) 7 (nI (v + 1)))) (z_R0 kp sp (.retAddr 2)) J F cn 0 0 Q) :
    z_WP (z_X0 L xs) z_P0 (d + 5) m_Reader_readWord 48 [some (.ref 32), some (.int (nI fm)), some (.int (nI e))] [] I (z_R0 kp sp (.retAddr 2)) J F cn 0 0 Q := by
  have e1 : nI (st + len) - nI st = nI len := by rw [pk_sub (by omega), Nat.add_sub_cancel_left]
  have e2 : nI e - nI fm = nI W.length := by rw [pk_sub (by omega)]; congr 1; omega
  have no : ¬ wm t st len W = true → z_WP (z_X0 L xs) z_P0 (d + 5) m_Reader_readWord 111 [some (.ref 32), some (.int (nI fm)), some (.int (nI e))] [] I (z_R0 kp sp (.retAddr 2)) J F cn 0 0 Q := by
    intro hw
    have q := h0 hw
    refine z_WP_gos [48] 1000 fun K C hK hC => ?_
    conv => whnf
    simp (disch := omega) only [z_lit, nI_add, pk_mul, z_pr1, z_pr2, nI_clamp, z_up_row, z_row_s, z_row_n, z_row_row, pk_us, pk_un]
    rw [h7]
    simp (disch := omega) only [z_lit, nI_add, pk_mul, z_pr1, z_pr2, nI_clamp, z_up_row, z_row_s, z_row_n, z_row_row, pk_us, pk_un]
    refine hK _ _ _ _ _ _ _ _ _ _ (q)
  refine z_WP_gos [48, 111] 1000 fun K C hK hC => ?_
  conv => whnf
  refine hC _ _ _ _ _ _ _ _ _ _ (fun _ _ _ _ _ _ q => q) (st_len2 ?_)
  conv => whnf
  refine ⟨fun z => absurd z (nI_ge (b := 44) (by omega) (by omega)), fun _ => ?_⟩
  conv => whnf
  simp (disch := omega) only [z_lit, nI_add, pk_mul, z_pr1, z_pr2, nI_clamp, z_up_row, z_row_s, z_row_n, z_row_row, pk_us, pk_un]
  rw [h6]
  refine ⟨fun z => absurd rfl z, fun _ => ?_⟩
  conv => whnf
  refine hC _ _ _ _ _ _ _ _ _ _ (fun _ _ _ _ _ _ q => q) (st_chr2 (k := e) (by omega) ?_)
  conv => whnf
  rw [hb]
  refine ⟨fun z => absurd rfl z, fun _ => ?_⟩
  conv => whnf
  simp (disch := omega) only [z_lit, nI_add, pk_mul, z_pr1, z_pr2, nI_clamp, z_up_row, z_row_s, z_row_n, z_row_row, pk_us, pk_un]
  rw [h9, h8, e1, e2]
  refine ⟨fun g => ?_, fun g => ?_⟩
  · conv => whnf
    refine hK _ _ _ _ _ _ _ _ _ _ (no (fun z => g ?_))
    unfold wm at z
    simp only [Bool.and_eq_true, decide_eq_true_eq] at z
    rw [z.1]
  · have g' : W.length = len := nI_inj9 (by omega) (by omega) g
    conv => whnf
    refine hC _ _ _ _ _ _ _ _ _ _ (fun _ _ _ _ _ _ q => q) (cr_stands2 (len := len) (W := W) h9 h8 hT hn hle (by omega) (fun i hi => hW i (by omega)) ?_)
    conv => whnf
    have ew : wm t st len W = weq t st W len 0 := by
      unfold wm; rw [g', decide_eq_true rfl, Bool.true_and]
    by_cases c : weq t st W len 0 = true
    · rw [c]
      have q := h1 (ew.trans c)
      refine ⟨fun z => absurd z (by decide), fun _ => ?_⟩
      conv => whnf
      simp (disch := omega) only [z_lit, nI_add, pk_mul, z_pr1, z_pr2, nI_clamp, z_up_row, z_row_s, z_row_n, z_row_row, pk_us, pk_un]
      refine hK _ _ _ _ _ _ _ _ _ _ (lp_done2 (by rw [z_row_s, pk_us]) (by omega) q)
    · rw [Bool.eq_false_iff.mpr c]
      refine ⟨fun _ => ?_, fun z => absurd rfl z⟩
      conv => whnf
      refine hK _ _ _ _ _ _ _ _ _ _ (no (fun z => c (ew.symm.trans z)))
def cW2 (t : Nat → Nat) (st len : Nat) : Nat × Nat := if wm t st len S6 = true then (1, 0) else if wm t st len S8 = true then (1, 1) else if wm t st len S10 = true then (1, 2) else if wm t st len S12 = true then (1, 3) else if wm t st len S14 = true then (1, 4) else if wm t st len S16 = true then (1, 5) else if wm t st len S18 = true then (1, 6) else if wm t st len S20 = true then (1, 7) else if wm t st len S22 = true then (1, 8) else if wm t st len S24 = true then (1, 9) else (4, 10)
theorem lp_words2 {len st : Nat} (h6 : I 32 6 = nI 4) (h7 : I 32 7 = nI 0) (h9 : I 32 9 = nI (st + len)) (h8 : I 32 8 = nI st) (hT : rT I t n) (hn : n ≤ 500) (hle : st + len ≤ n)
    (hQ : ∀ r : Nat → Int32, (∀ j, j ≠ 6 → j ≠ 7 → r j = I 32 j) → r 6 = nI (cW2 t st len).1 → r 7 = nI (cW2 t st len).2 → Q none (z_row I 32 r) (z_R0 kp sp (.retAddr 2)) J F cn) :
    z_WP (z_X0 L xs) z_P0 (d + 5) m_Reader_readWord 48 [some (.ref 32), some (.int (nI 0)), some (.int (nI 0))] [] I (z_R0 kp sp (.retAddr 2)) J F cn 0 0 Q := by
  have gen : ∀ r : Nat → Int32, (∀ j, j ≠ 6 → j ≠ 7 → r j = I 32 j) → rT (z_row I 32 r) t n ∧ (z_row I 32 r) 32 9 = nI (st + len) ∧ (z_row I 32 r) 32 8 = nI st := fun r hr => ⟨fun k hk => by rw [z_row_n _ _ (by decide)]; exact hT k hk, by rw [z_row_s, hr 9 (by decide) (by decide)]; exact h9, by rw [z_row_s, hr 8 (by decide) (by decide)]; exact h8⟩
  unfold cW2 at hQ
  have go10 : ∀ (c0 : ¬ wm t st len S6 = true) (c1 : ¬ wm t st len S8 = true) (c2 : ¬ wm t st len S10 = true) (c3 : ¬ wm t st len S12 = true) (c4 : ¬ wm t st len S14 = true) (c5 : ¬ wm t st len S16 = true) (c6 : ¬ wm t st len S18 = true) (c7 : ¬ wm t st len S20 = true) (c8 : ¬ wm t st len S22 = true) (c9 : ¬ wm t st len S24 = true), ∀ r : Nat → Int32, (∀ j, j ≠ 6 → j ≠ 7 → r j = I 32 j) → r 6 = nI 4 → r 7 = nI 10 → z_WP (z_X0 L xs) z_P0 (d + 5) m_Reader_readWord 48 [some (.ref 32), some (.int (nI 44)), some (.int (nI 44))] [] (z_row I 32 r) (z_R0 kp sp (.retAddr 2)) J F cn 0 0 Q := by
    intro c0 c1 c2 c3 c4 c5 c6 c7 c8 c9 r hr r6 r7
    obtain ⟨hT', h9', h8'⟩ := gen r hr
    rw [if_neg c0, if_neg c1, if_neg c2, if_neg c3, if_neg c4, if_neg c5, if_neg c6, if_neg c7, if_neg c8, if_neg c9] at hQ
    exact lp_end2 (hQ r hr r6 r7)
  have go9 : ∀ (c0 : ¬ wm t st len S6 = true) (c1 : ¬ wm t st len S8 = true) (c2 : ¬ wm t st len S10 = true) (c3 : ¬ wm t st len S12 = true) (c4 : ¬ wm t st len S14 = true) (c5 : ¬ wm t st len S16 = true) (c6 : ¬ wm t st len S18 = true) (c7 : ¬ wm t st len S20 = true) (c8 : ¬ wm t st len S22 = true), ∀ r : Nat → Int32, (∀ j, j ≠ 6 → j ≠ 7 → r j = I 32 j) → r 6 = nI 4 → r 7 = nI 9 → z_WP (z_X0 L xs) z_P0 (d + 5) m_Reader_readWord 48 [some (.ref 32), some (.int (nI 41)), some (.int (nI 41))] [] (z_row I 32 r) (z_R0 kp sp (.retAddr 2)) J F cn 0 0 Q := by
    intro c0 c1 c2 c3 c4 c5 c6 c7 c8 r hr r6 r7
    obtain ⟨hT', h9', h8'⟩ := gen r hr
    have s6 : (z_row I 32 r) 32 6 = nI 4 := by rw [z_row_s]; exact r6
    have s7 : (z_row I 32 r) 32 7 = nI 9 := by rw [z_row_s]; exact r7
    refine lp_skip2 (e := 43) s6 (by decide) (lp_word2 (W := S24) s6 s7 h9' h8' hT' hn hle (by decide) rfl rfl (by decide) (fun c => ?_) (fun c => ?_)) 2 41 rfl (fun i a b => (by decide : ∀ i, i < 43 → 41 ≤ i → ¬ S2.getD i 0 = 32) i b a)
    · rw [if_neg c0, if_neg c1, if_neg c2, if_neg c3, if_neg c4, if_neg c5, if_neg c6, if_neg c7, if_neg c8, if_pos c] at hQ
      rw [z_row_s, z_row_row]
      exact hQ _ (fun j a b => by rw [pk_un a]; exact hr j a b) pk_us (by rw [pk_un (by decide)]; exact r7)
    · rw [z_row_s, z_row_row]
      exact go10 c0 c1 c2 c3 c4 c5 c6 c7 c8 c _ (fun j a b => by rw [pk_un b]; exact hr j a b) (by rw [pk_un (by decide)]; exact r6) pk_us
  have go8 : ∀ (c0 : ¬ wm t st len S6 = true) (c1 : ¬ wm t st len S8 = true) (c2 : ¬ wm t st len S10 = true) (c3 : ¬ wm t st len S12 = true) (c4 : ¬ wm t st len S14 = true) (c5 : ¬ wm t st len S16 = true) (c6 : ¬ wm t st len S18 = true) (c7 : ¬ wm t st len S20 = true), ∀ r : Nat → Int32, (∀ j, j ≠ 6 → j ≠ 7 → r j = I 32 j) → r 6 = nI 4 → r 7 = nI 8 → z_WP (z_X0 L xs) z_P0 (d + 5) m_Reader_readWord 48 [some (.ref 32), some (.int (nI 37)), some (.int (nI 37))] [] (z_row I 32 r) (z_R0 kp sp (.retAddr 2)) J F cn 0 0 Q := by
    intro c0 c1 c2 c3 c4 c5 c6 c7 r hr r6 r7
    obtain ⟨hT', h9', h8'⟩ := gen r hr
    have s6 : (z_row I 32 r) 32 6 = nI 4 := by rw [z_row_s]; exact r6
    have s7 : (z_row I 32 r) 32 7 = nI 8 := by rw [z_row_s]; exact r7
    refine lp_skip2 (e := 40) s6 (by decide) (lp_word2 (W := S22) s6 s7 h9' h8' hT' hn hle (by decide) rfl rfl (by decide) (fun c => ?_) (fun c => ?_)) 3 37 rfl (fun i a b => (by decide : ∀ i, i < 40 → 37 ≤ i → ¬ S2.getD i 0 = 32) i b a)
    · rw [if_neg c0, if_neg c1, if_neg c2, if_neg c3, if_neg c4, if_neg c5, if_neg c6, if_neg c7, if_pos c] at hQ
      rw [z_row_s, z_row_row]
      exact hQ _ (fun j a b => by rw [pk_un a]; exact hr j a b) pk_us (by rw [pk_un (by decide)]; exact r7)
    · rw [z_row_s, z_row_row]
      exact go9 c0 c1 c2 c3 c4 c5 c6 c7 c _ (fun j a b => by rw [pk_un b]; exact hr j a b) (by rw [pk_un (by decide)]; exact r6) pk_us
  have go7 : ∀ (c0 : ¬ wm t st len S6 = true) (c1 : ¬ wm t st len S8 = true) (c2 : ¬ wm t st len S10 = true) (c3 : ¬ wm t st len S12 = true) (c4 : ¬ wm t st len S14 = true) (c5 : ¬ wm t st len S16 = true) (c6 : ¬ wm t st len S18 = true), ∀ r : Nat → Int32, (∀ j, j ≠ 6 → j ≠ 7 → r j = I 32 j) → r 6 = nI 4 → r 7 = nI 7 → z_WP (z_X0 L xs) z_P0 (d + 5) m_Reader_readWord 48 [some (.ref 32), some (.int (nI 34)), some (.int (nI 34))] [] (z_row I 32 r) (z_R0 kp sp (.retAddr 2)) J F cn 0 0 Q := by
    intro c0 c1 c2 c3 c4 c5 c6 r hr r6 r7
    obtain ⟨hT', h9', h8'⟩ := gen r hr
    have s6 : (z_row I 32 r) 32 6 = nI 4 := by rw [z_row_s]; exact r6
    have s7 : (z_row I 32 r) 32 7 = nI 7 := by rw [z_row_s]; exact r7
    refine lp_skip2 (e := 36) s6 (by decide) (lp_word2 (W := S20) s6 s7 h9' h8' hT' hn hle (by decide) rfl rfl (by decide) (fun c => ?_) (fun c => ?_)) 2 34 rfl (fun i a b => (by decide : ∀ i, i < 36 → 34 ≤ i → ¬ S2.getD i 0 = 32) i b a)
    · rw [if_neg c0, if_neg c1, if_neg c2, if_neg c3, if_neg c4, if_neg c5, if_neg c6, if_pos c] at hQ
      rw [z_row_s, z_row_row]
      exact hQ _ (fun j a b => by rw [pk_un a]; exact hr j a b) pk_us (by rw [pk_un (by decide)]; exact r7)
    · rw [z_row_s, z_row_row]
      exact go8 c0 c1 c2 c3 c4 c5 c6 c _ (fun j a b => by rw [pk_un b]; exact hr j a b) (by rw [pk_un (by decide)]; exact r6) pk_us
  have go6 : ∀ (c0 : ¬ wm t st len S6 = true) (c1 : ¬ wm t st len S8 = true) (c2 : ¬ wm t st len S10 = true) (c3 : ¬ wm t st len S12 = true) (c4 : ¬ wm t st len S14 = true) (c5 : ¬ wm t st len S16 = true), ∀ r : Nat → Int32, (∀ j, j ≠ 6 → j ≠ 7 → r j = I 32 j) → r 6 = nI 4 → r 7 = nI 6 → z_WP (z_X0 L xs) z_P0 (d + 5) m_Reader_readWord 48 [some (.ref 32), some (.int (nI 28)), some (.int (nI 28))] [] (z_row I 32 r) (z_R0 kp sp (.retAddr 2)) J F cn 0 0 Q := by
    intro c0 c1 c2 c3 c4 c5 r hr r6 r7
    obtain ⟨hT', h9', h8'⟩ := gen r hr
    have s6 : (z_row I 32 r) 32 6 = nI 4 := by rw [z_row_s]; exact r6
    have s7 : (z_row I 32 r) 32 7 = nI 6 := by rw [z_row_s]; exact r7
    refine lp_skip2 (e := 33) s6 (by decide) (lp_word2 (W := S18) s6 s7 h9' h8' hT' hn hle (by decide) rfl rfl (by decide) (fun c => ?_) (fun c => ?_)) 5 28 rfl (fun i a b => (by decide : ∀ i, i < 33 → 28 ≤ i → ¬ S2.getD i 0 = 32) i b a)
    · rw [if_neg c0, if_neg c1, if_neg c2, if_neg c3, if_neg c4, if_neg c5, if_pos c] at hQ
      rw [z_row_s, z_row_row]
      exact hQ _ (fun j a b => by rw [pk_un a]; exact hr j a b) pk_us (by rw [pk_un (by decide)]; exact r7)
    · rw [z_row_s, z_row_row]
      exact go7 c0 c1 c2 c3 c4 c5 c _ (fun j a b => by rw [pk_un b]; exact hr j a b) (by rw [pk_un (by decide)]; exact r6) pk_us
  have go5 : ∀ (c0 : ¬ wm t st len S6 = true) (c1 : ¬ wm t st len S8 = true) (c2 : ¬ wm t st len S10 = true) (c3 : ¬ wm t st len S12 = true) (c4 : ¬ wm t st len S14 = true), ∀ r : Nat → Int32, (∀ j, j ≠ 6 → j ≠ 7 → r j = I 32 j) → r 6 = nI 4 → r 7 = nI 5 → z_WP (z_X0 L xs) z_P0 (d + 5) m_Reader_readWord 48 [some (.ref 32), some (.int (nI 23)), some (.int (nI 23))] [] (z_row I 32 r) (z_R0 kp sp (.retAddr 2)) J F cn 0 0 Q := by
    intro c0 c1 c2 c3 c4 r hr r6 r7
    obtain ⟨hT', h9', h8'⟩ := gen r hr
    have s6 : (z_row I 32 r) 32 6 = nI 4 := by rw [z_row_s]; exact r6
    have s7 : (z_row I 32 r) 32 7 = nI 5 := by rw [z_row_s]; exact r7
    refine lp_skip2 (e := 27) s6 (by decide) (lp_word2 (W := S16) s6 s7 h9' h8' hT' hn hle (by decide) rfl rfl (by decide) (fun c => ?_) (fun c => ?_)) 4 23 rfl (fun i a b => (by decide : ∀ i, i < 27 → 23 ≤ i → ¬ S2.getD i 0 = 32) i b a)
    · rw [if_neg c0, if_neg c1, if_neg c2, if_neg c3, if_neg c4, if_pos c] at hQ
      rw [z_row_s, z_row_row]
      exact hQ _ (fun j a b => by rw [pk_un a]; exact hr j a b) pk_us (by rw [pk_un (by decide)]; exact r7)
    · rw [z_row_s, z_row_row]
      exact go6 c0 c1 c2 c3 c4 c _ (fun j a b => by rw [pk_un b]; exact hr j a b) (by rw [pk_un (by decide)]; exact r6) pk_us
  have go4 : ∀ (c0 : ¬ wm t st len S6 = true) (c1 : ¬ wm t st len S8 = true) (c2 : ¬ wm t st len S10 = true) (c3 : ¬ wm t st len S12 = true), ∀ r : Nat → Int32, (∀ j, j ≠ 6 → j ≠ 7 → r j = I 32 j) → r 6 = nI 4 → r 7 = nI 4 → z_WP (z_X0 L xs) z_P0 (d + 5) m_Reader_readWord 48 [some (.ref 32), some (.int (nI 18)), some (.int (nI 18))] [] (z_row I 32 r) (z_R0 kp sp (.retAddr 2)) J F cn 0 0 Q := by
    intro c0 c1 c2 c3 r hr r6 r7
    obtain ⟨hT', h9', h8'⟩ := gen r hr
    have s6 : (z_row I 32 r) 32 6 = nI 4 := by rw [z_row_s]; exact r6
    have s7 : (z_row I 32 r) 32 7 = nI 4 := by rw [z_row_s]; exact r7
    refine lp_skip2 (e := 22) s6 (by decide) (lp_word2 (W := S14) s6 s7 h9' h8' hT' hn hle (by decide) rfl rfl (by decide) (fun c => ?_) (fun c => ?_)) 4 18 rfl (fun i a b => (by decide : ∀ i, i < 22 → 18 ≤ i → ¬ S2.getD i 0 = 32) i b a)
    · rw [if_neg c0, if_neg c1, if_neg c2, if_neg c3, if_pos c] at hQ
      rw [z_row_s, z_row_row]
      exact hQ _ (fun j a b => by rw [pk_un a]; exact hr j a b) pk_us (by rw [pk_un (by decide)]; exact r7)
    · rw [z_row_s, z_row_row]
      exact go5 c0 c1 c2 c3 c _ (fun j a b => by rw [pk_un b]; exact hr j a b) (by rw [pk_un (by decide)]; exact r6) pk_us
  have go3 : ∀ (c0 : ¬ wm t st len S6 = true) (c1 : ¬ wm t st len S8 = true) (c2 : ¬ wm t st len S10 = true), ∀ r : Nat → Int32, (∀ j, j ≠ 6 → j ≠ 7 → r j = I 32 j) → r 6 = nI 4 → r 7 = nI 3 → z_WP (z_X0 L xs) z_P0 (d + 5) m_Reader_readWord 48 [some (.ref 32), some (.int (nI 14)), some (.int (nI 14))] [] (z_row I 32 r) (z_R0 kp sp (.retAddr 2)) J F cn 0 0 Q := by
    intro c0 c1 c2 r hr r6 r7
    obtain ⟨hT', h9', h8'⟩ := gen r hr
    have s6 : (z_row I 32 r) 32 6 = nI 4 := by rw [z_row_s]; exact r6
    have s7 : (z_row I 32 r) 32 7 = nI 3 := by rw [z_row_s]; exact r7
    refine lp_skip2 (e := 17) s6 (by decide) (lp_word2 (W := S12) s6 s7 h9' h8' hT' hn hle (by decide) rfl rfl (by decide) (fun c => ?_) (fun c => ?_)) 3 14 rfl (fun i a b => (by decide : ∀ i, i < 17 → 14 ≤ i → ¬ S2.getD i 0 = 32) i b a)
    · rw [if_neg c0, if_neg c1, if_neg c2, if_pos c] at hQ
      rw [z_row_s, z_row_row]
      exact hQ _ (fun j a b => by rw [pk_un a]; exact hr j a b) pk_us (by rw [pk_un (by decide)]; exact r7)
    · rw [z_row_s, z_row_row]
      exact go4 c0 c1 c2 c _ (fun j a b => by rw [pk_un b]; exact hr j a b) (by rw [pk_un (by decide)]; exact r6) pk_us
  have go2 : ∀ (c0 : ¬ wm t st len S6 = true) (c1 : ¬ wm t st len S8 = true), ∀ r : Nat → Int32, (∀ j, j ≠ 6 → j ≠ 7 → r j = I 32 j) → r 6 = nI 4 → r 7 = nI 2 → z_WP (z_X0 L xs) z_P0 (d + 5) m_Reader_readWord 48 [some (.ref 32), some (.int (nI 9)), some (.int (nI 9))] [] (z_row I 32 r) (z_R0 kp sp (.retAddr 2)) J F cn 0 0 Q := by
    intro c0 c1 r hr r6 r7
    obtain ⟨hT', h9', h8'⟩ := gen r hr
    have s6 : (z_row I 32 r) 32 6 = nI 4 := by rw [z_row_s]; exact r6
    have s7 : (z_row I 32 r) 32 7 = nI 2 := by rw [z_row_s]; exact r7
    refine lp_skip2 (e := 13) s6 (by decide) (lp_word2 (W := S10) s6 s7 h9' h8' hT' hn hle (by decide) rfl rfl (by decide) (fun c => ?_) (fun c => ?_)) 4 9 rfl (fun i a b => (by decide : ∀ i, i < 13 → 9 ≤ i → ¬ S2.getD i 0 = 32) i b a)
    · rw [if_neg c0, if_neg c1, if_pos c] at hQ
      rw [z_row_s, z_row_row]
      exact hQ _ (fun j a b => by rw [pk_un a]; exact hr j a b) pk_us (by rw [pk_un (by decide)]; exact r7)
    · rw [z_row_s, z_row_row]
      exact go3 c0 c1 c _ (fun j a b => by rw [pk_un b]; exact hr j a b) (by rw [pk_un (by decide)]; exact r6) pk_us
  have go1 : ∀ (c0 : ¬ wm t st len S6 = true), ∀ r : Nat → Int32, (∀ j, j ≠ 6 → j ≠ 7 → r j = I 32 j) → r 6 = nI 4 → r 7 = nI 1 → z_WP (z_X0 L xs) z_P0 (d + 5) m_Reader_readWord 48 [some (.ref 32), some (.int (nI 5)), some (.int (nI 5))] [] (z_row I 32 r) (z_R0 kp sp (.retAddr 2)) J F cn 0 0 Q := by
    intro c0 r hr r6 r7
    obtain ⟨hT', h9', h8'⟩ := gen r hr
    have s6 : (z_row I 32 r) 32 6 = nI 4 := by rw [z_row_s]; exact r6
    have s7 : (z_row I 32 r) 32 7 = nI 1 := by rw [z_row_s]; exact r7
    refine lp_skip2 (e := 8) s6 (by decide) (lp_word2 (W := S8) s6 s7 h9' h8' hT' hn hle (by decide) rfl rfl (by decide) (fun c => ?_) (fun c => ?_)) 3 5 rfl (fun i a b => (by decide : ∀ i, i < 8 → 5 ≤ i → ¬ S2.getD i 0 = 32) i b a)
    · rw [if_neg c0, if_pos c] at hQ
      rw [z_row_s, z_row_row]
      exact hQ _ (fun j a b => by rw [pk_un a]; exact hr j a b) pk_us (by rw [pk_un (by decide)]; exact r7)
    · rw [z_row_s, z_row_row]
      exact go2 c0 c _ (fun j a b => by rw [pk_un b]; exact hr j a b) (by rw [pk_un (by decide)]; exact r6) pk_us
  have go0 : ∀ r : Nat → Int32, (∀ j, j ≠ 6 → j ≠ 7 → r j = I 32 j) → r 6 = nI 4 → r 7 = nI 0 → z_WP (z_X0 L xs) z_P0 (d + 5) m_Reader_readWord 48 [some (.ref 32), some (.int (nI 0)), some (.int (nI 0))] [] (z_row I 32 r) (z_R0 kp sp (.retAddr 2)) J F cn 0 0 Q := by
    intro  r hr r6 r7
    obtain ⟨hT', h9', h8'⟩ := gen r hr
    have s6 : (z_row I 32 r) 32 6 = nI 4 := by rw [z_row_s]; exact r6
    have s7 : (z_row I 32 r) 32 7 = nI 0 := by rw [z_row_s]; exact r7
    refine lp_skip2 (e := 4) s6 (by decide) (lp_word2 (W := S6) s6 s7 h9' h8' hT' hn hle (by decide) rfl rfl (by decide) (fun c => ?_) (fun c => ?_)) 4 0 rfl (fun i a b => (by decide : ∀ i, i < 4 → 0 ≤ i → ¬ S2.getD i 0 = 32) i b a)
    · rw [if_pos c] at hQ
      rw [z_row_s, z_row_row]
      exact hQ _ (fun j a b => by rw [pk_un a]; exact hr j a b) pk_us (by rw [pk_un (by decide)]; exact r7)
    · rw [z_row_s, z_row_row]
      exact go1  c _ (fun j a b => by rw [pk_un b]; exact hr j a b) (by rw [pk_un (by decide)]; exact r6) pk_us
  have q := go0 (I 32) (fun _ _ _ => rfl) h6 h7
  rw [z_row_id] at q
  exact q
theorem lp_stands4 {fm len st : Nat} {b : Bool} {W : List Nat} (h9 : I 32 9 = nI (st + len)) (h8 : I 32 8 = nI st) (hT : rT I t n) (hn : n ≤ 500) (hle : st + len ≤ n) (hfm : fm + len ≤ 59) (hW : ∀ i, i < len → S4.getD (fm + i) 0 = W.getD i 0) (hQ : Q (some (.int (z_bi b))) I (z_R0 kp sp (.retAddr 4)) J F cn) :
    ∀ j k, k + j = len → b = weq t st W j k → z_WP (z_X0 L xs) z_P0 (d + 4) m_Reader_stands 2 [some (.ref 32), some (.int (nI fm)), some (.int (nI k))] [] I (z_R0 kp sp (.retAddr 4)) J F cn 0 0 Q := by
  have e1 : nI (st + len) - nI st = nI len := by rw [pk_sub (by omega), Nat.add_sub_cancel_left]
  intro j
  induction j with
  | zero =>
    intro k hk e
    subst e
    refine z_WP_gos [2] 1000 fun K C hK hC => ?_
    conv => whnf
    simp (disch := omega) only [z_lit, nI_add, pk_mul, z_pr1, z_pr2, nI_clamp, z_up_row, z_row_s, z_row_n, z_row_row, pk_us, pk_un]
    rw [h9, h8, e1]
    refine ⟨fun _ => ?_, fun h => absurd (nI_le (a := len) (b := k) (by omega) (by omega)) h⟩
    conv => whnf
    exact ⟨Or.inr rfl, hQ⟩
  | succ j ih =>
    intro k hk e
    have ih' := ih (k + 1) (by omega)
    rw [weq_s] at e
    obtain ⟨et, hc⟩ := hT (st + k) (by omega)
    have hs : ∀ i, i < 59 → S4.getD i 0 < 128 := by decide +kernel
    have hsk := hs (fm + k) (by omega)
    have hw := hW k (by omega)
    rw [hw] at hsk
    refine z_WP_gos [2] 1000 fun K C hK hC => ?_
    conv => whnf
    simp (disch := omega) only [z_lit, nI_add, pk_mul, z_pr1, z_pr2, nI_clamp, z_up_row, z_row_s, z_row_n, z_row_row, pk_us, pk_un]
    rw [h9, h8, e1]
    refine ⟨fun h => absurd h (nI_ge (b := len) (by omega) (by omega)), fun _ => ?_⟩
    conv => whnf
    simp (disch := omega) only [z_lit, nI_add, pk_mul, z_pr1, z_pr2, nI_clamp, z_up_row, z_row_s, z_row_n, z_row_row, pk_us, pk_un]
    refine hC _ _ _ _ _ _ _ _ _ _ (fun _ _ _ _ _ _ q => q) (st_chr4 (k := fm + k) (by omega) ?_)
    conv => whnf
    rw [hw]
    simp (disch := omega) only [z_lit, nI_add, pk_mul, z_pr1, z_pr2, nI_clamp, z_up_row, z_row_s, z_row_n, z_row_row, pk_us, pk_un]
    rw [h8]
    repeat ((first | refine And.intro (by (conv => arg 2; whnf); (try simp only [z_lit, nI_add, pk_mul, z_pr1, z_pr2]); exact z_in (by omega) (by decide)) ?_ | refine z_bt1 (by decide) ?_ | refine z_bf1 (by decide) ?_ | refine z_bt2 (by decide) ?_ | refine z_bf2 (by decide) ?_); conv => whnf)
    simp (disch := omega) only [z_lit, nI_add, pk_mul, z_pr1, z_pr2, nI_clamp, z_up_row, z_row_s, z_row_n, z_row_row, pk_us, pk_un]
    rw [et]
    refine ⟨fun g => ?_, fun g => ?_⟩
    · have g' : t (st + k) = W.getD k 0 := (nI_inj9 (by omega) (by omega) g).symm
      rw [decide_eq_true g', Bool.true_and] at e
      conv => whnf
      simp (disch := omega) only [z_lit, nI_add, pk_mul, z_pr1, z_pr2, nI_clamp, z_up_row, z_row_s, z_row_n, z_row_row, pk_us, pk_un]
      refine hK _ _ _ _ _ _ _ _ _ _ (ih' e)
    · have g' : ¬ t (st + k) = W.getD k 0 := fun z => g (by rw [z])
      rw [decide_eq_false g'] at e
      subst e
      conv => whnf
      exact ⟨Or.inl rfl, hQ⟩
theorem cr_stands4 {fm len st : Nat} {W : List Nat} (h9 : I 32 9 = nI (st + len)) (h8 : I 32 8 = nI st) (hT : rT I t n) (hn : n ≤ 500) (hle : st + len ≤ n) (hfm : fm + len ≤ 59) (hW : ∀ i, i < len → S4.getD (fm + i) 0 = W.getD i 0) (hQ : Q (some (.int (z_bi (weq t st W len 0)))) I (z_R0 kp sp (.retAddr 4)) J F cn) :
    z_M (z_X0 L xs) z_P0 (d + 4) m_Reader_stands [.ref 32, .int (nI fm)] I (z_R0 kp sp (.retAddr 4)) J F cn Q := by
  refine z_WP_gos [2] 1000 fun K C hK hC => ?_
  conv => whnf
  refine hK _ _ _ _ _ _ _ _ _ _ (lp_stands4 h9 h8 hT hn hle hfm hW hQ len 0 (by omega) rfl)
theorem lp_skip4 {fm e : Nat} (h6 : I 32 6 = nI 4) (he : e < 59) (hQ : z_WP (z_X0 L xs) z_P0 (d + 5) m_Reader_readWord 48 [some (.ref 32), some (.int (nI fm)), some (.int (nI e))] [] I (z_R0 kp sp (.retAddr 4)) J F cn 0 0 Q) :
    ∀ j k, k + j = e → (∀ i, k ≤ i → i < e → ¬ S4.getD i 0 = 32) → z_WP (z_X0 L xs) z_P0 (d + 5) m_Reader_readWord 48 [some (.ref 32), some (.int (nI fm)), some (.int (nI k))] [] I (z_R0 kp sp (.retAddr 4)) J F cn 0 0 Q := by
  have hs : ∀ i, i < 59 → S4.getD i 0 < 128 := by decide +kernel
  intro j
  induction j with
  | zero =>
    intro k hk h
    obtain rfl : k = e := by omega
    exact hQ
  | succ j ih =>
    intro k hk h
    have ih' := ih (k + 1) (by omega) (fun i a b => h i (by omega) b)
    have hk2 := hs k (by omega)
    have hne := h k (Nat.le_refl _) (by omega)
    refine z_WP_gos [48] 1000 fun K C hK hC => ?_
    conv => whnf
    refine hC _ _ _ _ _ _ _ _ _ _ (fun _ _ _ _ _ _ q => q) (st_len4 ?_)
    conv => whnf
    refine ⟨fun z => absurd z (nI_ge (b := 59) (by omega) (by omega)), fun _ => ?_⟩
    conv => whnf
    simp (disch := omega) only [z_lit, nI_add, pk_mul, z_pr1, z_pr2, nI_clamp, z_up_row, z_row_s, z_row_n, z_row_row, pk_us, pk_un]
    rw [h6]
    refine ⟨fun z => absurd rfl z, fun _ => ?_⟩
    conv => whnf
    refine hC _ _ _ _ _ _ _ _ _ _ (fun _ _ _ _ _ _ q => q) (st_chr4 (k := k) (by omega) ?_)
    conv => whnf
    refine ⟨fun _ => ?_, fun z => absurd (nI_inj9 (b := 32) (by omega) (by omega) z) hne⟩
    conv => whnf
    simp (disch := omega) only [z_lit, nI_add, pk_mul, z_pr1, z_pr2, nI_clamp, z_up_row, z_row_s, z_row_n, z_row_row, pk_us, pk_un]
    refine hK _ _ _ _ _ _ _ _ _ _ (ih')
theorem lp_done4 {fm k : Nat} (h6 : I 32 6 = nI 1) (hk : k ≤ 59) (hQ : Q none I (z_R0 kp sp (.retAddr 4)) J F cn) : z_WP (z_X0 L xs) z_P0 (d + 5) m_Reader_readWord 48 [some (.ref 32), some (.int (nI fm)), some (.int (nI k))] [] I (z_R0 kp sp (.retAddr 4)) J F cn 0 0 Q := by
  refine z_WP_gos [48] 1000 fun K C hK hC => ?_
  conv => whnf
  refine hC _ _ _ _ _ _ _ _ _ _ (fun _ _ _ _ _ _ q => q) (st_len4 ?_)
  conv => whnf
  refine ⟨fun _ => ?_, fun _ => ?_⟩
  · conv => whnf
    exact hQ
  · conv => whnf
    simp (disch := omega) only [z_lit, nI_add, pk_mul, z_pr1, z_pr2, nI_clamp, z_up_row, z_row_s, z_row_n, z_row_row, pk_us, pk_un]
    rw [h6]
    refine ⟨fun _ => ?_, fun z => absurd z (by decide)⟩
    conv => whnf
    exact hQ
theorem lp_end4 {fm : Nat} (hQ : Q none I (z_R0 kp sp (.retAddr 4)) J F cn) : z_WP (z_X0 L xs) z_P0 (d + 5) m_Reader_readWord 48 [some (.ref 32), some (.int (nI fm)), some (.int (nI 59))] [] I (z_R0 kp sp (.retAddr 4)) J F cn 0 0 Q := by
  refine z_WP_gos [48] 1000 fun K C hK hC => ?_
  conv => whnf
  refine hC _ _ _ _ _ _ _ _ _ _ (fun _ _ _ _ _ _ q => q) (st_len4 ?_)
  conv => whnf
  repeat ((first | refine And.intro (by (conv => arg 2; whnf); (try simp only [z_lit, nI_add, pk_mul, z_pr1, z_pr2]); exact z_in (by omega) (by decide)) ?_ | refine z_bt1 (by decide) ?_ | refine z_bf1 (by decide) ?_ | refine z_bt2 (by decide) ?_ | refine z_bf2 (by decide) ?_); conv => whnf)
  exact hQ
/-- a word's end: it stands, or the next one is looked at -/
theorem lp_word4 {fm e v len st : Nat} {W : List Nat} (h6 : I 32 6 = nI 4) (h7 : I 32 7 = nI v) (h9 : I 32 9 = nI (st + len)) (h8 : I 32 8 = nI st) (hT : rT I t n) (hn : n ≤ 500) (hle : st + len ≤ n) (he : e < 59) (hfe : fm + W.length = e) (hb : S4.getD e 0 = 32) (hW : ∀ i, i < W.length → S4.getD (fm + i) 0 = W.getD i 0)
    (h1 : wm t st len W = true → Q none (z_row I 32 (upd (I 32) 6 (nI 1))) (z_R0 kp sp (.retAddr 4)) J F cn)
    (h0 : ¬ wm t st len W = true → z_WP (z_X0 L xs) z_P0 (d + 5) m_Reader_readWord 48 [some (.ref 32), some (.int (nI (e + 1))), some (.int (nI (e + 1)))] [] (z_row I 32 (upd (I 32) 7 (nI (v + 1)))) (z_R0 kp sp (.retAddr 4)) J F cn 0 0 Q) :
    z_WP (z_X0 L xs) z_P0 (d + 5) m_Reader_readWord 48 [some (.ref 32), some (.int (nI fm)), some (.int (nI e))] [] I (z_R0 kp sp (.retAddr 4)) J F cn 0 0 Q := by
  have e1 : nI (st + len) - nI st = nI len := by rw [pk_sub (by omega), Nat.add_sub_cancel_left]
  have e2 : nI e - nI fm = nI W.length := by rw [pk_sub (by omega)]; congr 1; omega
  have no : ¬ wm t st len W = true → z_WP (z_X0 L xs) z_P0 (d + 5) m_Reader_readWord 111 [some (.ref 32), some (.int (nI fm)), some (.int (nI e))] [] I (z_R0 kp sp (.retAddr 4)) J F cn 0 0 Q := by
    intro hw
    have q := h0 hw
    refine z_WP_gos [48] 1000 fun K C hK hC => ?_
    conv => whnf
    simp (disch := omega) only [z_lit, nI_add, pk_mul, z_pr1, z_pr2, nI_clamp, z_up_row, z_row_s, z_row_n, z_row_row, pk_us, pk_un]
    rw [h7]
    simp (disch := omega) only [z_lit, nI_add, pk_mul, z_pr1, z_pr2, nI_clamp, z_up_row, z_row_s, z_row_n, z_row_row, pk_us, pk_un]
    refine hK _ _ _ _ _ _ _ _ _ _ (q)
  refine z_WP_gos [48, 111] 1000 fun K C hK hC => ?_
  conv => whnf
  refine hC _ _ _ _ _ _ _ _ _ _ (fun _ _ _ _ _ _ q => q) (st_len4 ?_)
  conv => whnf
  refine ⟨fun z => absurd z (nI_ge (b := 59) (by omega) (by omega)), fun _ => ?_⟩
  conv => whnf
  simp (disch := omega) only [z_lit, nI_add, pk_mul, z_pr1, z_pr2, nI_clamp, z_up_row, z_row_s, z_row_n, z_row_row, pk_us, pk_un]
  rw [h6]
  refine ⟨fun z => absurd rfl z, fun _ => ?_⟩
  conv => whnf
  refine hC _ _ _ _ _ _ _ _ _ _ (fun _ _ _ _ _ _ q => q) (st_chr4 (k := e) (by omega) ?_)
  conv => whnf
  rw [hb]
  refine ⟨fun z => absurd rfl z, fun _ => ?_⟩
  conv => whnf
  simp (disch := omega) only [z_lit, nI_add, pk_mul, z_pr1, z_pr2, nI_clamp, z_up_row, z_row_s, z_row_n, z_row_row, pk_us, pk_un]
  rw [h9, h8, e1, e2]
  refine ⟨fun g => ?_, fun g => ?_⟩
  · conv => whnf
    refine hK _ _ _ _ _ _ _ _ _ _ (no (fun z => g ?_))
    unfold wm at z
    simp only [Bool.and_eq_true, decide_eq_true_eq] at z
    rw [z.1]
  · have g' : W.length = len := nI_inj9 (by omega) (by omega) g
    conv => whnf
    refine hC _ _ _ _ _ _ _ _ _ _ (fun _ _ _ _ _ _ q => q) (cr_stands4 (len := len) (W := W) h9 h8 hT hn hle (by omega) (fun i hi => hW i (by omega)) ?_)
    conv => whnf
    have ew : wm t st len W = weq t st W len 0 := by
      unfold wm; rw [g', decide_eq_true rfl, Bool.true_and]
    by_cases c : weq t st W len 0 = true
    · rw [c]
      have q := h1 (ew.trans c)
      refine ⟨fun z => absurd z (by decide), fun _ => ?_⟩
      conv => whnf
      simp (disch := omega) only [z_lit, nI_add, pk_mul, z_pr1, z_pr2, nI_clamp, z_up_row, z_row_s, z_row_n, z_row_row, pk_us, pk_un]
      refine hK _ _ _ _ _ _ _ _ _ _ (lp_done4 (by rw [z_row_s, pk_us]) (by omega) q)
    · rw [Bool.eq_false_iff.mpr c]
      refine ⟨fun _ => ?_, fun z => absurd rfl z⟩
      conv => whnf
      refine hK _ _ _ _ _ _ _ _ _ _ (no (fun z => c (ew.symm.trans z)))
def cW4 (t : Nat → Nat) (st len : Nat) : Nat × Nat := if wm t st len S26 = true then (1, 0) else if wm t st len S28 = true then (1, 1) else if wm t st len S30 = true then (1, 2) else if wm t st len S32 = true then (1, 3) else if wm t st len S34 = true then (1, 4) else if wm t st len S36 = true then (1, 5) else if wm t st len S38 = true then (1, 6) else if wm t st len S40 = true then (1, 7) else if wm t st len S42 = true then (1, 8) else if wm t st len S20 = true then (1, 9) else (4, 10)
theorem lp_words4 {len st : Nat} (h6 : I 32 6 = nI 4) (h7 : I 32 7 = nI 0) (h9 : I 32 9 = nI (st + len)) (h8 : I 32 8 = nI st) (hT : rT I t n) (hn : n ≤ 500) (hle : st + len ≤ n)
    (hQ : ∀ r : Nat → Int32, (∀ j, j ≠ 6 → j ≠ 7 → r j = I 32 j) → r 6 = nI (cW4 t st len).1 → r 7 = nI (cW4 t st len).2 → Q none (z_row I 32 r) (z_R0 kp sp (.retAddr 4)) J F cn) :
    z_WP (z_X0 L xs) z_P0 (d + 5) m_Reader_readWord 48 [some (.ref 32), some (.int (nI 0)), some (.int (nI 0))] [] I (z_R0 kp sp (.retAddr 4)) J F cn 0 0 Q := by
  have gen : ∀ r : Nat → Int32, (∀ j, j ≠ 6 → j ≠ 7 → r j = I 32 j) → rT (z_row I 32 r) t n ∧ (z_row I 32 r) 32 9 = nI (st + len) ∧ (z_row I 32 r) 32 8 = nI st := fun r hr => ⟨fun k hk => by rw [z_row_n _ _ (by decide)]; exact hT k hk, by rw [z_row_s, hr 9 (by decide) (by decide)]; exact h9, by rw [z_row_s, hr 8 (by decide) (by decide)]; exact h8⟩
  unfold cW4 at hQ
  have go10 : ∀ (c0 : ¬ wm t st len S26 = true) (c1 : ¬ wm t st len S28 = true) (c2 : ¬ wm t st len S30 = true) (c3 : ¬ wm t st len S32 = true) (c4 : ¬ wm t st len S34 = true) (c5 : ¬ wm t st len S36 = true) (c6 : ¬ wm t st len S38 = true) (c7 : ¬ wm t st len S40 = true) (c8 : ¬ wm t st len S42 = true) (c9 : ¬ wm t st len S20 = true), ∀ r : Nat → Int32, (∀ j, j ≠ 6 → j ≠ 7 → r j = I 32 j) → r 6 = nI 4 → r 7 = nI 10 → z_WP (z_X0 L xs) z_P0 (d + 5) m_Reader_readWord 48 [some (.ref 32), some (.int (nI 59)), some (.int (nI 59))] [] (z_row I 32 r) (z_R0 kp sp (.retAddr 4)) J F cn 0 0 Q := by
    intro c0 c1 c2 c3 c4 c5 c6 c7 c8 c9 r hr r6 r7
    obtain ⟨hT', h9', h8'⟩ := gen r hr
    rw [if_neg c0, if_neg c1, if_neg c2, if_neg c3, if_neg c4, if_neg c5, if_neg c6, if_neg c7, if_neg c8, if_neg c9] at hQ
    exact lp_end4 (hQ r hr r6 r7)
  have go9 : ∀ (c0 : ¬ wm t st len S26 = true) (c1 : ¬ wm t st len S28 = true) (c2 : ¬ wm t st len S30 = true) (c3 : ¬ wm t st len S32 = true) (c4 : ¬ wm t st len S34 = true) (c5 : ¬ wm t st len S36 = true) (c6 : ¬ wm t st len S38 = true) (c7 : ¬ wm t st len S40 = true) (c8 : ¬ wm t st len S42 = true), ∀ r : Nat → Int32, (∀ j, j ≠ 6 → j ≠ 7 → r j = I 32 j) → r 6 = nI 4 → r 7 = nI 9 → z_WP (z_X0 L xs) z_P0 (d + 5) m_Reader_readWord 48 [some (.ref 32), some (.int (nI 56)), some (.int (nI 56))] [] (z_row I 32 r) (z_R0 kp sp (.retAddr 4)) J F cn 0 0 Q := by
    intro c0 c1 c2 c3 c4 c5 c6 c7 c8 r hr r6 r7
    obtain ⟨hT', h9', h8'⟩ := gen r hr
    have s6 : (z_row I 32 r) 32 6 = nI 4 := by rw [z_row_s]; exact r6
    have s7 : (z_row I 32 r) 32 7 = nI 9 := by rw [z_row_s]; exact r7
    refine lp_skip4 (e := 58) s6 (by decide) (lp_word4 (W := S20) s6 s7 h9' h8' hT' hn hle (by decide) rfl rfl (by decide) (fun c => ?_) (fun c => ?_)) 2 56 rfl (fun i a b => (by decide : ∀ i, i < 58 → 56 ≤ i → ¬ S4.getD i 0 = 32) i b a)
    · rw [if_neg c0, if_neg c1, if_neg c2, if_neg c3, if_neg c4, if_neg c5, if_neg c6, if_neg c7, if_neg c8, if_pos c] at hQ
      rw [z_row_s, z_row_row]
      exact hQ _ (fun j a b => by rw [pk_un a]; exact hr j a b) pk_us (by rw [pk_un (by decide)]; exact r7)
    · rw [z_row_s, z_row_row]
      exact go10 c0 c1 c2 c3 c4 c5 c6 c7 c8 c _ (fun j a b => by rw [pk_un b]; exact hr j a b) (by rw [pk_un (by decide)]; exact r6) pk_us
  have go8 : ∀ (c0 : ¬ wm t st len S26 = true) (c1 : ¬ wm t st len S28 = true) (c2 : ¬ wm t st len S30 = true) (c3 : ¬ wm t st len S32 = true) (c4 : ¬ wm t st len S34 = true) (c5 : ¬ wm t st len S36 = true) (c6 : ¬ wm t st len S38 = true) (c7 : ¬ wm t st len S40 = true), ∀ r : Nat → Int32, (∀ j, j ≠ 6 → j ≠ 7 → r j = I 32 j) → r 6 = nI 4 → r 7 = nI 8 → z_WP (z_X0 L xs) z_P0 (d + 5) m_Reader_readWord 48 [some (.ref 32), some (.int (nI 50)), some (.int (nI 50))] [] (z_row I 32 r) (z_R0 kp sp (.retAddr 4)) J F cn 0 0 Q := by
    intro c0 c1 c2 c3 c4 c5 c6 c7 r hr r6 r7
    obtain ⟨hT', h9', h8'⟩ := gen r hr
    have s6 : (z_row I 32 r) 32 6 = nI 4 := by rw [z_row_s]; exact r6
    have s7 : (z_row I 32 r) 32 7 = nI 8 := by rw [z_row_s]; exact r7
    refine lp_skip4 (e := 55) s6 (by decide) (lp_word4 (W := S42) s6 s7 h9' h8' hT' hn hle (by decide) rfl rfl (by decide) (fun c => ?_) (fun c => ?_)) 5 50 rfl (fun i a b => (by decide : ∀ i, i < 55 → 50 ≤ i → ¬ S4.getD i 0 = 32) i b a)
    · rw [if_neg c0, if_neg c1, if_neg c2, if_neg c3, if_neg c4, if_neg c5, if_neg c6, if_neg c7, if_pos c] at hQ
      rw [z_row_s, z_row_row]
      exact hQ _ (fun j a b => by rw [pk_un a]; exact hr j a b) pk_us (by rw [pk_un (by decide)]; exact r7)
    · rw [z_row_s, z_row_row]
      exact go9 c0 c1 c2 c3 c4 c5 c6 c7 c _ (fun j a b => by rw [pk_un b]; exact hr j a b) (by rw [pk_un (by decide)]; exact r6) pk_us
  have go7 : ∀ (c0 : ¬ wm t st len S26 = true) (c1 : ¬ wm t st len S28 = true) (c2 : ¬ wm t st len S30 = true) (c3 : ¬ wm t st len S32 = true) (c4 : ¬ wm t st len S34 = true) (c5 : ¬ wm t st len S36 = true) (c6 : ¬ wm t st len S38 = true), ∀ r : Nat → Int32, (∀ j, j ≠ 6 → j ≠ 7 → r j = I 32 j) → r 6 = nI 4 → r 7 = nI 7 → z_WP (z_X0 L xs) z_P0 (d + 5) m_Reader_readWord 48 [some (.ref 32), some (.int (nI 43)), some (.int (nI 43))] [] (z_row I 32 r) (z_R0 kp sp (.retAddr 4)) J F cn 0 0 Q := by
    intro c0 c1 c2 c3 c4 c5 c6 r hr r6 r7
    obtain ⟨hT', h9', h8'⟩ := gen r hr
    have s6 : (z_row I 32 r) 32 6 = nI 4 := by rw [z_row_s]; exact r6
    have s7 : (z_row I 32 r) 32 7 = nI 7 := by rw [z_row_s]; exact r7
    refine lp_skip4 (e := 49) s6 (by decide) (lp_word4 (W := S40) s6 s7 h9' h8' hT' hn hle (by decide) rfl rfl (by decide) (fun c => ?_) (fun c => ?_)) 6 43 rfl (fun i a b => (by decide : ∀ i, i < 49 → 43 ≤ i → ¬ S4.getD i 0 = 32) i b a)
    · rw [if_neg c0, if_neg c1, if_neg c2, if_neg c3, if_neg c4, if_neg c5, if_neg c6, if_pos c] at hQ
      rw [z_row_s, z_row_row]
      exact hQ _ (fun j a b => by rw [pk_un a]; exact hr j a b) pk_us (by rw [pk_un (by decide)]; exact r7)
    · rw [z_row_s, z_row_row]
      exact go8 c0 c1 c2 c3 c4 c5 c6 c _ (fun j a b => by rw [pk_un b]; exact hr j a b) (by rw [pk_un (by decide)]; exact r6) pk_us
  have go6 : ∀ (c0 : ¬ wm t st len S26 = true) (c1 : ¬ wm t st len S28 = true) (c2 : ¬ wm t st len S30 = true) (c3 : ¬ wm t st len S32 = true) (c4 : ¬ wm t st len S34 = true) (c5 : ¬ wm t st len S36 = true), ∀ r : Nat → Int32, (∀ j, j ≠ 6 → j ≠ 7 → r j = I 32 j) → r 6 = nI 4 → r 7 = nI 6 → z_WP (z_X0 L xs) z_P0 (d + 5) m_Reader_readWord 48 [some (.ref 32), some (.int (nI 38)), some (.int (nI 38))] [] (z_row I 32 r) (z_R0 kp sp (.retAddr 4)) J F cn 0 0 Q := by
    intro c0 c1 c2 c3 c4 c5 r hr r6 r7
    obtain ⟨hT', h9', h8'⟩ := gen r hr
    have s6 : (z_row I 32 r) 32 6 = nI 4 := by rw [z_row_s]; exact r6
    have s7 : (z_row I 32 r) 32 7 = nI 6 := by rw [z_row_s]; exact r7
    refine lp_skip4 (e := 42) s6 (by decide) (lp_word4 (W := S38) s6 s7 h9' h8' hT' hn hle (by decide) rfl rfl (by decide) (fun c => ?_) (fun c => ?_)) 4 38 rfl (fun i a b => (by decide : ∀ i, i < 42 → 38 ≤ i → ¬ S4.getD i 0 = 32) i b a)
    · rw [if_neg c0, if_neg c1, if_neg c2, if_neg c3, if_neg c4, if_neg c5, if_pos c] at hQ
      rw [z_row_s, z_row_row]
      exact hQ _ (fun j a b => by rw [pk_un a]; exact hr j a b) pk_us (by rw [pk_un (by decide)]; exact r7)
    · rw [z_row_s, z_row_row]
      exact go7 c0 c1 c2 c3 c4 c5 c _ (fun j a b => by rw [pk_un b]; exact hr j a b) (by rw [pk_un (by decide)]; exact r6) pk_us
  have go5 : ∀ (c0 : ¬ wm t st len S26 = true) (c1 : ¬ wm t st len S28 = true) (c2 : ¬ wm t st len S30 = true) (c3 : ¬ wm t st len S32 = true) (c4 : ¬ wm t st len S34 = true), ∀ r : Nat → Int32, (∀ j, j ≠ 6 → j ≠ 7 → r j = I 32 j) → r 6 = nI 4 → r 7 = nI 5 → z_WP (z_X0 L xs) z_P0 (d + 5) m_Reader_readWord 48 [some (.ref 32), some (.int (nI 31)), some (.int (nI 31))] [] (z_row I 32 r) (z_R0 kp sp (.retAddr 4)) J F cn 0 0 Q := by
    intro c0 c1 c2 c3 c4 r hr r6 r7
    obtain ⟨hT', h9', h8'⟩ := gen r hr
    have s6 : (z_row I 32 r) 32 6 = nI 4 := by rw [z_row_s]; exact r6
    have s7 : (z_row I 32 r) 32 7 = nI 5 := by rw [z_row_s]; exact r7
    refine lp_skip4 (e := 37) s6 (by decide) (lp_word4 (W := S36) s6 s7 h9' h8' hT' hn hle (by decide) rfl rfl (by decide) (fun c => ?_) (fun c => ?_)) 6 31 rfl (fun i a b => (by decide : ∀ i, i < 37 → 31 ≤ i → ¬ S4.getD i 0 = 32) i b a)
    · rw [if_neg c0, if_neg c1, if_neg c2, if_neg c3, if_neg c4, if_pos c] at hQ
      rw [z_row_s, z_row_row]
      exact hQ _ (fun j a b => by rw [pk_un a]; exact hr j a b) pk_us (by rw [pk_un (by decide)]; exact r7)
    · rw [z_row_s, z_row_row]
      exact go6 c0 c1 c2 c3 c4 c _ (fun j a b => by rw [pk_un b]; exact hr j a b) (by rw [pk_un (by decide)]; exact r6) pk_us
  have go4 : ∀ (c0 : ¬ wm t st len S26 = true) (c1 : ¬ wm t st len S28 = true) (c2 : ¬ wm t st len S30 = true) (c3 : ¬ wm t st len S32 = true), ∀ r : Nat → Int32, (∀ j, j ≠ 6 → j ≠ 7 → r j = I 32 j) → r 6 = nI 4 → r 7 = nI 4 → z_WP (z_X0 L xs) z_P0 (d + 5) m_Reader_readWord 48 [some (.ref 32), some (.int (nI 26)), some (.int (nI 26))] [] (z_row I 32 r) (z_R0 kp sp (.retAddr 4)) J F cn 0 0 Q := by
    intro c0 c1 c2 c3 r hr r6 r7
    obtain ⟨hT', h9', h8'⟩ := gen r hr
    have s6 : (z_row I 32 r) 32 6 = nI 4 := by rw [z_row_s]; exact r6
    have s7 : (z_row I 32 r) 32 7 = nI 4 := by rw [z_row_s]; exact r7
    refine lp_skip4 (e := 30) s6 (by decide) (lp_word4 (W := S34) s6 s7 h9' h8' hT' hn hle (by decide) rfl rfl (by decide) (fun c => ?_) (fun c => ?_)) 4 26 rfl (fun i a b => (by decide : ∀ i, i < 30 → 26 ≤ i → ¬ S4.getD i 0 = 32) i b a)
    · rw [if_neg c0, if_neg c1, if_neg c2, if_neg c3, if_pos c] at hQ
      rw [z_row_s, z_row_row]
      exact hQ _ (fun j a b => by rw [pk_un a]; exact hr j a b) pk_us (by rw [pk_un (by decide)]; exact r7)
    · rw [z_row_s, z_row_row]
      exact go5 c0 c1 c2 c3 c _ (fun j a b => by rw [pk_un b]; exact hr j a b) (by rw [pk_un (by decide)]; exact r6) pk_us
  have go3 : ∀ (c0 : ¬ wm t st len S26 = true) (c1 : ¬ wm t st len S28 = true) (c2 : ¬ wm t st len S30 = true), ∀ r : Nat → Int32, (∀ j, j ≠ 6 → j ≠ 7 → r j = I 32 j) → r 6 = nI 4 → r 7 = nI 3 → z_WP (z_X0 L xs) z_P0 (d + 5) m_Reader_readWord 48 [some (.ref 32), some (.int (nI 19)), some (.int (nI 19))] [] (z_row I 32 r) (z_R0 kp sp (.retAddr 4)) J F cn 0 0 Q := by
    intro c0 c1 c2 r hr r6 r7
    obtain ⟨hT', h9', h8'⟩ := gen r hr
    have s6 : (z_row I 32 r) 32 6 = nI 4 := by rw [z_row_s]; exact r6
    have s7 : (z_row I 32 r) 32 7 = nI 3 := by rw [z_row_s]; exact r7
    refine lp_skip4 (e := 25) s6 (by decide) (lp_word4 (W := S32) s6 s7 h9' h8' hT' hn hle (by decide) rfl rfl (by decide) (fun c => ?_) (fun c => ?_)) 6 19 rfl (fun i a b => (by decide : ∀ i, i < 25 → 19 ≤ i → ¬ S4.getD i 0 = 32) i b a)
    · rw [if_neg c0, if_neg c1, if_neg c2, if_pos c] at hQ
      rw [z_row_s, z_row_row]
      exact hQ _ (fun j a b => by rw [pk_un a]; exact hr j a b) pk_us (by rw [pk_un (by decide)]; exact r7)
    · rw [z_row_s, z_row_row]
      exact go4 c0 c1 c2 c _ (fun j a b => by rw [pk_un b]; exact hr j a b) (by rw [pk_un (by decide)]; exact r6) pk_us
  have go2 : ∀ (c0 : ¬ wm t st len S26 = true) (c1 : ¬ wm t st len S28 = true), ∀ r : Nat → Int32, (∀ j, j ≠ 6 → j ≠ 7 → r j = I 32 j) → r 6 = nI 4 → r 7 = nI 2 → z_WP (z_X0 L xs) z_P0 (d + 5) m_Reader_readWord 48 [some (.ref 32), some (.int (nI 11)), some (.int (nI 11))] [] (z_row I 32 r) (z_R0 kp sp (.retAddr 4)) J F cn 0 0 Q := by
    intro c0 c1 r hr r6 r7
    obtain ⟨hT', h9', h8'⟩ := gen r hr
    have s6 : (z_row I 32 r) 32 6 = nI 4 := by rw [z_row_s]; exact r6
    have s7 : (z_row I 32 r) 32 7 = nI 2 := by rw [z_row_s]; exact r7
    refine lp_skip4 (e := 18) s6 (by decide) (lp_word4 (W := S30) s6 s7 h9' h8' hT' hn hle (by decide) rfl rfl (by decide) (fun c => ?_) (fun c => ?_)) 7 11 rfl (fun i a b => (by decide : ∀ i, i < 18 → 11 ≤ i → ¬ S4.getD i 0 = 32) i b a)
    · rw [if_neg c0, if_neg c1, if_pos c] at hQ
      rw [z_row_s, z_row_row]
      exact hQ _ (fun j a b => by rw [pk_un a]; exact hr j a b) pk_us (by rw [pk_un (by decide)]; exact r7)
    · rw [z_row_s, z_row_row]
      exact go3 c0 c1 c _ (fun j a b => by rw [pk_un b]; exact hr j a b) (by rw [pk_un (by decide)]; exact r6) pk_us
  have go1 : ∀ (c0 : ¬ wm t st len S26 = true), ∀ r : Nat → Int32, (∀ j, j ≠ 6 → j ≠ 7 → r j = I 32 j) → r 6 = nI 4 → r 7 = nI 1 → z_WP (z_X0 L xs) z_P0 (d + 5) m_Reader_readWord 48 [some (.ref 32), some (.int (nI 6)), some (.int (nI 6))] [] (z_row I 32 r) (z_R0 kp sp (.retAddr 4)) J F cn 0 0 Q := by
    intro c0 r hr r6 r7
    obtain ⟨hT', h9', h8'⟩ := gen r hr
    have s6 : (z_row I 32 r) 32 6 = nI 4 := by rw [z_row_s]; exact r6
    have s7 : (z_row I 32 r) 32 7 = nI 1 := by rw [z_row_s]; exact r7
    refine lp_skip4 (e := 10) s6 (by decide) (lp_word4 (W := S28) s6 s7 h9' h8' hT' hn hle (by decide) rfl rfl (by decide) (fun c => ?_) (fun c => ?_)) 4 6 rfl (fun i a b => (by decide : ∀ i, i < 10 → 6 ≤ i → ¬ S4.getD i 0 = 32) i b a)
    · rw [if_neg c0, if_pos c] at hQ
      rw [z_row_s, z_row_row]
      exact hQ _ (fun j a b => by rw [pk_un a]; exact hr j a b) pk_us (by rw [pk_un (by decide)]; exact r7)
    · rw [z_row_s, z_row_row]
      exact go2 c0 c _ (fun j a b => by rw [pk_un b]; exact hr j a b) (by rw [pk_un (by decide)]; exact r6) pk_us
  have go0 : ∀ r : Nat → Int32, (∀ j, j ≠ 6 → j ≠ 7 → r j = I 32 j) → r 6 = nI 4 → r 7 = nI 0 → z_WP (z_X0 L xs) z_P0 (d + 5) m_Reader_readWord 48 [some (.ref 32), some (.int (nI 0)), some (.int (nI 0))] [] (z_row I 32 r) (z_R0 kp sp (.retAddr 4)) J F cn 0 0 Q := by
    intro  r hr r6 r7
    obtain ⟨hT', h9', h8'⟩ := gen r hr
    have s6 : (z_row I 32 r) 32 6 = nI 4 := by rw [z_row_s]; exact r6
    have s7 : (z_row I 32 r) 32 7 = nI 0 := by rw [z_row_s]; exact r7
    refine lp_skip4 (e := 5) s6 (by decide) (lp_word4 (W := S26) s6 s7 h9' h8' hT' hn hle (by decide) rfl rfl (by decide) (fun c => ?_) (fun c => ?_)) 5 0 rfl (fun i a b => (by decide : ∀ i, i < 5 → 0 ≤ i → ¬ S4.getD i 0 = 32) i b a)
    · rw [if_pos c] at hQ
      rw [z_row_s, z_row_row]
      exact hQ _ (fun j a b => by rw [pk_un a]; exact hr j a b) pk_us (by rw [pk_un (by decide)]; exact r7)
    · rw [z_row_s, z_row_row]
      exact go1  c _ (fun j a b => by rw [pk_un b]; exact hr j a b) (by rw [pk_un (by decide)]; exact r6) pk_us
  have q := go0 (I 32) (fun _ _ _ => rfl) h6 h7
  rw [z_row_id] at q
  exact q
end
