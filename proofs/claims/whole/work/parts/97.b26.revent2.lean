/-! events as a text: the class's event, live -/
section
variable {L : Nat} {xs : Nat → Int32} {d : Nat} {kp sp wd : Value} {I I0 : z_I} {s : z_sg} {R : z_R} {J : z_J} {F : z_F} {cn : Nat} {Q : z_Q} {n k m st c p : Nat} {t : Nat → Nat} {g g0 : Nat → Int32}
theorem cs_stepD4 {q : Nat} (hT : rT I t n) (hn : n ≤ 500) (hq : q ≤ n) (h2 : I 32 2 = nI n) (h9 : I 32 9 = nI q) (h : ddC (I 32) c p) (hQ : ∀ I', fr [32] I I' → ddC (I' 32) c p → Q none I' (z_R0 kp sp (.retAddr 4)) J F cn) : z_M (z_X0 L xs) z_P0 (d + 6) m_Reader_step [.ref 32] I (z_R0 kp sp (.retAddr 4)) J F cn Q := by
  obtain ⟨h0, hc, h3, h4, -⟩ := h
  have a := tkS_b (t := t) hq
  have b := tkE_b (t := t) a.2
  refine cr_step4 hT hn h2 h9 hq (fun r hk a9 _ _ _ _ _ => hQ (z_row I 32 r) (fr_w fr_r (by decide)) ?_)
  rw [z_row_s]
  exact ⟨h0, hc, (hk 3 (by omega)).trans h3, (hk 4 (by omega)).trans h4, n, _, b.2.1, hn, (hk 2 (by omega)).trans h2, a9⟩
theorem cs_readEvent (hT : rT I t n) (hn : n ≤ 500) (hm : m < 24) (hM : tkM t n st = 10) (h : lvC t n kO4 vO4 (I 32) st)
    (hQ : okQ (pevl t n m g st) (fun g' st' => ∀ I', clE I I' m 4 g' → lvC t n kO4 vO4 (I' 32) st' → Q none I' (z_R0 kp sp (.retAddr 4)) J F cn) (fun c p => ∀ I', fr [32, 34] I I' → ddC (I' 32) c p → Q none I' (z_R0 kp sp (.retAddr 4)) J F cn)) :
    z_M (z_X0 L xs) z_P0 (d + 9) m_Reader_readEvent [.ref 32, .int (nI (m * 4))] I (z_R0 kp sp (.retAddr 4)) J F cn Q := by
  have rt : ∀ {I' : z_I}, fr [32, 34] I I' → rT I' t n := fun f => rT_k hT (f 33 (by decide))
  unfold pevl at hQ
  have hQ1 := okQ_b hQ
  clear hQ
  rw [show pneed t n 10 g st = p_ok g (nx t n st) from if_pos hM] at hQ1
  have hQ2 : okQ (pbind (pnum t n m 0 0 9999 g (nx t n st)) fun g st => if 14 ≤ tkM t n st then pevt t n m (tkM t n st - 14) g (nx t n st) else p_bad 1 st) (fun g' st' => ∀ I', clE I I' m 4 g' → lvC t n kO4 vO4 (I' 32) st' → Q none I' (z_R0 kp sp (.retAddr 4)) J F cn) (fun c p => ∀ I', fr [32, 34] I I' → ddC (I' 32) c p → Q none I' (z_R0 kp sp (.retAddr 4)) J F cn) := hQ1
  clear hQ1
  refine z_WP_gos [49] 1000 fun K C hK hC => ?_
  conv => whnf
  refine hC _ _ _ _ _ _ _ _ _ _ (fun _ _ _ _ _ _ q => q) (cs_next4 hT hn h (fun I1 f1 h1 => ?_))
  conv => whnf
  generalize nx t n st = st1 at hQ2 h1
  have fd1 : fr [32, 34] I I1 := fr_m f1 (by decide)
  have b1 := tkE_b (t := t) h1.1
  have cl0 : clE I I1 m 0 g := ⟨fd1, fun j hj => by rw [f1 34 (by decide)], fun a ha => by omega⟩
  refine hC _ _ _ _ _ _ _ _ _ _ (fun _ _ _ _ _ _ q => q) (cs_number4E (m := m) (k := 0) (lo := 0) (hi := 9999) (rt fd1) hn (by decide) (by decide) h1 (okQ_m (okQ_b hQ2) (fun g2 st2 hQ v I2 e1 v2 f2 h2 => ?_) (fun c p hQ hc hc2 => ?_)))
  conv => whnf
  rotate_left
  · have dd : ddC ((z_row I1 32 (upd (upd (I1 32) 3 (nI c)) 4 (nI p))) 32) c p := by
      rw [z_row_s]
      exact ⟨hc, hc2, by rw [pk_un (by decide), pk_us], pk_us, n, tkE t n st1, b1.2.1, hn, by rw [pk_un (by decide), pk_un (by decide)]; exact h1.2.1, by rw [pk_un (by decide), pk_un (by decide)]; exact h1.2.2.2.2.1⟩
    have r2 : (z_row I1 32 (upd (upd (I1 32) 3 (nI c)) 4 (nI p))) 32 2 = nI n := by rw [z_row_s, pk_un (by decide), pk_un (by decide)]; exact h1.2.1
    have r9 : (z_row I1 32 (upd (upd (I1 32) 3 (nI c)) 4 (nI p))) 32 9 = nI (tkE t n st1) := by rw [z_row_s, pk_un (by decide), pk_un (by decide)]; exact h1.2.2.2.2.1
    have fd : fr [32, 34] I (z_row I1 32 (upd (upd (I1 32) 3 (nI c)) 4 (nI p))) := fr_w fd1 (by decide)
    generalize z_row I1 32 (upd (upd (I1 32) 3 (nI c)) 4 (nI p)) = ID at dd r2 r9 fd ⊢
    conv => whnf
    repeat ((first | refine And.intro (by (conv => arg 2; whnf); (try simp only [z_lit, nI_add, pk_mul, z_pr1, z_pr2]); exact z_in (by omega) (by decide)) ?_ | refine z_bt1 (by decide) ?_ | refine z_bf1 (by decide) ?_ | refine z_bt2 (by decide) ?_ | refine z_bf2 (by decide) ?_); conv => whnf)
    simp (disch := omega) only [z_lit, nI_add, pk_mul, z_pr1, z_pr2, nI_clamp, z_up_row, z_row_s, z_row_n, z_row_row, pk_us, pk_un]
    have dd' : ddC ((z_row ID 34 (upd (ID 34) (m * 4 + 0) (nI 0))) 32) c p := by rw [z_row_n _ _ (by decide)]; exact dd
    have fd' : fr [32, 34] I (z_row ID 34 (upd (ID 34) (m * 4 + 0) (nI 0))) := fr_w fd (by decide)
    refine ⟨fun _ => ?_, fun _ => ?_⟩
    · conv => whnf
      refine hC _ _ _ _ _ _ _ _ _ _ (fun _ _ _ _ _ _ q => q) (cs_failD dd' ?_)
      conv => whnf
      exact hQ _ fd' dd'
    conv => whnf
    simp (disch := omega) only [z_lit, nI_add, pk_mul, z_pr1, z_pr2, nI_clamp, z_up_row, z_row_s, z_row_n, z_row_row, pk_us, pk_un]
    refine ⟨fun _ => ?_, fun _ => ?_⟩
    · conv => whnf
      refine hK _ _ _ _ _ _ _ _ _ _ (?_)
      refine z_WP_gos [62] 1000 fun K C hK hC => ?_
      conv => whnf
      refine hC _ _ _ _ _ _ _ _ _ _ (fun _ _ _ _ _ _ q => q) (cs_stepD4 (q := tkE t n st1) (rt fd') hn b1.2.1 (by rw [z_row_n _ _ (by decide)]; exact r2) (by rw [z_row_n _ _ (by decide)]; exact r9) dd' (fun I3 f3 d3 => ?_))
      conv => whnf
      repeat ((first | refine And.intro (by (conv => arg 2; whnf); (try simp only [z_lit, nI_add, pk_mul, z_pr1, z_pr2]); exact z_in (by omega) (by decide)) ?_ | refine z_bt1 (by decide) ?_ | refine z_bf1 (by decide) ?_ | refine z_bt2 (by decide) ?_ | refine z_bf2 (by decide) ?_); conv => whnf)
      simp (disch := omega) only [z_lit, nI_add, pk_mul, z_pr1, z_pr2, nI_clamp, z_up_row, z_row_s, z_row_n, z_row_row, pk_us, pk_un]
      refine hK _ _ _ _ _ _ _ _ _ _ (dE62 hm hQ (fr_w (cld_r fd' f3) (by decide)) (by rw [z_row_n _ _ (by decide)]; exact d3))
    · conv => whnf
      refine hC _ _ _ _ _ _ _ _ _ _ (fun _ _ _ _ _ _ q => q) (cs_failD dd' ?_)
      conv => whnf
      exact hQ _ fd' dd'
  subst e1
  have cl1 := clE_w (v := nI v) (clE_r cl0 f2)
  have h2' : lvC t n kO4 vO4 ((z_row I2 34 (upd (I2 34) (m * 4 + 0) (nI v))) 32) st2 := by rw [z_row_n _ _ (by decide)]; exact h2
  have hl := tkM_le (t := t) (n := n) (st := st2)
  have k4 : ∀ m, m ≤ 22 → kO4 m ≤ 4 ∧ vO4 m < 30 ∧ ((kO4 m = 1 ∧ vO4 m ≤ 8) ↔ 14 ≤ m) ∧ (14 ≤ m → vO4 m = m - 14) := by decide
  obtain ⟨ka, kb, kc, kd⟩ := k4 _ hl
  have r6 := h2.2.2.2.2.2.2.1
  have r7 := h2.2.2.2.2.2.2.2.1
  have r8 := h2.2.2.2.2.2.1
  conv => whnf
  repeat ((first | refine And.intro (by (conv => arg 2; whnf); (try simp only [z_lit, nI_add, pk_mul, z_pr1, z_pr2]); exact z_in (by omega) (by decide)) ?_ | refine z_bt1 (by decide) ?_ | refine z_bf1 (by decide) ?_ | refine z_bt2 (by decide) ?_ | refine z_bf2 (by decide) ?_); conv => whnf)
  simp (disch := omega) only [z_lit, nI_add, pk_mul, z_pr1, z_pr2, nI_clamp, z_up_row, z_row_s, z_row_n, z_row_row, pk_us, pk_un]
  rw [r6]
  refine ⟨fun g1 => ?_, fun g1 => ?_⟩
  · rw [if_neg fun z => g1 (by rw [(kc.mpr z).1])] at hQ
    conv => whnf
    simp (disch := omega) only [z_lit, nI_add, pk_mul, z_pr1, z_pr2, nI_clamp, z_up_row, z_row_s, z_row_n, z_row_row, pk_us, pk_un]
    rw [r8]
    refine hC _ _ _ _ _ _ _ _ _ _ (fun _ _ _ _ _ _ q => q) (cs_fail (kO := kO4) (vO := vO4) (c := 1) (p := st2) h2' hn (by decide) (by decide) (fun I3 f3 d3 => ?_))
    conv => whnf
    exact hQ I3 (cld_r cl1.1 f3) d3
  have e1 : kO4 (tkM t n st2) = 1 := nI_inj9 (b := 1) (by omega) (by omega) g1
  conv => whnf
  simp (disch := omega) only [z_lit, nI_add, pk_mul, z_pr1, z_pr2, nI_clamp, z_up_row, z_row_s, z_row_n, z_row_row, pk_us, pk_un]
  rw [r7 e1]
  refine ⟨fun g3 => ?_, fun g3 => ?_⟩
  rotate_left
  · rw [if_neg fun z => g3 (nI_le (b := 8) (kc.mpr z).2 (by decide))] at hQ
    conv => whnf
    simp (disch := omega) only [z_lit, nI_add, pk_mul, z_pr1, z_pr2, nI_clamp, z_up_row, z_row_s, z_row_n, z_row_row, pk_us, pk_un]
    rw [r8]
    refine hC _ _ _ _ _ _ _ _ _ _ (fun _ _ _ _ _ _ q => q) (cs_fail (kO := kO4) (vO := vO4) (c := 1) (p := st2) h2' hn (by decide) (by decide) (fun I3 f3 d3 => ?_))
    conv => whnf
    exact hQ I3 (cld_r cl1.1 f3) d3
  have e8 : vO4 (tkM t n st2) ≤ 8 := (nI_leI (b := 8) (by omega) (by omega)).mp g3
  have e14 := kc.mp ⟨e1, e8⟩
  rw [if_pos e14] at hQ
  rw [kd e14]
  have q8 : tkM t n st2 - 14 ≤ 8 := by omega
  generalize tkM t n st2 - 14 = q at hQ q8
  unfold pevt at hQ
  conv => whnf
  refine hK _ _ _ _ _ _ _ _ _ _ (?_)
  refine z_WP_gos [149] 1000 fun K C hK hC => ?_
  conv => whnf
  refine hC _ _ _ _ _ _ _ _ _ _ (fun _ _ _ _ _ _ q => q) (cs_next4 (rt cl1.1) hn h2' (fun I3 f3 h3 => ?_))
  conv => whnf
  have cl2 := clE_w (v := nI q) (clE_r cl1 f3)
  have h3' : lvC t n kO4 vO4 ((z_row I3 34 (upd (I3 34) (m * 4 + 1) (nI q))) 32) (nx t n st2) := by rw [z_row_n _ _ (by decide)]; exact h3
  generalize nx t n st2 = st3 at hQ h3'
  have hq' : q = 0 ∨ q = 1 ∨ q = 2 ∨ q = 3 ∨ q = 4 ∨ q = 5 ∨ q = 6 ∨ q = 7 ∨ q = 8 := by omega
  rcases hq' with rfl | rfl | rfl | rfl | rfl | rfl | rfl | rfl | rfl
  · rw [show evW 0 = 8 from rfl, show evL 0 = 0 from rfl, show evM 0 = 1 from rfl] at hQ
    repeat ((first | refine And.intro (by (conv => arg 2; whnf); (try simp only [z_lit, nI_add, pk_mul, z_pr1, z_pr2]); exact z_in (by omega) (by decide)) ?_ | refine z_bt1 (by decide) ?_ | refine z_bf1 (by decide) ?_ | refine z_bt2 (by decide) ?_ | refine z_bf2 (by decide) ?_); conv => whnf)
    simp (disch := omega) only [z_lit, nI_add, pk_mul, z_pr1, z_pr2, nI_clamp, z_up_row, z_row_s, z_row_n, z_row_row, pk_us, pk_un]
    refine hC _ _ _ _ _ _ _ _ _ _ (fun _ _ _ _ _ _ q => q) (cs_number4 (m := m) (k := 2) (lo := 0) (hi := 8) (rt cl2.1) hn (by decide) (by decide) h3' (okQ_m (okQ_b hQ) (fun g4 st4 hQ v4 I4 e4 _ _ _ _ f4 h4 => ?_) (fun c p hQ I4 f4 dd => ?_)))
    conv => whnf
    rotate_left
    · conv => whnf
      repeat ((first | refine And.intro (by (conv => arg 2; whnf); (try simp only [z_lit, nI_add, pk_mul, z_pr1, z_pr2]); exact z_in (by omega) (by decide)) ?_ | refine z_bt1 (by decide) ?_ | refine z_bf1 (by decide) ?_ | refine z_bt2 (by decide) ?_ | refine z_bf2 (by decide) ?_); conv => whnf)
      simp (disch := omega) only [z_lit, nI_add, pk_mul, z_pr1, z_pr2, nI_clamp, z_up_row, z_row_s, z_row_n, z_row_row, pk_us, pk_un]
      have dd' : ddC ((z_row I4 34 (upd (I4 34) (m * 4 + 2) (nI 0))) 32) c p := by rw [z_row_n _ _ (by decide)]; exact dd
      refine hC _ _ _ _ _ _ _ _ _ _ (fun _ _ _ _ _ _ q => q) (cs_numberD dd' ?_)
      conv => whnf
      repeat ((first | refine And.intro (by (conv => arg 2; whnf); (try simp only [z_lit, nI_add, pk_mul, z_pr1, z_pr2]); exact z_in (by omega) (by decide)) ?_ | refine z_bt1 (by decide) ?_ | refine z_bf1 (by decide) ?_ | refine z_bt2 (by decide) ?_ | refine z_bf2 (by decide) ?_); conv => whnf)
      simp (disch := omega) only [z_lit, nI_add, pk_mul, z_pr1, z_pr2, nI_clamp, z_up_row, z_row_s, z_row_n, z_row_row, pk_us, pk_un]
      refine hK _ _ _ _ _ _ _ _ _ _ (dE149 hQ (fr_w (cld_r cl2.1 f4) (by decide)) (by rw [z_row_n _ _ (by decide)]; exact dd))
    subst e4
    have cl3 := clE_w (v := nI v4) (clE_r cl2 f4)
    have h4' : lvC t n kO4 vO4 ((z_row I4 34 (upd (I4 34) (m * 4 + 2) (nI v4))) 32) st4 := by rw [z_row_n _ _ (by decide)]; exact h4
    repeat ((first | refine And.intro (by (conv => arg 2; whnf); (try simp only [z_lit, nI_add, pk_mul, z_pr1, z_pr2]); exact z_in (by omega) (by decide)) ?_ | refine z_bt1 (by decide) ?_ | refine z_bf1 (by decide) ?_ | refine z_bt2 (by decide) ?_ | refine z_bf2 (by decide) ?_); conv => whnf)
    simp (disch := omega) only [z_lit, nI_add, pk_mul, z_pr1, z_pr2, nI_clamp, z_up_row, z_row_s, z_row_n, z_row_row, pk_us, pk_un]
    refine hC _ _ _ _ _ _ _ _ _ _ (fun _ _ _ _ _ _ q => q) (cs_number4 (m := m) (k := 3) (lo := 0) (hi := 1) (rt cl3.1) hn (by decide) (by decide) h4' (okQ_m (okQ_b hQ) (fun g5 st5 hQ v5 I5 e5 _ _ _ _ f5 h5 => ?_) (fun c p hQ I5 f5 dd => ?_)))
    conv => whnf
    rotate_left
    · conv => whnf
      repeat ((first | refine And.intro (by (conv => arg 2; whnf); (try simp only [z_lit, nI_add, pk_mul, z_pr1, z_pr2]); exact z_in (by omega) (by decide)) ?_ | refine z_bt1 (by decide) ?_ | refine z_bf1 (by decide) ?_ | refine z_bt2 (by decide) ?_ | refine z_bf2 (by decide) ?_); conv => whnf)
      simp (disch := omega) only [z_lit, nI_add, pk_mul, z_pr1, z_pr2, nI_clamp, z_up_row, z_row_s, z_row_n, z_row_row, pk_us, pk_un]
      refine hK _ _ _ _ _ _ _ _ _ _ (dE149 hQ (fr_w (cld_r cl3.1 f5) (by decide)) (by rw [z_row_n _ _ (by decide)]; exact dd))
    subst e5
    have cl4 := clE_w (v := nI v5) (clE_r cl3 f5)
    have h5' : lvC t n kO4 vO4 ((z_row I5 34 (upd (I5 34) (m * 4 + 3) (nI v5))) 32) st5 := by rw [z_row_n _ _ (by decide)]; exact h5
    repeat ((first | refine And.intro (by (conv => arg 2; whnf); (try simp only [z_lit, nI_add, pk_mul, z_pr1, z_pr2]); exact z_in (by omega) (by decide)) ?_ | refine z_bt1 (by decide) ?_ | refine z_bf1 (by decide) ?_ | refine z_bt2 (by decide) ?_ | refine z_bf2 (by decide) ?_); conv => whnf)
    simp (disch := omega) only [z_lit, nI_add, pk_mul, z_pr1, z_pr2, nI_clamp, z_up_row, z_row_s, z_row_n, z_row_row, pk_us, pk_un]
    refine hK _ _ _ _ _ _ _ _ _ _ (?_)
    refine z_WP_gos [] 1000 fun K C hK hC => ?_
    conv => whnf
    refine hC _ _ _ _ _ _ _ _ _ _ (fun _ _ _ _ _ _ q => q) (cs_expect4 (a := 3) (b := 0) (q := 13) (rt cl4.1) hn (by decide) (by decide) (by decide) (Or.inr rfl) h5' (okQ_m hQ (fun g6 st6 hQ I6 e6 f6 h6 => ?_) (fun c p hQ I6 f6 dd => ?_)))
    conv => whnf
    · replace e6 := e6.symm
      subst e6
      exact hQ I6 (clE_r cl4 f6) h6
    · exact hQ I6 (cld_r cl4.1 f6) dd
  · rw [show evW 1 = 7 from rfl, show evL 1 = 0 from rfl, show evM 1 = 1 from rfl] at hQ
    repeat ((first | refine And.intro (by (conv => arg 2; whnf); (try simp only [z_lit, nI_add, pk_mul, z_pr1, z_pr2]); exact z_in (by omega) (by decide)) ?_ | refine z_bt1 (by decide) ?_ | refine z_bf1 (by decide) ?_ | refine z_bt2 (by decide) ?_ | refine z_bf2 (by decide) ?_); conv => whnf)
    simp (disch := omega) only [z_lit, nI_add, pk_mul, z_pr1, z_pr2, nI_clamp, z_up_row, z_row_s, z_row_n, z_row_row, pk_us, pk_un]
    refine hC _ _ _ _ _ _ _ _ _ _ (fun _ _ _ _ _ _ q => q) (cs_number4 (m := m) (k := 2) (lo := 0) (hi := 7) (rt cl2.1) hn (by decide) (by decide) h3' (okQ_m (okQ_b hQ) (fun g4 st4 hQ v4 I4 e4 _ _ _ _ f4 h4 => ?_) (fun c p hQ I4 f4 dd => ?_)))
    conv => whnf
    rotate_left
    · conv => whnf
      repeat ((first | refine And.intro (by (conv => arg 2; whnf); (try simp only [z_lit, nI_add, pk_mul, z_pr1, z_pr2]); exact z_in (by omega) (by decide)) ?_ | refine z_bt1 (by decide) ?_ | refine z_bf1 (by decide) ?_ | refine z_bt2 (by decide) ?_ | refine z_bf2 (by decide) ?_); conv => whnf)
      simp (disch := omega) only [z_lit, nI_add, pk_mul, z_pr1, z_pr2, nI_clamp, z_up_row, z_row_s, z_row_n, z_row_row, pk_us, pk_un]
      have dd' : ddC ((z_row I4 34 (upd (I4 34) (m * 4 + 2) (nI 0))) 32) c p := by rw [z_row_n _ _ (by decide)]; exact dd
      refine hC _ _ _ _ _ _ _ _ _ _ (fun _ _ _ _ _ _ q => q) (cs_numberD dd' ?_)
      conv => whnf
      repeat ((first | refine And.intro (by (conv => arg 2; whnf); (try simp only [z_lit, nI_add, pk_mul, z_pr1, z_pr2]); exact z_in (by omega) (by decide)) ?_ | refine z_bt1 (by decide) ?_ | refine z_bf1 (by decide) ?_ | refine z_bt2 (by decide) ?_ | refine z_bf2 (by decide) ?_); conv => whnf)
      simp (disch := omega) only [z_lit, nI_add, pk_mul, z_pr1, z_pr2, nI_clamp, z_up_row, z_row_s, z_row_n, z_row_row, pk_us, pk_un]
      refine hK _ _ _ _ _ _ _ _ _ _ (dE149 hQ (fr_w (cld_r cl2.1 f4) (by decide)) (by rw [z_row_n _ _ (by decide)]; exact dd))
    subst e4
    have cl3 := clE_w (v := nI v4) (clE_r cl2 f4)
    have h4' : lvC t n kO4 vO4 ((z_row I4 34 (upd (I4 34) (m * 4 + 2) (nI v4))) 32) st4 := by rw [z_row_n _ _ (by decide)]; exact h4
    repeat ((first | refine And.intro (by (conv => arg 2; whnf); (try simp only [z_lit, nI_add, pk_mul, z_pr1, z_pr2]); exact z_in (by omega) (by decide)) ?_ | refine z_bt1 (by decide) ?_ | refine z_bf1 (by decide) ?_ | refine z_bt2 (by decide) ?_ | refine z_bf2 (by decide) ?_); conv => whnf)
    simp (disch := omega) only [z_lit, nI_add, pk_mul, z_pr1, z_pr2, nI_clamp, z_up_row, z_row_s, z_row_n, z_row_row, pk_us, pk_un]
    refine hC _ _ _ _ _ _ _ _ _ _ (fun _ _ _ _ _ _ q => q) (cs_number4 (m := m) (k := 3) (lo := 0) (hi := 1) (rt cl3.1) hn (by decide) (by decide) h4' (okQ_m (okQ_b hQ) (fun g5 st5 hQ v5 I5 e5 _ _ _ _ f5 h5 => ?_) (fun c p hQ I5 f5 dd => ?_)))
    conv => whnf
    rotate_left
    · conv => whnf
      repeat ((first | refine And.intro (by (conv => arg 2; whnf); (try simp only [z_lit, nI_add, pk_mul, z_pr1, z_pr2]); exact z_in (by omega) (by decide)) ?_ | refine z_bt1 (by decide) ?_ | refine z_bf1 (by decide) ?_ | refine z_bt2 (by decide) ?_ | refine z_bf2 (by decide) ?_); conv => whnf)
      simp (disch := omega) only [z_lit, nI_add, pk_mul, z_pr1, z_pr2, nI_clamp, z_up_row, z_row_s, z_row_n, z_row_row, pk_us, pk_un]
      refine hK _ _ _ _ _ _ _ _ _ _ (dE149 hQ (fr_w (cld_r cl3.1 f5) (by decide)) (by rw [z_row_n _ _ (by decide)]; exact dd))
    subst e5
    have cl4 := clE_w (v := nI v5) (clE_r cl3 f5)
    have h5' : lvC t n kO4 vO4 ((z_row I5 34 (upd (I5 34) (m * 4 + 3) (nI v5))) 32) st5 := by rw [z_row_n _ _ (by decide)]; exact h5
    repeat ((first | refine And.intro (by (conv => arg 2; whnf); (try simp only [z_lit, nI_add, pk_mul, z_pr1, z_pr2]); exact z_in (by omega) (by decide)) ?_ | refine z_bt1 (by decide) ?_ | refine z_bf1 (by decide) ?_ | refine z_bt2 (by decide) ?_ | refine z_bf2 (by decide) ?_); conv => whnf)
    simp (disch := omega) only [z_lit, nI_add, pk_mul, z_pr1, z_pr2, nI_clamp, z_up_row, z_row_s, z_row_n, z_row_row, pk_us, pk_un]
    refine hK _ _ _ _ _ _ _ _ _ _ (?_)
    refine z_WP_gos [] 1000 fun K C hK hC => ?_
    conv => whnf
    refine hC _ _ _ _ _ _ _ _ _ _ (fun _ _ _ _ _ _ q => q) (cs_expect4 (a := 3) (b := 0) (q := 13) (rt cl4.1) hn (by decide) (by decide) (by decide) (Or.inr rfl) h5' (okQ_m hQ (fun g6 st6 hQ I6 e6 f6 h6 => ?_) (fun c p hQ I6 f6 dd => ?_)))
    conv => whnf
    · replace e6 := e6.symm
      subst e6
      exact hQ I6 (clE_r cl4 f6) h6
    · exact hQ I6 (cld_r cl4.1 f6) dd
  · rw [show evW 2 = 7 from rfl, show evL 2 = 0 from rfl, show evM 2 = 1 from rfl] at hQ
    repeat ((first | refine And.intro (by (conv => arg 2; whnf); (try simp only [z_lit, nI_add, pk_mul, z_pr1, z_pr2]); exact z_in (by omega) (by decide)) ?_ | refine z_bt1 (by decide) ?_ | refine z_bf1 (by decide) ?_ | refine z_bt2 (by decide) ?_ | refine z_bf2 (by decide) ?_); conv => whnf)
    simp (disch := omega) only [z_lit, nI_add, pk_mul, z_pr1, z_pr2, nI_clamp, z_up_row, z_row_s, z_row_n, z_row_row, pk_us, pk_un]
    refine hC _ _ _ _ _ _ _ _ _ _ (fun _ _ _ _ _ _ q => q) (cs_number4 (m := m) (k := 2) (lo := 0) (hi := 7) (rt cl2.1) hn (by decide) (by decide) h3' (okQ_m (okQ_b hQ) (fun g4 st4 hQ v4 I4 e4 _ _ _ _ f4 h4 => ?_) (fun c p hQ I4 f4 dd => ?_)))
    conv => whnf
    rotate_left
    · conv => whnf
      repeat ((first | refine And.intro (by (conv => arg 2; whnf); (try simp only [z_lit, nI_add, pk_mul, z_pr1, z_pr2]); exact z_in (by omega) (by decide)) ?_ | refine z_bt1 (by decide) ?_ | refine z_bf1 (by decide) ?_ | refine z_bt2 (by decide) ?_ | refine z_bf2 (by decide) ?_); conv => whnf)
      simp (disch := omega) only [z_lit, nI_add, pk_mul, z_pr1, z_pr2, nI_clamp, z_up_row, z_row_s, z_row_n, z_row_row, pk_us, pk_un]
      have dd' : ddC ((z_row I4 34 (upd (I4 34) (m * 4 + 2) (nI 0))) 32) c p := by rw [z_row_n _ _ (by decide)]; exact dd
      refine hC _ _ _ _ _ _ _ _ _ _ (fun _ _ _ _ _ _ q => q) (cs_numberD dd' ?_)
      conv => whnf
      repeat ((first | refine And.intro (by (conv => arg 2; whnf); (try simp only [z_lit, nI_add, pk_mul, z_pr1, z_pr2]); exact z_in (by omega) (by decide)) ?_ | refine z_bt1 (by decide) ?_ | refine z_bf1 (by decide) ?_ | refine z_bt2 (by decide) ?_ | refine z_bf2 (by decide) ?_); conv => whnf)
      simp (disch := omega) only [z_lit, nI_add, pk_mul, z_pr1, z_pr2, nI_clamp, z_up_row, z_row_s, z_row_n, z_row_row, pk_us, pk_un]
      refine hK _ _ _ _ _ _ _ _ _ _ (dE149 hQ (fr_w (cld_r cl2.1 f4) (by decide)) (by rw [z_row_n _ _ (by decide)]; exact dd))
    subst e4
    have cl3 := clE_w (v := nI v4) (clE_r cl2 f4)
    have h4' : lvC t n kO4 vO4 ((z_row I4 34 (upd (I4 34) (m * 4 + 2) (nI v4))) 32) st4 := by rw [z_row_n _ _ (by decide)]; exact h4
    repeat ((first | refine And.intro (by (conv => arg 2; whnf); (try simp only [z_lit, nI_add, pk_mul, z_pr1, z_pr2]); exact z_in (by omega) (by decide)) ?_ | refine z_bt1 (by decide) ?_ | refine z_bf1 (by decide) ?_ | refine z_bt2 (by decide) ?_ | refine z_bf2 (by decide) ?_); conv => whnf)
    simp (disch := omega) only [z_lit, nI_add, pk_mul, z_pr1, z_pr2, nI_clamp, z_up_row, z_row_s, z_row_n, z_row_row, pk_us, pk_un]
    refine hC _ _ _ _ _ _ _ _ _ _ (fun _ _ _ _ _ _ q => q) (cs_number4 (m := m) (k := 3) (lo := 0) (hi := 1) (rt cl3.1) hn (by decide) (by decide) h4' (okQ_m (okQ_b hQ) (fun g5 st5 hQ v5 I5 e5 _ _ _ _ f5 h5 => ?_) (fun c p hQ I5 f5 dd => ?_)))
    conv => whnf
    rotate_left
    · conv => whnf
      repeat ((first | refine And.intro (by (conv => arg 2; whnf); (try simp only [z_lit, nI_add, pk_mul, z_pr1, z_pr2]); exact z_in (by omega) (by decide)) ?_ | refine z_bt1 (by decide) ?_ | refine z_bf1 (by decide) ?_ | refine z_bt2 (by decide) ?_ | refine z_bf2 (by decide) ?_); conv => whnf)
      simp (disch := omega) only [z_lit, nI_add, pk_mul, z_pr1, z_pr2, nI_clamp, z_up_row, z_row_s, z_row_n, z_row_row, pk_us, pk_un]
      refine hK _ _ _ _ _ _ _ _ _ _ (dE149 hQ (fr_w (cld_r cl3.1 f5) (by decide)) (by rw [z_row_n _ _ (by decide)]; exact dd))
    subst e5
    have cl4 := clE_w (v := nI v5) (clE_r cl3 f5)
    have h5' : lvC t n kO4 vO4 ((z_row I5 34 (upd (I5 34) (m * 4 + 3) (nI v5))) 32) st5 := by rw [z_row_n _ _ (by decide)]; exact h5
    repeat ((first | refine And.intro (by (conv => arg 2; whnf); (try simp only [z_lit, nI_add, pk_mul, z_pr1, z_pr2]); exact z_in (by omega) (by decide)) ?_ | refine z_bt1 (by decide) ?_ | refine z_bf1 (by decide) ?_ | refine z_bt2 (by decide) ?_ | refine z_bf2 (by decide) ?_); conv => whnf)
    simp (disch := omega) only [z_lit, nI_add, pk_mul, z_pr1, z_pr2, nI_clamp, z_up_row, z_row_s, z_row_n, z_row_row, pk_us, pk_un]
    refine hK _ _ _ _ _ _ _ _ _ _ (?_)
    refine z_WP_gos [] 1000 fun K C hK hC => ?_
    conv => whnf
    refine hC _ _ _ _ _ _ _ _ _ _ (fun _ _ _ _ _ _ q => q) (cs_expect4 (a := 3) (b := 0) (q := 13) (rt cl4.1) hn (by decide) (by decide) (by decide) (Or.inr rfl) h5' (okQ_m hQ (fun g6 st6 hQ I6 e6 f6 h6 => ?_) (fun c p hQ I6 f6 dd => ?_)))
    conv => whnf
    · replace e6 := e6.symm
      subst e6
      exact hQ I6 (clE_r cl4 f6) h6
    · exact hQ I6 (cld_r cl4.1 f6) dd
  · rw [show evW 3 = 7 from rfl, show evL 3 = 0 from rfl, show evM 3 = 1 from rfl] at hQ
    repeat ((first | refine And.intro (by (conv => arg 2; whnf); (try simp only [z_lit, nI_add, pk_mul, z_pr1, z_pr2]); exact z_in (by omega) (by decide)) ?_ | refine z_bt1 (by decide) ?_ | refine z_bf1 (by decide) ?_ | refine z_bt2 (by decide) ?_ | refine z_bf2 (by decide) ?_); conv => whnf)
    simp (disch := omega) only [z_lit, nI_add, pk_mul, z_pr1, z_pr2, nI_clamp, z_up_row, z_row_s, z_row_n, z_row_row, pk_us, pk_un]
    refine hC _ _ _ _ _ _ _ _ _ _ (fun _ _ _ _ _ _ q => q) (cs_number4 (m := m) (k := 2) (lo := 0) (hi := 7) (rt cl2.1) hn (by decide) (by decide) h3' (okQ_m (okQ_b hQ) (fun g4 st4 hQ v4 I4 e4 _ _ _ _ f4 h4 => ?_) (fun c p hQ I4 f4 dd => ?_)))
    conv => whnf
    rotate_left
    · conv => whnf
      repeat ((first | refine And.intro (by (conv => arg 2; whnf); (try simp only [z_lit, nI_add, pk_mul, z_pr1, z_pr2]); exact z_in (by omega) (by decide)) ?_ | refine z_bt1 (by decide) ?_ | refine z_bf1 (by decide) ?_ | refine z_bt2 (by decide) ?_ | refine z_bf2 (by decide) ?_); conv => whnf)
      simp (disch := omega) only [z_lit, nI_add, pk_mul, z_pr1, z_pr2, nI_clamp, z_up_row, z_row_s, z_row_n, z_row_row, pk_us, pk_un]
      have dd' : ddC ((z_row I4 34 (upd (I4 34) (m * 4 + 2) (nI 0))) 32) c p := by rw [z_row_n _ _ (by decide)]; exact dd
      refine hC _ _ _ _ _ _ _ _ _ _ (fun _ _ _ _ _ _ q => q) (cs_numberD dd' ?_)
      conv => whnf
      repeat ((first | refine And.intro (by (conv => arg 2; whnf); (try simp only [z_lit, nI_add, pk_mul, z_pr1, z_pr2]); exact z_in (by omega) (by decide)) ?_ | refine z_bt1 (by decide) ?_ | refine z_bf1 (by decide) ?_ | refine z_bt2 (by decide) ?_ | refine z_bf2 (by decide) ?_); conv => whnf)
      simp (disch := omega) only [z_lit, nI_add, pk_mul, z_pr1, z_pr2, nI_clamp, z_up_row, z_row_s, z_row_n, z_row_row, pk_us, pk_un]
      refine hK _ _ _ _ _ _ _ _ _ _ (dE149 hQ (fr_w (cld_r cl2.1 f4) (by decide)) (by rw [z_row_n _ _ (by decide)]; exact dd))
    subst e4
    have cl3 := clE_w (v := nI v4) (clE_r cl2 f4)
    have h4' : lvC t n kO4 vO4 ((z_row I4 34 (upd (I4 34) (m * 4 + 2) (nI v4))) 32) st4 := by rw [z_row_n _ _ (by decide)]; exact h4
    repeat ((first | refine And.intro (by (conv => arg 2; whnf); (try simp only [z_lit, nI_add, pk_mul, z_pr1, z_pr2]); exact z_in (by omega) (by decide)) ?_ | refine z_bt1 (by decide) ?_ | refine z_bf1 (by decide) ?_ | refine z_bt2 (by decide) ?_ | refine z_bf2 (by decide) ?_); conv => whnf)
    simp (disch := omega) only [z_lit, nI_add, pk_mul, z_pr1, z_pr2, nI_clamp, z_up_row, z_row_s, z_row_n, z_row_row, pk_us, pk_un]
    refine hC _ _ _ _ _ _ _ _ _ _ (fun _ _ _ _ _ _ q => q) (cs_number4 (m := m) (k := 3) (lo := 0) (hi := 1) (rt cl3.1) hn (by decide) (by decide) h4' (okQ_m (okQ_b hQ) (fun g5 st5 hQ v5 I5 e5 _ _ _ _ f5 h5 => ?_) (fun c p hQ I5 f5 dd => ?_)))
    conv => whnf
    rotate_left
    · conv => whnf
      repeat ((first | refine And.intro (by (conv => arg 2; whnf); (try simp only [z_lit, nI_add, pk_mul, z_pr1, z_pr2]); exact z_in (by omega) (by decide)) ?_ | refine z_bt1 (by decide) ?_ | refine z_bf1 (by decide) ?_ | refine z_bt2 (by decide) ?_ | refine z_bf2 (by decide) ?_); conv => whnf)
      simp (disch := omega) only [z_lit, nI_add, pk_mul, z_pr1, z_pr2, nI_clamp, z_up_row, z_row_s, z_row_n, z_row_row, pk_us, pk_un]
      refine hK _ _ _ _ _ _ _ _ _ _ (dE149 hQ (fr_w (cld_r cl3.1 f5) (by decide)) (by rw [z_row_n _ _ (by decide)]; exact dd))
    subst e5
    have cl4 := clE_w (v := nI v5) (clE_r cl3 f5)
    have h5' : lvC t n kO4 vO4 ((z_row I5 34 (upd (I5 34) (m * 4 + 3) (nI v5))) 32) st5 := by rw [z_row_n _ _ (by decide)]; exact h5
    repeat ((first | refine And.intro (by (conv => arg 2; whnf); (try simp only [z_lit, nI_add, pk_mul, z_pr1, z_pr2]); exact z_in (by omega) (by decide)) ?_ | refine z_bt1 (by decide) ?_ | refine z_bf1 (by decide) ?_ | refine z_bt2 (by decide) ?_ | refine z_bf2 (by decide) ?_); conv => whnf)
    simp (disch := omega) only [z_lit, nI_add, pk_mul, z_pr1, z_pr2, nI_clamp, z_up_row, z_row_s, z_row_n, z_row_row, pk_us, pk_un]
    refine hK _ _ _ _ _ _ _ _ _ _ (?_)
    refine z_WP_gos [] 1000 fun K C hK hC => ?_
    conv => whnf
    refine hC _ _ _ _ _ _ _ _ _ _ (fun _ _ _ _ _ _ q => q) (cs_expect4 (a := 3) (b := 0) (q := 13) (rt cl4.1) hn (by decide) (by decide) (by decide) (Or.inr rfl) h5' (okQ_m hQ (fun g6 st6 hQ I6 e6 f6 h6 => ?_) (fun c p hQ I6 f6 dd => ?_)))
    conv => whnf
    · replace e6 := e6.symm
      subst e6
      exact hQ I6 (clE_r cl4 f6) h6
    · exact hQ I6 (cld_r cl4.1 f6) dd
  · rw [show evW 4 = 7 from rfl, show evL 4 = 0 from rfl, show evM 4 = 1 from rfl] at hQ
    repeat ((first | refine And.intro (by (conv => arg 2; whnf); (try simp only [z_lit, nI_add, pk_mul, z_pr1, z_pr2]); exact z_in (by omega) (by decide)) ?_ | refine z_bt1 (by decide) ?_ | refine z_bf1 (by decide) ?_ | refine z_bt2 (by decide) ?_ | refine z_bf2 (by decide) ?_); conv => whnf)
    simp (disch := omega) only [z_lit, nI_add, pk_mul, z_pr1, z_pr2, nI_clamp, z_up_row, z_row_s, z_row_n, z_row_row, pk_us, pk_un]
    refine hC _ _ _ _ _ _ _ _ _ _ (fun _ _ _ _ _ _ q => q) (cs_number4 (m := m) (k := 2) (lo := 0) (hi := 7) (rt cl2.1) hn (by decide) (by decide) h3' (okQ_m (okQ_b hQ) (fun g4 st4 hQ v4 I4 e4 _ _ _ _ f4 h4 => ?_) (fun c p hQ I4 f4 dd => ?_)))
    conv => whnf
    rotate_left
    · conv => whnf
      repeat ((first | refine And.intro (by (conv => arg 2; whnf); (try simp only [z_lit, nI_add, pk_mul, z_pr1, z_pr2]); exact z_in (by omega) (by decide)) ?_ | refine z_bt1 (by decide) ?_ | refine z_bf1 (by decide) ?_ | refine z_bt2 (by decide) ?_ | refine z_bf2 (by decide) ?_); conv => whnf)
      simp (disch := omega) only [z_lit, nI_add, pk_mul, z_pr1, z_pr2, nI_clamp, z_up_row, z_row_s, z_row_n, z_row_row, pk_us, pk_un]
      have dd' : ddC ((z_row I4 34 (upd (I4 34) (m * 4 + 2) (nI 0))) 32) c p := by rw [z_row_n _ _ (by decide)]; exact dd
      refine hC _ _ _ _ _ _ _ _ _ _ (fun _ _ _ _ _ _ q => q) (cs_numberD dd' ?_)
      conv => whnf
      repeat ((first | refine And.intro (by (conv => arg 2; whnf); (try simp only [z_lit, nI_add, pk_mul, z_pr1, z_pr2]); exact z_in (by omega) (by decide)) ?_ | refine z_bt1 (by decide) ?_ | refine z_bf1 (by decide) ?_ | refine z_bt2 (by decide) ?_ | refine z_bf2 (by decide) ?_); conv => whnf)
      simp (disch := omega) only [z_lit, nI_add, pk_mul, z_pr1, z_pr2, nI_clamp, z_up_row, z_row_s, z_row_n, z_row_row, pk_us, pk_un]
      refine hK _ _ _ _ _ _ _ _ _ _ (dE149 hQ (fr_w (cld_r cl2.1 f4) (by decide)) (by rw [z_row_n _ _ (by decide)]; exact dd))
    subst e4
    have cl3 := clE_w (v := nI v4) (clE_r cl2 f4)
    have h4' : lvC t n kO4 vO4 ((z_row I4 34 (upd (I4 34) (m * 4 + 2) (nI v4))) 32) st4 := by rw [z_row_n _ _ (by decide)]; exact h4
    repeat ((first | refine And.intro (by (conv => arg 2; whnf); (try simp only [z_lit, nI_add, pk_mul, z_pr1, z_pr2]); exact z_in (by omega) (by decide)) ?_ | refine z_bt1 (by decide) ?_ | refine z_bf1 (by decide) ?_ | refine z_bt2 (by decide) ?_ | refine z_bf2 (by decide) ?_); conv => whnf)
    simp (disch := omega) only [z_lit, nI_add, pk_mul, z_pr1, z_pr2, nI_clamp, z_up_row, z_row_s, z_row_n, z_row_row, pk_us, pk_un]
    refine hC _ _ _ _ _ _ _ _ _ _ (fun _ _ _ _ _ _ q => q) (cs_number4 (m := m) (k := 3) (lo := 0) (hi := 1) (rt cl3.1) hn (by decide) (by decide) h4' (okQ_m (okQ_b hQ) (fun g5 st5 hQ v5 I5 e5 _ _ _ _ f5 h5 => ?_) (fun c p hQ I5 f5 dd => ?_)))
    conv => whnf
    rotate_left
    · conv => whnf
      repeat ((first | refine And.intro (by (conv => arg 2; whnf); (try simp only [z_lit, nI_add, pk_mul, z_pr1, z_pr2]); exact z_in (by omega) (by decide)) ?_ | refine z_bt1 (by decide) ?_ | refine z_bf1 (by decide) ?_ | refine z_bt2 (by decide) ?_ | refine z_bf2 (by decide) ?_); conv => whnf)
      simp (disch := omega) only [z_lit, nI_add, pk_mul, z_pr1, z_pr2, nI_clamp, z_up_row, z_row_s, z_row_n, z_row_row, pk_us, pk_un]
      refine hK _ _ _ _ _ _ _ _ _ _ (dE149 hQ (fr_w (cld_r cl3.1 f5) (by decide)) (by rw [z_row_n _ _ (by decide)]; exact dd))
    subst e5
    have cl4 := clE_w (v := nI v5) (clE_r cl3 f5)
    have h5' : lvC t n kO4 vO4 ((z_row I5 34 (upd (I5 34) (m * 4 + 3) (nI v5))) 32) st5 := by rw [z_row_n _ _ (by decide)]; exact h5
    repeat ((first | refine And.intro (by (conv => arg 2; whnf); (try simp only [z_lit, nI_add, pk_mul, z_pr1, z_pr2]); exact z_in (by omega) (by decide)) ?_ | refine z_bt1 (by decide) ?_ | refine z_bf1 (by decide) ?_ | refine z_bt2 (by decide) ?_ | refine z_bf2 (by decide) ?_); conv => whnf)
    simp (disch := omega) only [z_lit, nI_add, pk_mul, z_pr1, z_pr2, nI_clamp, z_up_row, z_row_s, z_row_n, z_row_row, pk_us, pk_un]
    refine hK _ _ _ _ _ _ _ _ _ _ (?_)
    refine z_WP_gos [] 1000 fun K C hK hC => ?_
    conv => whnf
    refine hC _ _ _ _ _ _ _ _ _ _ (fun _ _ _ _ _ _ q => q) (cs_expect4 (a := 3) (b := 0) (q := 13) (rt cl4.1) hn (by decide) (by decide) (by decide) (Or.inr rfl) h5' (okQ_m hQ (fun g6 st6 hQ I6 e6 f6 h6 => ?_) (fun c p hQ I6 f6 dd => ?_)))
    conv => whnf
    · replace e6 := e6.symm
      subst e6
      exact hQ I6 (clE_r cl4 f6) h6
    · exact hQ I6 (cld_r cl4.1 f6) dd
  · rw [show evW 5 = 7 from rfl, show evL 5 = 0 from rfl, show evM 5 = 1 from rfl] at hQ
    repeat ((first | refine And.intro (by (conv => arg 2; whnf); (try simp only [z_lit, nI_add, pk_mul, z_pr1, z_pr2]); exact z_in (by omega) (by decide)) ?_ | refine z_bt1 (by decide) ?_ | refine z_bf1 (by decide) ?_ | refine z_bt2 (by decide) ?_ | refine z_bf2 (by decide) ?_); conv => whnf)
    simp (disch := omega) only [z_lit, nI_add, pk_mul, z_pr1, z_pr2, nI_clamp, z_up_row, z_row_s, z_row_n, z_row_row, pk_us, pk_un]
    refine hC _ _ _ _ _ _ _ _ _ _ (fun _ _ _ _ _ _ q => q) (cs_number4 (m := m) (k := 2) (lo := 0) (hi := 7) (rt cl2.1) hn (by decide) (by decide) h3' (okQ_m (okQ_b hQ) (fun g4 st4 hQ v4 I4 e4 _ _ _ _ f4 h4 => ?_) (fun c p hQ I4 f4 dd => ?_)))
    conv => whnf
    rotate_left
    · conv => whnf
      repeat ((first | refine And.intro (by (conv => arg 2; whnf); (try simp only [z_lit, nI_add, pk_mul, z_pr1, z_pr2]); exact z_in (by omega) (by decide)) ?_ | refine z_bt1 (by decide) ?_ | refine z_bf1 (by decide) ?_ | refine z_bt2 (by decide) ?_ | refine z_bf2 (by decide) ?_); conv => whnf)
      simp (disch := omega) only [z_lit, nI_add, pk_mul, z_pr1, z_pr2, nI_clamp, z_up_row, z_row_s, z_row_n, z_row_row, pk_us, pk_un]
      have dd' : ddC ((z_row I4 34 (upd (I4 34) (m * 4 + 2) (nI 0))) 32) c p := by rw [z_row_n _ _ (by decide)]; exact dd
      refine hC _ _ _ _ _ _ _ _ _ _ (fun _ _ _ _ _ _ q => q) (cs_numberD dd' ?_)
      conv => whnf
      repeat ((first | refine And.intro (by (conv => arg 2; whnf); (try simp only [z_lit, nI_add, pk_mul, z_pr1, z_pr2]); exact z_in (by omega) (by decide)) ?_ | refine z_bt1 (by decide) ?_ | refine z_bf1 (by decide) ?_ | refine z_bt2 (by decide) ?_ | refine z_bf2 (by decide) ?_); conv => whnf)
      simp (disch := omega) only [z_lit, nI_add, pk_mul, z_pr1, z_pr2, nI_clamp, z_up_row, z_row_s, z_row_n, z_row_row, pk_us, pk_un]
      refine hK _ _ _ _ _ _ _ _ _ _ (dE149 hQ (fr_w (cld_r cl2.1 f4) (by decide)) (by rw [z_row_n _ _ (by decide)]; exact dd))
    subst e4
    have cl3 := clE_w (v := nI v4) (clE_r cl2 f4)
    have h4' : lvC t n kO4 vO4 ((z_row I4 34 (upd (I4 34) (m * 4 + 2) (nI v4))) 32) st4 := by rw [z_row_n _ _ (by decide)]; exact h4
    repeat ((first | refine And.intro (by (conv => arg 2; whnf); (try simp only [z_lit, nI_add, pk_mul, z_pr1, z_pr2]); exact z_in (by omega) (by decide)) ?_ | refine z_bt1 (by decide) ?_ | refine z_bf1 (by decide) ?_ | refine z_bt2 (by decide) ?_ | refine z_bf2 (by decide) ?_); conv => whnf)
    simp (disch := omega) only [z_lit, nI_add, pk_mul, z_pr1, z_pr2, nI_clamp, z_up_row, z_row_s, z_row_n, z_row_row, pk_us, pk_un]
    refine hC _ _ _ _ _ _ _ _ _ _ (fun _ _ _ _ _ _ q => q) (cs_number4 (m := m) (k := 3) (lo := 0) (hi := 1) (rt cl3.1) hn (by decide) (by decide) h4' (okQ_m (okQ_b hQ) (fun g5 st5 hQ v5 I5 e5 _ _ _ _ f5 h5 => ?_) (fun c p hQ I5 f5 dd => ?_)))
    conv => whnf
    rotate_left
    · conv => whnf
      repeat ((first | refine And.intro (by (conv => arg 2; whnf); (try simp only [z_lit, nI_add, pk_mul, z_pr1, z_pr2]); exact z_in (by omega) (by decide)) ?_ | refine z_bt1 (by decide) ?_ | refine z_bf1 (by decide) ?_ | refine z_bt2 (by decide) ?_ | refine z_bf2 (by decide) ?_); conv => whnf)
      simp (disch := omega) only [z_lit, nI_add, pk_mul, z_pr1, z_pr2, nI_clamp, z_up_row, z_row_s, z_row_n, z_row_row, pk_us, pk_un]
      refine hK _ _ _ _ _ _ _ _ _ _ (dE149 hQ (fr_w (cld_r cl3.1 f5) (by decide)) (by rw [z_row_n _ _ (by decide)]; exact dd))
    subst e5
    have cl4 := clE_w (v := nI v5) (clE_r cl3 f5)
    have h5' : lvC t n kO4 vO4 ((z_row I5 34 (upd (I5 34) (m * 4 + 3) (nI v5))) 32) st5 := by rw [z_row_n _ _ (by decide)]; exact h5
    repeat ((first | refine And.intro (by (conv => arg 2; whnf); (try simp only [z_lit, nI_add, pk_mul, z_pr1, z_pr2]); exact z_in (by omega) (by decide)) ?_ | refine z_bt1 (by decide) ?_ | refine z_bf1 (by decide) ?_ | refine z_bt2 (by decide) ?_ | refine z_bf2 (by decide) ?_); conv => whnf)
    simp (disch := omega) only [z_lit, nI_add, pk_mul, z_pr1, z_pr2, nI_clamp, z_up_row, z_row_s, z_row_n, z_row_row, pk_us, pk_un]
    refine hK _ _ _ _ _ _ _ _ _ _ (?_)
    refine z_WP_gos [] 1000 fun K C hK hC => ?_
    conv => whnf
    refine hC _ _ _ _ _ _ _ _ _ _ (fun _ _ _ _ _ _ q => q) (cs_expect4 (a := 3) (b := 0) (q := 13) (rt cl4.1) hn (by decide) (by decide) (by decide) (Or.inr rfl) h5' (okQ_m hQ (fun g6 st6 hQ I6 e6 f6 h6 => ?_) (fun c p hQ I6 f6 dd => ?_)))
    conv => whnf
    · replace e6 := e6.symm
      subst e6
      exact hQ I6 (clE_r cl4 f6) h6
    · exact hQ I6 (cld_r cl4.1 f6) dd
  · rw [show evW 6 = 7 from rfl, show evL 6 = 0 from rfl, show evM 6 = 3 from rfl] at hQ
    repeat ((first | refine And.intro (by (conv => arg 2; whnf); (try simp only [z_lit, nI_add, pk_mul, z_pr1, z_pr2]); exact z_in (by omega) (by decide)) ?_ | refine z_bt1 (by decide) ?_ | refine z_bf1 (by decide) ?_ | refine z_bt2 (by decide) ?_ | refine z_bf2 (by decide) ?_); conv => whnf)
    simp (disch := omega) only [z_lit, nI_add, pk_mul, z_pr1, z_pr2, nI_clamp, z_up_row, z_row_s, z_row_n, z_row_row, pk_us, pk_un]
    refine hC _ _ _ _ _ _ _ _ _ _ (fun _ _ _ _ _ _ q => q) (cs_number4 (m := m) (k := 2) (lo := 0) (hi := 7) (rt cl2.1) hn (by decide) (by decide) h3' (okQ_m (okQ_b hQ) (fun g4 st4 hQ v4 I4 e4 _ _ _ _ f4 h4 => ?_) (fun c p hQ I4 f4 dd => ?_)))
    conv => whnf
    rotate_left
    · conv => whnf
      repeat ((first | refine And.intro (by (conv => arg 2; whnf); (try simp only [z_lit, nI_add, pk_mul, z_pr1, z_pr2]); exact z_in (by omega) (by decide)) ?_ | refine z_bt1 (by decide) ?_ | refine z_bf1 (by decide) ?_ | refine z_bt2 (by decide) ?_ | refine z_bf2 (by decide) ?_); conv => whnf)
      simp (disch := omega) only [z_lit, nI_add, pk_mul, z_pr1, z_pr2, nI_clamp, z_up_row, z_row_s, z_row_n, z_row_row, pk_us, pk_un]
      have dd' : ddC ((z_row I4 34 (upd (I4 34) (m * 4 + 2) (nI 0))) 32) c p := by rw [z_row_n _ _ (by decide)]; exact dd
      refine hC _ _ _ _ _ _ _ _ _ _ (fun _ _ _ _ _ _ q => q) (cs_numberD dd' ?_)
      conv => whnf
      repeat ((first | refine And.intro (by (conv => arg 2; whnf); (try simp only [z_lit, nI_add, pk_mul, z_pr1, z_pr2]); exact z_in (by omega) (by decide)) ?_ | refine z_bt1 (by decide) ?_ | refine z_bf1 (by decide) ?_ | refine z_bt2 (by decide) ?_ | refine z_bf2 (by decide) ?_); conv => whnf)
      simp (disch := omega) only [z_lit, nI_add, pk_mul, z_pr1, z_pr2, nI_clamp, z_up_row, z_row_s, z_row_n, z_row_row, pk_us, pk_un]
      refine hK _ _ _ _ _ _ _ _ _ _ (dE149 hQ (fr_w (cld_r cl2.1 f4) (by decide)) (by rw [z_row_n _ _ (by decide)]; exact dd))
    subst e4
    have cl3 := clE_w (v := nI v4) (clE_r cl2 f4)
    have h4' : lvC t n kO4 vO4 ((z_row I4 34 (upd (I4 34) (m * 4 + 2) (nI v4))) 32) st4 := by rw [z_row_n _ _ (by decide)]; exact h4
    repeat ((first | refine And.intro (by (conv => arg 2; whnf); (try simp only [z_lit, nI_add, pk_mul, z_pr1, z_pr2]); exact z_in (by omega) (by decide)) ?_ | refine z_bt1 (by decide) ?_ | refine z_bf1 (by decide) ?_ | refine z_bt2 (by decide) ?_ | refine z_bf2 (by decide) ?_); conv => whnf)
    simp (disch := omega) only [z_lit, nI_add, pk_mul, z_pr1, z_pr2, nI_clamp, z_up_row, z_row_s, z_row_n, z_row_row, pk_us, pk_un]
    refine hC _ _ _ _ _ _ _ _ _ _ (fun _ _ _ _ _ _ q => q) (cs_number4 (m := m) (k := 3) (lo := 0) (hi := 3) (rt cl3.1) hn (by decide) (by decide) h4' (okQ_m (okQ_b hQ) (fun g5 st5 hQ v5 I5 e5 _ _ _ _ f5 h5 => ?_) (fun c p hQ I5 f5 dd => ?_)))
    conv => whnf
    rotate_left
    · conv => whnf
      repeat ((first | refine And.intro (by (conv => arg 2; whnf); (try simp only [z_lit, nI_add, pk_mul, z_pr1, z_pr2]); exact z_in (by omega) (by decide)) ?_ | refine z_bt1 (by decide) ?_ | refine z_bf1 (by decide) ?_ | refine z_bt2 (by decide) ?_ | refine z_bf2 (by decide) ?_); conv => whnf)
      simp (disch := omega) only [z_lit, nI_add, pk_mul, z_pr1, z_pr2, nI_clamp, z_up_row, z_row_s, z_row_n, z_row_row, pk_us, pk_un]
      refine hK _ _ _ _ _ _ _ _ _ _ (dE149 hQ (fr_w (cld_r cl3.1 f5) (by decide)) (by rw [z_row_n _ _ (by decide)]; exact dd))
    subst e5
    have cl4 := clE_w (v := nI v5) (clE_r cl3 f5)
    have h5' : lvC t n kO4 vO4 ((z_row I5 34 (upd (I5 34) (m * 4 + 3) (nI v5))) 32) st5 := by rw [z_row_n _ _ (by decide)]; exact h5
    repeat ((first | refine And.intro (by (conv => arg 2; whnf); (try simp only [z_lit, nI_add, pk_mul, z_pr1, z_pr2]); exact z_in (by omega) (by decide)) ?_ | refine z_bt1 (by decide) ?_ | refine z_bf1 (by decide) ?_ | refine z_bt2 (by decide) ?_ | refine z_bf2 (by decide) ?_); conv => whnf)
    simp (disch := omega) only [z_lit, nI_add, pk_mul, z_pr1, z_pr2, nI_clamp, z_up_row, z_row_s, z_row_n, z_row_row, pk_us, pk_un]
    refine hK _ _ _ _ _ _ _ _ _ _ (?_)
    refine z_WP_gos [] 1000 fun K C hK hC => ?_
    conv => whnf
    refine hC _ _ _ _ _ _ _ _ _ _ (fun _ _ _ _ _ _ q => q) (cs_expect4 (a := 3) (b := 0) (q := 13) (rt cl4.1) hn (by decide) (by decide) (by decide) (Or.inr rfl) h5' (okQ_m hQ (fun g6 st6 hQ I6 e6 f6 h6 => ?_) (fun c p hQ I6 f6 dd => ?_)))
    conv => whnf
    · replace e6 := e6.symm
      subst e6
      exact hQ I6 (clE_r cl4 f6) h6
    · exact hQ I6 (cld_r cl4.1 f6) dd
  · rw [show evW 7 = 7 from rfl, show evL 7 = 0 from rfl, show evM 7 = 3 from rfl] at hQ
    repeat ((first | refine And.intro (by (conv => arg 2; whnf); (try simp only [z_lit, nI_add, pk_mul, z_pr1, z_pr2]); exact z_in (by omega) (by decide)) ?_ | refine z_bt1 (by decide) ?_ | refine z_bf1 (by decide) ?_ | refine z_bt2 (by decide) ?_ | refine z_bf2 (by decide) ?_); conv => whnf)
    simp (disch := omega) only [z_lit, nI_add, pk_mul, z_pr1, z_pr2, nI_clamp, z_up_row, z_row_s, z_row_n, z_row_row, pk_us, pk_un]
    refine hC _ _ _ _ _ _ _ _ _ _ (fun _ _ _ _ _ _ q => q) (cs_number4 (m := m) (k := 2) (lo := 0) (hi := 7) (rt cl2.1) hn (by decide) (by decide) h3' (okQ_m (okQ_b hQ) (fun g4 st4 hQ v4 I4 e4 _ _ _ _ f4 h4 => ?_) (fun c p hQ I4 f4 dd => ?_)))
    conv => whnf
    rotate_left
    · conv => whnf
      repeat ((first | refine And.intro (by (conv => arg 2; whnf); (try simp only [z_lit, nI_add, pk_mul, z_pr1, z_pr2]); exact z_in (by omega) (by decide)) ?_ | refine z_bt1 (by decide) ?_ | refine z_bf1 (by decide) ?_ | refine z_bt2 (by decide) ?_ | refine z_bf2 (by decide) ?_); conv => whnf)
      simp (disch := omega) only [z_lit, nI_add, pk_mul, z_pr1, z_pr2, nI_clamp, z_up_row, z_row_s, z_row_n, z_row_row, pk_us, pk_un]
      have dd' : ddC ((z_row I4 34 (upd (I4 34) (m * 4 + 2) (nI 0))) 32) c p := by rw [z_row_n _ _ (by decide)]; exact dd
      refine hC _ _ _ _ _ _ _ _ _ _ (fun _ _ _ _ _ _ q => q) (cs_numberD dd' ?_)
      conv => whnf
      repeat ((first | refine And.intro (by (conv => arg 2; whnf); (try simp only [z_lit, nI_add, pk_mul, z_pr1, z_pr2]); exact z_in (by omega) (by decide)) ?_ | refine z_bt1 (by decide) ?_ | refine z_bf1 (by decide) ?_ | refine z_bt2 (by decide) ?_ | refine z_bf2 (by decide) ?_); conv => whnf)
      simp (disch := omega) only [z_lit, nI_add, pk_mul, z_pr1, z_pr2, nI_clamp, z_up_row, z_row_s, z_row_n, z_row_row, pk_us, pk_un]
      refine hK _ _ _ _ _ _ _ _ _ _ (dE149 hQ (fr_w (cld_r cl2.1 f4) (by decide)) (by rw [z_row_n _ _ (by decide)]; exact dd))
    subst e4
    have cl3 := clE_w (v := nI v4) (clE_r cl2 f4)
    have h4' : lvC t n kO4 vO4 ((z_row I4 34 (upd (I4 34) (m * 4 + 2) (nI v4))) 32) st4 := by rw [z_row_n _ _ (by decide)]; exact h4
    repeat ((first | refine And.intro (by (conv => arg 2; whnf); (try simp only [z_lit, nI_add, pk_mul, z_pr1, z_pr2]); exact z_in (by omega) (by decide)) ?_ | refine z_bt1 (by decide) ?_ | refine z_bf1 (by decide) ?_ | refine z_bt2 (by decide) ?_ | refine z_bf2 (by decide) ?_); conv => whnf)
    simp (disch := omega) only [z_lit, nI_add, pk_mul, z_pr1, z_pr2, nI_clamp, z_up_row, z_row_s, z_row_n, z_row_row, pk_us, pk_un]
    refine hC _ _ _ _ _ _ _ _ _ _ (fun _ _ _ _ _ _ q => q) (cs_number4 (m := m) (k := 3) (lo := 0) (hi := 3) (rt cl3.1) hn (by decide) (by decide) h4' (okQ_m (okQ_b hQ) (fun g5 st5 hQ v5 I5 e5 _ _ _ _ f5 h5 => ?_) (fun c p hQ I5 f5 dd => ?_)))
    conv => whnf
    rotate_left
    · conv => whnf
      repeat ((first | refine And.intro (by (conv => arg 2; whnf); (try simp only [z_lit, nI_add, pk_mul, z_pr1, z_pr2]); exact z_in (by omega) (by decide)) ?_ | refine z_bt1 (by decide) ?_ | refine z_bf1 (by decide) ?_ | refine z_bt2 (by decide) ?_ | refine z_bf2 (by decide) ?_); conv => whnf)
      simp (disch := omega) only [z_lit, nI_add, pk_mul, z_pr1, z_pr2, nI_clamp, z_up_row, z_row_s, z_row_n, z_row_row, pk_us, pk_un]
      refine hK _ _ _ _ _ _ _ _ _ _ (dE149 hQ (fr_w (cld_r cl3.1 f5) (by decide)) (by rw [z_row_n _ _ (by decide)]; exact dd))
    subst e5
    have cl4 := clE_w (v := nI v5) (clE_r cl3 f5)
    have h5' : lvC t n kO4 vO4 ((z_row I5 34 (upd (I5 34) (m * 4 + 3) (nI v5))) 32) st5 := by rw [z_row_n _ _ (by decide)]; exact h5
    repeat ((first | refine And.intro (by (conv => arg 2; whnf); (try simp only [z_lit, nI_add, pk_mul, z_pr1, z_pr2]); exact z_in (by omega) (by decide)) ?_ | refine z_bt1 (by decide) ?_ | refine z_bf1 (by decide) ?_ | refine z_bt2 (by decide) ?_ | refine z_bf2 (by decide) ?_); conv => whnf)
    simp (disch := omega) only [z_lit, nI_add, pk_mul, z_pr1, z_pr2, nI_clamp, z_up_row, z_row_s, z_row_n, z_row_row, pk_us, pk_un]
    refine hK _ _ _ _ _ _ _ _ _ _ (?_)
    refine z_WP_gos [] 1000 fun K C hK hC => ?_
    conv => whnf
    refine hC _ _ _ _ _ _ _ _ _ _ (fun _ _ _ _ _ _ q => q) (cs_expect4 (a := 3) (b := 0) (q := 13) (rt cl4.1) hn (by decide) (by decide) (by decide) (Or.inr rfl) h5' (okQ_m hQ (fun g6 st6 hQ I6 e6 f6 h6 => ?_) (fun c p hQ I6 f6 dd => ?_)))
    conv => whnf
    · replace e6 := e6.symm
      subst e6
      exact hQ I6 (clE_r cl4 f6) h6
    · exact hQ I6 (cld_r cl4.1 f6) dd
  · rw [show evW 8 = 1 from rfl, show evL 8 = 1 from rfl, show evM 8 = 999 from rfl] at hQ
    repeat ((first | refine And.intro (by (conv => arg 2; whnf); (try simp only [z_lit, nI_add, pk_mul, z_pr1, z_pr2]); exact z_in (by omega) (by decide)) ?_ | refine z_bt1 (by decide) ?_ | refine z_bf1 (by decide) ?_ | refine z_bt2 (by decide) ?_ | refine z_bf2 (by decide) ?_); conv => whnf)
    simp (disch := omega) only [z_lit, nI_add, pk_mul, z_pr1, z_pr2, nI_clamp, z_up_row, z_row_s, z_row_n, z_row_row, pk_us, pk_un]
    refine hC _ _ _ _ _ _ _ _ _ _ (fun _ _ _ _ _ _ q => q) (cs_number4 (m := m) (k := 2) (lo := 0) (hi := 1) (rt cl2.1) hn (by decide) (by decide) h3' (okQ_m (okQ_b hQ) (fun g4 st4 hQ v4 I4 e4 _ _ _ _ f4 h4 => ?_) (fun c p hQ I4 f4 dd => ?_)))
    conv => whnf
    rotate_left
    · conv => whnf
      repeat ((first | refine And.intro (by (conv => arg 2; whnf); (try simp only [z_lit, nI_add, pk_mul, z_pr1, z_pr2]); exact z_in (by omega) (by decide)) ?_ | refine z_bt1 (by decide) ?_ | refine z_bf1 (by decide) ?_ | refine z_bt2 (by decide) ?_ | refine z_bf2 (by decide) ?_); conv => whnf)
      simp (disch := omega) only [z_lit, nI_add, pk_mul, z_pr1, z_pr2, nI_clamp, z_up_row, z_row_s, z_row_n, z_row_row, pk_us, pk_un]
      have dd' : ddC ((z_row I4 34 (upd (I4 34) (m * 4 + 2) (nI 0))) 32) c p := by rw [z_row_n _ _ (by decide)]; exact dd
      refine hC _ _ _ _ _ _ _ _ _ _ (fun _ _ _ _ _ _ q => q) (cs_numberD dd' ?_)
      conv => whnf
      repeat ((first | refine And.intro (by (conv => arg 2; whnf); (try simp only [z_lit, nI_add, pk_mul, z_pr1, z_pr2]); exact z_in (by omega) (by decide)) ?_ | refine z_bt1 (by decide) ?_ | refine z_bf1 (by decide) ?_ | refine z_bt2 (by decide) ?_ | refine z_bf2 (by decide) ?_); conv => whnf)
      simp (disch := omega) only [z_lit, nI_add, pk_mul, z_pr1, z_pr2, nI_clamp, z_up_row, z_row_s, z_row_n, z_row_row, pk_us, pk_un]
      refine hK _ _ _ _ _ _ _ _ _ _ (dE149 hQ (fr_w (cld_r cl2.1 f4) (by decide)) (by rw [z_row_n _ _ (by decide)]; exact dd))
    subst e4
    have cl3 := clE_w (v := nI v4) (clE_r cl2 f4)
    have h4' : lvC t n kO4 vO4 ((z_row I4 34 (upd (I4 34) (m * 4 + 2) (nI v4))) 32) st4 := by rw [z_row_n _ _ (by decide)]; exact h4
    repeat ((first | refine And.intro (by (conv => arg 2; whnf); (try simp only [z_lit, nI_add, pk_mul, z_pr1, z_pr2]); exact z_in (by omega) (by decide)) ?_ | refine z_bt1 (by decide) ?_ | refine z_bf1 (by decide) ?_ | refine z_bt2 (by decide) ?_ | refine z_bf2 (by decide) ?_); conv => whnf)
    simp (disch := omega) only [z_lit, nI_add, pk_mul, z_pr1, z_pr2, nI_clamp, z_up_row, z_row_s, z_row_n, z_row_row, pk_us, pk_un]
    refine hC _ _ _ _ _ _ _ _ _ _ (fun _ _ _ _ _ _ q => q) (cs_number4 (m := m) (k := 3) (lo := 1) (hi := 999) (rt cl3.1) hn (by decide) (by decide) h4' (okQ_m (okQ_b hQ) (fun g5 st5 hQ v5 I5 e5 _ _ _ _ f5 h5 => ?_) (fun c p hQ I5 f5 dd => ?_)))
    conv => whnf
    rotate_left
    · conv => whnf
      repeat ((first | refine And.intro (by (conv => arg 2; whnf); (try simp only [z_lit, nI_add, pk_mul, z_pr1, z_pr2]); exact z_in (by omega) (by decide)) ?_ | refine z_bt1 (by decide) ?_ | refine z_bf1 (by decide) ?_ | refine z_bt2 (by decide) ?_ | refine z_bf2 (by decide) ?_); conv => whnf)
      simp (disch := omega) only [z_lit, nI_add, pk_mul, z_pr1, z_pr2, nI_clamp, z_up_row, z_row_s, z_row_n, z_row_row, pk_us, pk_un]
      refine hK _ _ _ _ _ _ _ _ _ _ (dE149 hQ (fr_w (cld_r cl3.1 f5) (by decide)) (by rw [z_row_n _ _ (by decide)]; exact dd))
    subst e5
    have cl4 := clE_w (v := nI v5) (clE_r cl3 f5)
    have h5' : lvC t n kO4 vO4 ((z_row I5 34 (upd (I5 34) (m * 4 + 3) (nI v5))) 32) st5 := by rw [z_row_n _ _ (by decide)]; exact h5
    repeat ((first | refine And.intro (by (conv => arg 2; whnf); (try simp only [z_lit, nI_add, pk_mul, z_pr1, z_pr2]); exact z_in (by omega) (by decide)) ?_ | refine z_bt1 (by decide) ?_ | refine z_bf1 (by decide) ?_ | refine z_bt2 (by decide) ?_ | refine z_bf2 (by decide) ?_); conv => whnf)
    simp (disch := omega) only [z_lit, nI_add, pk_mul, z_pr1, z_pr2, nI_clamp, z_up_row, z_row_s, z_row_n, z_row_row, pk_us, pk_un]
    refine hK _ _ _ _ _ _ _ _ _ _ (?_)
    refine z_WP_gos [] 1000 fun K C hK hC => ?_
    conv => whnf
    refine hC _ _ _ _ _ _ _ _ _ _ (fun _ _ _ _ _ _ q => q) (cs_expect4 (a := 3) (b := 0) (q := 13) (rt cl4.1) hn (by decide) (by decide) (by decide) (Or.inr rfl) h5' (okQ_m hQ (fun g6 st6 hQ I6 e6 f6 h6 => ?_) (fun c p hQ I6 f6 dd => ?_)))
    conv => whnf
    · replace e6 := e6.symm
      subst e6
      exact hQ I6 (clE_r cl4 f6) h6
    · exact hQ I6 (cld_r cl4.1 f6) dd
end
