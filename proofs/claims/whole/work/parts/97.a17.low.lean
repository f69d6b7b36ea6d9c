/-! phases, the class -/
section
variable {L : Nat} {xs : Nat → Int32} {d : Nat} {kp sp wd : Value} {I : z_I} {s : z_sg} {R : z_R} {J : z_J} {F : z_F} {cn : Nat} {Q : z_Q} {n k : Nat}
theorem lp_low1 {g : Nat → Nat} {p q : Nat} {l1 l2 l3 : Option Value} (hg : ∀ f, f < 8 → I 23 f = nI (g f) ∧ g f < 2 ^ 30) (hp : 0 < p) (hp8 : p ≤ 8)
    (hQ : ∀ c, z_WP (z_X0 L xs) z_P0 (d + 1) m_Plan_lowestPhase 65 [some (.ref 18), l1, l2, l3, some (.int (nI p)), some (.int (nI q)), some (.int (nI (mq g p q 8))), some (.int (nI c))] [] I (z_R0 kp sp wd) J F cn 0 0 Q) :
    ∀ j c, 8 ≤ c + j → c % p = q → c < 16 → z_WP (z_X0 L xs) z_P0 (d + 1) m_Plan_lowestPhase 34 [some (.ref 18), l1, l2, l3, some (.int (nI p)), some (.int (nI q)), some (.int (nI (mq g p q c))), some (.int (nI c))] [] I (z_R0 kp sp wd) J F cn 0 0 Q := by
  intro j
  induction j with
  | zero =>
    intro c hc hq h16
    rw [mq_8 (by omega)]
    refine z_WP_gos [34, 65] 1000 fun K C hK hC => ?_
    conv => whnf
    refine ⟨fun _ => ?_, fun h => absurd (nI_le (a := 8) (b := c) (by omega) (by omega)) h⟩
    conv => whnf
    refine hK _ _ _ _ _ _ _ _ _ _ (hQ c)
  | succ j ih =>
    intro c hc hq h16
    by_cases z : 8 ≤ c
    · rw [mq_8 z]
      refine z_WP_gos [34, 65] 1000 fun K C hK hC => ?_
      conv => whnf
      refine ⟨fun _ => ?_, fun h => absurd (nI_le (a := 8) (b := c) (by omega) (by omega)) h⟩
      conv => whnf
      refine hK _ _ _ _ _ _ _ _ _ _ (hQ c)
    · have ih' := ih (c + p) (by omega) (by rw [Nat.add_mod_right]; exact hq) (by omega)
      rw [mq_s hp hq (by omega)] at ih'
      obtain ⟨e, hl⟩ := hg c (by omega)
      have hm : mq g p q c ≤ 2 ^ 30 := mxf_le fun f hf => by
        by_cases y : f < 8 ∧ f % p = q
        · simp only [if_pos y]; have := (hg f y.1).2; omega
        · simp only [if_neg y]; omega
      generalize mq g p q c = mx at *
      generalize g c = ld at *
      refine z_WP_gos [34, 65] 1000 fun K C hK hC => ?_
      conv => whnf
      refine ⟨fun h => absurd h (nI_ge (b := 8) (by omega) (by omega)), fun _ => ?_⟩
      conv => whnf
      repeat ((first | refine And.intro (by (conv => arg 2; whnf); (try simp only [z_lit, nI_add, pk_mul, z_pr1, z_pr2]); exact z_in (by omega) (by decide)) ?_ | refine z_bt1 (by decide) ?_ | refine z_bf1 (by decide) ?_ | refine z_bt2 (by decide) ?_ | refine z_bf2 (by decide) ?_); conv => whnf)
      simp (disch := omega) only [z_lit, nI_add, pk_mul, z_pr1, z_pr2, nI_clamp, z_up_row, z_row_s, z_row_n, z_row_row, pk_us, pk_un]
      rw [e]
      refine hC _ _ _ _ _ _ _ _ _ _ (fun _ _ _ _ _ _ q => q) (cm_max ?_)
      conv => whnf
      rcases Nat.le_total ld mx with y | y
      · rw [Nat.max_eq_left y] at ih'
        rw [if_pos (nI_le y (by omega))]
        simp (disch := omega) only [z_lit, nI_add, pk_mul, z_pr1, z_pr2, nI_clamp, z_up_row, z_row_s, z_row_n, z_row_row, pk_us, pk_un]
        refine hK _ _ _ _ _ _ _ _ _ _ (ih')
      · rw [Nat.max_eq_right y] at ih'
        rcases Nat.lt_or_eq_of_le y with z | z
        · rw [if_neg (nI_ge z (by omega))]
          simp (disch := omega) only [z_lit, nI_add, pk_mul, z_pr1, z_pr2, nI_clamp, z_up_row, z_row_s, z_row_n, z_row_row, pk_us, pk_un]
          refine hK _ _ _ _ _ _ _ _ _ _ (ih')
        · rw [← z] at ih' ⊢
          rw [if_pos (Int32.le_refl _)]
          simp (disch := omega) only [z_lit, nI_add, pk_mul, z_pr1, z_pr2, nI_clamp, z_up_row, z_row_s, z_row_n, z_row_row, pk_us, pk_un]
          refine hK _ _ _ _ _ _ _ _ _ _ (ih')
theorem mq_le {g : Nat → Nat} {p q c : Nat} (hg : ∀ f, f < 8 → g f < 2 ^ 30) : mq g p q c ≤ 2 ^ 30 := mxf_le fun f hf => by
  by_cases y : f < 8 ∧ f % p = q
  · simp only [if_pos y]; have := hg f y.1; omega
  · simp only [if_neg y]; omega
theorem lp_low2 {g : Nat → Nat} {i p : Nat} (hg : ∀ f, f < 8 → I 23 f = nI (g f) ∧ g f < 2 ^ 30) (hp : 0 < p) (hp8 : p ≤ 8) (hQ : Q (some (.int (nI (amin (fun q => mq g p q 8) p)))) I (z_R0 kp sp wd) J F cn) :
    ∀ j q le l6 l7, q + j = p → (0 < q → le = nI (mq g p (amin (fun q => mq g p q 8) q) 8)) → z_WP (z_X0 L xs) z_P0 (d + 1) m_Plan_lowestPhase 20 [some (.ref 18), some (.int (nI i)), some (.int (nI (amin (fun q => mq g p q 8) q))), some (.int le), some (.int (nI p)), some (.int (nI q)), l6, l7] [] I (z_R0 kp sp wd) J F cn 0 0 Q := by
  have hb := fun q => mq_le (g := g) (p := p) (q := q) (c := 8) fun f hf => (hg f hf).2
  intro j
  induction j with
  | zero =>
    intro q le l6 l7 hq h1
    obtain rfl : q = p := by omega
    refine z_WP_gos [20] 1000 fun K C hK hC => ?_
    conv => whnf
    refine ⟨fun _ => ?_, fun h => absurd (Int32.le_refl _) h⟩
    conv => whnf
    exact hQ
  | succ j ih =>
    intro q le l6 l7 hq h1
    have ih' := fun le l6 l7 => ih (q + 1) le l6 l7 (by omega)
    unfold amin at ih'
    refine z_WP_gos [20, 34] 1000 fun K C hK hC => ?_
    conv => whnf
    refine ⟨fun h => absurd h (nI_ge (by omega) (by omega)), fun _ => ?_⟩
    conv => whnf
    have lp := lp_low1 (L := L) (xs := xs) (d := d) (kp := kp) (sp := sp) (wd := wd) (J := J) (F := F) (cn := cn) (Q := Q) (q := q) (l1 := some (.int (nI i))) (l2 := some (.int (nI (amin (fun q => mq g p q 8) q)))) (l3 := some (.int le)) hg hp hp8 ?_ 8 q (by omega) (Nat.mod_eq_of_lt (by omega)) (by omega)
    · rw [mq_0] at lp
      refine hK _ _ _ _ _ _ _ _ _ _ (lp)
    intro c
    by_cases k0 : q = 0
    · rw [if_pos (Or.inl k0)] at ih'
      have e0 : nI q = 0 := by rw [k0]; rfl
      refine z_WP_gos [20] 1000 fun K C hK hC => ?_
      conv => whnf
      refine ⟨fun _ => ?_, fun z => absurd e0 z⟩
      conv => whnf
      simp (disch := omega) only [z_lit, nI_add, pk_mul, z_pr1, z_pr2, nI_clamp, z_up_row, z_row_s, z_row_n, z_row_row, pk_us, pk_un]
      refine hK _ _ _ _ _ _ _ _ _ _ (ih' _ _ _ (fun _ => rfl))
    · have hle := h1 (by omega)
      have b1 := hb q
      have b2 := hb (amin (fun q => mq g p q 8) q)
      generalize amin (fun q => mq g p q 8) q = am at *
      generalize hG : mq g p q 8 = gk at *
      generalize hM : mq g p am 8 = gm at *
      subst hle
      refine z_WP_gos [20] 1000 fun K C hK hC => ?_
      conv => whnf
      refine ⟨fun z => absurd z (nI_ne0 (by omega) (by omega)), fun _ => ?_⟩
      conv => whnf
      refine ⟨fun g => ?_, fun g => ?_⟩
      · have g' : gm ≤ gk := (nI_leI (by omega) (by omega)).mp g
        rw [if_neg (by omega)] at ih'
        conv => whnf
        simp (disch := omega) only [z_lit, nI_add, pk_mul, z_pr1, z_pr2, nI_clamp, z_up_row, z_row_s, z_row_n, z_row_row, pk_us, pk_un]
        refine hK _ _ _ _ _ _ _ _ _ _ (ih' _ _ _ (fun _ => by rw [hM]))
      · have g' : gk < gm := by
          rcases Nat.lt_or_ge gk gm with y | y
          · exact y
          · exact absurd (nI_le y (by omega)) g
        rw [if_pos (Or.inr g')] at ih'
        conv => whnf
        simp (disch := omega) only [z_lit, nI_add, pk_mul, z_pr1, z_pr2, nI_clamp, z_up_row, z_row_s, z_row_n, z_row_row, pk_us, pk_un]
        refine hK _ _ _ _ _ _ _ _ _ _ (ih' _ _ _ (fun _ => by rw [hG]))
theorem cp_lowestPhase {g : Nat → Nat} {i p : Nat} (hi : i < 24) (e6 : I 19 (i * 11 + 6) = nI p) (hg : ∀ f, f < 8 → I 23 f = nI (g f) ∧ g f < 2 ^ 30) (hp : 0 < p) (hp8 : p ≤ 8) (hQ : Q (some (.int (nI (amin (fun q => mq g p q 8) p)))) I (z_R0 kp sp wd) J F cn) :
    z_M (z_X0 L xs) z_P0 (d + 1) m_Plan_lowestPhase [.ref 18, .int (nI i)] I (z_R0 kp sp wd) J F cn Q := by
  refine z_WP_gos [20] 1000 fun K C hK hC => ?_
  conv => whnf
  refine hC _ _ _ _ _ _ _ _ _ _ (fun _ _ _ _ _ _ q => q) (cp_told (f := 6) hi (by omega) e6 ?_)
  conv => whnf
  refine hC _ _ _ _ _ _ _ _ _ _ (fun _ _ _ _ _ _ q => q) (cm_max ?_)
  conv => whnf
  have e : (if nI p ≤ 1 then 1 else nI p) = nI p := by
    by_cases z : p = 1
    · subst z; rfl
    · exact if_neg (nI_ge (a := 1) (b := p) (by omega) (by omega))
  rw [e]
  refine hK _ _ _ _ _ _ _ _ _ _ (lp_low2 hg hp hp8 hQ p 0 _ _ _ (by omega) (fun z => by omega))

theorem lp_fixed23 {w : Nat → Int32} (hp : pS I w) (ht : tb_ok w) (hQ : ∀ r', (∀ f, f < 8 → r' f = nI (ldn w f 0 (w 8).toNatClampNeg)) → Q none (z_row I 23 r') (z_R0 kp sp wd) J F cn) :
    ∀ j k r, k + j = (w 8).toNatClampNeg → (∀ f, f < 8 → r f = nI (ldn w f 0 k)) → z_WP (z_X0 L xs) z_P0 (d + 2) m_Plan_layFixed 7 [some (.ref 18), some (.ref 23), some (.int (nI k))] [] (z_row I 23 r) (z_R0 kp sp wd) J F cn 0 0 Q := by
  have p5 := hp.1
  have p2 := hp.2
  obtain ⟨e1, e2, e3⟩ := ht
  rw [e1] at p5
  intro j
  induction j with
  | zero =>
    intro k r hk hr
    have hk' : k = (w 8).toNatClampNeg := by omega
    rw [hk'] at hr
    refine z_WP_gos [7] 1000 fun K C hK hC => ?_
    conv => whnf
    simp (disch := omega) only [z_lit, nI_add, pk_mul, z_pr1, z_pr2, nI_clamp, z_up_row, z_row_s, z_row_n, z_row_row, pk_us, pk_un]
    rw [p5]
    refine ⟨fun _ => ?_, fun h => absurd (nI_le (a := (w 8).toNatClampNeg) (b := k) (by omega) (by omega)) h⟩
    conv => whnf
    exact hQ r hr
  | succ j ih =>
    intro k r hk hr
    have ho := e3 k (by omega)
    have pp := pp8 ho
    have hq := ho.2.2.2.2.2.2.2.2.2.2.2.2.1
    have h9 := ho.2.2.2.2.2.2.2.2.2.2.2.2.2.2.1
    obtain ⟨b0, b1, b2, b3, b4, b5, b6, b7, b8, b9, b10⟩ := p2 k (by omega)
    have i19 : (z_row I 23 r) 19 = I 19 := z_row_n _ _ (by decide)
    refine z_WP_gos [7] 1000 fun K C hK hC => ?_
    conv => whnf
    simp (disch := omega) only [z_lit, nI_add, pk_mul, z_pr1, z_pr2, nI_clamp, z_up_row, z_row_s, z_row_n, z_row_row, pk_us, pk_un]
    rw [p5]
    refine ⟨fun h => absurd h (nI_ge (by omega) (by omega)), fun _ => ?_⟩
    conv => whnf
    refine hC _ _ _ _ _ _ _ _ _ _ (fun _ _ _ _ _ _ q => q) (cp_told (f := 8) (by omega) (by omega) ((congrFun i19 _).trans b8) ?_)
    conv => whnf
    refine ⟨fun g => ?_, fun g => ?_⟩
    · have g9 : ¬ lnn w k 9 = 0 := fun z => g (by rw [z]; rfl)
      have hr' : ∀ f, f < 8 → r f = nI (ldn w f 0 (k + 1)) := fun f hf => by
        rw [hr f hf]
        show nI (ldn w f 0 k) = nI (ldn w f 0 k + (bif ldc w f 0 k then s_time w k else 0))
        rw [show ldc w f 0 k = false from by unfold ldc; rw [decide_eq_false g9]; rfl]
        rfl
      conv => whnf
      simp (disch := omega) only [z_lit, nI_add, pk_mul, z_pr1, z_pr2, nI_clamp, z_up_row, z_row_s, z_row_n, z_row_row, pk_us, pk_un]
      refine hK _ _ _ _ _ _ _ _ _ _ (ih (k + 1) r (by omega) hr')
    · have g9 : lnn w k 9 = 0 := nI_inj9 (by omega) (by omega) g
      conv => whnf
      refine hC _ _ _ _ _ _ _ _ _ _ (fun _ _ _ _ _ _ q => q) (cp_told (f := 7) (by omega) (by omega) ((congrFun i19 _).trans b7) ?_)
      conv => whnf
      refine hC _ _ _ _ _ _ _ _ _ _ (fun _ _ _ _ _ _ q => q) (cp_told (f := 10) (by omega) (by omega) ((congrFun i19 _).trans b10) ?_)
      conv => whnf
      refine hC _ _ _ _ _ _ _ _ _ _ (fun _ _ _ _ _ _ q => q) (cp_pile23 (p := lnn w k 6) (by omega) ((congrFun i19 _).trans b6) pp.1 pp.2 hq ?_)
      conv => whnf
      have hr' : ∀ f, f < 8 → plc r (lnn w k 6) (lnn w k 7) (nI (s_time w k)) 8 f = nI (ldn w f 0 (k + 1)) := fun f hf => by
        unfold ldn plc
        have ec : ldc w f 0 k = decide (f % lnn w k 6 = lnn w k 7) := by
          unfold ldc; rw [decide_eq_true g9]; rfl
        rw [ec]
        by_cases z : f % lnn w k 6 = lnn w k 7
        · rw [if_pos ⟨hf, hf, z⟩, decide_eq_true z, hr f hf, nI_add]; rfl
        · rw [if_neg fun h => z h.2.2, decide_eq_false z, hr f hf]; rfl
      simp (disch := omega) only [z_lit, nI_add, pk_mul, z_pr1, z_pr2, nI_clamp, z_up_row, z_row_s, z_row_n, z_row_row, pk_us, pk_un]
      refine hK _ _ _ _ _ _ _ _ _ _ (ih (k + 1) _ (by omega) hr')
theorem cp_fixed23 {w : Nat → Int32} (hp : pS I w) (ht : tb_ok w) (hQ : ∀ r', (∀ f, f < 8 → r' f = nI (ldn w f 0 (w 8).toNatClampNeg)) → Q none (z_row I 23 r') (z_R0 kp sp wd) J F cn) :
    z_M (z_X0 L xs) z_P0 (d + 2) m_Plan_layFixed [.ref 18, .ref 23] I (z_R0 kp sp wd) J F cn Q := by
  refine z_WP_gos [7] 1000 fun K C hK hC => ?_
  conv => whnf
  refine hC _ _ _ _ _ _ _ _ _ _ (fun _ _ _ _ _ _ q => q) (ca_fill23 ?_)
  conv => whnf
  refine hK _ _ _ _ _ _ _ _ _ _ (lp_fixed23 hp ht hQ (w 8).toNatClampNeg 0 _ (by omega) (fun f hf => fil_i hf))
theorem lp_fixed24 {w : Nat → Int32} (hp : pS I w) (ht : tb_ok w) (hQ : ∀ r', (∀ f, f < 8 → r' f = nI (ldn w f 0 (w 8).toNatClampNeg)) → Q none (z_row I 24 r') (z_R0 kp sp wd) J F cn) :
    ∀ j k r, k + j = (w 8).toNatClampNeg → (∀ f, f < 8 → r f = nI (ldn w f 0 k)) → z_WP (z_X0 L xs) z_P0 (d + 2) m_Plan_layFixed 7 [some (.ref 18), some (.ref 24), some (.int (nI k))] [] (z_row I 24 r) (z_R0 kp sp wd) J F cn 0 0 Q := by
  have p5 := hp.1
  have p2 := hp.2
  obtain ⟨e1, e2, e3⟩ := ht
  rw [e1] at p5
  intro j
  induction j with
  | zero =>
    intro k r hk hr
    have hk' : k = (w 8).toNatClampNeg := by omega
    rw [hk'] at hr
    refine z_WP_gos [7] 1000 fun K C hK hC => ?_
    conv => whnf
    simp (disch := omega) only [z_lit, nI_add, pk_mul, z_pr1, z_pr2, nI_clamp, z_up_row, z_row_s, z_row_n, z_row_row, pk_us, pk_un]
    rw [p5]
    refine ⟨fun _ => ?_, fun h => absurd (nI_le (a := (w 8).toNatClampNeg) (b := k) (by omega) (by omega)) h⟩
    conv => whnf
    exact hQ r hr
  | succ j ih =>
    intro k r hk hr
    have ho := e3 k (by omega)
    have pp := pp8 ho
    have hq := ho.2.2.2.2.2.2.2.2.2.2.2.2.1
    have h9 := ho.2.2.2.2.2.2.2.2.2.2.2.2.2.2.1
    obtain ⟨b0, b1, b2, b3, b4, b5, b6, b7, b8, b9, b10⟩ := p2 k (by omega)
    have i19 : (z_row I 24 r) 19 = I 19 := z_row_n _ _ (by decide)
    refine z_WP_gos [7] 1000 fun K C hK hC => ?_
    conv => whnf
    simp (disch := omega) only [z_lit, nI_add, pk_mul, z_pr1, z_pr2, nI_clamp, z_up_row, z_row_s, z_row_n, z_row_row, pk_us, pk_un]
    rw [p5]
    refine ⟨fun h => absurd h (nI_ge (by omega) (by omega)), fun _ => ?_⟩
    conv => whnf
    refine hC _ _ _ _ _ _ _ _ _ _ (fun _ _ _ _ _ _ q => q) (cp_told (f := 8) (by omega) (by omega) ((congrFun i19 _).trans b8) ?_)
    conv => whnf
    refine ⟨fun g => ?_, fun g => ?_⟩
    · have g9 : ¬ lnn w k 9 = 0 := fun z => g (by rw [z]; rfl)
      have hr' : ∀ f, f < 8 → r f = nI (ldn w f 0 (k + 1)) := fun f hf => by
        rw [hr f hf]
        show nI (ldn w f 0 k) = nI (ldn w f 0 k + (bif ldc w f 0 k then s_time w k else 0))
        rw [show ldc w f 0 k = false from by unfold ldc; rw [decide_eq_false g9]; rfl]
        rfl
      conv => whnf
      simp (disch := omega) only [z_lit, nI_add, pk_mul, z_pr1, z_pr2, nI_clamp, z_up_row, z_row_s, z_row_n, z_row_row, pk_us, pk_un]
      refine hK _ _ _ _ _ _ _ _ _ _ (ih (k + 1) r (by omega) hr')
    · have g9 : lnn w k 9 = 0 := nI_inj9 (by omega) (by omega) g
      conv => whnf
      refine hC _ _ _ _ _ _ _ _ _ _ (fun _ _ _ _ _ _ q => q) (cp_told (f := 7) (by omega) (by omega) ((congrFun i19 _).trans b7) ?_)
      conv => whnf
      refine hC _ _ _ _ _ _ _ _ _ _ (fun _ _ _ _ _ _ q => q) (cp_told (f := 10) (by omega) (by omega) ((congrFun i19 _).trans b10) ?_)
      conv => whnf
      refine hC _ _ _ _ _ _ _ _ _ _ (fun _ _ _ _ _ _ q => q) (cp_pile24 (p := lnn w k 6) (by omega) ((congrFun i19 _).trans b6) pp.1 pp.2 hq ?_)
      conv => whnf
      have hr' : ∀ f, f < 8 → plc r (lnn w k 6) (lnn w k 7) (nI (s_time w k)) 8 f = nI (ldn w f 0 (k + 1)) := fun f hf => by
        unfold ldn plc
        have ec : ldc w f 0 k = decide (f % lnn w k 6 = lnn w k 7) := by
          unfold ldc; rw [decide_eq_true g9]; rfl
        rw [ec]
        by_cases z : f % lnn w k 6 = lnn w k 7
        · rw [if_pos ⟨hf, hf, z⟩, decide_eq_true z, hr f hf, nI_add]; rfl
        · rw [if_neg fun h => z h.2.2, decide_eq_false z, hr f hf]; rfl
      simp (disch := omega) only [z_lit, nI_add, pk_mul, z_pr1, z_pr2, nI_clamp, z_up_row, z_row_s, z_row_n, z_row_row, pk_us, pk_un]
      refine hK _ _ _ _ _ _ _ _ _ _ (ih (k + 1) _ (by omega) hr')
theorem cp_fixed24 {w : Nat → Int32} (hp : pS I w) (ht : tb_ok w) (hQ : ∀ r', (∀ f, f < 8 → r' f = nI (ldn w f 0 (w 8).toNatClampNeg)) → Q none (z_row I 24 r') (z_R0 kp sp wd) J F cn) :
    z_M (z_X0 L xs) z_P0 (d + 2) m_Plan_layFixed [.ref 18, .ref 24] I (z_R0 kp sp wd) J F cn Q := by
  refine z_WP_gos [7] 1000 fun K C hK hC => ?_
  conv => whnf
  refine hC _ _ _ _ _ _ _ _ _ _ (fun _ _ _ _ _ _ q => q) (ca_fill24 ?_)
  conv => whnf
  refine hK _ _ _ _ _ _ _ _ _ _ (lp_fixed24 hp ht hQ (w 8).toNatClampNeg 0 _ (by omega) (fun f hf => fil_i hf))
end
