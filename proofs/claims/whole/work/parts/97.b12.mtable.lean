/-! the model's table -/
def wcp (w fr : Nat → Int32) (k : Nat) : Nat → Int32 := fun j => if 1584 ≤ j ∧ j < 1584 + k then fr (j - 1584) else w j
def wct (w : Nat → Int32) (k : Nat) : Nat → Int32 := fun j => if 2572 ≤ j ∧ j < 2572 + k then nI 0 else w j
def wtb (w fr : Nat → Int32) (c : Nat) : Nat → Int32 := upd (wct (wcp w fr (14 * c)) 192) 8 (nI c)
theorem wcp_0 {w fr : Nat → Int32} : wcp w fr 0 = w := funext fun j => if_neg (by omega)
theorem wct_0 {w : Nat → Int32} : wct w 0 = w := funext fun j => if_neg (by omega)
theorem wcp_s {w fr : Nat → Int32} {k : Nat} : upd (wcp w fr k) (1584 + k) (fr k) = wcp w fr (k + 1) := funext fun j => by
  unfold wcp
  by_cases h : j = 1584 + k
  · subst h
    rw [pk_us, if_pos (show 1584 ≤ 1584 + k ∧ 1584 + k < 1584 + (k + 1) by omega), Nat.add_sub_cancel_left]
  · rw [pk_un h]
    by_cases z : 1584 ≤ j ∧ j < 1584 + k
    · rw [if_pos z, if_pos (show 1584 ≤ j ∧ j < 1584 + (k + 1) by omega)]
    · rw [if_neg z, if_neg (show ¬ (1584 ≤ j ∧ j < 1584 + (k + 1)) by omega)]
theorem wct_s {w : Nat → Int32} {k : Nat} : upd (wct w k) (2572 + k) (nI 0) = wct w (k + 1) := funext fun j => by
  unfold wct
  by_cases h : j = 2572 + k
  · subst h
    rw [pk_us, if_pos (show 2572 ≤ 2572 + k ∧ 2572 + k < 2572 + (k + 1) by omega)]
  · rw [pk_un h]
    by_cases z : 2572 ≤ j ∧ j < 2572 + k
    · rw [if_pos z, if_pos (show 2572 ≤ j ∧ j < 2572 + (k + 1) by omega)]
    · rw [if_neg z, if_neg (show ¬ (2572 ≤ j ∧ j < 2572 + (k + 1)) by omega)]
theorem wtb_8 {w fr : Nat → Int32} {c : Nat} : wtb w fr c 8 = nI c := pk_us
theorem wtb_l {w fr : Nat → Int32} {c i f : Nat} (hc : c ≤ 24) (hi : i < c) (hf : f < 14) : wtb w fr c (1584 + 14 * i + f) = fr (14 * i + f) := by
  unfold wtb wct wcp
  rw [pk_un (by omega), if_neg (by omega), if_pos (by omega)]
  have e : 1584 + 14 * i + f - 1584 = 14 * i + f := by omega
  exact congrArg fr e
theorem wtb_c {w fr : Nat → Int32} {c j : Nat} (hj : j < 192) : wtb w fr c (2572 + j) = nI 0 := by
  unfold wtb wct
  rw [pk_un (by omega), if_pos (by omega)]
theorem wtb_o {w fr : Nat → Int32} {c j : Nat} (hc : c ≤ 24) (h8 : j ≠ 8) (h : j < 1584 ∨ (1920 ≤ j ∧ j < 2572) ∨ 2764 ≤ j) : wtb w fr c j = w j := by
  unfold wtb wct wcp
  rw [pk_un h8, if_neg (by omega), if_neg (by omega)]
theorem ln_of9 {w w' : Nat → Int32} {i : Nat} (h : ln_ok w i) (e : ∀ f, f < 11 → w' (1584 + 14 * i + f) = w (1584 + 14 * i + f)) : ln_ok w' i := by
  have hl : ∀ f, f < 11 → lnn w' i f = lnn w i f := fun f hf => by unfold lnn; rw [e f hf]
  unfold ln_ok at h ⊢
  rw [hl 0 (by omega), hl 1 (by omega), hl 2 (by omega), hl 3 (by omega), hl 4 (by omega), hl 5 (by omega), hl 6 (by omega), hl 7 (by omega), hl 8 (by omega), hl 9 (by omega), hl 10 (by omega)]
  refine ⟨fun f hf => by rw [e f hf, hl f hf]; exact h.1 f hf, h.2⟩
theorem wtb_ok {w fr : Nat → Int32} {c : Nat} (hc : c ≤ 24) (h : ∀ i, i < c → ∃ g, lnG fr i g ∧ gok g) : tb_ok (wtb w fr c) := by
  unfold tb_ok
  rw [wtb_8, nI_clamp (by omega)]
  refine ⟨rfl, hc, fun i hi => ?_⟩
  obtain ⟨g, g1, g2⟩ := h i hi
  exact ln_of9 (lnG_ok g1 g2) fun f hf => by rw [wtb_l hc hi (by omega), lw_at]
section
variable {L : Nat} {xs : Nat → Int32} {d : Nat} {kp sp wd : Value} {I : z_I} {s : z_sg} {R : z_R} {J : z_J} {F : z_F} {cn : Nat} {Q : z_Q} {n k m st c : Nat} {t : Nat → Nat} {f f0 w y fr : Nat → Int32}
theorem z_ms_46 {s : z_sg} : z_ms (z_row I 46 fr) s 46 = fr := z_row_s I 46 fr
theorem lp_tab1 {g : Int32} (hc : c ≤ 24) (h19 : f 19 = nI c) (hQ : ∀ l, z_WP (z_X0 L xs) z_P0 (d + 11) m_Mod_table 51 [some (.ref 40), some (.int g), l] [] (z_ms (z_row I 46 fr) (f, wcp w fr (14 * c), y)) (z_R0 kp sp wd) J F cn 0 0 Q) :
    ∀ j k, k + j = 14 * c → z_WP (z_X0 L xs) z_P0 (d + 11) m_Mod_table 18 [some (.ref 40), some (.int g), some (.int (nI k))] [] (z_ms (z_row I 46 fr) (f, wcp w fr k, y)) (z_R0 kp sp wd) J F cn 0 0 Q := by
  intro j
  induction j with
  | zero =>
    intro k hk
    have hk' : k = 14 * c := by omega
    refine z_WP_gos [18, 51] 1000 fun K C hK hC => ?_
    conv => whnf
    simp (disch := omega) only [z_lit, nI_add, pk_mul, z_pr1, z_pr2, nI_clamp, z_m3_40, z_m3_41, z_m3_44, z_m3_u40, z_m3_u41, z_m3_u44, z_m3_m3, pk_us, pk_un]
    rw [h19]
    simp (disch := omega) only [z_lit, nI_add, pk_mul, z_pr1, z_pr2, nI_clamp, z_m3_40, z_m3_41, z_m3_44, z_m3_u40, z_m3_u41, z_m3_u44, z_m3_m3, pk_us, pk_un]
    refine ⟨fun _ => ?_, fun z => absurd (nI_le (a := 14 * c) (b := k) (by omega) (by omega)) z⟩
    conv => whnf
    rw [hk']
    refine hK _ _ _ _ _ _ _ _ _ _ (hQ _)
  | succ j ih =>
    intro k hk
    have ih' := ih (k + 1) (by omega)
    rw [← wcp_s] at ih'
    refine z_WP_gos [18, 51] 1000 fun K C hK hC => ?_
    conv => whnf
    simp (disch := omega) only [z_lit, nI_add, pk_mul, z_pr1, z_pr2, nI_clamp, z_m3_40, z_m3_41, z_m3_44, z_m3_u40, z_m3_u41, z_m3_u44, z_m3_m3, pk_us, pk_un]
    rw [h19]
    simp (disch := omega) only [z_lit, nI_add, pk_mul, z_pr1, z_pr2, nI_clamp, z_m3_40, z_m3_41, z_m3_44, z_m3_u40, z_m3_u41, z_m3_u44, z_m3_m3, pk_us, pk_un]
    refine ⟨fun z => absurd z (nI_ge (by omega) (by omega)), fun _ => ?_⟩
    conv => whnf
    repeat ((first | refine And.intro (by (conv => arg 2; whnf); (try simp only [z_lit, nI_add, pk_mul, z_pr1, z_pr2]); exact z_in (by omega) (by decide)) ?_ | refine z_bt1 (by decide) ?_ | refine z_bf1 (by decide) ?_ | refine z_bt2 (by decide) ?_ | refine z_bf2 (by decide) ?_); conv => whnf)
    simp (disch := omega) only [z_lit, nI_add, pk_mul, z_pr1, z_pr2, nI_clamp, z_m3_40, z_m3_41, z_m3_44, z_m3_u40, z_m3_u41, z_m3_u44, z_m3_m3, pk_us, pk_un]
    rw [z_ms_46]
    refine hK _ _ _ _ _ _ _ _ _ _ (ih')
theorem lp_tab2 {g : Int32} (hQ : ∀ l, z_WP (z_X0 L xs) z_P0 (d + 11) m_Mod_table 77 [some (.ref 40), some (.int g), l] [] (z_ms (z_row I 46 fr) (f, wct w 192, y)) (z_R0 kp sp wd) J F cn 0 0 Q) :
    ∀ j k, k + j = 192 → z_WP (z_X0 L xs) z_P0 (d + 11) m_Mod_table 53 [some (.ref 40), some (.int g), some (.int (nI k))] [] (z_ms (z_row I 46 fr) (f, wct w k, y)) (z_R0 kp sp wd) J F cn 0 0 Q := by
  intro j
  induction j with
  | zero =>
    intro k hk
    obtain rfl : k = 192 := by omega
    refine z_WP_gos [53, 77] 1000 fun K C hK hC => ?_
    conv => whnf
    repeat ((first | refine And.intro (by (conv => arg 2; whnf); (try simp only [z_lit, nI_add, pk_mul, z_pr1, z_pr2]); exact z_in (by omega) (by decide)) ?_ | refine z_bt1 (by decide) ?_ | refine z_bf1 (by decide) ?_ | refine z_bt2 (by decide) ?_ | refine z_bf2 (by decide) ?_); conv => whnf)
    refine hK _ _ _ _ _ _ _ _ _ _ (hQ _)
  | succ j ih =>
    intro k hk
    have ih' := ih (k + 1) (by omega)
    rw [← wct_s] at ih'
    refine z_WP_gos [53, 77] 1000 fun K C hK hC => ?_
    conv => whnf
    refine ⟨fun z => absurd z (nI_ge (b := 192) (by omega) (by omega)), fun _ => ?_⟩
    conv => whnf
    repeat ((first | refine And.intro (by (conv => arg 2; whnf); (try simp only [z_lit, nI_add, pk_mul, z_pr1, z_pr2]); exact z_in (by omega) (by decide)) ?_ | refine z_bt1 (by decide) ?_ | refine z_bf1 (by decide) ?_ | refine z_bt2 (by decide) ?_ | refine z_bf2 (by decide) ?_); conv => whnf)
    simp (disch := omega) only [z_lit, nI_add, pk_mul, z_pr1, z_pr2, nI_clamp, z_m3_40, z_m3_41, z_m3_44, z_m3_u40, z_m3_u41, z_m3_u44, z_m3_m3, pk_us, pk_un]
    refine hK _ _ _ _ _ _ _ _ _ _ (ih')
theorem lp_tab3 {g : Int32} (ht : tb_ok w) (h8 : w 8 = nI c) (hc : c ≤ 24) (h19 : f 19 = nI c) (hQ : Q (some (.int (nI c))) (z_ms (z_row I 46 fr) (f, phl c w, y)) (z_R0 kp sp wd) J F cn) :
    ∀ j k, k + j = c → z_WP (z_X0 L xs) z_P0 (d + 11) m_Mod_table 90 [some (.ref 40), some (.int g), some (.int (nI k))] [] (z_ms (z_row I 46 fr) (f, phl k w, y)) (z_R0 kp sp wd) J F cn 0 0 Q := by
  have e8 : (w 8).toNatClampNeg = c := by rw [h8, nI_clamp (by omega)]
  intro j
  induction j with
  | zero =>
    intro k hk
    obtain rfl : k = c := by omega
    refine z_WP_gos [90] 1000 fun K C hK hC => ?_
    conv => whnf
    simp (disch := omega) only [z_lit, nI_add, pk_mul, z_pr1, z_pr2, nI_clamp, z_m3_40, z_m3_41, z_m3_44, z_m3_u40, z_m3_u41, z_m3_u44, z_m3_m3, pk_us, pk_un]
    rw [h19]
    refine ⟨fun _ => ?_, fun z => absurd (Int32.le_refl _) z⟩
    conv => whnf
    simp (disch := omega) only [z_lit, nI_add, pk_mul, z_pr1, z_pr2, nI_clamp, z_m3_40, z_m3_41, z_m3_44, z_m3_u40, z_m3_u41, z_m3_u44, z_m3_m3, pk_us, pk_un]
    rw [h19]
    exact hQ
  | succ j ih =>
    intro k hk
    obtain ⟨a, b, -, -⟩ := phl_ok ht k (by omega)
    have hkn : k < ((phl k w) 8).toNatClampNeg := by rw [b, e8]; omega
    have ho := a.2.2 k hkn
    have h9 := ho.2.2.2.2.2.2.2.2.2.2.2.2.2.2.1
    have ih' := ih (k + 1) (by omega)
    rw [phl_s] at ih'
    refine z_WP_gos [90] 1000 fun K C hK hC => ?_
    conv => whnf
    simp (disch := omega) only [z_lit, nI_add, pk_mul, z_pr1, z_pr2, nI_clamp, z_m3_40, z_m3_41, z_m3_44, z_m3_u40, z_m3_u41, z_m3_u44, z_m3_m3, pk_us, pk_un]
    rw [h19]
    refine ⟨fun z => absurd z (nI_ge (by omega) (by omega)), fun _ => ?_⟩
    conv => whnf
    refine hC _ _ _ _ _ _ _ _ _ _ (fun _ _ _ _ _ _ q => q) (sp_toldn (s := (f, phl k w, y)) (f := 9) (by omega) (by omega) ho ?_)
    conv => whnf
    refine ⟨fun g => ?_, fun g => ?_⟩
    · have g9 : lnn (phl k w) k 9 = 0 := by
        have : lnn (phl k w) k 9 ≠ 1 := fun z => g (by show nI (lnn (phl k w) k 9) = nI 1; rw [z])
        omega
      rw [if_pos g9] at ih'
      conv => whnf
      simp (disch := omega) only [z_lit, nI_add, pk_mul, z_pr1, z_pr2, nI_clamp, z_m3_40, z_m3_41, z_m3_44, z_m3_u40, z_m3_u41, z_m3_u44, z_m3_m3, pk_us, pk_un]
      refine hK _ _ _ _ _ _ _ _ _ _ (ih')
    · have g9 : lnn (phl k w) k 9 = 1 := nI_inj9 (b := 1) (by omega) (by omega) g
      rw [if_neg (by omega)] at ih'
      conv => whnf
      refine hC _ _ _ _ _ _ _ _ _ _ (fun _ _ _ _ _ _ q => q) (sp_laysPhase (s := (f, phl k w, y)) a hkn ?_)
      conv => whnf
      simp (disch := omega) only [z_lit, nI_add, pk_mul, z_pr1, z_pr2, nI_clamp, z_m3_40, z_m3_41, z_m3_44, z_m3_u40, z_m3_u41, z_m3_u44, z_m3_m3, pk_us, pk_un]
      refine hK _ _ _ _ _ _ _ _ _ _ (ih')
/-- what a table that was read, or was not, leaves in the model's numbers -/
def rdM (f f0 : Nat → Int32) (a b : Int32) : Prop := f 14 = nI 0 ∧ f 20 = a ∧ f 23 = b ∧ ∀ j, j < 14 ∨ 23 < j → f j = f0 j
theorem sp_isRead1 (h : enM f f0 c) (hQ : ∀ f', rdM f' f0 (nI 0) (-1) → f' 19 = nI c → Q none (z_ms I (f', w, y)) (z_R0 kp sp wd) J F cn) : z_M (z_X0 L xs) z_P0 d m_Mod_isRead [.ref 40, .int 1] (z_ms I (f, w, y)) (z_R0 kp sp wd) J F cn Q := by
  have q := hQ (upd (upd (upd f 14 (nI 0)) 20 (nI 0)) 23 (-1)) ⟨by rw [pk_un (by omega), pk_un (by omega), pk_us], by rw [pk_un (by omega), pk_us], pk_us, fun j hj => by rw [pk_un (by omega), pk_un (by omega), pk_un (by omega)]; exact h.2 j (by omega)⟩ (by rw [pk_un (by omega), pk_un (by omega), pk_un (by omega)]; exact h.1)
  refine z_WP_gos [] 1000 fun K C hK hC => ?_
  conv => whnf
  repeat ((first | refine And.intro (by (conv => arg 2; whnf); (try simp only [z_lit, nI_add, pk_mul, z_pr1, z_pr2]); exact z_in (by omega) (by decide)) ?_ | refine z_bt1 (by decide) ?_ | refine z_bf1 (by decide) ?_ | refine z_bt2 (by decide) ?_ | refine z_bf2 (by decide) ?_); conv => whnf)
  simp (disch := omega) only [z_lit, nI_add, pk_mul, z_pr1, z_pr2, nI_clamp, z_m3_40, z_m3_41, z_m3_44, z_m3_u40, z_m3_u41, z_m3_u44, z_m3_m3, pk_us, pk_un]
  exact q
theorem sp_isRead0 {p : Nat} (h : ddM f f0 c p) (hQ : ∀ f', rdM f' f0 (nI c) (nI p) → Q none (z_ms I (f', w, y)) (z_R0 kp sp wd) J F cn) : z_M (z_X0 L xs) z_P0 d m_Mod_isRead [.ref 40, .int 0] (z_ms I (f, w, y)) (z_R0 kp sp wd) J F cn Q := by
  obtain ⟨h21, h22, hk⟩ := h
  have q := hQ (upd (upd (upd f 14 (nI 0)) 20 (nI c)) 23 (nI p)) ⟨by rw [pk_un (by omega), pk_un (by omega), pk_us], by rw [pk_un (by omega), pk_us], pk_us, fun j hj => by rw [pk_un (by omega), pk_un (by omega), pk_un (by omega)]; exact hk j (by omega)⟩
  refine z_WP_gos [] 1000 fun K C hK hC => ?_
  conv => whnf
  repeat ((first | refine And.intro (by (conv => arg 2; whnf); (try simp only [z_lit, nI_add, pk_mul, z_pr1, z_pr2]); exact z_in (by omega) (by decide)) ?_ | refine z_bt1 (by decide) ?_ | refine z_bf1 (by decide) ?_ | refine z_bt2 (by decide) ?_ | refine z_bf2 (by decide) ?_); conv => whnf)
  simp (disch := omega) only [z_lit, nI_add, pk_mul, z_pr1, z_pr2, nI_clamp, z_m3_40, z_m3_41, z_m3_44, z_m3_u40, z_m3_u41, z_m3_u44, z_m3_m3, pk_us, pk_un]
  rw [h21, h22]
  exact q
theorem sp_table (hT : mT I t n) (hn : n ≤ 500) (h14 : s.1 14 = nI n) (hQ : okQ (pall t n 24 0 (I 46) (tkS t n 0)) (fun fr' c => ∀ f', rdM f' s.1 (nI 0) (-1) → Q (some (.int (nI c))) (z_ms (z_row I 46 fr') (f', phl c (wtb s.2.1 fr' c), s.2.2)) (z_R0 kp sp wd) J F cn) (fun c p => ∀ f' fr', rdM f' s.1 (nI c) (nI p) → Q (some (.int (-1))) (z_ms (z_row I 46 fr') (f', s.2.1, s.2.2)) (z_R0 kp sp wd) J F cn)) :
    z_M (z_X0 L xs) z_P0 (d + 11) m_Mod_table [.ref 40] (z_ms I s) (z_R0 kp sp wd) J F cn Q := by
  obtain ⟨f0, w, y⟩ := s
  have hok : okQ (pall t n 24 0 (I 46) (tkS t n 0)) (fun fr' c => (c ≤ 24 ∧ ∀ i, i < c → ∃ g, lnG fr' i g ∧ gok g) ∧ ∀ f', rdM f' f0 (nI 0) (-1) → Q (some (.int (nI c))) (z_ms (z_row I 46 fr') (f', phl c (wtb w fr' c), y)) (z_R0 kp sp wd) J F cn) (fun c p => ∀ f' fr', rdM f' f0 (nI c) (nI p) → Q (some (.int (-1))) (z_ms (z_row I 46 fr') (f', w, y)) (z_R0 kp sp wd) J F cn) := by
    have z := fun fr' c => pall_ok (t := t) (n := n) 24 0 (I 46) (tkS t n 0) fr' c rfl (fun i hi => by omega)
    generalize pall t n 24 0 (I 46) (tkS t n 0) = P at z hQ
    cases P with
    | inl x => exact hQ
    | inr x => exact ⟨z x.1 x.2 rfl, hQ⟩
  refine z_WP_gos [18] 1000 fun K C hK hC => ?_
  conv => whnf
  refine hC _ _ _ _ _ _ _ _ _ _ (fun _ _ _ _ _ _ q => q) (sp_readsAll (s := (f0, w, y)) hT hn h14 (okQ_m hok (fun fr2 c hq f2 h => ?_) (fun c p hq f2 fr2 h => ?_)))
  conv => whnf
  rotate_left
  · refine hC _ _ _ _ _ _ _ _ _ _ (fun _ _ _ _ _ _ q => q) (sp_isRead0 h (fun f3 h3 => ?_))
    conv => whnf
    refine ⟨fun z => absurd rfl z, fun _ => ?_⟩
    conv => whnf
    exact hq f3 fr2 h3
  obtain ⟨⟨hc, hg⟩, hq⟩ := hq
  refine hC _ _ _ _ _ _ _ _ _ _ (fun _ _ _ _ _ _ q => q) (sp_isRead1 h (fun f3 h3 j19 => ?_))
  conv => whnf
  refine ⟨fun _ => ?_, fun z => absurd z (by decide)⟩
  conv => whnf
  have tb := wtb_ok (w := w) hc hg
  have l1 := lp_tab1 (L := L) (xs := xs) (d := d) (kp := kp) (sp := sp) (wd := wd) (I := I) (J := J) (F := F) (cn := cn) (Q := Q) (fr := fr2) (w := w) (y := y) (f := f3) (c := c) (g := 1) hc j19 (fun l => ?_) (14 * c) 0 (by omega)
  · rw [wcp_0] at l1
    refine hK _ _ _ _ _ _ _ _ _ _ (l1)
  have l2 := lp_tab2 (L := L) (xs := xs) (d := d) (kp := kp) (sp := sp) (wd := wd) (I := I) (J := J) (F := F) (cn := cn) (Q := Q) (fr := fr2) (w := wcp w fr2 (14 * c)) (y := y) (f := f3) (g := 1) (fun l => ?_) 192 0 rfl
  · rw [wct_0] at l2
    refine z_WP_gos [53] 1000 fun K C hK hC => ?_
    conv => whnf
    refine hK _ _ _ _ _ _ _ _ _ _ (l2)
  have l3 := lp_tab3 (L := L) (xs := xs) (d := d) (kp := kp) (sp := sp) (wd := wd) (I := I) (J := J) (F := F) (cn := cn) (Q := Q) (fr := fr2) (w := wtb w fr2 c) (y := y) (f := f3) (c := c) (g := 1) tb wtb_8 hc j19 (hq f3 h3) c 0 (by omega)
  refine z_WP_gos [90] 1000 fun K C hK hC => ?_
  conv => whnf
  repeat ((first | refine And.intro (by (conv => arg 2; whnf); (try simp only [z_lit, nI_add, pk_mul, z_pr1, z_pr2]); exact z_in (by omega) (by decide)) ?_ | refine z_bt1 (by decide) ?_ | refine z_bf1 (by decide) ?_ | refine z_bt2 (by decide) ?_ | refine z_bf2 (by decide) ?_); conv => whnf)
  simp (disch := omega) only [z_lit, nI_add, pk_mul, z_pr1, z_pr2, nI_clamp, z_m3_40, z_m3_41, z_m3_44, z_m3_u40, z_m3_u41, z_m3_u44, z_m3_m3, pk_us, pk_un]
  rw [j19]
  refine hK _ _ _ _ _ _ _ _ _ _ (l3)
end
