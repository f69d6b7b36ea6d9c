/-! what a text says: the class's table -/
def rwA (q g : Nat → Int32) (m : Nat) : Prop := ∀ i, i < m → rwR q g i (g (14 * i)).toNatClampNeg
def rdC (r : Nat → Int32) (a b : Int32) : Prop := r 2 = nI 0 ∧ r 3 = a ∧ r 4 = b
theorem okQ_and {P : Po} {A : (Nat → Int32) → Nat → Prop} {B : Nat → Nat → Prop} {C : (Nat → Int32) → Nat → Prop} (h : okQ P A B) (hc : ∀ f s, P = p_ok f s → C f s) : okQ P (fun f s => C f s ∧ A f s) B := by
  cases P with
  | inl x => exact h
  | inr x => exact ⟨hc x.1 x.2 rfl, h⟩
section
variable {L : Nat} {xs : Nat → Int32} {d : Nat} {kp sp wd : Value} {I I0 : z_I} {s : z_sg} {R : z_R} {J : z_J} {F : z_F} {cn : Nat} {Q : z_Q} {n k m st c p : Nat} {t : Nat → Nat} {g g0 : Nat → Int32}
theorem cs_readWhenD (hm : m < 24) (hD : ∀ I', fr [32, 34] I0 I' → ddC (I' 32) c p → Q none I' (z_R0 kp sp (.retAddr 2)) J F cn) (f : fr [32, 34] I0 I) (h : ddC (I 32) c p) : z_M (z_X0 L xs) z_P0 (d + 9) m_Reader_readWhen [.ref 32, .int (nI (m * 11))] I (z_R0 kp sp (.retAddr 2)) J F cn Q := by
  refine z_WP_gos [7] 1000 fun K C hK hC => ?_
  conv => whnf
  refine hC _ _ _ _ _ _ _ _ _ _ (fun _ _ _ _ _ _ q => q) (cs_expectD h ?_)
  conv => whnf
  refine hK _ _ _ _ _ _ _ _ _ _ (dR7 hm hD f h)
theorem cs_begins0 (hn : n ≤ 500) (h : lvC t n kO2 vO2 (I 32) st) {v : Int32} (hQ : ∀ I', fr [32] I I' → ddC (I' 32) 1 st → Q (some (.int 0)) I' (z_R0 kp sp wd) J F cn) : z_M (z_X0 L xs) z_P0 (d + 1) m_Reader_beginsLine [.ref 32, .int 0, .int v] I (z_R0 kp sp wd) J F cn Q := by
  have h8 := h.2.2.2.2.2.1
  have h3 := h.2.2.1
  refine z_WP_gos [] 1000 fun K C hK hC => ?_
  conv => whnf
  repeat ((first | refine And.intro (by (conv => arg 2; whnf); (try simp only [z_lit, nI_add, pk_mul, z_pr1, z_pr2]); exact z_in (by omega) (by decide)) ?_ | refine z_bt1 (by decide) ?_ | refine z_bf1 (by decide) ?_ | refine z_bt2 (by decide) ?_ | refine z_bf2 (by decide) ?_); conv => whnf)
  simp (disch := omega) only [z_lit, nI_add, pk_mul, z_pr1, z_pr2, nI_clamp, z_up_row, z_row_s, z_row_n, z_row_row, pk_us, pk_un]
  rw [h8]
  refine hC _ _ _ _ _ _ _ _ _ _ (fun _ _ _ _ _ _ q => q) (cs_fail (kO := kO2) (vO := vO2) (c := 1) (p := st) h hn (by decide) (by decide) (fun I' f' d' => ?_))
  conv => whnf
  have e3 := d'.2.2.1
  simp (disch := omega) only [z_lit, nI_add, pk_mul, z_pr1, z_pr2, nI_clamp, z_up_row, z_row_s, z_row_n, z_row_row, pk_us, pk_un]
  rw [e3]
  refine ⟨fun _ => ?_, fun z => absurd z (by decide)⟩
  conv => whnf
  exact ⟨Or.inl rfl, hQ I' f' d'⟩
theorem cs_begins3 (hn : n ≤ 500) (h : lvC t n kO2 vO2 (I 32) st) (hQ : ∀ I', fr [32] I I' → ddC (I' 32) 3 st → Q (some (.int 0)) I' (z_R0 kp sp wd) J F cn) : z_M (z_X0 L xs) z_P0 (d + 1) m_Reader_beginsLine [.ref 32, .int 1, .int (nI 24)] I (z_R0 kp sp wd) J F cn Q := by
  have h8 := h.2.2.2.2.2.1
  have h3 := h.2.2.1
  refine z_WP_gos [] 1000 fun K C hK hC => ?_
  conv => whnf
  repeat ((first | refine And.intro (by (conv => arg 2; whnf); (try simp only [z_lit, nI_add, pk_mul, z_pr1, z_pr2]); exact z_in (by omega) (by decide)) ?_ | refine z_bt1 (by decide) ?_ | refine z_bf1 (by decide) ?_ | refine z_bt2 (by decide) ?_ | refine z_bf2 (by decide) ?_); conv => whnf)
  simp (disch := omega) only [z_lit, nI_add, pk_mul, z_pr1, z_pr2, nI_clamp, z_up_row, z_row_s, z_row_n, z_row_row, pk_us, pk_un]
  rw [h8]
  refine hC _ _ _ _ _ _ _ _ _ _ (fun _ _ _ _ _ _ q => q) (cs_fail (kO := kO2) (vO := vO2) (c := 3) (p := st) h hn (by decide) (by decide) (fun I' f' d' => ?_))
  conv => whnf
  have e3 := d'.2.2.1
  simp (disch := omega) only [z_lit, nI_add, pk_mul, z_pr1, z_pr2, nI_clamp, z_up_row, z_row_s, z_row_n, z_row_row, pk_us, pk_un]
  rw [e3]
  refine ⟨fun _ => ?_, fun z => absurd z (by decide)⟩
  conv => whnf
  exact ⟨Or.inl rfl, hQ I' f' d'⟩
theorem cs_begins1 (hm : m < 24) (h : lvC t n kO2 vO2 (I 32) st) (hQ : Q (some (.int 1)) I (z_R0 kp sp wd) J F cn) : z_M (z_X0 L xs) z_P0 (d + 1) m_Reader_beginsLine [.ref 32, .int 1, .int (nI m)] I (z_R0 kp sp wd) J F cn Q := by
  have h3 := h.2.2.1
  refine z_WP_gos [] 1000 fun K C hK hC => ?_
  conv => whnf
  refine ⟨fun _ => ?_, fun z => absurd z (by decide)⟩
  conv => whnf
  refine ⟨fun _ => ?_, fun z => absurd (nI_lt (b := 24) hm (by decide)) z⟩
  conv => whnf
  simp (disch := omega) only [z_lit, nI_add, pk_mul, z_pr1, z_pr2, nI_clamp, z_up_row, z_row_s, z_row_n, z_row_row, pk_us, pk_un]
  rw [h3]
  refine ⟨fun z => absurd rfl z, fun _ => ?_⟩
  conv => whnf
  exact ⟨Or.inr rfl, hQ⟩
theorem dT84 {a b : Option Value} {av bv : Int32} (ha : a = some (.int av)) (hb : b = some (.int bv)) (hD : ∀ I', fr [32, 34] I0 I' → rdC (I' 32) (nI c) (nI p) → Q (some (.int (-1))) I' (z_R0 kp sp (.retAddr 2)) J F cn) (f : fr [32, 34] I0 I) (h : ddC (I 32) c p) : z_WP (z_X0 L xs) z_P0 (d + 10) m_Reader_readTable 84 [some (.ref 32), a, b] [] I (z_R0 kp sp (.retAddr 2)) J F cn 0 0 Q := by
  subst ha hb
  obtain ⟨h0, hc, h3, h4⟩ := h
  have q := hD (z_row I 32 (upd (I 32) 2 (nI 0))) (fr_w f (by decide)) (by rw [z_row_s]; exact ⟨pk_us, by rw [pk_un (by decide)]; exact h3, by rw [pk_un (by decide)]; exact h4.1⟩)
  refine z_WP_gos [] 1000 fun K C hK hC => ?_
  conv => whnf
  simp (disch := omega) only [z_lit, nI_add, pk_mul, z_pr1, z_pr2, nI_clamp, z_up_row, z_row_s, z_row_n, z_row_row, pk_us, pk_un]
  rw [h3]
  refine ⟨fun _ => ?_, fun z => absurd (nI_inj9 (b := 0) (by omega) (by omega) z) h0⟩
  conv => whnf
  exact q
theorem dT10 {av bv : Int32} (hD : ∀ I', fr [32, 34] I0 I' → rdC (I' 32) (nI c) (nI p) → Q (some (.int (-1))) I' (z_R0 kp sp (.retAddr 2)) J F cn) (f : fr [32, 34] I0 I) (h : ddC (I 32) c p) : z_WP (z_X0 L xs) z_P0 (d + 10) m_Reader_readTable 10 [some (.ref 32), some (.int av), some (.int bv)] [] I (z_R0 kp sp (.retAddr 2)) J F cn 0 0 Q := by
  obtain ⟨h0, hc, h3, h4⟩ := id h
  refine z_WP_gos [84] 1000 fun K C hK hC => ?_
  conv => whnf
  refine ⟨fun _ => ?_, fun _ => ?_⟩
  · conv => whnf
    refine hK _ _ _ _ _ _ _ _ _ _ (dT84 rfl rfl hD f h)
  conv => whnf
  simp (disch := omega) only [z_lit, nI_add, pk_mul, z_pr1, z_pr2, nI_clamp, z_up_row, z_row_s, z_row_n, z_row_row, pk_us, pk_un]
  rw [h3]
  refine ⟨fun _ => ?_, fun z => absurd (nI_inj9 (b := 0) (by omega) (by omega) z) h0⟩
  conv => whnf
  refine hK _ _ _ _ _ _ _ _ _ _ (dT84 rfl rfl hD f h)
theorem lp_rt (hT : rT I0 t n) (hn : n ≤ 500) :
    ∀ j m g st I, m + j = 24 → fr [32, 34] I0 I → rwA (I 34) g m → lvC t n kO2 vO2 (I 32) st →
    okQ (pall t n j m g st) (fun g' c => ∀ I', fr [32, 34] I0 I' → rwA (I' 34) g' c → rdC (I' 32) (nI 0) (-1) → Q (some (.int (nI c))) I' (z_R0 kp sp (.retAddr 2)) J F cn) (fun c p => ∀ I', fr [32, 34] I0 I' → rdC (I' 32) (nI c) (nI p) → Q (some (.int (-1))) I' (z_R0 kp sp (.retAddr 2)) J F cn) →
    z_WP (z_X0 L xs) z_P0 (d + 10) m_Reader_readTable 10 [some (.ref 32), some (.int (nI m)), some (.int (nI m))] [] I (z_R0 kp sp (.retAddr 2)) J F cn 0 0 Q := by
  have k1 : ∀ m, m ≤ 22 → kO2 m ≤ 4 ∧ vO2 m < 30 ∧ (kO2 m = 0 ↔ m = 0) ∧ ((kO2 m = 1 ∧ vO2 m ≤ 5) ↔ (3 ≤ m ∧ m ≤ 8)) := by decide
  intro j
  induction j with
  | zero =>
    intro m g st I hm f hA h hQ
    obtain rfl : m = 24 := by omega
    obtain ⟨h0, h2, h3, h4, h9, h8, h6, h71, h72, h73⟩ := id h
    have hl := tkM_le (t := t) (n := n) (st := st)
    obtain ⟨ka, kb, kc, kd⟩ := k1 _ hl
    unfold pall at hQ
    refine z_WP_gos [52] 1000 fun K C hK hC => ?_
    conv => whnf
    repeat ((first | refine And.intro (by (conv => arg 2; whnf); (try simp only [z_lit, nI_add, pk_mul, z_pr1, z_pr2]); exact z_in (by omega) (by decide)) ?_ | refine z_bt1 (by decide) ?_ | refine z_bf1 (by decide) ?_ | refine z_bt2 (by decide) ?_ | refine z_bf2 (by decide) ?_); conv => whnf)
    simp (disch := omega) only [z_lit, nI_add, pk_mul, z_pr1, z_pr2, nI_clamp, z_up_row, z_row_s, z_row_n, z_row_row, pk_us, pk_un]
    rw [h3]
    refine ⟨fun z => absurd rfl z, fun _ => ?_⟩
    conv => whnf
    simp (disch := omega) only [z_lit, nI_add, pk_mul, z_pr1, z_pr2, nI_clamp, z_up_row, z_row_s, z_row_n, z_row_row, pk_us, pk_un]
    rw [h6]
    refine ⟨fun g1 => ?_, fun g1 => ?_⟩
    · have e0 : tkM t n st = 0 := kc.mp (nI_inj9 (b := 0) (by omega) (by omega) g1)
      rw [if_pos e0] at hQ
      have q := hQ (z_row I 32 (upd (I 32) 2 (nI 0))) (fr_w f (by decide)) (by rw [z_row_n _ _ (by decide)]; exact hA) (by rw [z_row_s]; exact ⟨pk_us, by rw [pk_un (by decide)]; exact h3, by rw [pk_un (by decide)]; exact h4⟩)
      conv => whnf
      simp (disch := omega) only [z_lit, nI_add, pk_mul, z_pr1, z_pr2, nI_clamp, z_up_row, z_row_s, z_row_n, z_row_row, pk_us, pk_un]
      rw [h3]
      refine ⟨fun z => absurd rfl z, fun _ => ?_⟩
      conv => whnf
      exact q
    have e0 : ¬ tkM t n st = 0 := fun z => g1 (by rw [kc.mpr z])
    rw [if_neg e0] at hQ
    have no : ¬ (3 ≤ tkM t n st ∧ tkM t n st ≤ 8) → z_WP (z_X0 L xs) z_P0 (d + 10) m_Reader_readTable 52 [some (.ref 32), some (.int (nI 24)), some (.int (nI 24))] [.int 0, .ref 32] I (z_R0 kp sp (.retAddr 2)) J F cn 0 0 Q := by
      intro x
      rw [if_neg x] at hQ
      refine z_WP_gos [10] 1000 fun K C hK hC => ?_
      conv => whnf
      refine hC _ _ _ _ _ _ _ _ _ _ (fun _ _ _ _ _ _ q => q) (cs_begins0 hn h (fun I' f' d' => ?_))
      conv => whnf
      repeat ((first | refine And.intro (by (conv => arg 2; whnf); (try simp only [z_lit, nI_add, pk_mul, z_pr1, z_pr2]); exact z_in (by omega) (by decide)) ?_ | refine z_bt1 (by decide) ?_ | refine z_bf1 (by decide) ?_ | refine z_bt2 (by decide) ?_ | refine z_bf2 (by decide) ?_); conv => whnf)
      simp (disch := omega) only [z_lit, nI_add, pk_mul, z_pr1, z_pr2, nI_clamp, z_up_row, z_row_s, z_row_n, z_row_row, pk_us, pk_un]
      refine hK _ _ _ _ _ _ _ _ _ _ (dT10 hQ (cld_r f f') d')
    conv => whnf
    simp (disch := omega) only [z_lit, nI_add, pk_mul, z_pr1, z_pr2, nI_clamp, z_up_row, z_row_s, z_row_n, z_row_row, pk_us, pk_un]
    rw [h6]
    refine ⟨fun g2 => ?_, fun g2 => ?_⟩
    · conv => whnf
      refine hK _ _ _ _ _ _ _ _ _ _ (no (fun z => g2 (by rw [(kd.mpr z).1])))
    have e1 : kO2 (tkM t n st) = 1 := nI_inj9 (b := 1) (by omega) (by omega) g2
    conv => whnf
    simp (disch := omega) only [z_lit, nI_add, pk_mul, z_pr1, z_pr2, nI_clamp, z_up_row, z_row_s, z_row_n, z_row_row, pk_us, pk_un]
    rw [h71 e1]
    refine ⟨fun g3 => ?_, fun g3 => ?_⟩
    · conv => whnf
      refine hK _ _ _ _ _ _ _ _ _ _ (no (fun z => absurd ((nI_ltI (a := 5) (by omega) (by omega)).mp g3) (Nat.not_lt.mpr (kd.mpr z).2)))
    have e5 : vO2 (tkM t n st) ≤ 5 := by
      rcases Nat.lt_or_ge 5 (vO2 (tkM t n st)) with z | z
      · exact absurd (nI_lt (a := 5) z (by omega)) g3
      · exact z
    rw [if_pos (kd.mp ⟨e1, e5⟩)] at hQ
    conv => whnf
    refine hK _ _ _ _ _ _ _ _ _ _ (?_)
    refine z_WP_gos [10] 1000 fun K C hK hC => ?_
    conv => whnf
    refine hC _ _ _ _ _ _ _ _ _ _ (fun _ _ _ _ _ _ q => q) (cs_begins3 hn h (fun I' f' d' => ?_))
    conv => whnf
    repeat ((first | refine And.intro (by (conv => arg 2; whnf); (try simp only [z_lit, nI_add, pk_mul, z_pr1, z_pr2]); exact z_in (by omega) (by decide)) ?_ | refine z_bt1 (by decide) ?_ | refine z_bf1 (by decide) ?_ | refine z_bt2 (by decide) ?_ | refine z_bf2 (by decide) ?_); conv => whnf)
    simp (disch := omega) only [z_lit, nI_add, pk_mul, z_pr1, z_pr2, nI_clamp, z_up_row, z_row_s, z_row_n, z_row_row, pk_us, pk_un]
    refine hK _ _ _ _ _ _ _ _ _ _ (dT10 hQ (cld_r f f') d')
  | succ j ih =>
    intro m g st I hm f hA h hQ
    obtain ⟨h0, h2, h3, h4, h9, h8, h6, h71, h72, h73⟩ := id h
    have hl := tkM_le (t := t) (n := n) (st := st)
    obtain ⟨ka, kb, kc, kd⟩ := k1 _ hl
    unfold pall at hQ
    refine z_WP_gos [52] 1000 fun K C hK hC => ?_
    conv => whnf
    refine ⟨fun z => absurd z (nI_nlt (a := 24) (b := m) (by omega) (by omega)), fun _ => ?_⟩
    conv => whnf
    simp (disch := omega) only [z_lit, nI_add, pk_mul, z_pr1, z_pr2, nI_clamp, z_up_row, z_row_s, z_row_n, z_row_row, pk_us, pk_un]
    rw [h3]
    refine ⟨fun z => absurd rfl z, fun _ => ?_⟩
    conv => whnf
    simp (disch := omega) only [z_lit, nI_add, pk_mul, z_pr1, z_pr2, nI_clamp, z_up_row, z_row_s, z_row_n, z_row_row, pk_us, pk_un]
    rw [h6]
    refine ⟨fun g1 => ?_, fun g1 => ?_⟩
    · have e0 : tkM t n st = 0 := kc.mp (nI_inj9 (b := 0) (by omega) (by omega) g1)
      rw [if_pos e0] at hQ
      have q := hQ (z_row I 32 (upd (I 32) 2 (nI 0))) (fr_w f (by decide)) (by rw [z_row_n _ _ (by decide)]; exact hA) (by rw [z_row_s]; exact ⟨pk_us, by rw [pk_un (by decide)]; exact h3, by rw [pk_un (by decide)]; exact h4⟩)
      conv => whnf
      simp (disch := omega) only [z_lit, nI_add, pk_mul, z_pr1, z_pr2, nI_clamp, z_up_row, z_row_s, z_row_n, z_row_row, pk_us, pk_un]
      rw [h3]
      refine ⟨fun z => absurd rfl z, fun _ => ?_⟩
      conv => whnf
      exact q
    have e0 : ¬ tkM t n st = 0 := fun z => g1 (by rw [kc.mpr z])
    rw [if_neg e0] at hQ
    have no : ¬ (3 ≤ tkM t n st ∧ tkM t n st ≤ 8) → z_WP (z_X0 L xs) z_P0 (d + 10) m_Reader_readTable 52 [some (.ref 32), some (.int (nI m)), some (.int (nI m))] [.int 0, .ref 32] I (z_R0 kp sp (.retAddr 2)) J F cn 0 0 Q := by
      intro x
      rw [if_neg x] at hQ
      refine z_WP_gos [10] 1000 fun K C hK hC => ?_
      conv => whnf
      refine hC _ _ _ _ _ _ _ _ _ _ (fun _ _ _ _ _ _ q => q) (cs_begins0 hn h (fun I' f' d' => ?_))
      conv => whnf
      repeat ((first | refine And.intro (by (conv => arg 2; whnf); (try simp only [z_lit, nI_add, pk_mul, z_pr1, z_pr2]); exact z_in (by omega) (by decide)) ?_ | refine z_bt1 (by decide) ?_ | refine z_bf1 (by decide) ?_ | refine z_bt2 (by decide) ?_ | refine z_bf2 (by decide) ?_); conv => whnf)
      simp (disch := omega) only [z_lit, nI_add, pk_mul, z_pr1, z_pr2, nI_clamp, z_up_row, z_row_s, z_row_n, z_row_row, pk_us, pk_un]
      refine hK _ _ _ _ _ _ _ _ _ _ (dT10 hQ (cld_r f f') d')
    conv => whnf
    simp (disch := omega) only [z_lit, nI_add, pk_mul, z_pr1, z_pr2, nI_clamp, z_up_row, z_row_s, z_row_n, z_row_row, pk_us, pk_un]
    rw [h6]
    refine ⟨fun g2 => ?_, fun g2 => ?_⟩
    · conv => whnf
      refine hK _ _ _ _ _ _ _ _ _ _ (no (fun z => g2 (by rw [(kd.mpr z).1])))
    have e1 : kO2 (tkM t n st) = 1 := nI_inj9 (b := 1) (by omega) (by omega) g2
    conv => whnf
    simp (disch := omega) only [z_lit, nI_add, pk_mul, z_pr1, z_pr2, nI_clamp, z_up_row, z_row_s, z_row_n, z_row_row, pk_us, pk_un]
    rw [h71 e1]
    refine ⟨fun g3 => ?_, fun g3 => ?_⟩
    · conv => whnf
      refine hK _ _ _ _ _ _ _ _ _ _ (no (fun z => absurd ((nI_ltI (a := 5) (by omega) (by omega)).mp g3) (Nat.not_lt.mpr (kd.mpr z).2)))
    have e5 : vO2 (tkM t n st) ≤ 5 := by
      rcases Nat.lt_or_ge 5 (vO2 (tkM t n st)) with z | z
      · exact absurd (nI_lt (a := 5) z (by omega)) g3
      · exact z
    have e38 := kd.mp ⟨e1, e5⟩
    rw [if_pos e38] at hQ
    obtain ⟨k, hk⟩ : ∃ k, tkM t n st = 3 + k := ⟨tkM t n st - 3, by omega⟩
    rw [show tkM t n st - 3 = k by omega] at hQ
    have hk5 : k ≤ 5 := by omega
    have hQ1 := okQ_and (okQ_b hQ) (C := fun g' _ => ∃ gg, lnG g' m gg ∧ gok gg ∧ gg 0 = k ∧ ∀ j, j < 14 * m → g' j = g j) (fun f' s' e => pline_ok hk5 e)
    clear hQ
    have rt : ∀ {I' : z_I}, fr [32, 34] I0 I' → rT I' t n := fun f => rT_k hT (f 33 (by decide))
    have hrest : ∀ g' st' (hq : (∃ gg, lnG g' m gg ∧ gok gg ∧ gg 0 = k ∧ ∀ j, j < 14 * m → g' j = g j) ∧ okQ (pall t n j (m + 1) g' st') (fun g' c => ∀ I', fr [32, 34] I0 I' → rwA (I' 34) g' c → rdC (I' 32) (nI 0) (-1) → Q (some (.int (nI c))) I' (z_R0 kp sp (.retAddr 2)) J F cn) (fun c p => ∀ I', fr [32, 34] I0 I' → rdC (I' 32) (nI c) (nI p) → Q (some (.int (-1))) I' (z_R0 kp sp (.retAddr 2)) J F cn)), ∀ I', cln I I' m k g' → lvC t n kO2 vO2 (I' 32) st' → z_WP (z_X0 L xs) z_P0 (d + 10) m_Reader_readTable 10 [some (.ref 32), some (.int (nI (m + 1))), some (.int (nI (m + 1)))] [] I' (z_R0 kp sp (.retAddr 2)) J F cn 0 0 Q := by
      intro g' st' hq I' cl l'
      obtain ⟨⟨gg, q1, q2, q3, q4⟩, hq⟩ := hq
      refine ih (m + 1) g' st' I' (by omega) (fr_t f cl.1) (fun i hi => ?_) l' hq
      by_cases z : i = m
      · subst z
        have e : (g' (14 * i)).toNatClampNeg = k := by
          have := (q1.1 0 (by omega)).1
          rw [Nat.add_zero] at this
          rw [this, q3, nI_clamp (by omega)]
        rw [e]
        exact cl.2.2
      · have hlt : i < m := by omega
        have ha := hA i hlt
        rw [q4 (14 * i) (by omega)]
        intro a ha10
        have hp : pm (g (14 * i)).toNatClampNeg a < 11 := by
          have : ∀ kk, ∀ a, a < 10 → pm kk a < 11 := by
            intro kk a h
            have : a = 0 ∨ a = 1 ∨ a = 2 ∨ a = 3 ∨ a = 4 ∨ a = 5 ∨ a = 6 ∨ a = 7 ∨ a = 8 ∨ a = 9 := by omega
            rcases this with rfl | rfl | rfl | rfl | rfl | rfl | rfl | rfl | rfl | rfl <;> first | exact (by decide : (0 : Nat) < 11) | exact (by decide : (1 : Nat) < 11) | exact (by decide : (2 : Nat) < 11) | exact (by decide : (4 : Nat) < 11) | exact (by decide : (5 : Nat) < 11) | exact (by decide : (6 : Nat) < 11) | exact (by decide : (7 : Nat) < 11) | exact (by decide : (9 : Nat) < 11) | exact (by decide : (8 : Nat) < 11) | (show (if kk = 4 then 10 else 3) < 11; split <;> omega)
          exact this _ a ha10
        rw [cl.2.1 _ (by omega), q4 _ (by omega)]
        exact ha a ha10
    unfold pline at hQ1
    conv => whnf
    refine hK _ _ _ _ _ _ _ _ _ _ (?_)
    refine z_WP_gos [10] 1000 fun K C hK hC => ?_
    conv => whnf
    refine hC _ _ _ _ _ _ _ _ _ _ (fun _ _ _ _ _ _ q => q) (cs_begins1 (m := m) (by omega) h ?_)
    conv => whnf
    refine ⟨fun z => absurd z (by decide), fun _ => ?_⟩
    conv => whnf
    simp (disch := omega) only [z_lit, nI_add, pk_mul, z_pr1, z_pr2, nI_clamp, z_up_row, z_row_s, z_row_n, z_row_row, pk_us, pk_un]
    refine hC _ _ _ _ _ _ _ _ _ _ (fun _ _ _ _ _ _ q => q) (cs_readWhat (k := k) (m := m) (g := g) (rt f) hn (by omega) hk5 hk h (okQ_m (okQ_b hQ1) (fun g2 st2 hQ I2 cl2 h2 => ?_) (fun c p hQ I2 f2 dd => ?_)))
    conv => whnf
    · simp (disch := omega) only [z_lit, nI_add, pk_mul, z_pr1, z_pr2, nI_clamp, z_up_row, z_row_s, z_row_n, z_row_row, pk_us, pk_un]
      refine hC _ _ _ _ _ _ _ _ _ _ (fun _ _ _ _ _ _ q => q) (cs_readWhen (k := k) (rt f) hn (by omega) hk5 cl2 h2 (okQ_m hQ (fun g3 st3 hQ I3 cl3 h3 => ?_) (fun c p hQ I3 f3 dd => ?_)))
      conv => whnf
      · simp (disch := omega) only [z_lit, nI_add, pk_mul, z_pr1, z_pr2, nI_clamp, z_up_row, z_row_s, z_row_n, z_row_row, pk_us, pk_un]
        refine hK _ _ _ _ _ _ _ _ _ _ (hrest g3 st3 hQ I3 cl3 h3)
      · conv => whnf
        simp (disch := omega) only [z_lit, nI_add, pk_mul, z_pr1, z_pr2, nI_clamp, z_up_row, z_row_s, z_row_n, z_row_row, pk_us, pk_un]
        refine hK _ _ _ _ _ _ _ _ _ _ (dT10 hQ (fr_t f f3) dd)
    · conv => whnf
      simp (disch := omega) only [z_lit, nI_add, pk_mul, z_pr1, z_pr2, nI_clamp, z_up_row, z_row_s, z_row_n, z_row_row, pk_us, pk_un]
      refine hC _ _ _ _ _ _ _ _ _ _ (fun _ _ _ _ _ _ q => q) (cs_readWhenD (I0 := I) (by omega) (fun I3 f3 d3 => ?_) f2 dd)
      conv => whnf
      simp (disch := omega) only [z_lit, nI_add, pk_mul, z_pr1, z_pr2, nI_clamp, z_up_row, z_row_s, z_row_n, z_row_row, pk_us, pk_un]
      refine hK _ _ _ _ _ _ _ _ _ _ (dT10 hQ (fr_t f f3) d3)
end
