/-! what a text says: all lines, the model -/
def ini (fr : Nat → Int32) (m c : Nat) : Nat → Int32 := fun j => if 14 * m ≤ j ∧ j < 14 * m + c then (if j = 14 * m + 13 then -1 else nI 0) else fr j
theorem ini_0 {fr : Nat → Int32} {m : Nat} : ini fr m 0 = fr := funext fun j => if_neg (by omega)
theorem ini_s {fr : Nat → Int32} {m c : Nat} : upd (ini fr m c) (14 * m + c) (if c = 13 then -1 else nI 0) = ini fr m (c + 1) := funext fun j => by
  unfold ini
  by_cases h : j = 14 * m + c
  · subst h
    rw [pk_us, if_pos (show 14 * m ≤ 14 * m + c ∧ 14 * m + c < 14 * m + (c + 1) by omega)]
    by_cases z : c = 13
    · rw [if_pos z, if_pos (show 14 * m + c = 14 * m + 13 by omega)]
    · rw [if_neg z, if_neg (show ¬ 14 * m + c = 14 * m + 13 by omega)]
  · rw [pk_un h]
    by_cases z : 14 * m ≤ j ∧ j < 14 * m + c
    · rw [if_pos z, if_pos (show 14 * m ≤ j ∧ j < 14 * m + (c + 1) by omega)]
    · rw [if_neg z, if_neg (show ¬ (14 * m ≤ j ∧ j < 14 * m + (c + 1)) by omega)]
def pline (t : Nat → Nat) (n m k : Nat) (fr : Nat → Int32) (st : Nat) : Po := pbind (pmsg t n m k (upd (ini fr m 14) (14 * m + 0) (nI k)) (nx t n st)) fun fr st => pbind (pwhen t n m fr st) fun fr st => pbind (pneed t n 12 fr st) fun fr st => pbind (pnum t n m 8 0 1 fr st) fun fr st => pneed t n 13 fr st
def pall (t : Nat → Nat) (n : Nat) : Nat → Nat → (Nat → Int32) → Nat → Po
  | 0, m, fr, st => if tkM t n st = 0 then p_ok fr m else if 3 ≤ tkM t n st ∧ tkM t n st ≤ 8 then p_bad 3 st else p_bad 1 st
  | j + 1, m, fr, st => if tkM t n st = 0 then p_ok fr m else if 3 ≤ tkM t n st ∧ tkM t n st ≤ 8 then pbind (pline t n m (tkM t n st - 3) fr st) (fun fr st => pall t n j (m + 1) fr st) else p_bad 1 st
section
variable {L : Nat} {xs : Nat → Int32} {d : Nat} {kp sp wd : Value} {I : z_I} {s : z_sg} {R : z_R} {J : z_J} {F : z_F} {cn : Nat} {Q : z_Q} {n k m st : Nat} {t : Nat → Nat} {f f0 w y fr : Nat → Int32}
theorem lp_ini (hm : m < 24) (h19 : f 19 = nI m) (hQ : z_WP (z_X0 L xs) z_P0 (d + 10) m_Mod_readsAll 94 [some (.ref 40), some (.int (nI 14))] [] (z_ms (z_row I 46 (ini fr m 14)) (f, w, y)) (z_R0 kp sp wd) J F cn 0 0 Q) :
    ∀ j k, k + j = 14 → z_WP (z_X0 L xs) z_P0 (d + 10) m_Mod_readsAll 57 [some (.ref 40), some (.int (nI k))] [] (z_ms (z_row I 46 (ini fr m k)) (f, w, y)) (z_R0 kp sp wd) J F cn 0 0 Q := by
  intro j
  induction j with
  | zero =>
    intro k hk
    obtain rfl : k = 14 := by omega
    refine z_WP_gos [57, 94] 1000 fun K C hK hC => ?_
    conv => whnf
    repeat ((first | refine And.intro (by (conv => arg 2; whnf); (try simp only [z_lit, nI_add, pk_mul, z_pr1, z_pr2]); exact z_in (by omega) (by decide)) ?_ | refine z_bt1 (by decide) ?_ | refine z_bf1 (by decide) ?_ | refine z_bt2 (by decide) ?_ | refine z_bf2 (by decide) ?_); conv => whnf)
    refine hK _ _ _ _ _ _ _ _ _ _ (hQ)
  | succ j ih =>
    intro k hk
    have ih' := ih (k + 1) (by omega)
    rw [← ini_s] at ih'
    refine z_WP_gos [57, 94] 1000 fun K C hK hC => ?_
    conv => whnf
    refine ⟨fun z => absurd z (nI_ge (b := 14) (by omega) (by omega)), fun _ => ?_⟩
    conv => whnf
    simp (disch := omega) only [z_lit, nI_add, pk_mul, z_pr1, z_pr2, nI_clamp, z_m3_40, z_m3_41, z_m3_44, z_m3_u40, z_m3_u41, z_m3_u44, z_m3_m3, pk_us, pk_un]
    rw [h19]
    by_cases z : k = 13
    · subst z
      rw [if_pos rfl] at ih'
      repeat ((first | refine And.intro (by (conv => arg 2; whnf); (try simp only [z_lit, nI_add, pk_mul, z_pr1, z_pr2]); exact z_in (by omega) (by decide)) ?_ | refine z_bt1 (by decide) ?_ | refine z_bf1 (by decide) ?_ | refine z_bt2 (by decide) ?_ | refine z_bf2 (by decide) ?_); conv => whnf)
      rw [z_ms_u46]
      simp (disch := omega) only [z_lit, nI_add, pk_mul, z_pr1, z_pr2, nI_clamp, z_m3_40, z_m3_41, z_m3_44, z_m3_u40, z_m3_u41, z_m3_u44, z_m3_m3, pk_us, pk_un]
      refine hK _ _ _ _ _ _ _ _ _ _ (ih')
    · rw [if_neg z] at ih'
      refine ⟨fun _ => ?_, fun y => absurd (nI_inj9 (b := 13) (by omega) (by omega) y) z⟩
      conv => whnf
      repeat ((first | refine And.intro (by (conv => arg 2; whnf); (try simp only [z_lit, nI_add, pk_mul, z_pr1, z_pr2]); exact z_in (by omega) (by decide)) ?_ | refine z_bt1 (by decide) ?_ | refine z_bf1 (by decide) ?_ | refine z_bt2 (by decide) ?_ | refine z_bf2 (by decide) ?_); conv => whnf)
      rw [z_ms_u46]
      simp (disch := omega) only [z_lit, nI_add, pk_mul, z_pr1, z_pr2, nI_clamp, z_m3_40, z_m3_41, z_m3_44, z_m3_u40, z_m3_u41, z_m3_u44, z_m3_m3, pk_us, pk_un]
      refine hK _ _ _ _ _ _ _ _ _ _ (ih')
/-- what reading leaves -/
def enM (f f0 : Nat → Int32) (c : Nat) : Prop := f 19 = nI c ∧ ∀ j, j < 14 ∨ 22 < j ∨ j = 20 → f j = f0 j
theorem lp_reads (hT : mT I t n) (hn : n ≤ 500) :
    ∀ j m fr f st, m + j = 24 → lvM t n f f0 m st → okQ (pall t n j m fr st) (fun fr' c => ∀ f', enM f' f0 c → Q (some (.int 1)) (z_ms (z_row I 46 fr') (f', w, y)) (z_R0 kp sp wd) J F cn) (fun c p => ∀ f' fr', ddM f' f0 c p → Q (some (.int 0)) (z_ms (z_row I 46 fr') (f', w, y)) (z_R0 kp sp wd) J F cn) →
    ∀ lc, z_WP (z_X0 L xs) z_P0 (d + 10) m_Mod_readsAll 14 [some (.ref 40), lc] [] (z_ms (z_row I 46 fr) (f, w, y)) (z_R0 kp sp wd) J F cn 0 0 Q := by
  intro j
  induction j with
  | zero =>
    intro m fr f st hm h hQ lc
    have h16 := h.2.2.2.2.1
    have h19 := h.2.2.2.2.2.2.1
    have hl := tkM_le (t := t) (n := n) (st := st)
    unfold pall at hQ
    obtain rfl : m = 24 := by omega
    refine z_WP_gos [14] 1000 fun K C hK hC => ?_
    conv => whnf
    simp (disch := omega) only [z_lit, nI_add, pk_mul, z_pr1, z_pr2, nI_clamp, z_m3_40, z_m3_41, z_m3_44, z_m3_u40, z_m3_u41, z_m3_u44, z_m3_m3, pk_us, pk_un]
    rw [h16]
    refine ⟨fun g => ?_, fun g => ?_⟩
    · have g' : tkM t n st = 0 := nI_inj9 (b := 0) (by omega) (by omega) g
      rw [if_pos g'] at hQ
      conv => whnf
      exact ⟨Or.inr rfl, hQ f ⟨h19, h.2.2.2.2.2.2.2⟩⟩
    have g' : ¬ tkM t n st = 0 := fun z => g (by rw [z])
    rw [if_neg g'] at hQ
    conv => whnf
    simp (disch := omega) only [z_lit, nI_add, pk_mul, z_pr1, z_pr2, nI_clamp, z_m3_40, z_m3_41, z_m3_44, z_m3_u40, z_m3_u41, z_m3_u44, z_m3_m3, pk_us, pk_un]
    rw [h16]
    refine hC _ _ _ _ _ _ _ _ _ _ (fun _ _ _ _ _ _ q => q) (sp_Mod_isIn (fun x1 x2 => ?_) (fun x => ?_))
    conv => whnf
    · have a := (nI_leI (a := 3) (by omega) (by omega)).mp x1
      have b := (nI_leI (b := 8) (by omega) (by omega)).mp x2
      rw [if_pos ⟨a, b⟩] at hQ
      refine ⟨fun _ => ?_, fun z => absurd z (by decide)⟩
      conv => whnf
      simp (disch := omega) only [z_lit, nI_add, pk_mul, z_pr1, z_pr2, nI_clamp, z_m3_40, z_m3_41, z_m3_44, z_m3_u40, z_m3_u41, z_m3_u44, z_m3_m3, pk_us, pk_un]
      rw [h19]
      repeat ((first | refine And.intro (by (conv => arg 2; whnf); (try simp only [z_lit, nI_add, pk_mul, z_pr1, z_pr2]); exact z_in (by omega) (by decide)) ?_ | refine z_bt1 (by decide) ?_ | refine z_bf1 (by decide) ?_ | refine z_bt2 (by decide) ?_ | refine z_bf2 (by decide) ?_); conv => whnf)
      refine hC _ _ _ _ _ _ _ _ _ _ (fun _ _ _ _ _ _ q => q) (sp_bad (c := 3) h (fun f' d' => ?_))
      conv => whnf
      exact ⟨Or.inl rfl, hQ f' fr d'⟩
    · have a : ¬ (3 ≤ tkM t n st ∧ tkM t n st ≤ 8) := fun z => x ⟨nI_le (a := 3) z.1 (by omega), nI_le (b := 8) z.2 (by omega)⟩
      rw [if_neg a] at hQ
      refine ⟨fun z => absurd rfl z, fun _ => ?_⟩
      conv => whnf
      refine hC _ _ _ _ _ _ _ _ _ _ (fun _ _ _ _ _ _ q => q) (sp_bad (c := 1) h (fun f' d' => ?_))
      conv => whnf
      exact ⟨Or.inl rfl, hQ f' fr d'⟩
  | succ j ih =>
    intro m fr f st hm h hQ lc
    have h16 := h.2.2.2.2.1
    have h19 := h.2.2.2.2.2.2.1
    have hl := tkM_le (t := t) (n := n) (st := st)
    unfold pall at hQ
    refine z_WP_gos [14, 57] 1000 fun K C hK hC => ?_
    conv => whnf
    simp (disch := omega) only [z_lit, nI_add, pk_mul, z_pr1, z_pr2, nI_clamp, z_m3_40, z_m3_41, z_m3_44, z_m3_u40, z_m3_u41, z_m3_u44, z_m3_m3, pk_us, pk_un]
    rw [h16]
    refine ⟨fun g => ?_, fun g => ?_⟩
    · have g' : tkM t n st = 0 := nI_inj9 (b := 0) (by omega) (by omega) g
      rw [if_pos g'] at hQ
      conv => whnf
      exact ⟨Or.inr rfl, hQ f ⟨h19, h.2.2.2.2.2.2.2⟩⟩
    have g' : ¬ tkM t n st = 0 := fun z => g (by rw [z])
    rw [if_neg g'] at hQ
    conv => whnf
    simp (disch := omega) only [z_lit, nI_add, pk_mul, z_pr1, z_pr2, nI_clamp, z_m3_40, z_m3_41, z_m3_44, z_m3_u40, z_m3_u41, z_m3_u44, z_m3_m3, pk_us, pk_un]
    rw [h16]
    refine hC _ _ _ _ _ _ _ _ _ _ (fun _ _ _ _ _ _ q => q) (sp_Mod_isIn (fun x1 x2 => ?_) (fun x => ?_))
    conv => whnf
    rotate_left
    · have a : ¬ (3 ≤ tkM t n st ∧ tkM t n st ≤ 8) := fun z => x ⟨nI_le (a := 3) z.1 (by omega), nI_le (b := 8) z.2 (by omega)⟩
      rw [if_neg a] at hQ
      refine ⟨fun z => absurd rfl z, fun _ => ?_⟩
      conv => whnf
      refine hC _ _ _ _ _ _ _ _ _ _ (fun _ _ _ _ _ _ q => q) (sp_bad (c := 1) h (fun f' d' => ?_))
      conv => whnf
      exact ⟨Or.inl rfl, hQ f' fr d'⟩
    have a := (nI_leI (a := 3) (by omega) (by omega)).mp x1
    have b := (nI_leI (b := 8) (by omega) (by omega)).mp x2
    rw [if_pos ⟨a, b⟩] at hQ
    refine ⟨fun _ => ?_, fun z => absurd z (by decide)⟩
    conv => whnf
    simp (disch := omega) only [z_lit, nI_add, pk_mul, z_pr1, z_pr2, nI_clamp, z_m3_40, z_m3_41, z_m3_44, z_m3_u40, z_m3_u41, z_m3_u44, z_m3_m3, pk_us, pk_un]
    rw [h19]
    refine ⟨fun _ => ?_, fun z => absurd (nI_inj9 (b := 24) (by omega) (by omega) z) (by omega)⟩
    conv => whnf
    have lp := lp_ini (L := L) (xs := xs) (d := d) (kp := kp) (sp := sp) (wd := wd) (I := I) (J := J) (F := F) (cn := cn) (Q := Q) (fr := fr) (w := w) (y := y) (m := m) (f := f) (by omega) h19 ?_ 14 0 rfl
    · rw [ini_0] at lp
      refine hK _ _ _ _ _ _ _ _ _ _ (lp)
    unfold pline at hQ
    have hQ' := okQ_b (okQ_b hQ)
    obtain ⟨k, hk⟩ : ∃ k, tkM t n st = 3 + k := ⟨tkM t n st - 3, by omega⟩
    rw [show tkM t n st - 3 = k by omega] at hQ'
    refine z_WP_gos [14] 1000 fun K C hK hC => ?_
    conv => whnf
    refine hC _ _ _ _ _ _ _ _ _ _ (fun _ _ _ _ _ _ q => q) (sp_message (k := k) hT hn (by omega) (by omega) hk h (okQ_m hQ' (fun fr2 st2 hQ f2 h => ?_) (fun c p hQ f2 fr2 h => ?_)))
    conv => whnf
    rotate_left
    · repeat ((first | refine And.intro (by (conv => arg 2; whnf); (try simp only [z_lit, nI_add, pk_mul, z_pr1, z_pr2]); exact z_in (by omega) (by decide)) ?_ | refine z_bt1 (by decide) ?_ | refine z_bf1 (by decide) ?_ | refine z_bt2 (by decide) ?_ | refine z_bf2 (by decide) ?_); conv => whnf)
      exact ⟨Or.inl rfl, hQ f2 fr2 h⟩
    repeat ((first | refine And.intro (by (conv => arg 2; whnf); (try simp only [z_lit, nI_add, pk_mul, z_pr1, z_pr2]); exact z_in (by omega) (by decide)) ?_ | refine z_bt1 (by decide) ?_ | refine z_bf1 (by decide) ?_ | refine z_bt2 (by decide) ?_ | refine z_bf2 (by decide) ?_); conv => whnf)
    refine hC _ _ _ _ _ _ _ _ _ _ (fun _ _ _ _ _ _ q => q) (sp_whenever hT hn (by omega) h (okQ_m (okQ_b hQ) (fun fr3 st3 hQ f3 h => ?_) (fun c p hQ f3 fr3 h => ?_)))
    conv => whnf
    rotate_left
    · repeat ((first | refine And.intro (by (conv => arg 2; whnf); (try simp only [z_lit, nI_add, pk_mul, z_pr1, z_pr2]); exact z_in (by omega) (by decide)) ?_ | refine z_bt1 (by decide) ?_ | refine z_bf1 (by decide) ?_ | refine z_bt2 (by decide) ?_ | refine z_bf2 (by decide) ?_); conv => whnf)
      exact ⟨Or.inl rfl, hQ f3 fr3 h⟩
    repeat ((first | refine And.intro (by (conv => arg 2; whnf); (try simp only [z_lit, nI_add, pk_mul, z_pr1, z_pr2]); exact z_in (by omega) (by decide)) ?_ | refine z_bt1 (by decide) ?_ | refine z_bf1 (by decide) ?_ | refine z_bt2 (by decide) ?_ | refine z_bf2 (by decide) ?_); conv => whnf)
    refine hC _ _ _ _ _ _ _ _ _ _ (fun _ _ _ _ _ _ q => q) (sp_need (q := 12) hT hn (by decide) h (okQ_m (okQ_b hQ) (fun fr4 st4 hQ f4 h => ?_) (fun c p hQ f4 fr4 h => ?_)))
    conv => whnf
    rotate_left
    · repeat ((first | refine And.intro (by (conv => arg 2; whnf); (try simp only [z_lit, nI_add, pk_mul, z_pr1, z_pr2]); exact z_in (by omega) (by decide)) ?_ | refine z_bt1 (by decide) ?_ | refine z_bf1 (by decide) ?_ | refine z_bt2 (by decide) ?_ | refine z_bf2 (by decide) ?_); conv => whnf)
      exact ⟨Or.inl rfl, hQ f4 fr4 h⟩
    repeat ((first | refine And.intro (by (conv => arg 2; whnf); (try simp only [z_lit, nI_add, pk_mul, z_pr1, z_pr2]); exact z_in (by omega) (by decide)) ?_ | refine z_bt1 (by decide) ?_ | refine z_bf1 (by decide) ?_ | refine z_bt2 (by decide) ?_ | refine z_bf2 (by decide) ?_); conv => whnf)
    refine hC _ _ _ _ _ _ _ _ _ _ (fun _ _ _ _ _ _ q => q) (sp_number (k := 8) (lo := 0) (hi := 1) hT hn (by omega) (by omega) (by decide) (by decide) h (okQ_m (okQ_b hQ) (fun fr5 st5 hQ f5 h => ?_) (fun c p hQ f5 fr5 h => ?_)))
    conv => whnf
    rotate_left
    · repeat ((first | refine And.intro (by (conv => arg 2; whnf); (try simp only [z_lit, nI_add, pk_mul, z_pr1, z_pr2]); exact z_in (by omega) (by decide)) ?_ | refine z_bt1 (by decide) ?_ | refine z_bf1 (by decide) ?_ | refine z_bt2 (by decide) ?_ | refine z_bf2 (by decide) ?_); conv => whnf)
      exact ⟨Or.inl rfl, hQ f5 fr5 h⟩
    repeat ((first | refine And.intro (by (conv => arg 2; whnf); (try simp only [z_lit, nI_add, pk_mul, z_pr1, z_pr2]); exact z_in (by omega) (by decide)) ?_ | refine z_bt1 (by decide) ?_ | refine z_bf1 (by decide) ?_ | refine z_bt2 (by decide) ?_ | refine z_bf2 (by decide) ?_); conv => whnf)
    refine hC _ _ _ _ _ _ _ _ _ _ (fun _ _ _ _ _ _ q => q) (sp_need (q := 13) hT hn (by decide) h (okQ_m hQ (fun fr6 st6 hQ f6 h => ?_) (fun c p hQ f6 fr6 h => ?_)))
    conv => whnf
    rotate_left
    · repeat ((first | refine And.intro (by (conv => arg 2; whnf); (try simp only [z_lit, nI_add, pk_mul, z_pr1, z_pr2]); exact z_in (by omega) (by decide)) ?_ | refine z_bt1 (by decide) ?_ | refine z_bf1 (by decide) ?_ | refine z_bt2 (by decide) ?_ | refine z_bf2 (by decide) ?_); conv => whnf)
      exact ⟨Or.inl rfl, hQ f6 fr6 h⟩
    have j19 := h.2.2.2.2.2.2.1
    refine ⟨fun _ => ?_, fun z => absurd z (by decide)⟩
    conv => whnf
    simp (disch := omega) only [z_lit, nI_add, pk_mul, z_pr1, z_pr2, nI_clamp, z_m3_40, z_m3_41, z_m3_44, z_m3_u40, z_m3_u41, z_m3_u44, z_m3_m3, pk_us, pk_un]
    rw [j19]
    simp (disch := omega) only [z_lit, nI_add, pk_mul, z_pr1, z_pr2, nI_clamp, z_m3_40, z_m3_41, z_m3_44, z_m3_u40, z_m3_u41, z_m3_u44, z_m3_m3, pk_us, pk_un]
    refine hK _ _ _ _ _ _ _ _ _ _ (ih (m + 1) fr6 (upd f6 19 (nI (m + 1))) st6 (by omega) ?_ hQ _)
    obtain ⟨i0, i14, i15, i17, i16, i18, i19, ik⟩ := h
    exact ⟨i0, by rw [pk_un (by omega)]; exact i14, by rw [pk_un (by omega)]; exact i15, by rw [pk_un (by omega)]; exact i17, by rw [pk_un (by omega)]; exact i16, fun z => by rw [pk_un (by omega)]; exact i18 z, pk_us, fun j hj => by rw [pk_un (by omega)]; exact ik j hj⟩
theorem sp_readsAll (hT : mT I t n) (hn : n ≤ 500) (h14 : s.1 14 = nI n) (hQ : okQ (pall t n 24 0 (I 46) (tkS t n 0)) (fun fr' c => ∀ f', enM f' s.1 c → Q (some (.int 1)) (z_ms (z_row I 46 fr') (f', s.2.1, s.2.2)) (z_R0 kp sp wd) J F cn) (fun c p => ∀ f' fr', ddM f' s.1 c p → Q (some (.int 0)) (z_ms (z_row I 46 fr') (f', s.2.1, s.2.2)) (z_R0 kp sp wd) J F cn)) :
    z_M (z_X0 L xs) z_P0 (d + 10) m_Mod_readsAll [.ref 40] (z_ms I s) (z_R0 kp sp wd) J F cn Q := by
  obtain ⟨f0, w, y⟩ := s
  have h14' : f0 14 = nI n := h14
  have c := tkS_b (t := t) (n := n) (p := 0) (by omega)
  refine z_WP_gos [14] 1000 fun K C hK hC => ?_
  conv => whnf
  simp (disch := omega) only [z_lit, nI_add, pk_mul, z_pr1, z_pr2, nI_clamp, z_m3_40, z_m3_41, z_m3_44, z_m3_u40, z_m3_u41, z_m3_u44, z_m3_m3, pk_us, pk_un]
  refine hC _ _ _ _ _ _ _ _ _ _ (fun _ _ _ _ _ _ q => q) (sp_goesOn (s := (upd (upd f0 19 (nI 0)) 15 (nI 0), w, y)) (p := 0) hT hn (by show upd (upd f0 19 (nI 0)) 15 (nI 0) 14 = _; rw [pk_un (by omega), pk_un (by omega)]; exact h14') (show upd (upd f0 19 (nI 0)) 15 (nI 0) 15 = nI 0 from pk_us) (by omega) (fun f' hf a1 a2 a3 a4 => ?_))
  conv => whnf
  have lp := lp_reads (L := L) (xs := xs) (d := d) (kp := kp) (sp := sp) (wd := wd) (I := I) (J := J) (F := F) (cn := cn) (Q := Q) (w := w) (y := y) (f0 := f0) hT hn 24 0 (I 46) f' (tkS t n 0) rfl ?_ hQ
  · rw [z_row_id] at lp
    refine hK _ _ _ _ _ _ _ _ _ _ (lp _)
  · refine ⟨c.2, (hf 14 (by omega)).trans ?_, a1, a2, a3, a4, (hf 19 (by omega)).trans ?_, fun j hj => (hf j (by omega)).trans ?_⟩
    · show upd (upd f0 19 (nI 0)) 15 (nI 0) 14 = _
      rw [pk_un (by omega), pk_un (by omega)]; exact h14'
    · show upd (upd f0 19 (nI 0)) 15 (nI 0) 19 = _
      rw [pk_un (by omega), pk_us]
    · show upd (upd f0 19 (nI 0)) 15 (nI 0) j = _
      rw [pk_un (by omega), pk_un (by omega)]
end
