/-! the model: image and would -/
def wq (f : Nat) (n q : Int32) (N q' : Nat) : Prop := n = nI N ∧ 1 ≤ N ∧ N ≤ 20 ∧ f + N ≤ 9999 ∧ q = nI q' ∧ q' ≤ 3
def q_would (T : z_sg) (q : Nat) : Int32 := if q = 0 then T.1 30 else if q = 1 then T.1 29 - T.1 30 else if q = 2 then T.2.1 3 else T.1 25
section
variable {L : Nat} {xs : Nat → Int32} {d : Nat} {kp sp wd : Value} {I : z_I} {s : z_sg} {R : z_R} {J : z_J} {F : z_F} {cn : Nat} {Q : z_Q} {cm : Nat → Int32}
theorem z_ms_u {b i : Nat} {v : Int32} {s : z_sg} (h0 : b ≠ 40) (h1 : b ≠ 41) (h4 : b ≠ 44) : z_up (z_ms (z_row I b cm) s) b i v = z_ms (z_row I b (upd cm i v)) s := by
  obtain ⟨f, w, y⟩ := s
  funext c
  simp only [z_ms, z_m3, z_up, z_row]
  by_cases h : c = b
  · subst h
    simp only [if_neg h0, if_neg h1, if_neg h4, if_true]
    rfl
  · rw [if_neg h, if_neg h, if_neg h]
theorem z_ms_n {b : Nat} {s : z_sg} (h0 : b ≠ 40) (h1 : b ≠ 41) (h4 : b ≠ 44) : z_ms (z_row I b cm) s b = cm := by
  show (if b = 40 then _ else if b = 41 then _ else if b = 44 then _ else z_row I b cm b) = cm
  rw [if_neg h0, if_neg h1, if_neg h4, z_row_s]
theorem lp_image1 {v : Int32} (hv : ¬ v = 0) (hQ : ∀ r, (∀ j, j < 2861 → r j = s.2.1 j) → Q (some (.int 1)) (z_ms (z_row I 42 r) (upd s.1 3 (nI 1), s.2.1, s.2.2)) (z_R0 kp sp wd) J F cn) :
    ∀ j i r, i + j = 2861 → (∀ a, a < i → r a = s.2.1 a) → z_WP (z_X0 L xs) z_P0 d m_Mod_image 15 [some (.ref 40), some (.int v), some (.int (nI i))] [] (z_ms (z_row I 42 r) s) (z_R0 kp sp wd) J F cn 0 0 Q := by
  obtain ⟨f, w, y⟩ := s
  intro j
  induction j with
  | zero =>
    intro i r hi hr
    obtain rfl : i = 2861 := by omega
    refine z_WP_gos [15] 1000 fun K C hK hC => ?_
    conv => whnf
    refine ⟨fun _ => ?_, fun g => absurd (Int32.le_refl (nI 2861)) g⟩
    conv => whnf
    refine ⟨Or.inr rfl, ?_⟩
    conv => whnf
    refine ⟨Or.inr rfl, ?_⟩
    refine z_Qi (hQ r hr) rfl ?_
    simp (disch := omega) only [z_lit, nI_add, pk_mul, z_pr1, z_pr2, nI_clamp, z_m3_40, z_m3_41, z_m3_44, z_m3_u40, z_m3_u41, z_m3_u44, z_m3_m3, pk_us, pk_un]
  | succ j ih =>
    intro i r hi hr
    refine z_WP_gos [15] 1000 fun K C hK hC => ?_
    conv => whnf
    refine ⟨fun g => absurd g (nI_ge (b := 2861) (by omega) (by omega)), fun _ => ?_⟩
    conv => whnf
    refine ⟨fun g => absurd g hv, fun _ => ?_⟩
    conv => whnf
    repeat ((first | refine And.intro (by (conv => arg 2; whnf); (try simp only [z_lit, nI_add, pk_mul, z_pr1, z_pr2]); exact z_in (by omega) (by decide)) ?_ | refine z_bt1 (by decide) ?_ | refine z_bf1 (by decide) ?_ | refine z_bt2 (by decide) ?_ | refine z_bf2 (by decide) ?_); conv => whnf)
    simp (disch := omega) only [z_lit, nI_add, pk_mul, z_pr1, z_pr2, nI_clamp, z_m3_40, z_m3_41, z_m3_44, z_m3_u40, z_m3_u41, z_m3_u44, z_m3_m3, pk_us, pk_un]
    rw [z_ms_u (by decide) (by decide) (by decide)]
    refine hK _ _ _ _ _ _ _ _ _ _ (ih (i + 1) _ (by omega) (fun a ha => ?_))
    by_cases z : a = i
    · rw [z, pk_us]
    · rw [pk_un z]; exact hr a (by omega)
theorem lp_image0 (hQ : ∀ w', (∀ j, j < 2861 → w' j = I 42 j) → Q (some (.int 1)) (z_ms I (upd s.1 3 (nI 1), w', s.2.2)) (z_R0 kp sp wd) J F cn) :
    ∀ j i w', i + j = 2861 → (∀ a, a < i → w' a = I 42 a) → z_WP (z_X0 L xs) z_P0 d m_Mod_image 15 [some (.ref 40), some (.int 0), some (.int (nI i))] [] (z_ms I (s.1, w', s.2.2)) (z_R0 kp sp wd) J F cn 0 0 Q := by
  obtain ⟨f, w, y⟩ := s
  intro j
  induction j with
  | zero =>
    intro i w' hi hr
    obtain rfl : i = 2861 := by omega
    refine z_WP_gos [15] 1000 fun K C hK hC => ?_
    conv => whnf
    refine ⟨fun _ => ?_, fun g => absurd (Int32.le_refl (nI 2861)) g⟩
    conv => whnf
    refine ⟨Or.inr rfl, ?_⟩
    conv => whnf
    refine ⟨Or.inr rfl, ?_⟩
    refine z_Qi (hQ w' hr) rfl ?_
    simp (disch := omega) only [z_lit, nI_add, pk_mul, z_pr1, z_pr2, nI_clamp, z_m3_40, z_m3_41, z_m3_44, z_m3_u40, z_m3_u41, z_m3_u44, z_m3_m3, pk_us, pk_un]
  | succ j ih =>
    intro i w' hi hr
    refine z_WP_gos [15] 1000 fun K C hK hC => ?_
    conv => whnf
    refine ⟨fun g => absurd g (nI_ge (b := 2861) (by omega) (by omega)), fun _ => ?_⟩
    conv => whnf
    repeat ((first | refine And.intro (by (conv => arg 2; whnf); (try simp only [z_lit, nI_add, pk_mul, z_pr1, z_pr2]); exact z_in (by omega) (by decide)) ?_ | refine z_bt1 (by decide) ?_ | refine z_bf1 (by decide) ?_ | refine z_bt2 (by decide) ?_ | refine z_bf2 (by decide) ?_); conv => whnf)
    simp (disch := omega) only [z_lit, nI_add, pk_mul, z_pr1, z_pr2, nI_clamp, z_m3_40, z_m3_41, z_m3_44, z_m3_u40, z_m3_u41, z_m3_u44, z_m3_m3, pk_us, pk_un]
    refine hK _ _ _ _ _ _ _ _ _ _ (ih (i + 1) (upd w' i (I 42 i)) (by omega) (fun a ha => ?_))
    by_cases z : a = i
    · rw [z, pk_us]
    · rw [pk_un z]; exact hr a (by omega)
theorem sp_image1 {v : Int32} (hv : ¬ v = 0) (hQ : ∀ r, (∀ j, j < 2861 → r j = s.2.1 j) → Q (some (.int 1)) (z_ms (z_row I 42 r) (upd s.1 3 (nI 1), s.2.1, s.2.2)) (z_R0 kp sp wd) J F cn) :
    z_M (z_X0 L xs) z_P0 d m_Mod_image [.ref 40, .int v] (z_ms I s) (z_R0 kp sp wd) J F cn Q := by
  have r := lp_image1 (L := L) (xs := xs) (d := d) hv hQ 2861 0 (I 42) (by omega) (fun a h => absurd h (Nat.not_lt_zero _))
  rw [z_row_idJ] at r
  refine z_WP_gos [15] 1000 fun K C hK hC => ?_
  conv => whnf
  refine ⟨fun _ => ?_, fun g => absurd g hv⟩
  conv => whnf
  refine hK _ _ _ _ _ _ _ _ _ _ (r)
theorem sp_image0 (h1 : ¬ s.1 3 = 0 → ∀ w', (∀ j, j < 2861 → w' j = I 42 j) → Q (some (.int 1)) (z_ms I (upd s.1 3 (nI 1), w', s.2.2)) (z_R0 kp sp wd) J F cn) (h0 : s.1 3 = 0 → Q (some (.int 0)) (z_ms I s) (z_R0 kp sp wd) J F cn) :
    z_M (z_X0 L xs) z_P0 d m_Mod_image [.ref 40, .int 0] (z_ms I s) (z_R0 kp sp wd) J F cn Q := by
  refine z_WP_gos [15] 1000 fun K C hK hC => ?_
  conv => whnf
  repeat ((first | refine And.intro (by (conv => arg 2; whnf); (try simp only [z_lit, nI_add, pk_mul, z_pr1, z_pr2]); exact z_in (by omega) (by decide)) ?_ | refine z_bt1 (by decide) ?_ | refine z_bf1 (by decide) ?_ | refine z_bt2 (by decide) ?_ | refine z_bf2 (by decide) ?_); conv => whnf)
  refine ⟨fun g => ?_, fun g => ?_⟩
  · conv => whnf
    refine hK _ _ _ _ _ _ _ _ _ _ (lp_image0 (h1 g) 2861 0 s.2.1 (by omega) (fun a h => absurd h (Nat.not_lt_zero _)))
  · conv => whnf
    exact ⟨Or.inl rfl, h0 g⟩
theorem lp_wouldA {v q : Int32} (hQ : ∀ r, (∀ j, j < 2861 → r j = s.2.1 j) → z_WP (z_X0 L xs) z_P0 d m_Mod_would 64 [some (.ref 40), some (.int v), some (.int q), some (.int (nI 2861)), none] [] (z_ms (z_row I 43 r) s) (z_R0 kp sp wd) J F cn 0 0 Q) :
    ∀ j i r, i + j = 2861 → (∀ a, a < i → r a = s.2.1 a) → z_WP (z_X0 L xs) z_P0 d m_Mod_would 37 [some (.ref 40), some (.int v), some (.int q), some (.int (nI i)), none] [] (z_ms (z_row I 43 r) s) (z_R0 kp sp wd) J F cn 0 0 Q := by
  obtain ⟨f, w, y⟩ := s
  intro j
  induction j with
  | zero =>
    intro i r hi hr
    obtain rfl : i = 2861 := by omega
    refine z_WP_gos [37, 64] 1000 fun K C hK hC => ?_
    conv => whnf
    refine ⟨fun _ => ?_, fun g => absurd (Int32.le_refl (nI 2861)) g⟩
    conv => whnf
    refine hK _ _ _ _ _ _ _ _ _ _ (hQ r hr)
  | succ j ih =>
    intro i r hi hr
    refine z_WP_gos [37, 64] 1000 fun K C hK hC => ?_
    conv => whnf
    refine ⟨fun g => absurd g (nI_ge (b := 2861) (by omega) (by omega)), fun _ => ?_⟩
    conv => whnf
    repeat ((first | refine And.intro (by (conv => arg 2; whnf); (try simp only [z_lit, nI_add, pk_mul, z_pr1, z_pr2]); exact z_in (by omega) (by decide)) ?_ | refine z_bt1 (by decide) ?_ | refine z_bf1 (by decide) ?_ | refine z_bt2 (by decide) ?_ | refine z_bf2 (by decide) ?_); conv => whnf)
    simp (disch := omega) only [z_lit, nI_add, pk_mul, z_pr1, z_pr2, nI_clamp, z_m3_40, z_m3_41, z_m3_44, z_m3_u40, z_m3_u41, z_m3_u44, z_m3_m3, pk_us, pk_un]
    rw [z_ms_u (by decide) (by decide) (by decide)]
    refine hK _ _ _ _ _ _ _ _ _ _ (ih (i + 1) _ (by omega) (fun a ha => ?_))
    by_cases z : a = i
    · rw [z, pk_us]
    · rw [pk_un z]; exact hr a (by omega)
theorem lp_wouldB {v q x : Int32} (hQ : ∀ w', (∀ j, j < 2861 → w' j = I 43 j) → Q (some (.int x)) (z_ms I (s.1, w', s.2.2)) (z_R0 kp sp wd) J F cn) :
    ∀ j i w', i + j = 2861 → (∀ a, a < i → w' a = I 43 a) → z_WP (z_X0 L xs) z_P0 d m_Mod_would 119 [some (.ref 40), some (.int v), some (.int q), some (.int x), some (.int (nI i))] [] (z_ms I (s.1, w', s.2.2)) (z_R0 kp sp wd) J F cn 0 0 Q := by
  obtain ⟨f, w, y⟩ := s
  intro j
  induction j with
  | zero =>
    intro i w' hi hr
    obtain rfl : i = 2861 := by omega
    refine z_WP_gos [119] 1000 fun K C hK hC => ?_
    conv => whnf
    refine ⟨fun _ => ?_, fun g => absurd (Int32.le_refl (nI 2861)) g⟩
    conv => whnf
    exact hQ w' hr
  | succ j ih =>
    intro i w' hi hr
    refine z_WP_gos [119] 1000 fun K C hK hC => ?_
    conv => whnf
    refine ⟨fun g => absurd g (nI_ge (b := 2861) (by omega) (by omega)), fun _ => ?_⟩
    conv => whnf
    repeat ((first | refine And.intro (by (conv => arg 2; whnf); (try simp only [z_lit, nI_add, pk_mul, z_pr1, z_pr2]); exact z_in (by omega) (by decide)) ?_ | refine z_bt1 (by decide) ?_ | refine z_bf1 (by decide) ?_ | refine z_bt2 (by decide) ?_ | refine z_bf2 (by decide) ?_); conv => whnf)
    simp (disch := omega) only [z_lit, nI_add, pk_mul, z_pr1, z_pr2, nI_clamp, z_m3_40, z_m3_41, z_m3_44, z_m3_u40, z_m3_u41, z_m3_u44, z_m3_m3, pk_us, pk_un]
    refine hK _ _ _ _ _ _ _ _ _ _ (ih (i + 1) (upd w' i (I 43 i)) (by omega) (fun a ha => ?_))
    by_cases z : a = i
    · rw [z, pk_us]
    · rw [pk_un z]; exact hr a (by omega)
theorem sp_would {B ln f c : Nat} {v q : Int32} (h : oF s B ln f c) (hB : B + 200000 < 2 ^ 29) (hln : ln + 2000 < 2 ^ 30) (hf : f ≤ 9999)
    (h1 : ∀ N q' r w', wq f v q N q' → (∀ j, j < 2861 → w' j = s.2.1 j) → Q (some (.int (q_would (m_fms N (m_zero s)) q'))) (z_ms (z_row I 43 r) ((m_fms N (m_zero s)).1, w', (m_fms N (m_zero s)).2.2)) (z_R0 kp sp wd) J F cn) (h0 : (∀ N q', ¬ wq f v q N q') → Q (some (.int (-1))) (z_ms I s) (z_R0 kp sp wd) J F cn) :
    z_M (z_X0 L xs) z_P0 (d + 12) m_Mod_would [.ref 40, .int v, .int q] (z_ms I s) (z_R0 kp sp wd) J F cn Q := by
  have h2 := h.2.2.2.1
  refine z_WP_gos [37] 1000 fun K C hK hC => ?_
  conv => whnf
  refine hC _ _ _ _ _ _ _ _ _ _ (fun _ _ _ _ _ _ q => q) (sp_Mod_isIn (fun a b => ?_) (fun a => ?_))
  conv => whnf
  rotate_left
  · repeat ((first | refine And.intro (by (conv => arg 2; whnf); (try simp only [z_lit, nI_add, pk_mul, z_pr1, z_pr2]); exact z_in (by omega) (by decide)) ?_ | refine z_bt1 (by decide) ?_ | refine z_bf1 (by decide) ?_ | refine z_bt2 (by decide) ?_ | refine z_bf2 (by decide) ?_); conv => whnf)
    refine h0 fun N q' z => a ?_
    rw [z.1]; exact ⟨nI_le (a := 1) z.2.1 (by have := z.2.2.1; omega), nI_le (b := 20) z.2.2.1 (by decide)⟩
  obtain ⟨N, hN, eN⟩ := isIn_nat (b := 20) (by decide) (Int32.le_trans (by decide) a) b
  subst eN
  have hN1 : 1 ≤ N := by
    apply Nat.le_of_not_lt; intro z
    exact nI_ge (a := N) (b := 1) z (by decide) a
  repeat ((first | refine And.intro (by (conv => arg 2; whnf); (try simp only [z_lit, nI_add, pk_mul, z_pr1, z_pr2]); exact z_in (by omega) (by decide)) ?_ | refine z_bt1 (by decide) ?_ | refine z_bf1 (by decide) ?_ | refine z_bt2 (by decide) ?_ | refine z_bf2 (by decide) ?_); conv => whnf)
  simp (disch := omega) only [z_lit, nI_add, pk_mul, z_pr1, z_pr2, nI_clamp, z_m3_40, z_m3_41, z_m3_44, z_m3_u40, z_m3_u41, z_m3_u44, z_m3_m3, pk_us, pk_un]
  rw [h2, nI_add]
  refine ⟨fun g => ?_, fun g => ?_⟩
  · conv => whnf
    refine h0 fun M q' z => ?_
    have : N = M := nI_inj9 (by omega) (by have := z.2.2.1; omega) z.1
    subst this
    exact nI_nlt (a := 9999) (b := f + N) z.2.2.2.1 (by decide) g
  have hle : f + N ≤ 9999 := by
    apply Nat.le_of_not_lt; intro z
    exact g (nI_lt (a := 9999) (b := f + N) z (by omega))
  conv => whnf
  refine hC _ _ _ _ _ _ _ _ _ _ (fun _ _ _ _ _ _ q => q) (sp_Mod_isIn (fun a2 b2 => ?_) (fun a2 => ?_))
  conv => whnf
  rotate_left
  · repeat ((first | refine And.intro (by (conv => arg 2; whnf); (try simp only [z_lit, nI_add, pk_mul, z_pr1, z_pr2]); exact z_in (by omega) (by decide)) ?_ | refine z_bt1 (by decide) ?_ | refine z_bf1 (by decide) ?_ | refine z_bt2 (by decide) ?_ | refine z_bf2 (by decide) ?_); conv => whnf)
    refine h0 fun N q' z => a2 ?_
    rw [z.2.2.2.2.1]; exact ⟨nI_pos' (by have := z.2.2.2.2.2; omega), nI_le (b := 3) z.2.2.2.2.2 (by decide)⟩
  obtain ⟨q', hq, eq⟩ := isIn_nat (b := 3) (by decide) a2 b2
  subst eq
  have r1 := fun r w' => h1 N q' r w' ⟨rfl, hN1, hN, hle, rfl, hq⟩
  have e43 : z_row I 43 (I 43) = I := z_row_idJ I 43
  have main : ∀ r, (∀ j, j < 2861 → r j = s.2.1 j) → z_WP (z_X0 L xs) z_P0 (d + 12) m_Mod_would 64 [some (.ref 40), some (.int (nI N)), some (.int (nI q')), some (.int (nI 2861)), none] [] (z_ms (z_row I 43 r) s) (z_R0 kp sp wd) J F cn 0 0 Q := by
    intro r hr
    have r2 := r1 r
    unfold q_would at r2
    refine z_WP_gos [115, 119] 1000 fun K C hK hC => ?_
    conv => whnf
    refine hC _ _ _ _ _ _ _ _ _ _ (fun _ _ _ _ _ _ q => q) (sp_framesOf (s := s) h hB hln hf (by omega) ?_)
    conv => whnf
    generalize m_fms N (m_zero s) = T at *
    obtain ⟨tf, tw, ty⟩ := T
    have fin : ∀ x, (∀ w', (∀ j, j < 2861 → w' j = s.2.1 j) → Q (some (.int x)) (z_ms (z_row I 43 r) (tf, w', ty)) (z_R0 kp sp wd) J F cn) → z_WP (z_X0 L xs) z_P0 (d + 12) m_Mod_would 115 [some (.ref 40), some (.int (nI N)), some (.int (nI q')), some (.int (nI 2861)), none] [.int x] (z_ms (z_row I 43 r) (tf, tw, ty)) (z_R0 kp sp wd) J F cn 0 0 Q := fun x hx => by
      have rB := lp_wouldB (L := L) (xs := xs) (d := d + 12) (kp := kp) (sp := sp) (wd := wd) (J := J) (F := F) (cn := cn) (Q := Q) (v := nI N) (q := nI q') (x := x) (I := z_row I 43 r) (s := (tf, tw, ty)) (fun w' hw => hx w' fun j hj => by rw [hw j hj, z_row_s]; exact hr j hj) 2861 0 tw (by omega) (fun a h => absurd h (Nat.not_lt_zero _))
      refine z_WP_gos [119] 1000 fun K C hK hC => ?_
      conv => whnf
      refine hK _ _ _ _ _ _ _ _ _ _ (rB)
    have c4 : q' = 0 ∨ q' = 1 ∨ q' = 2 ∨ q' = 3 := by omega
    rcases c4 with e | e | e | e <;> subst e
    · repeat ((first | refine And.intro (by (conv => arg 2; whnf); (try simp only [z_lit, nI_add, pk_mul, z_pr1, z_pr2]); exact z_in (by omega) (by decide)) ?_ | refine z_bt1 (by decide) ?_ | refine z_bf1 (by decide) ?_ | refine z_bt2 (by decide) ?_ | refine z_bf2 (by decide) ?_); conv => whnf)
      simp (disch := omega) only [z_lit, nI_add, pk_mul, z_pr1, z_pr2, nI_clamp, z_m3_40, z_m3_41, z_m3_44, z_m3_u40, z_m3_u41, z_m3_u44, z_m3_m3, pk_us, pk_un]
      refine hK _ _ _ _ _ _ _ _ _ _ (fin _ r2)
    · repeat ((first | refine And.intro (by (conv => arg 2; whnf); (try simp only [z_lit, nI_add, pk_mul, z_pr1, z_pr2]); exact z_in (by omega) (by decide)) ?_ | refine z_bt1 (by decide) ?_ | refine z_bf1 (by decide) ?_ | refine z_bt2 (by decide) ?_ | refine z_bf2 (by decide) ?_); conv => whnf)
      simp (disch := omega) only [z_lit, nI_add, pk_mul, z_pr1, z_pr2, nI_clamp, z_m3_40, z_m3_41, z_m3_44, z_m3_u40, z_m3_u41, z_m3_u44, z_m3_m3, pk_us, pk_un]
      refine hK _ _ _ _ _ _ _ _ _ _ (fin _ r2)
    · repeat ((first | refine And.intro (by (conv => arg 2; whnf); (try simp only [z_lit, nI_add, pk_mul, z_pr1, z_pr2]); exact z_in (by omega) (by decide)) ?_ | refine z_bt1 (by decide) ?_ | refine z_bf1 (by decide) ?_ | refine z_bt2 (by decide) ?_ | refine z_bf2 (by decide) ?_); conv => whnf)
      simp (disch := omega) only [z_lit, nI_add, pk_mul, z_pr1, z_pr2, nI_clamp, z_m3_40, z_m3_41, z_m3_44, z_m3_u40, z_m3_u41, z_m3_u44, z_m3_m3, pk_us, pk_un]
      refine hK _ _ _ _ _ _ _ _ _ _ (fin _ r2)
    · repeat ((first | refine And.intro (by (conv => arg 2; whnf); (try simp only [z_lit, nI_add, pk_mul, z_pr1, z_pr2]); exact z_in (by omega) (by decide)) ?_ | refine z_bt1 (by decide) ?_ | refine z_bf1 (by decide) ?_ | refine z_bt2 (by decide) ?_ | refine z_bf2 (by decide) ?_); conv => whnf)
      simp (disch := omega) only [z_lit, nI_add, pk_mul, z_pr1, z_pr2, nI_clamp, z_m3_40, z_m3_41, z_m3_44, z_m3_u40, z_m3_u41, z_m3_u44, z_m3_m3, pk_us, pk_un]
      refine hK _ _ _ _ _ _ _ _ _ _ (fin _ r2)
  have lA := lp_wouldA (L := L) (xs := xs) (d := d + 12) main 2861 0 (I 43) (by omega) (fun a h => absurd h (Nat.not_lt_zero _))
  rw [e43] at lA
  repeat ((first | refine And.intro (by (conv => arg 2; whnf); (try simp only [z_lit, nI_add, pk_mul, z_pr1, z_pr2]); exact z_in (by omega) (by decide)) ?_ | refine z_bt1 (by decide) ?_ | refine z_bf1 (by decide) ?_ | refine z_bt2 (by decide) ?_ | refine z_bf2 (by decide) ?_); conv => whnf)
  refine hK _ _ _ _ _ _ _ _ _ _ (lA)
end
