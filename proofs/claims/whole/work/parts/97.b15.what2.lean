/-! what a text says: what a line is to do, the class when nothing has failed -/
section
variable {L : Nat} {xs : Nat → Int32} {d : Nat} {kp sp wd : Value} {I I0 : z_I} {s : z_sg} {R : z_R} {J : z_J} {F : z_F} {cn : Nat} {Q : z_Q} {n k m st c p : Nat} {t : Nat → Nat} {g g0 : Nat → Int32}
theorem lp_zero {v : Int32} (hm : m < 24) (hQ : ∀ I', fr [34] I I' → (∀ b, b < 11 → I' 34 (m * 11 + b) = nI 0) → (∀ j, j < m * 11 → I' 34 j = I 34 j) → ∀ l, z_WP (z_X0 L xs) z_P0 (d + 9) m_Reader_readWhat 28 [some (.ref 32), some (.int (nI (m * 11))), some (.int v), l] [] I' (z_R0 kp sp (.retAddr 2)) J F cn 0 0 Q) :
    ∀ j a I', a + j = 11 → fr [34] I I' → (∀ b, b < a → I' 34 (m * 11 + b) = nI 0) → (∀ j, j < m * 11 → I' 34 j = I 34 j) → z_WP (z_X0 L xs) z_P0 (d + 9) m_Reader_readWhat 7 [some (.ref 32), some (.int (nI (m * 11))), some (.int v), some (.int (nI a))] [] I' (z_R0 kp sp (.retAddr 2)) J F cn 0 0 Q := by
  intro j
  induction j with
  | zero =>
    intro a I' ha f h1 h2
    obtain rfl : a = 11 := by omega
    refine z_WP_gos [7, 28] 1000 fun K C hK hC => ?_
    conv => whnf
    repeat ((first | refine And.intro (by (conv => arg 2; whnf); (try simp only [z_lit, nI_add, pk_mul, z_pr1, z_pr2]); exact z_in (by omega) (by decide)) ?_ | refine z_bt1 (by decide) ?_ | refine z_bf1 (by decide) ?_ | refine z_bt2 (by decide) ?_ | refine z_bf2 (by decide) ?_); conv => whnf)
    refine hK _ _ _ _ _ _ _ _ _ _ (hQ I' f h1 h2 _)
  | succ j ih =>
    intro a I' ha f h1 h2
    have ih' := fun I' => ih (a + 1) I' (by omega)
    refine z_WP_gos [7, 28] 1000 fun K C hK hC => ?_
    conv => whnf
    refine ⟨fun z => absurd z (nI_ge (b := 11) (by omega) (by omega)), fun _ => ?_⟩
    conv => whnf
    repeat ((first | refine And.intro (by (conv => arg 2; whnf); (try simp only [z_lit, nI_add, pk_mul, z_pr1, z_pr2]); exact z_in (by omega) (by decide)) ?_ | refine z_bt1 (by decide) ?_ | refine z_bf1 (by decide) ?_ | refine z_bt2 (by decide) ?_ | refine z_bf2 (by decide) ?_); conv => whnf)
    simp (disch := omega) only [z_lit, nI_add, pk_mul, z_pr1, z_pr2, nI_clamp, z_up_row, z_row_s, z_row_n, z_row_row, pk_us, pk_un]
    refine hK _ _ _ _ _ _ _ _ _ _ (ih' _ (fr_w f (by decide)) (fun b hb => ?_) (fun j hj => ?_))
    · rw [z_row_s]
      by_cases z : b = a
      · subst z; exact pk_us
      · rw [pk_un (by omega)]; exact h1 b (by omega)
    · rw [z_row_s, pk_un (by omega)]; exact h2 j hj
theorem cs_readWhat (hT : rT I t n) (hn : n ≤ 500) (hm : m < 24) (hk : k ≤ 5) (hM : tkM t n st = 3 + k) (h : lvC t n kO2 vO2 (I 32) st)
    (hQ : okQ (pmsg t n m k (upd (ini g m 14) (14 * m + 0) (nI k)) (nx t n st)) (fun g' st' => ∀ I', cln I I' m k g' → lvC t n kO2 vO2 (I' 32) st' → Q none I' (z_R0 kp sp (.retAddr 2)) J F cn) (fun c p => ∀ I', fr [32, 34] I I' → ddC (I' 32) c p → Q none I' (z_R0 kp sp (.retAddr 2)) J F cn)) :
    z_M (z_X0 L xs) z_P0 (d + 9) m_Reader_readWhat [.ref 32, .int (nI (m * 11))] I (z_R0 kp sp (.retAddr 2)) J F cn Q := by
  have e7 : I 32 7 = nI k := by
    have z : kO2 (tkM t n st) = 1 := by
      rw [hM]
      have : ∀ k, k ≤ 5 → kO2 (3 + k) = 1 := by decide
      exact this k hk
    rw [h.2.2.2.2.2.2.2.1 z, hM]
    show nI (3 + k - 3) = nI k
    rw [Nat.add_sub_cancel_left]
  have start := lp_zero (L := L) (xs := xs) (d := d) (kp := kp) (sp := sp) (I := I) (J := J) (F := F) (cn := cn) (Q := Q) (v := nI k) hm (fun I1 f1 z1 o1 l => ?_) 11 0 I rfl fr_r (fun b hb => by omega) (fun _ _ => rfl)
  · refine z_WP_gos [7] 1000 fun K C hK hC => ?_
    conv => whnf
    simp (disch := omega) only [z_lit, nI_add, pk_mul, z_pr1, z_pr2, nI_clamp, z_up_row, z_row_s, z_row_n, z_row_row, pk_us, pk_un]
    rw [e7]
    refine hK _ _ _ _ _ _ _ _ _ _ (start)
  have hT1 : rT (z_row I1 34 (upd (I1 34) (m * 11 + 0) (nI k))) t n := rT_k hT (by rw [z_row_n _ _ (by decide)]; exact f1 33 (by decide))
  have h1 : lvC t n kO2 vO2 ((z_row I1 34 (upd (I1 34) (m * 11 + 0) (nI k))) 32) st := by
    rw [z_row_n _ _ (by decide), f1 32 (by decide)]; exact h
  have c1 : cln I (z_row I1 34 (upd (I1 34) (m * 11 + 0) (nI k))) m k (upd (ini g m 14) (14 * m + 0) (nI k)) := by
    refine ⟨fr_w (fr_m f1 (by decide)) (by decide), fun j hj => by rw [z_row_s, pk_un (by omega)]; exact o1 j hj, fun a ha => ?_⟩
    rw [z_row_s]
    by_cases z : a = 0
    · subst z; rw [pk_us]; exact pk_us.symm
    · rw [pk_un (by omega), z1 a (by omega)]
      have hp := pm_lt k hk a ha
      have hne : pm k a ≠ 0 := fun y => z (pm_inj k hk a ha 0 (by omega) y)
      rw [pk_un (by omega), fi (by omega), if_neg (by omega)]
  refine z_WP_gos [41] 1000 fun K C hK hC => ?_
  conv => whnf
  repeat ((first | refine And.intro (by (conv => arg 2; whnf); (try simp only [z_lit, nI_add, pk_mul, z_pr1, z_pr2]); exact z_in (by omega) (by decide)) ?_ | refine z_bt1 (by decide) ?_ | refine z_bf1 (by decide) ?_ | refine z_bt2 (by decide) ?_ | refine z_bf2 (by decide) ?_); conv => whnf)
  simp (disch := omega) only [z_lit, nI_add, pk_mul, z_pr1, z_pr2, nI_clamp, z_up_row, z_row_s, z_row_n, z_row_row, pk_us, pk_un]
  refine hC _ _ _ _ _ _ _ _ _ _ (fun _ _ _ _ _ _ q => q) (cs_next2 hT1 hn h1 (fun I2 f2 h => ?_))
  conv => whnf
  have cl := cln_r c1 f2
  clear h1 hT1 c1
  refine hK _ _ _ _ _ _ _ _ _ _ (?_)
  unfold pmsg at hQ
  generalize nx t n st = st1 at hQ h
  generalize upd (ini g m 14) (14 * m + 0) (nI k) = g1 at hQ cl
  have hk' : k = 0 ∨ k = 1 ∨ k = 2 ∨ k = 3 ∨ k = 4 ∨ k = 5 := by omega
  have rt : ∀ {I' : z_I}, fr [32, 34] I I' → rT I' t n := fun f => rT_k hT (f 33 (by decide))
  rcases hk' with rfl | rfl | rfl | rfl | rfl | rfl
  · rw [if_pos (by decide)] at hQ
    refine z_WP_gos [71] 1000 fun K C hK hC => ?_
    conv => whnf
    repeat ((first | refine And.intro (by (conv => arg 2; whnf); (try simp only [z_lit, nI_add, pk_mul, z_pr1, z_pr2]); exact z_in (by omega) (by decide)) ?_ | refine z_bt1 (by decide) ?_ | refine z_bf1 (by decide) ?_ | refine z_bt2 (by decide) ?_ | refine z_bf2 (by decide) ?_); conv => whnf)
    refine hC _ _ _ _ _ _ _ _ _ _ (fun _ _ _ _ _ _ q => q) (cs_number2 (m := m) (k := 1) (lo := 0) (hi := 7) (rt cl.1) hn (by decide) (by decide) h (okQ_m (okQ_b hQ) (fun g2 st2 hQ v I3 e1 _ v2 ev em f3 h => ?_) (fun c p hQ I3 f3 dd => ?_)))
    conv => whnf
    rotate_left
    · repeat ((first | refine And.intro (by (conv => arg 2; whnf); (try simp only [z_lit, nI_add, pk_mul, z_pr1, z_pr2]); exact z_in (by omega) (by decide)) ?_ | refine z_bt1 (by decide) ?_ | refine z_bf1 (by decide) ?_ | refine z_bt2 (by decide) ?_ | refine z_bf2 (by decide) ?_); conv => whnf)
      simp (disch := omega) only [z_lit, nI_add, pk_mul, z_pr1, z_pr2, nI_clamp, z_up_row, z_row_s, z_row_n, z_row_row, pk_us, pk_un]
      refine hK _ _ _ _ _ _ _ _ _ _ (dW71 (k := 0) (by decide) hm hQ (fr_w (cld_r cl.1 f3) (by decide)) (by rw [z_row_n _ _ (by decide)]; exact dd))
    subst e1
    have cl := cln_w (a := 1) (v := nI v) (cln_r cl f3) (by decide) (by decide)
    have h : lvC t n kO2 vO2 ((z_row I3 34 (upd (I3 34) (m * 11 + 1) (nI v))) 32) st2 := by rw [z_row_n _ _ (by decide)]; exact h
    repeat ((first | refine And.intro (by (conv => arg 2; whnf); (try simp only [z_lit, nI_add, pk_mul, z_pr1, z_pr2]); exact z_in (by omega) (by decide)) ?_ | refine z_bt1 (by decide) ?_ | refine z_bf1 (by decide) ?_ | refine z_bt2 (by decide) ?_ | refine z_bf2 (by decide) ?_); conv => whnf)
    simp (disch := omega) only [z_lit, nI_add, pk_mul, z_pr1, z_pr2, nI_clamp, z_up_row, z_row_s, z_row_n, z_row_row, pk_us, pk_un]
    refine hK _ _ _ _ _ _ _ _ _ _ (?_)
    refine z_WP_gos [91] 1000 fun K C hK hC => ?_
    conv => whnf
    repeat ((first | refine And.intro (by (conv => arg 2; whnf); (try simp only [z_lit, nI_add, pk_mul, z_pr1, z_pr2]); exact z_in (by omega) (by decide)) ?_ | refine z_bt1 (by decide) ?_ | refine z_bf1 (by decide) ?_ | refine z_bt2 (by decide) ?_ | refine z_bf2 (by decide) ?_); conv => whnf)
    refine hC _ _ _ _ _ _ _ _ _ _ (fun _ _ _ _ _ _ q => q) (cs_number2 (m := m) (k := 2) (lo := 1) (hi := 6) (rt cl.1) hn (by decide) (by decide) h (okQ_m (okQ_b hQ) (fun g2 st2 hQ v I3 e1 _ v2 ev em f3 h => ?_) (fun c p hQ I3 f3 dd => ?_)))
    conv => whnf
    rotate_left
    · repeat ((first | refine And.intro (by (conv => arg 2; whnf); (try simp only [z_lit, nI_add, pk_mul, z_pr1, z_pr2]); exact z_in (by omega) (by decide)) ?_ | refine z_bt1 (by decide) ?_ | refine z_bf1 (by decide) ?_ | refine z_bt2 (by decide) ?_ | refine z_bf2 (by decide) ?_); conv => whnf)
      simp (disch := omega) only [z_lit, nI_add, pk_mul, z_pr1, z_pr2, nI_clamp, z_up_row, z_row_s, z_row_n, z_row_row, pk_us, pk_un]
      refine hK _ _ _ _ _ _ _ _ _ _ (dW91 (k := 0) (by decide) hm hQ (fr_w (cld_r cl.1 f3) (by decide)) (by rw [z_row_n _ _ (by decide)]; exact dd))
    subst e1
    have cl := cln_w (a := 2) (v := nI v) (cln_r cl f3) (by decide) (by decide)
    have h : lvC t n kO2 vO2 ((z_row I3 34 (upd (I3 34) (m * 11 + 2) (nI v))) 32) st2 := by rw [z_row_n _ _ (by decide)]; exact h
    repeat ((first | refine And.intro (by (conv => arg 2; whnf); (try simp only [z_lit, nI_add, pk_mul, z_pr1, z_pr2]); exact z_in (by omega) (by decide)) ?_ | refine z_bt1 (by decide) ?_ | refine z_bf1 (by decide) ?_ | refine z_bt2 (by decide) ?_ | refine z_bf2 (by decide) ?_); conv => whnf)
    simp (disch := omega) only [z_lit, nI_add, pk_mul, z_pr1, z_pr2, nI_clamp, z_up_row, z_row_s, z_row_n, z_row_row, pk_us, pk_un]
    refine hK _ _ _ _ _ _ _ _ _ _ (?_)
    refine z_WP_gos [] 1000 fun K C hK hC => ?_
    conv => whnf
    repeat ((first | refine And.intro (by (conv => arg 2; whnf); (try simp only [z_lit, nI_add, pk_mul, z_pr1, z_pr2]); exact z_in (by omega) (by decide)) ?_ | refine z_bt1 (by decide) ?_ | refine z_bf1 (by decide) ?_ | refine z_bt2 (by decide) ?_ | refine z_bf2 (by decide) ?_); conv => whnf)
    refine hC _ _ _ _ _ _ _ _ _ _ (fun _ _ _ _ _ _ q => q) (cs_number2 (m := m) (k := 3) (lo := 1) (hi := 8) (rt cl.1) hn (by decide) (by decide) h (okQ_m hQ (fun g2 st2 hQ v I3 e1 _ v2 ev em f3 h => ?_) (fun c p hQ I3 f3 dd => ?_)))
    conv => whnf
    rotate_left
    · repeat ((first | refine And.intro (by (conv => arg 2; whnf); (try simp only [z_lit, nI_add, pk_mul, z_pr1, z_pr2]); exact z_in (by omega) (by decide)) ?_ | refine z_bt1 (by decide) ?_ | refine z_bf1 (by decide) ?_ | refine z_bt2 (by decide) ?_ | refine z_bf2 (by decide) ?_); conv => whnf)
      simp (disch := omega) only [z_lit, nI_add, pk_mul, z_pr1, z_pr2, nI_clamp, z_up_row, z_row_s, z_row_n, z_row_row, pk_us, pk_un]
      exact hQ _ (fr_w (cld_r cl.1 f3) (by decide)) (by rw [z_row_n _ _ (by decide)]; exact dd)
    subst e1
    have cl := cln_w (a := 5) (v := nI v) (cln_r cl f3) (by decide) (by decide)
    have h : lvC t n kO2 vO2 ((z_row I3 34 (upd (I3 34) (m * 11 + 5) (nI v))) 32) st2 := by rw [z_row_n _ _ (by decide)]; exact h
    repeat ((first | refine And.intro (by (conv => arg 2; whnf); (try simp only [z_lit, nI_add, pk_mul, z_pr1, z_pr2]); exact z_in (by omega) (by decide)) ?_ | refine z_bt1 (by decide) ?_ | refine z_bf1 (by decide) ?_ | refine z_bt2 (by decide) ?_ | refine z_bf2 (by decide) ?_); conv => whnf)
    simp (disch := omega) only [z_lit, nI_add, pk_mul, z_pr1, z_pr2, nI_clamp, z_up_row, z_row_s, z_row_n, z_row_row, pk_us, pk_un]
    exact hQ _ cl h
  · rw [if_pos (by decide)] at hQ
    refine z_WP_gos [71] 1000 fun K C hK hC => ?_
    conv => whnf
    repeat ((first | refine And.intro (by (conv => arg 2; whnf); (try simp only [z_lit, nI_add, pk_mul, z_pr1, z_pr2]); exact z_in (by omega) (by decide)) ?_ | refine z_bt1 (by decide) ?_ | refine z_bf1 (by decide) ?_ | refine z_bt2 (by decide) ?_ | refine z_bf2 (by decide) ?_); conv => whnf)
    refine hC _ _ _ _ _ _ _ _ _ _ (fun _ _ _ _ _ _ q => q) (cs_number2 (m := m) (k := 1) (lo := 0) (hi := 7) (rt cl.1) hn (by decide) (by decide) h (okQ_m (okQ_b hQ) (fun g2 st2 hQ v I3 e1 _ v2 ev em f3 h => ?_) (fun c p hQ I3 f3 dd => ?_)))
    conv => whnf
    rotate_left
    · repeat ((first | refine And.intro (by (conv => arg 2; whnf); (try simp only [z_lit, nI_add, pk_mul, z_pr1, z_pr2]); exact z_in (by omega) (by decide)) ?_ | refine z_bt1 (by decide) ?_ | refine z_bf1 (by decide) ?_ | refine z_bt2 (by decide) ?_ | refine z_bf2 (by decide) ?_); conv => whnf)
      simp (disch := omega) only [z_lit, nI_add, pk_mul, z_pr1, z_pr2, nI_clamp, z_up_row, z_row_s, z_row_n, z_row_row, pk_us, pk_un]
      refine hK _ _ _ _ _ _ _ _ _ _ (dW71 (k := 1) (by decide) hm hQ (fr_w (cld_r cl.1 f3) (by decide)) (by rw [z_row_n _ _ (by decide)]; exact dd))
    subst e1
    have cl := cln_w (a := 1) (v := nI v) (cln_r cl f3) (by decide) (by decide)
    have h : lvC t n kO2 vO2 ((z_row I3 34 (upd (I3 34) (m * 11 + 1) (nI v))) 32) st2 := by rw [z_row_n _ _ (by decide)]; exact h
    repeat ((first | refine And.intro (by (conv => arg 2; whnf); (try simp only [z_lit, nI_add, pk_mul, z_pr1, z_pr2]); exact z_in (by omega) (by decide)) ?_ | refine z_bt1 (by decide) ?_ | refine z_bf1 (by decide) ?_ | refine z_bt2 (by decide) ?_ | refine z_bf2 (by decide) ?_); conv => whnf)
    simp (disch := omega) only [z_lit, nI_add, pk_mul, z_pr1, z_pr2, nI_clamp, z_up_row, z_row_s, z_row_n, z_row_row, pk_us, pk_un]
    refine hK _ _ _ _ _ _ _ _ _ _ (?_)
    refine z_WP_gos [91] 1000 fun K C hK hC => ?_
    conv => whnf
    repeat ((first | refine And.intro (by (conv => arg 2; whnf); (try simp only [z_lit, nI_add, pk_mul, z_pr1, z_pr2]); exact z_in (by omega) (by decide)) ?_ | refine z_bt1 (by decide) ?_ | refine z_bf1 (by decide) ?_ | refine z_bt2 (by decide) ?_ | refine z_bf2 (by decide) ?_); conv => whnf)
    refine hC _ _ _ _ _ _ _ _ _ _ (fun _ _ _ _ _ _ q => q) (cs_number2 (m := m) (k := 2) (lo := 1) (hi := 6) (rt cl.1) hn (by decide) (by decide) h (okQ_m (okQ_b hQ) (fun g2 st2 hQ v I3 e1 _ v2 ev em f3 h => ?_) (fun c p hQ I3 f3 dd => ?_)))
    conv => whnf
    rotate_left
    · repeat ((first | refine And.intro (by (conv => arg 2; whnf); (try simp only [z_lit, nI_add, pk_mul, z_pr1, z_pr2]); exact z_in (by omega) (by decide)) ?_ | refine z_bt1 (by decide) ?_ | refine z_bf1 (by decide) ?_ | refine z_bt2 (by decide) ?_ | refine z_bf2 (by decide) ?_); conv => whnf)
      simp (disch := omega) only [z_lit, nI_add, pk_mul, z_pr1, z_pr2, nI_clamp, z_up_row, z_row_s, z_row_n, z_row_row, pk_us, pk_un]
      refine hK _ _ _ _ _ _ _ _ _ _ (dW91 (k := 1) (by decide) hm hQ (fr_w (cld_r cl.1 f3) (by decide)) (by rw [z_row_n _ _ (by decide)]; exact dd))
    subst e1
    have cl := cln_w (a := 2) (v := nI v) (cln_r cl f3) (by decide) (by decide)
    have h : lvC t n kO2 vO2 ((z_row I3 34 (upd (I3 34) (m * 11 + 2) (nI v))) 32) st2 := by rw [z_row_n _ _ (by decide)]; exact h
    repeat ((first | refine And.intro (by (conv => arg 2; whnf); (try simp only [z_lit, nI_add, pk_mul, z_pr1, z_pr2]); exact z_in (by omega) (by decide)) ?_ | refine z_bt1 (by decide) ?_ | refine z_bf1 (by decide) ?_ | refine z_bt2 (by decide) ?_ | refine z_bf2 (by decide) ?_); conv => whnf)
    simp (disch := omega) only [z_lit, nI_add, pk_mul, z_pr1, z_pr2, nI_clamp, z_up_row, z_row_s, z_row_n, z_row_row, pk_us, pk_un]
    refine hK _ _ _ _ _ _ _ _ _ _ (?_)
    refine z_WP_gos [] 1000 fun K C hK hC => ?_
    conv => whnf
    repeat ((first | refine And.intro (by (conv => arg 2; whnf); (try simp only [z_lit, nI_add, pk_mul, z_pr1, z_pr2]); exact z_in (by omega) (by decide)) ?_ | refine z_bt1 (by decide) ?_ | refine z_bf1 (by decide) ?_ | refine z_bt2 (by decide) ?_ | refine z_bf2 (by decide) ?_); conv => whnf)
    refine hC _ _ _ _ _ _ _ _ _ _ (fun _ _ _ _ _ _ q => q) (cs_number2 (m := m) (k := 3) (lo := 1) (hi := 8) (rt cl.1) hn (by decide) (by decide) h (okQ_m hQ (fun g2 st2 hQ v I3 e1 _ v2 ev em f3 h => ?_) (fun c p hQ I3 f3 dd => ?_)))
    conv => whnf
    rotate_left
    · repeat ((first | refine And.intro (by (conv => arg 2; whnf); (try simp only [z_lit, nI_add, pk_mul, z_pr1, z_pr2]); exact z_in (by omega) (by decide)) ?_ | refine z_bt1 (by decide) ?_ | refine z_bf1 (by decide) ?_ | refine z_bt2 (by decide) ?_ | refine z_bf2 (by decide) ?_); conv => whnf)
      simp (disch := omega) only [z_lit, nI_add, pk_mul, z_pr1, z_pr2, nI_clamp, z_up_row, z_row_s, z_row_n, z_row_row, pk_us, pk_un]
      exact hQ _ (fr_w (cld_r cl.1 f3) (by decide)) (by rw [z_row_n _ _ (by decide)]; exact dd)
    subst e1
    have cl := cln_w (a := 5) (v := nI v) (cln_r cl f3) (by decide) (by decide)
    have h : lvC t n kO2 vO2 ((z_row I3 34 (upd (I3 34) (m * 11 + 5) (nI v))) 32) st2 := by rw [z_row_n _ _ (by decide)]; exact h
    repeat ((first | refine And.intro (by (conv => arg 2; whnf); (try simp only [z_lit, nI_add, pk_mul, z_pr1, z_pr2]); exact z_in (by omega) (by decide)) ?_ | refine z_bt1 (by decide) ?_ | refine z_bf1 (by decide) ?_ | refine z_bt2 (by decide) ?_ | refine z_bf2 (by decide) ?_); conv => whnf)
    simp (disch := omega) only [z_lit, nI_add, pk_mul, z_pr1, z_pr2, nI_clamp, z_up_row, z_row_s, z_row_n, z_row_row, pk_us, pk_un]
    exact hQ _ cl h
  · rw [if_neg (by decide), if_pos rfl] at hQ
    refine z_WP_gos [71] 1000 fun K C hK hC => ?_
    conv => whnf
    repeat ((first | refine And.intro (by (conv => arg 2; whnf); (try simp only [z_lit, nI_add, pk_mul, z_pr1, z_pr2]); exact z_in (by omega) (by decide)) ?_ | refine z_bt1 (by decide) ?_ | refine z_bf1 (by decide) ?_ | refine z_bt2 (by decide) ?_ | refine z_bf2 (by decide) ?_); conv => whnf)
    refine hC _ _ _ _ _ _ _ _ _ _ (fun _ _ _ _ _ _ q => q) (cs_number2 (m := m) (k := 1) (lo := 0) (hi := 7) (rt cl.1) hn (by decide) (by decide) h (okQ_m (okQ_b hQ) (fun g2 st2 hQ v I3 e1 _ v2 ev em f3 h => ?_) (fun c p hQ I3 f3 dd => ?_)))
    conv => whnf
    rotate_left
    · repeat ((first | refine And.intro (by (conv => arg 2; whnf); (try simp only [z_lit, nI_add, pk_mul, z_pr1, z_pr2]); exact z_in (by omega) (by decide)) ?_ | refine z_bt1 (by decide) ?_ | refine z_bf1 (by decide) ?_ | refine z_bt2 (by decide) ?_ | refine z_bf2 (by decide) ?_); conv => whnf)
      simp (disch := omega) only [z_lit, nI_add, pk_mul, z_pr1, z_pr2, nI_clamp, z_up_row, z_row_s, z_row_n, z_row_row, pk_us, pk_un]
      refine hK _ _ _ _ _ _ _ _ _ _ (dW71 (k := 2) (by decide) hm hQ (fr_w (cld_r cl.1 f3) (by decide)) (by rw [z_row_n _ _ (by decide)]; exact dd))
    subst e1
    have cl := cln_w (a := 1) (v := nI v) (cln_r cl f3) (by decide) (by decide)
    have h : lvC t n kO2 vO2 ((z_row I3 34 (upd (I3 34) (m * 11 + 1) (nI v))) 32) st2 := by rw [z_row_n _ _ (by decide)]; exact h
    repeat ((first | refine And.intro (by (conv => arg 2; whnf); (try simp only [z_lit, nI_add, pk_mul, z_pr1, z_pr2]); exact z_in (by omega) (by decide)) ?_ | refine z_bt1 (by decide) ?_ | refine z_bf1 (by decide) ?_ | refine z_bt2 (by decide) ?_ | refine z_bf2 (by decide) ?_); conv => whnf)
    simp (disch := omega) only [z_lit, nI_add, pk_mul, z_pr1, z_pr2, nI_clamp, z_up_row, z_row_s, z_row_n, z_row_row, pk_us, pk_un]
    have hu := v2
    obtain ⟨u, eu⟩ : ∃ u, u = v := ⟨v, rfl⟩
    rw [← eu] at hu hQ cl h ⊢
    refine hK _ _ _ _ _ _ _ _ _ _ (?_)
    refine z_WP_gos [91] 1000 fun K C hK hC => ?_
    conv => whnf
    repeat ((first | refine And.intro (by (conv => arg 2; whnf); (try simp only [z_lit, nI_add, pk_mul, z_pr1, z_pr2]); exact z_in (by omega) (by decide)) ?_ | refine z_bt1 (by decide) ?_ | refine z_bf1 (by decide) ?_ | refine z_bt2 (by decide) ?_ | refine z_bf2 (by decide) ?_); conv => whnf)
    refine hC _ _ _ _ _ _ _ _ _ _ (fun _ _ _ _ _ _ q => q) (cs_number2 (m := m) (k := 2) (lo := 1) (hi := 6) (rt cl.1) hn (by decide) (by decide) h (okQ_m (okQ_b hQ) (fun g2 st2 hQ v I3 e1 _ v2 ev em f3 h => ?_) (fun c p hQ I3 f3 dd => ?_)))
    conv => whnf
    rotate_left
    · repeat ((first | refine And.intro (by (conv => arg 2; whnf); (try simp only [z_lit, nI_add, pk_mul, z_pr1, z_pr2]); exact z_in (by omega) (by decide)) ?_ | refine z_bt1 (by decide) ?_ | refine z_bf1 (by decide) ?_ | refine z_bt2 (by decide) ?_ | refine z_bf2 (by decide) ?_); conv => whnf)
      simp (disch := omega) only [z_lit, nI_add, pk_mul, z_pr1, z_pr2, nI_clamp, z_up_row, z_row_s, z_row_n, z_row_row, pk_us, pk_un]
      refine hK _ _ _ _ _ _ _ _ _ _ (dW91 (k := 2) (by decide) hm hQ (fr_w (cld_r cl.1 f3) (by decide)) (by rw [z_row_n _ _ (by decide)]; exact dd))
    subst e1
    have cl := cln_w (a := 2) (v := nI v) (cln_r cl f3) (by decide) (by decide)
    have h : lvC t n kO2 vO2 ((z_row I3 34 (upd (I3 34) (m * 11 + 2) (nI v))) 32) st2 := by rw [z_row_n _ _ (by decide)]; exact h
    repeat ((first | refine And.intro (by (conv => arg 2; whnf); (try simp only [z_lit, nI_add, pk_mul, z_pr1, z_pr2]); exact z_in (by omega) (by decide)) ?_ | refine z_bt1 (by decide) ?_ | refine z_bf1 (by decide) ?_ | refine z_bt2 (by decide) ?_ | refine z_bf2 (by decide) ?_); conv => whnf)
    simp (disch := omega) only [z_lit, nI_add, pk_mul, z_pr1, z_pr2, nI_clamp, z_up_row, z_row_s, z_row_n, z_row_row, pk_us, pk_un]
    have eg : (upd (upd g1 (14 * m + 1) (nI u)) (14 * m + 2) (nI v)) (14 * m + 1) = nI u := by rw [pk_un (by omega), pk_us]
    have er := (cl.2.2 1 (by decide)).trans eg
    rw [eg] at hQ
    have hQ2 : okQ (if tkM t n st2 = 2 ∧ nI (tkV t n st2) = nI u then p_bad 2 st2 else pnum t n m 4 0 7 (upd (upd g1 (14 * m + 1) (nI u)) (14 * m + 2) (nI v)) st2) (fun g3 st3 => okQ (pbind (pnum t n m 5 1 6 g3 st3) fun fr st => pnum t n m 3 1 8 fr st) (fun g' st' => ∀ I', cln I I' m 2 g' → lvC t n kO2 vO2 (I' 32) st' → Q none I' (z_R0 kp sp (.retAddr 2)) J F cn) (fun c p => ∀ I', fr [32, 34] I I' → ddC (I' 32) c p → Q none I' (z_R0 kp sp (.retAddr 2)) J F cn)) (fun c p => ∀ I', fr [32, 34] I I' → ddC (I' 32) c p → Q none I' (z_R0 kp sp (.retAddr 2)) J F cn) := by
      by_cases z : tkM t n st2 = 2 ∧ nI (tkV t n st2) = nI u
      · rw [if_pos z] at hQ ⊢; exact hQ
      · rw [if_neg z] at hQ ⊢; exact okQ_b hQ
    refine hK _ _ _ _ _ _ _ _ _ _ (?_)
    refine z_WP_gos [131] 1000 fun K C hK hC => ?_
    conv => whnf
    repeat ((first | refine And.intro (by (conv => arg 2; whnf); (try simp only [z_lit, nI_add, pk_mul, z_pr1, z_pr2]); exact z_in (by omega) (by decide)) ?_ | refine z_bt1 (by decide) ?_ | refine z_bf1 (by decide) ?_ | refine z_bt2 (by decide) ?_ | refine z_bf2 (by decide) ?_); conv => whnf)
    simp (disch := omega) only [z_lit, nI_add, pk_mul, z_pr1, z_pr2, nI_clamp, z_up_row, z_row_s, z_row_n, z_row_row, pk_us, pk_un]
    rw [z_row_s, pk_un (by omega)] at er
    rw [er]
    refine hC _ _ _ _ _ _ _ _ _ _ (fun _ _ _ _ _ _ q => q) (cs_unitBut (m := m) (k := 4) (rt cl.1) hn hu h (okQ_m hQ2 (fun g3 st3 hQ v3 I4 e1 v4 f4 h => ?_) (fun c p hQ v3 I4 f4 dd => ?_)))
    conv => whnf
    rotate_left
    · repeat ((first | refine And.intro (by (conv => arg 2; whnf); (try simp only [z_lit, nI_add, pk_mul, z_pr1, z_pr2]); exact z_in (by omega) (by decide)) ?_ | refine z_bt1 (by decide) ?_ | refine z_bf1 (by decide) ?_ | refine z_bt2 (by decide) ?_ | refine z_bf2 (by decide) ?_); conv => whnf)
      simp (disch := omega) only [z_lit, nI_add, pk_mul, z_pr1, z_pr2, nI_clamp, z_up_row, z_row_s, z_row_n, z_row_row, pk_us, pk_un]
      have dd' : ddC ((z_row I4 34 (upd (I4 34) (m * 11 + 3) v3)) 32) c p := by rw [z_row_n _ _ (by decide)]; exact dd
      refine hC _ _ _ _ _ _ _ _ _ _ (fun _ _ _ _ _ _ q => q) (cs_numberD dd' ?_)
      conv => whnf
      repeat ((first | refine And.intro (by (conv => arg 2; whnf); (try simp only [z_lit, nI_add, pk_mul, z_pr1, z_pr2]); exact z_in (by omega) (by decide)) ?_ | refine z_bt1 (by decide) ?_ | refine z_bf1 (by decide) ?_ | refine z_bt2 (by decide) ?_ | refine z_bf2 (by decide) ?_); conv => whnf)
      simp (disch := omega) only [z_lit, nI_add, pk_mul, z_pr1, z_pr2, nI_clamp, z_up_row, z_row_s, z_row_n, z_row_row, pk_us, pk_un]
      refine hK _ _ _ _ _ _ _ _ _ _ (dW131 (k := 2) (by decide) hm hQ (fr_w (cld_r cl.1 f4) (by decide)) (by rw [z_row_n _ _ (by decide)]; exact dd))
    subst e1
    have cl := cln_w (a := 3) (v := nI v3) (cln_r cl f4) (by decide) (by decide)
    have h : lvC t n kO2 vO2 ((z_row I4 34 (upd (I4 34) (m * 11 + 3) (nI v3))) 32) st3 := by rw [z_row_n _ _ (by decide)]; exact h
    repeat ((first | refine And.intro (by (conv => arg 2; whnf); (try simp only [z_lit, nI_add, pk_mul, z_pr1, z_pr2]); exact z_in (by omega) (by decide)) ?_ | refine z_bt1 (by decide) ?_ | refine z_bf1 (by decide) ?_ | refine z_bt2 (by decide) ?_ | refine z_bf2 (by decide) ?_); conv => whnf)
    simp (disch := omega) only [z_lit, nI_add, pk_mul, z_pr1, z_pr2, nI_clamp, z_up_row, z_row_s, z_row_n, z_row_row, pk_us, pk_un]
    refine hC _ _ _ _ _ _ _ _ _ _ (fun _ _ _ _ _ _ q => q) (cs_number2 (m := m) (k := 5) (lo := 1) (hi := 6) (rt cl.1) hn (by decide) (by decide) h (okQ_m (okQ_b hQ) (fun g2 st2 hQ v I3 e1 _ v2 ev em f3 h => ?_) (fun c p hQ I3 f3 dd => ?_)))
    conv => whnf
    rotate_left
    · repeat ((first | refine And.intro (by (conv => arg 2; whnf); (try simp only [z_lit, nI_add, pk_mul, z_pr1, z_pr2]); exact z_in (by omega) (by decide)) ?_ | refine z_bt1 (by decide) ?_ | refine z_bf1 (by decide) ?_ | refine z_bt2 (by decide) ?_ | refine z_bf2 (by decide) ?_); conv => whnf)
      simp (disch := omega) only [z_lit, nI_add, pk_mul, z_pr1, z_pr2, nI_clamp, z_up_row, z_row_s, z_row_n, z_row_row, pk_us, pk_un]
      refine hK _ _ _ _ _ _ _ _ _ _ (dW131 (k := 2) (by decide) hm hQ (fr_w (cld_r cl.1 f3) (by decide)) (by rw [z_row_n _ _ (by decide)]; exact dd))
    subst e1
    have cl := cln_w (a := 4) (v := nI v) (cln_r cl f3) (by decide) (by decide)
    have h : lvC t n kO2 vO2 ((z_row I3 34 (upd (I3 34) (m * 11 + 4) (nI v))) 32) st2 := by rw [z_row_n _ _ (by decide)]; exact h
    repeat ((first | refine And.intro (by (conv => arg 2; whnf); (try simp only [z_lit, nI_add, pk_mul, z_pr1, z_pr2]); exact z_in (by omega) (by decide)) ?_ | refine z_bt1 (by decide) ?_ | refine z_bf1 (by decide) ?_ | refine z_bt2 (by decide) ?_ | refine z_bf2 (by decide) ?_); conv => whnf)
    simp (disch := omega) only [z_lit, nI_add, pk_mul, z_pr1, z_pr2, nI_clamp, z_up_row, z_row_s, z_row_n, z_row_row, pk_us, pk_un]
    refine hK _ _ _ _ _ _ _ _ _ _ (?_)
    refine z_WP_gos [] 1000 fun K C hK hC => ?_
    conv => whnf
    repeat ((first | refine And.intro (by (conv => arg 2; whnf); (try simp only [z_lit, nI_add, pk_mul, z_pr1, z_pr2]); exact z_in (by omega) (by decide)) ?_ | refine z_bt1 (by decide) ?_ | refine z_bf1 (by decide) ?_ | refine z_bt2 (by decide) ?_ | refine z_bf2 (by decide) ?_); conv => whnf)
    refine hC _ _ _ _ _ _ _ _ _ _ (fun _ _ _ _ _ _ q => q) (cs_number2 (m := m) (k := 3) (lo := 1) (hi := 8) (rt cl.1) hn (by decide) (by decide) h (okQ_m hQ (fun g2 st2 hQ v I3 e1 _ v2 ev em f3 h => ?_) (fun c p hQ I3 f3 dd => ?_)))
    conv => whnf
    rotate_left
    · repeat ((first | refine And.intro (by (conv => arg 2; whnf); (try simp only [z_lit, nI_add, pk_mul, z_pr1, z_pr2]); exact z_in (by omega) (by decide)) ?_ | refine z_bt1 (by decide) ?_ | refine z_bf1 (by decide) ?_ | refine z_bt2 (by decide) ?_ | refine z_bf2 (by decide) ?_); conv => whnf)
      simp (disch := omega) only [z_lit, nI_add, pk_mul, z_pr1, z_pr2, nI_clamp, z_up_row, z_row_s, z_row_n, z_row_row, pk_us, pk_un]
      exact hQ _ (fr_w (cld_r cl.1 f3) (by decide)) (by rw [z_row_n _ _ (by decide)]; exact dd)
    subst e1
    have cl := cln_w (a := 5) (v := nI v) (cln_r cl f3) (by decide) (by decide)
    have h : lvC t n kO2 vO2 ((z_row I3 34 (upd (I3 34) (m * 11 + 5) (nI v))) 32) st2 := by rw [z_row_n _ _ (by decide)]; exact h
    repeat ((first | refine And.intro (by (conv => arg 2; whnf); (try simp only [z_lit, nI_add, pk_mul, z_pr1, z_pr2]); exact z_in (by omega) (by decide)) ?_ | refine z_bt1 (by decide) ?_ | refine z_bf1 (by decide) ?_ | refine z_bt2 (by decide) ?_ | refine z_bf2 (by decide) ?_); conv => whnf)
    simp (disch := omega) only [z_lit, nI_add, pk_mul, z_pr1, z_pr2, nI_clamp, z_up_row, z_row_s, z_row_n, z_row_row, pk_us, pk_un]
    exact hQ _ cl h
  · rw [if_neg (by decide), if_neg (by decide), if_pos rfl] at hQ
    refine z_WP_gos [91] 1000 fun K C hK hC => ?_
    conv => whnf
    repeat ((first | refine And.intro (by (conv => arg 2; whnf); (try simp only [z_lit, nI_add, pk_mul, z_pr1, z_pr2]); exact z_in (by omega) (by decide)) ?_ | refine z_bt1 (by decide) ?_ | refine z_bf1 (by decide) ?_ | refine z_bt2 (by decide) ?_ | refine z_bf2 (by decide) ?_); conv => whnf)
    refine hC _ _ _ _ _ _ _ _ _ _ (fun _ _ _ _ _ _ q => q) (cs_number2 (m := m) (k := 2) (lo := 1) (hi := 6) (rt cl.1) hn (by decide) (by decide) h (okQ_m (okQ_b hQ) (fun g2 st2 hQ v I3 e1 _ v2 ev em f3 h => ?_) (fun c p hQ I3 f3 dd => ?_)))
    conv => whnf
    rotate_left
    · repeat ((first | refine And.intro (by (conv => arg 2; whnf); (try simp only [z_lit, nI_add, pk_mul, z_pr1, z_pr2]); exact z_in (by omega) (by decide)) ?_ | refine z_bt1 (by decide) ?_ | refine z_bf1 (by decide) ?_ | refine z_bt2 (by decide) ?_ | refine z_bf2 (by decide) ?_); conv => whnf)
      simp (disch := omega) only [z_lit, nI_add, pk_mul, z_pr1, z_pr2, nI_clamp, z_up_row, z_row_s, z_row_n, z_row_row, pk_us, pk_un]
      refine hK _ _ _ _ _ _ _ _ _ _ (dW91 (k := 3) (by decide) hm hQ (fr_w (cld_r cl.1 f3) (by decide)) (by rw [z_row_n _ _ (by decide)]; exact dd))
    subst e1
    have cl := cln_w (a := 2) (v := nI v) (cln_r cl f3) (by decide) (by decide)
    have h : lvC t n kO2 vO2 ((z_row I3 34 (upd (I3 34) (m * 11 + 2) (nI v))) 32) st2 := by rw [z_row_n _ _ (by decide)]; exact h
    repeat ((first | refine And.intro (by (conv => arg 2; whnf); (try simp only [z_lit, nI_add, pk_mul, z_pr1, z_pr2]); exact z_in (by omega) (by decide)) ?_ | refine z_bt1 (by decide) ?_ | refine z_bf1 (by decide) ?_ | refine z_bt2 (by decide) ?_ | refine z_bf2 (by decide) ?_); conv => whnf)
    simp (disch := omega) only [z_lit, nI_add, pk_mul, z_pr1, z_pr2, nI_clamp, z_up_row, z_row_s, z_row_n, z_row_row, pk_us, pk_un]
    refine hK _ _ _ _ _ _ _ _ _ _ (?_)
    refine z_WP_gos [] 1000 fun K C hK hC => ?_
    conv => whnf
    repeat ((first | refine And.intro (by (conv => arg 2; whnf); (try simp only [z_lit, nI_add, pk_mul, z_pr1, z_pr2]); exact z_in (by omega) (by decide)) ?_ | refine z_bt1 (by decide) ?_ | refine z_bf1 (by decide) ?_ | refine z_bt2 (by decide) ?_ | refine z_bf2 (by decide) ?_); conv => whnf)
    refine hC _ _ _ _ _ _ _ _ _ _ (fun _ _ _ _ _ _ q => q) (cs_number2 (m := m) (k := 3) (lo := 1) (hi := 8) (rt cl.1) hn (by decide) (by decide) h (okQ_m hQ (fun g2 st2 hQ v I3 e1 _ v2 ev em f3 h => ?_) (fun c p hQ I3 f3 dd => ?_)))
    conv => whnf
    rotate_left
    · repeat ((first | refine And.intro (by (conv => arg 2; whnf); (try simp only [z_lit, nI_add, pk_mul, z_pr1, z_pr2]); exact z_in (by omega) (by decide)) ?_ | refine z_bt1 (by decide) ?_ | refine z_bf1 (by decide) ?_ | refine z_bt2 (by decide) ?_ | refine z_bf2 (by decide) ?_); conv => whnf)
      simp (disch := omega) only [z_lit, nI_add, pk_mul, z_pr1, z_pr2, nI_clamp, z_up_row, z_row_s, z_row_n, z_row_row, pk_us, pk_un]
      exact hQ _ (fr_w (cld_r cl.1 f3) (by decide)) (by rw [z_row_n _ _ (by decide)]; exact dd)
    subst e1
    have cl := cln_w (a := 5) (v := nI v) (cln_r cl f3) (by decide) (by decide)
    have h : lvC t n kO2 vO2 ((z_row I3 34 (upd (I3 34) (m * 11 + 5) (nI v))) 32) st2 := by rw [z_row_n _ _ (by decide)]; exact h
    repeat ((first | refine And.intro (by (conv => arg 2; whnf); (try simp only [z_lit, nI_add, pk_mul, z_pr1, z_pr2]); exact z_in (by omega) (by decide)) ?_ | refine z_bt1 (by decide) ?_ | refine z_bf1 (by decide) ?_ | refine z_bt2 (by decide) ?_ | refine z_bf2 (by decide) ?_); conv => whnf)
    simp (disch := omega) only [z_lit, nI_add, pk_mul, z_pr1, z_pr2, nI_clamp, z_up_row, z_row_s, z_row_n, z_row_row, pk_us, pk_un]
    exact hQ _ cl h
  · rw [if_neg (by decide), if_neg (by decide), if_neg (by decide), if_pos rfl] at hQ
    refine z_WP_gos [71] 1000 fun K C hK hC => ?_
    conv => whnf
    repeat ((first | refine And.intro (by (conv => arg 2; whnf); (try simp only [z_lit, nI_add, pk_mul, z_pr1, z_pr2]); exact z_in (by omega) (by decide)) ?_ | refine z_bt1 (by decide) ?_ | refine z_bf1 (by decide) ?_ | refine z_bt2 (by decide) ?_ | refine z_bf2 (by decide) ?_); conv => whnf)
    refine hC _ _ _ _ _ _ _ _ _ _ (fun _ _ _ _ _ _ q => q) (cs_number2 (m := m) (k := 1) (lo := 0) (hi := 7) (rt cl.1) hn (by decide) (by decide) h (okQ_m (okQ_b hQ) (fun g2 st2 hQ v I3 e1 _ v2 ev em f3 h => ?_) (fun c p hQ I3 f3 dd => ?_)))
    conv => whnf
    rotate_left
    · repeat ((first | refine And.intro (by (conv => arg 2; whnf); (try simp only [z_lit, nI_add, pk_mul, z_pr1, z_pr2]); exact z_in (by omega) (by decide)) ?_ | refine z_bt1 (by decide) ?_ | refine z_bf1 (by decide) ?_ | refine z_bt2 (by decide) ?_ | refine z_bf2 (by decide) ?_); conv => whnf)
      simp (disch := omega) only [z_lit, nI_add, pk_mul, z_pr1, z_pr2, nI_clamp, z_up_row, z_row_s, z_row_n, z_row_row, pk_us, pk_un]
      refine hK _ _ _ _ _ _ _ _ _ _ (dW71 (k := 4) (by decide) hm hQ (fr_w (cld_r cl.1 f3) (by decide)) (by rw [z_row_n _ _ (by decide)]; exact dd))
    subst e1
    have cl := cln_w (a := 1) (v := nI v) (cln_r cl f3) (by decide) (by decide)
    have h : lvC t n kO2 vO2 ((z_row I3 34 (upd (I3 34) (m * 11 + 1) (nI v))) 32) st2 := by rw [z_row_n _ _ (by decide)]; exact h
    repeat ((first | refine And.intro (by (conv => arg 2; whnf); (try simp only [z_lit, nI_add, pk_mul, z_pr1, z_pr2]); exact z_in (by omega) (by decide)) ?_ | refine z_bt1 (by decide) ?_ | refine z_bf1 (by decide) ?_ | refine z_bt2 (by decide) ?_ | refine z_bf2 (by decide) ?_); conv => whnf)
    simp (disch := omega) only [z_lit, nI_add, pk_mul, z_pr1, z_pr2, nI_clamp, z_up_row, z_row_s, z_row_n, z_row_row, pk_us, pk_un]
    refine hK _ _ _ _ _ _ _ _ _ _ (?_)
    refine z_WP_gos [] 1000 fun K C hK hC => ?_
    conv => whnf
    repeat ((first | refine And.intro (by (conv => arg 2; whnf); (try simp only [z_lit, nI_add, pk_mul, z_pr1, z_pr2]); exact z_in (by omega) (by decide)) ?_ | refine z_bt1 (by decide) ?_ | refine z_bf1 (by decide) ?_ | refine z_bt2 (by decide) ?_ | refine z_bf2 (by decide) ?_); conv => whnf)
    refine hC _ _ _ _ _ _ _ _ _ _ (fun _ _ _ _ _ _ q => q) (cs_number2 (m := m) (k := 10) (lo := 1) (hi := 31) (rt cl.1) hn (by decide) (by decide) h (okQ_m hQ (fun g2 st2 hQ v I3 e1 _ v2 ev em f3 h => ?_) (fun c p hQ I3 f3 dd => ?_)))
    conv => whnf
    rotate_left
    · repeat ((first | refine And.intro (by (conv => arg 2; whnf); (try simp only [z_lit, nI_add, pk_mul, z_pr1, z_pr2]); exact z_in (by omega) (by decide)) ?_ | refine z_bt1 (by decide) ?_ | refine z_bf1 (by decide) ?_ | refine z_bt2 (by decide) ?_ | refine z_bf2 (by decide) ?_); conv => whnf)
      simp (disch := omega) only [z_lit, nI_add, pk_mul, z_pr1, z_pr2, nI_clamp, z_up_row, z_row_s, z_row_n, z_row_row, pk_us, pk_un]
      exact hQ _ (fr_w (cld_r cl.1 f3) (by decide)) (by rw [z_row_n _ _ (by decide)]; exact dd)
    subst e1
    have cl := cln_w (a := 5) (v := nI v) (cln_r cl f3) (by decide) (by decide)
    have h : lvC t n kO2 vO2 ((z_row I3 34 (upd (I3 34) (m * 11 + 5) (nI v))) 32) st2 := by rw [z_row_n _ _ (by decide)]; exact h
    repeat ((first | refine And.intro (by (conv => arg 2; whnf); (try simp only [z_lit, nI_add, pk_mul, z_pr1, z_pr2]); exact z_in (by omega) (by decide)) ?_ | refine z_bt1 (by decide) ?_ | refine z_bf1 (by decide) ?_ | refine z_bt2 (by decide) ?_ | refine z_bf2 (by decide) ?_); conv => whnf)
    simp (disch := omega) only [z_lit, nI_add, pk_mul, z_pr1, z_pr2, nI_clamp, z_up_row, z_row_s, z_row_n, z_row_row, pk_us, pk_un]
    exact hQ _ cl h
  · rw [if_neg (by decide), if_neg (by decide), if_neg (by decide), if_neg (by decide)] at hQ
    refine z_WP_gos [71] 1000 fun K C hK hC => ?_
    conv => whnf
    repeat ((first | refine And.intro (by (conv => arg 2; whnf); (try simp only [z_lit, nI_add, pk_mul, z_pr1, z_pr2]); exact z_in (by omega) (by decide)) ?_ | refine z_bt1 (by decide) ?_ | refine z_bf1 (by decide) ?_ | refine z_bt2 (by decide) ?_ | refine z_bf2 (by decide) ?_); conv => whnf)
    refine hC _ _ _ _ _ _ _ _ _ _ (fun _ _ _ _ _ _ q => q) (cs_number2 (m := m) (k := 1) (lo := 0) (hi := 8) (rt cl.1) hn (by decide) (by decide) h (okQ_m hQ (fun g2 st2 hQ v I3 e1 _ v2 ev em f3 h => ?_) (fun c p hQ I3 f3 dd => ?_)))
    conv => whnf
    rotate_left
    · repeat ((first | refine And.intro (by (conv => arg 2; whnf); (try simp only [z_lit, nI_add, pk_mul, z_pr1, z_pr2]); exact z_in (by omega) (by decide)) ?_ | refine z_bt1 (by decide) ?_ | refine z_bf1 (by decide) ?_ | refine z_bt2 (by decide) ?_ | refine z_bf2 (by decide) ?_); conv => whnf)
      simp (disch := omega) only [z_lit, nI_add, pk_mul, z_pr1, z_pr2, nI_clamp, z_up_row, z_row_s, z_row_n, z_row_row, pk_us, pk_un]
      refine hK _ _ _ _ _ _ _ _ _ _ (dW71 (k := 5) (by decide) hm hQ (fr_w (cld_r cl.1 f3) (by decide)) (by rw [z_row_n _ _ (by decide)]; exact dd))
    subst e1
    have cl := cln_w (a := 1) (v := nI v) (cln_r cl f3) (by decide) (by decide)
    have h : lvC t n kO2 vO2 ((z_row I3 34 (upd (I3 34) (m * 11 + 1) (nI v))) 32) st2 := by rw [z_row_n _ _ (by decide)]; exact h
    repeat ((first | refine And.intro (by (conv => arg 2; whnf); (try simp only [z_lit, nI_add, pk_mul, z_pr1, z_pr2]); exact z_in (by omega) (by decide)) ?_ | refine z_bt1 (by decide) ?_ | refine z_bf1 (by decide) ?_ | refine z_bt2 (by decide) ?_ | refine z_bf2 (by decide) ?_); conv => whnf)
    simp (disch := omega) only [z_lit, nI_add, pk_mul, z_pr1, z_pr2, nI_clamp, z_up_row, z_row_s, z_row_n, z_row_row, pk_us, pk_un]
    refine hK _ _ _ _ _ _ _ _ _ _ (?_)
    refine z_WP_gos [] 1000 fun K C hK hC => ?_
    conv => whnf
    repeat ((first | refine And.intro (by (conv => arg 2; whnf); (try simp only [z_lit, nI_add, pk_mul, z_pr1, z_pr2]); exact z_in (by omega) (by decide)) ?_ | refine z_bt1 (by decide) ?_ | refine z_bf1 (by decide) ?_ | refine z_bt2 (by decide) ?_ | refine z_bf2 (by decide) ?_); conv => whnf)
    exact hQ _ cl h
end
