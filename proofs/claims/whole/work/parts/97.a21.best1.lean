/-! the best phases: the model -/
theorem z_ms_48 {I : z_I} {s : z_sg} : (z_ms I s) 48 = I 48 := rfl
theorem z_ms_u48 {I : z_I} {s : z_sg} {i : Nat} {v : Int32} : z_up (z_ms I s) 48 i v = z_ms (z_row I 48 (upd (I 48) i v)) s := by
  rw [z_up_row]
  funext b
  by_cases h : b = 48
  · subst h; rw [z_row_s]; rfl
  · rw [z_row_n _ _ h]
    unfold z_ms z_m3
    by_cases h0 : b = 40
    · subst h0; rfl
    · by_cases h1 : b = 41
      · subst h1; rfl
      · by_cases h2 : b = 44
        · subst h2; rfl
        · simp only [z_row, h, h0, h1, h2, if_false]
section
variable {L : Nat} {xs : Nat → Int32} {d : Nat} {kp sp wd : Value} {I : z_I} {s : z_sg} {R : z_R} {J : z_J} {F : z_F} {cn : Nat} {Q : z_Q} {n k : Nat}
theorem sp_bestFrom (hne : n ≤ 24) : ∀ (l : List Nat) (k : Nat) (s : z_sg) (d : Nat) (Q : z_Q), tb_ok s.2.1 → (s.2.1 8).toNatClampNeg = n → (∀ i, i ∈ l → i < n) → (∀ i (h : i < l.length), I 48 (k + i) = nI l[i]) → k + l.length ≤ 24 →
    Q (some (.int (nI (bsl l s.2.1)))) (z_ms I s) (z_R0 kp sp wd) J F cn →
    z_M (z_X0 L xs) z_P0 (d + (4 + l.length)) m_Mod_bestFrom [.ref 40, .int (nI k), .int (nI (k + l.length))] (z_ms I s) (z_R0 kp sp wd) J F cn Q := by
  intro l
  induction l with
  | nil =>
    intro k s d Q ht hn hl hI hk hQ
    refine z_WP_gos [] 1000 fun K C hK hC => ?_
    conv => whnf
    refine ⟨fun z => absurd rfl z, fun _ => ?_⟩
    conv => whnf
    refine hC _ _ _ _ _ _ _ _ _ _ (fun _ _ _ _ _ _ q => q) (sp_greatest ht ?_)
    conv => whnf
    exact hQ
  | cons a r ihl =>
    intro k s d Q ht hn hl hI hk hQ
    have ha := hl a List.mem_cons_self
    rw [List.length_cons] at hk ⊢
    have ho := ht.2.2 a (by omega)
    have pp := pp8 ho
    have e48 : I 48 k = nI a := hI 0 (by rw [List.length_cons]; omega)
    have e7 : s.2.1 (qat a) = nI (lnn s.2.1 a 7) := ho.1 7 (by omega)
    have hx : ∀ x, (m_w s (qat a) x).2.1 = upd s.2.1 (qat a) x := fun x => rfl
    have e6 : ∀ x, (m_w s (qat a) x).2.1 (1584 + 14 * a + 6) = nI (lnn s.2.1 a 6) := fun x => by
      rw [hx, pk_un (by unfold qat; omega)]; exact ho.1 6 (by omega)
    have lp : ∀ j q x le l7, q + j = lnn s.2.1 a 6 → (q = 0 → le = -1) → (0 < q → le = nI (mnf (fun q => bsl r (upd s.2.1 (qat a) (nI q))) q)) → z_WP (z_X0 L xs) z_P0 (d + (4 + (r.length + 1))) m_Mod_bestFrom 32 [some (.ref 40), some (.int (nI k)), some (.int (nI (k + (r.length + 1)))), some (.int (nI a)), some (.int (s.2.1 (qat a))), some (.int le), some (.int (nI q)), l7] [] (z_ms I (m_w s (qat a) x)) (z_R0 kp sp wd) J F cn 0 0 Q := by
      intro j
      induction j with
      | zero =>
        intro q x le l7 hq h0 h1
        have hle := h1 (by omega)
        have hQ' : Q (some (.int (nI (mnf (fun q => bsl r (upd s.2.1 (qat a) (nI q))) (lnn s.2.1 a 6))))) (z_ms I s) (z_R0 kp sp wd) J F cn := hQ
        rw [show lnn s.2.1 a 6 = q by omega] at hQ'
        rw [← hle] at hQ'
        have hz : z_m3 I (m_w s (qat a) x).1 (upd (m_w s (qat a) x).2.1 (1584 + 14 * a + 7) (s.2.1 (qat a))) (m_w s (qat a) x).2.2 = z_ms I s := by
          show z_m3 I s.1 (upd (upd s.2.1 (qat a) x) (qat a) (s.2.1 (qat a))) s.2.2 = _
          rw [upd_upd, upd_id rfl]
        refine z_WP_gos [32] 1000 fun K C hK hC => ?_
        conv => whnf
        refine hC _ _ _ _ _ _ _ _ _ _ (fun _ _ _ _ _ _ q => q) (sp_told (f := 6) (by omega) (by omega) ?_)
        conv => whnf
        rw [e6]
        refine ⟨fun _ => ?_, fun h => absurd (nI_le (a := lnn s.2.1 a 6) (b := q) (by omega) (by omega)) h⟩
        conv => whnf
        repeat ((first | refine And.intro (by (conv => arg 2; whnf); (try simp only [z_lit, nI_add, pk_mul, z_pr1, z_pr2]); exact z_in (by omega) (by decide)) ?_ | refine z_bt1 (by decide) ?_ | refine z_bf1 (by decide) ?_ | refine z_bt2 (by decide) ?_ | refine z_bf2 (by decide) ?_); conv => whnf)
        simp (disch := omega) only [z_lit, nI_add, pk_mul, z_pr1, z_pr2, nI_clamp, z_m3_40, z_m3_41, z_m3_44, z_m3_u40, z_m3_u41, z_m3_u44, z_m3_m3, pk_us, pk_un]
        rw [hz]
        exact hQ'
      | succ j ih =>
        intro q x le l7 hq h0 h1
        have ih' := fun le l7 => ih (q + 1) (nI q) le l7 (by omega) (fun z => by omega)
        rw [mnf_s] at ih'
        have htq := tb_q ht (i := a) (by omega) (q := q) (by omega)
        have hb := bsl_b r _ htq (by rw [w8_q, hn]; exact fun i hi => hl i (List.mem_cons_of_mem _ hi))
        have hz : z_m3 I (m_w s (qat a) x).1 (upd (m_w s (qat a) x).2.1 (1584 + 14 * a + 7) (nI q)) (m_w s (qat a) x).2.2 = z_ms I (m_w s (qat a) (nI q)) := by
          show z_m3 I s.1 (upd (upd s.2.1 (qat a) x) (qat a) (nI q)) s.2.2 = _
          rw [upd_upd]; rfl
        refine z_WP_gos [32] 1000 fun K C hK hC => ?_
        conv => whnf
        refine hC _ _ _ _ _ _ _ _ _ _ (fun _ _ _ _ _ _ q => q) (sp_told (f := 6) (by omega) (by omega) ?_)
        conv => whnf
        rw [e6]
        refine ⟨fun h => absurd h (nI_ge (by omega) (by omega)), fun _ => ?_⟩
        conv => whnf
        repeat ((first | refine And.intro (by (conv => arg 2; whnf); (try simp only [z_lit, nI_add, pk_mul, z_pr1, z_pr2]); exact z_in (by omega) (by decide)) ?_ | refine z_bt1 (by decide) ?_ | refine z_bf1 (by decide) ?_ | refine z_bt2 (by decide) ?_ | refine z_bf2 (by decide) ?_); conv => whnf)
        simp (disch := omega) only [z_lit, nI_add, pk_mul, z_pr1, z_pr2, nI_clamp, z_m3_40, z_m3_41, z_m3_44, z_m3_u40, z_m3_u41, z_m3_u44, z_m3_m3, pk_us, pk_un]
        rw [show k + (r.length + 1) = k + 1 + r.length by omega] at ih'
        rw [hz, show k + (r.length + 1) = k + 1 + r.length by omega]
        refine hC _ _ _ _ _ _ _ _ _ _ (fun _ _ _ _ _ _ q => q) (ihl (k + 1) (m_w s (qat a) (nI q)) d _ htq (by rw [hx, w8_q]; exact hn) (fun i hi => hl i (List.mem_cons_of_mem _ hi)) (fun i hi => ?_) (by omega) ?_)
        · have := hI (i + 1) (by rw [List.length_cons]; omega)
          rw [show k + (i + 1) = k + 1 + i by omega] at this
          exact this
        conv => whnf
        rw [hx]
        by_cases k0 : q = 0
        · rw [if_pos k0] at ih'
          have hle : le = -1 := h0 k0
          refine ⟨fun _ => ?_, fun z => absurd hle z⟩
          conv => whnf
          simp (disch := omega) only [z_lit, nI_add, pk_mul, z_pr1, z_pr2, nI_clamp, z_m3_40, z_m3_41, z_m3_44, z_m3_u40, z_m3_u41, z_m3_u44, z_m3_m3, pk_us, pk_un]
          refine hK _ _ _ _ _ _ _ _ _ _ (ih' _ _ (fun _ => by rw [k0]))
        · have hle := h1 (by omega)
          have hm : mnf (fun q => bsl r (upd s.2.1 (qat a) (nI q))) q ≤ 6240 := Nat.le_trans (mnf_le (q := 0) (by omega)) (bsl_b r _ (tb_q ht (i := a) (by omega) (q := 0) (by omega)) (by rw [w8_q, hn]; exact fun i hi => hl i (List.mem_cons_of_mem _ hi)))
          rw [if_neg k0] at ih'
          generalize mnf (fun q => bsl r (upd s.2.1 (qat a) (nI q))) q = gm at *
          generalize bsl r (upd s.2.1 (qat a) (nI q)) = gk at *
          subst hle
          have hne1 : ¬ nI gm = -1 := fun z => by
            have : (nI gm).toInt = (-1 : Int32).toInt := by rw [z]
            rw [nI_toInt (by omega), show (-1 : Int32).toInt = -1 from by decide] at this
            omega
          refine ⟨fun z => absurd z hne1, fun _ => ?_⟩
          conv => whnf
          refine ⟨fun g => ?_, fun g => ?_⟩
          · have g' : gm ≤ gk := (nI_leI (by omega) (by omega)).mp g
            rw [Nat.min_eq_left g'] at ih'
            conv => whnf
            simp (disch := omega) only [z_lit, nI_add, pk_mul, z_pr1, z_pr2, nI_clamp, z_m3_40, z_m3_41, z_m3_44, z_m3_u40, z_m3_u41, z_m3_u44, z_m3_m3, pk_us, pk_un]
            refine hK _ _ _ _ _ _ _ _ _ _ (ih' _ _ (fun _ => rfl))
          · have g' : gk ≤ gm := by
              rcases Nat.le_total gk gm with y | y
              · exact y
              · exact absurd (nI_le y (by omega)) g
            rw [Nat.min_eq_right g'] at ih'
            conv => whnf
            simp (disch := omega) only [z_lit, nI_add, pk_mul, z_pr1, z_pr2, nI_clamp, z_m3_40, z_m3_41, z_m3_44, z_m3_u40, z_m3_u41, z_m3_u44, z_m3_m3, pk_us, pk_un]
            refine hK _ _ _ _ _ _ _ _ _ _ (ih' _ _ (fun _ => rfl))
    have e0 : m_w s (qat a) (s.2.1 (qat a)) = s := by
      show (s.1, upd s.2.1 (qat a) (s.2.1 (qat a)), s.2.2) = s
      rw [upd_id rfl]
    have lp0 := fun l7 => lp (lnn s.2.1 a 6) 0 (s.2.1 (qat a)) (-1) l7 (by omega) (fun _ => rfl) (fun z => by omega)
    rw [e0] at lp0
    refine z_WP_gos [32] 1000 fun K C hK hC => ?_
    conv => whnf
    refine ⟨fun _ => ?_, fun z => absurd z (nI_ne (by omega) (by omega) (by omega))⟩
    conv => whnf
    repeat ((first | refine And.intro (by (conv => arg 2; whnf); (try simp only [z_lit, nI_add, pk_mul, z_pr1, z_pr2]); exact z_in (by omega) (by decide)) ?_ | refine z_bt1 (by decide) ?_ | refine z_bf1 (by decide) ?_ | refine z_bt2 (by decide) ?_ | refine z_bf2 (by decide) ?_); conv => whnf)
    simp (disch := omega) only [z_lit, nI_add, pk_mul, z_pr1, z_pr2, nI_clamp, z_m3_40, z_m3_41, z_m3_44, z_m3_u40, z_m3_u41, z_m3_u44, z_m3_m3, pk_us, pk_un]
    rw [show z_ms I s 48 k = nI a from e48]
    refine hC _ _ _ _ _ _ _ _ _ _ (fun _ _ _ _ _ _ q => q) (sp_told (f := 7) (by omega) (by omega) ?_)
    conv => whnf
    refine hK _ _ _ _ _ _ _ _ _ _ (lp0 _)
theorem lp_best (ht : tb_ok s.2.1) (hQ : ∀ I' : z_I, (∀ b, b ≠ 48 → I' b = I b) → Q (some (.int (if 4 < (alf s.2.1 (s.2.1 8).toNatClampNeg 0).length then -1 else nI (bsl (alf s.2.1 (s.2.1 8).toNatClampNeg 0) s.2.1)))) (z_ms I' s) (z_R0 kp sp wd) J F cn) :
    ∀ j k (pre : List Nat) (I' : z_I), k + j = (s.2.1 8).toNatClampNeg → alf s.2.1 (s.2.1 8).toNatClampNeg 0 = pre ++ alf s.2.1 j k → pre.length ≤ k → (∀ i (h : i < pre.length), I' 48 i = nI pre[i]) → (∀ b, b ≠ 48 → I' b = I b) → z_WP (z_X0 L xs) z_P0 (d + 9) m_Mod_best 4 [some (.ref 40), some (.int (nI pre.length)), some (.int (nI k))] [] (z_ms I' s) (z_R0 kp sp wd) J F cn 0 0 Q := by
  have h24 := ht.2.1
  have e1 := ht.1
  intro j
  induction j with
  | zero =>
    intro k pre I' hk he hp hI ho
    have he' : alf s.2.1 (s.2.1 8).toNatClampNeg 0 = pre := by rw [he]; exact List.append_nil _
    have hin : ∀ i, i ∈ pre → i < (s.2.1 8).toNatClampNeg := fun i hi => by
      rw [← he'] at hi
      have := alf_in hi; omega
    have q := hQ I' ho
    rw [he'] at q
    refine z_WP_gos [4] 1000 fun K C hK hC => ?_
    conv => whnf
    repeat ((first | refine And.intro (by (conv => arg 2; whnf); (try simp only [z_lit, nI_add, pk_mul, z_pr1, z_pr2]); exact z_in (by omega) (by decide)) ?_ | refine z_bt1 (by decide) ?_ | refine z_bf1 (by decide) ?_ | refine z_bt2 (by decide) ?_ | refine z_bf2 (by decide) ?_); conv => whnf)
    simp (disch := omega) only [z_lit, nI_add, pk_mul, z_pr1, z_pr2, nI_clamp, z_m3_40, z_m3_41, z_m3_44, z_m3_u40, z_m3_u41, z_m3_u44, z_m3_m3, pk_us, pk_un]
    rw [e1]
    refine ⟨fun _ => ?_, fun h => absurd (nI_le (a := (s.2.1 8).toNatClampNeg) (b := k) (by omega) (by omega)) h⟩
    conv => whnf
    refine ⟨fun g => ?_, fun g => ?_⟩
    · have g' : pre.length ≤ 4 := (nI_leI (b := 4) (by omega) (by omega)).mp g
      rw [if_neg (by omega)] at q
      obtain ⟨e, he4⟩ : ∃ e, d + 8 = e + (4 + pre.length) := ⟨d + 4 - pre.length, by omega⟩
      conv => whnf
      refine hC _ _ _ _ _ _ _ _ _ _ (fun _ _ _ _ _ _ q => q) ?_
      show z_M (z_X0 L xs) z_P0 (d + 8) m_Mod_bestFrom [.ref 40, .int (nI 0), .int (nI pre.length)] (z_ms I' s) (z_R0 kp sp wd) J F cn _
      rw [he4]
      have call := fun Q => sp_bestFrom (L := L) (xs := xs) (kp := kp) (sp := sp) (wd := wd) (I := I') (J := J) (F := F) (cn := cn) h24 pre 0 s e Q ht rfl hin (fun i hi => by rw [Nat.zero_add]; exact hI i hi) (by omega)
      rw [Nat.zero_add] at call
      refine call _ ?_
      conv => whnf
      exact q
    · have g' : 4 < pre.length := by
        rcases Nat.lt_or_ge 4 pre.length with y | y
        · exact y
        · exact absurd (nI_le (b := 4) y (by omega)) g
      rw [if_pos g'] at q
      conv => whnf
      exact q
  | succ j ih =>
    intro k pre I' hk he hp hI ho
    have hok := ht.2.2 k (by omega)
    have h9 := hok.2.2.2.2.2.2.2.2.2.2.2.2.2.2.1
    rw [alf_s] at he
    refine z_WP_gos [4] 1000 fun K C hK hC => ?_
    conv => whnf
    repeat ((first | refine And.intro (by (conv => arg 2; whnf); (try simp only [z_lit, nI_add, pk_mul, z_pr1, z_pr2]); exact z_in (by omega) (by decide)) ?_ | refine z_bt1 (by decide) ?_ | refine z_bf1 (by decide) ?_ | refine z_bt2 (by decide) ?_ | refine z_bf2 (by decide) ?_); conv => whnf)
    simp (disch := omega) only [z_lit, nI_add, pk_mul, z_pr1, z_pr2, nI_clamp, z_m3_40, z_m3_41, z_m3_44, z_m3_u40, z_m3_u41, z_m3_u44, z_m3_m3, pk_us, pk_un]
    rw [e1]
    refine ⟨fun h => absurd h (nI_ge (by omega) (by omega)), fun _ => ?_⟩
    conv => whnf
    refine hC _ _ _ _ _ _ _ _ _ _ (fun _ _ _ _ _ _ q => q) (sp_toldn (f := 9) (by omega) (by omega) hok ?_)
    conv => whnf
    refine ⟨fun g => ?_, fun g => ?_⟩
    · have g9 : ¬ lnn s.2.1 k 9 = 0 := fun z => g (by rw [z]; rfl)
      rw [if_neg g9] at he
      have ih' := ih (k + 1) (pre ++ [k]) (z_row I' 48 (upd (I' 48) pre.length (nI k))) (by omega) (by rw [he, List.append_assoc]; rfl) (by rw [List.length_append, List.length_singleton]; omega) (fun i hi => ?_) (fun b hb => by rw [z_row_n _ _ hb]; exact ho b hb)
      · rw [List.length_append, List.length_singleton] at ih'
        conv => whnf
        repeat ((first | refine And.intro (by (conv => arg 2; whnf); (try simp only [z_lit, nI_add, pk_mul, z_pr1, z_pr2]); exact z_in (by omega) (by decide)) ?_ | refine z_bt1 (by decide) ?_ | refine z_bf1 (by decide) ?_ | refine z_bt2 (by decide) ?_ | refine z_bf2 (by decide) ?_); conv => whnf)
        rw [z_ms_u48]
        simp (disch := omega) only [z_lit, nI_add, pk_mul, z_pr1, z_pr2, nI_clamp, z_m3_40, z_m3_41, z_m3_44, z_m3_u40, z_m3_u41, z_m3_u44, z_m3_m3, pk_us, pk_un]
        refine hK _ _ _ _ _ _ _ _ _ _ (ih')
      · rw [z_row_s]
        rw [List.length_append, List.length_singleton] at hi
        by_cases z : i = pre.length
        · subst z
          rw [pk_us, List.getElem_append_right (Nat.le_refl _)]
          simp
        · rw [pk_un z, List.getElem_append_left (by omega)]
          exact hI i (by omega)
    · have g9 : lnn s.2.1 k 9 = 0 := nI_inj9 (by omega) (by omega) g
      rw [if_pos g9] at he
      conv => whnf
      simp (disch := omega) only [z_lit, nI_add, pk_mul, z_pr1, z_pr2, nI_clamp, z_m3_40, z_m3_41, z_m3_44, z_m3_u40, z_m3_u41, z_m3_u44, z_m3_m3, pk_us, pk_un]
      refine hK _ _ _ _ _ _ _ _ _ _ (ih (k + 1) pre I' (by omega) he (by omega) hI ho)
theorem sp_best (ht : tb_ok s.2.1) (hQ : ∀ I' : z_I, (∀ b, b ≠ 48 → I' b = I b) → Q (some (.int (if 4 < (alf s.2.1 (s.2.1 8).toNatClampNeg 0).length then -1 else nI (bsl (alf s.2.1 (s.2.1 8).toNatClampNeg 0) s.2.1)))) (z_ms I' s) (z_R0 kp sp wd) J F cn) :
    z_M (z_X0 L xs) z_P0 (d + 9) m_Mod_best [.ref 40] (z_ms I s) (z_R0 kp sp wd) J F cn Q := by
  refine z_WP_gos [4] 1000 fun K C hK hC => ?_
  conv => whnf
  refine hK _ _ _ _ _ _ _ _ _ _ (lp_best ht hQ (s.2.1 8).toNatClampNeg 0 [] I (by omega) rfl (Nat.le_refl _) (fun i h => absurd h (Nat.not_lt_zero _)) (fun _ _ => rfl))
end
