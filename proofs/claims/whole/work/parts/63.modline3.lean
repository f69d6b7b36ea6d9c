/-! the model: a line's tries -/
def m_set3 (s : z_sg) (o : Int32) (tr : Nat) (b : Int32) : z_sg := (upd (upd (upd s.1 26 o) 27 (nI tr)) 28 b, s.2.1, s.2.2)
def s_lost (o : Int32) : Bool := decide (o = nI 1) || decide (o = nI 2)
def m_lp (i : Nat) : Nat → z_sg → Nat → Nat → z_sg
  | 0, s, _, _ => s
  | fu + 1, s, bus, tr => bif s_much s (nI (s_time s.2.1 i)) then s else
      bif s_lost (m_try1 s i bus).2 && decide (nI (tr + 1) ≤ s.2.1 1) then m_lp i fu (m_set3 (m_try1 s i bus).1 (m_try1 s i bus).2 (tr + 1) (nI bus)) (1 - bus) (tr + 1)
      else m_set3 (m_try1 s i bus).1 (m_try1 s i bus).2 (tr + 1) (nI bus)
/-- what a line's tries leave as it was -/
def m_kept (s s' : z_sg) : Prop := (∀ j, j ≤ 4 ∨ (6 ≤ j ∧ j ≤ 9) ∨ (31 ≤ j ∧ j < 48) ∨ (56 ≤ j ∧ j < 112) ∨ (192 ≤ j ∧ j < 576) ∨ (1344 ≤ j ∧ j < 1536) ∨ (1584 ≤ j ∧ j < 2220) ∨ 2572 ≤ j → s'.2.1 j = s.2.1 j) ∧ (∀ j, 9 ≤ j → j ≠ 24 → j ≠ 26 → j ≠ 27 → j ≠ 28 → s'.1 j = s.1 j)
theorem kept_r {s : z_sg} : m_kept s s := ⟨fun _ _ => rfl, fun _ _ _ _ _ _ => rfl⟩
theorem kept_t {s s' s'' : z_sg} (h : m_kept s s') (g : m_kept s' s'') : m_kept s s'' := ⟨fun j hj => (g.1 j hj).trans (h.1 j hj), fun j a b c d e => (g.2 j a b c d e).trans (h.2 j a b c d e)⟩
theorem lnn_c {w w' : Nat → Int32} {i f : Nat} (h : ∀ j, 1584 ≤ j → j < 1920 → w' j = w j) (hi : i < 24) (hf : f < 14) : lnn w' i f = lnn w i f := by
  unfold lnn; rw [h _ (by omega) (by omega)]
theorem ln_ok_c {w w' : Nat → Int32} {i : Nat} (h : ∀ j, 1584 ≤ j → j < 1920 → w' j = w j) (hi : i < 24) (ho : ln_ok w i) : ln_ok w' i := by
  unfold ln_ok at ho ⊢
  refine ⟨fun f hf => by rw [h _ (by omega) (by omega), lnn_c h hi (by omega)]; exact ho.1 f hf, ?_⟩
  rw [lnn_c h hi (by omega), lnn_c h hi (by omega), lnn_c h hi (by omega), lnn_c h hi (by omega), lnn_c h hi (by omega), lnn_c h hi (by omega), lnn_c h hi (by omega), lnn_c h hi (by omega), lnn_c h hi (by omega), lnn_c h hi (by omega), lnn_c h hi (by omega)]
  exact ho.2
theorem s_time_c {w w' : Nat → Int32} {i : Nat} (h : ∀ j, 1584 ≤ j → j < 1920 → w' j = w j) (hi : i < 24) : s_time w' i = s_time w i := by
  unfold s_time
  rw [lnn_c h hi (by omega), lnn_c h hi (by omega), lnn_c h hi (by omega)]
theorem l_n_c {w w' : Nat → Int32} {i : Nat} (h : ∀ j, 1584 ≤ j → j < 1920 → w' j = w j) (hi : i < 24) : l_n w' i = l_n w i := by
  unfold l_n
  rw [lnn_c h hi (by omega), lnn_c h hi (by omega), lnn_c h hi (by omega)]
theorem kept_ln {s s' : z_sg} (h : m_kept s s') : ∀ j, 1584 ≤ j → j < 1920 → s'.2.1 j = s.2.1 j := fun j a b => h.1 j (by omega)
theorem kept_try {s : z_sg} {i bus : Nat} {o b : Int32} {tr : Nat} (ho : ln_ok s.2.1 i) (hb : bus < 2) : m_kept s (m_set3 (m_try1 s i bus).1 o tr b) := by
  refine ⟨fun j hj => try1_o ho hb hj, fun j a b' c d e => ?_⟩
  show upd (upd (upd _ _ _) _ _) _ _ j = _
  rw [pk_un e, pk_un d, pk_un c]
  exact try1_f ho a
section
variable {L : Nat} {xs : Nat → Int32} {d : Nat} {kp sp wd : Value} {I : z_I} {s : z_sg} {R : z_R} {J : z_J} {F : z_F} {cn : Nat} {Q : z_Q}
theorem set3_ok {o b : Int32} {tr B : Nat} (h : m_ok s B) : m_ok (m_set3 s o tr b) B := h
theorem set3_fok {o b : Int32} {tr : Nat} (h : m_fok s) : m_fok (m_set3 s o tr b) := h
theorem lp_kept {i : Nat} (hi : i < 24) : ∀ fu (s : z_sg) bus tr, ln_ok s.2.1 i → bus < 2 → m_kept s (m_lp i fu s bus tr)
  | 0, s, bus, tr, ho, hb => kept_r
  | fu + 1, s, bus, tr, ho, hb => by
    unfold m_lp
    cases s_much s (nI (s_time s.2.1 i))
    · simp only [cond_false]
      have k1 : m_kept s (m_set3 (m_try1 s i bus).1 (m_try1 s i bus).2 (tr + 1) (nI bus)) := kept_try ho hb
      cases s_lost (m_try1 s i bus).2 && decide (nI (tr + 1) ≤ s.2.1 1)
      · exact k1
      · exact kept_t k1 (lp_kept hi fu _ (1 - bus) (tr + 1) (ln_ok_c (kept_ln k1) hi ho) (by omega))
    · exact kept_r
theorem lp_ok {i : Nat} (hi : i < 24) : ∀ fu (s : z_sg) bus tr B, ln_ok s.2.1 i → bus < 2 → m_ok s B → m_fok s → B + 21 * fu + 60 < 2 ^ 29 → m_ok (m_lp i fu s bus tr) (B + 21 * fu) ∧ m_fok (m_lp i fu s bus tr)
  | 0, s, bus, tr, B, ho, hb, hs, hf, hB => ⟨hs, hf⟩
  | fu + 1, s, bus, tr, B, ho, hb, hs, hf, hB => by
    unfold m_lp
    cases s_much s (nI (s_time s.2.1 i))
    · simp only [cond_false]
      have k1 : m_kept s (m_set3 (m_try1 s i bus).1 (m_try1 s i bus).2 (tr + 1) (nI bus)) := kept_try ho hb
      have o1 := try1_ok ho hb hs (by omega)
      have f1 := try1_fok ho hb hf
      cases s_lost (m_try1 s i bus).2 && decide (nI (tr + 1) ≤ s.2.1 1)
      · exact ⟨m_ok_mo (set3_ok o1) (by omega), set3_fok f1⟩
      · have q := lp_ok hi fu (m_set3 (m_try1 s i bus).1 (m_try1 s i bus).2 (tr + 1) (nI bus)) (1 - bus) (tr + 1) (B + 21) (ln_ok_c (kept_ln k1) hi ho) (by omega) (set3_ok o1) (set3_fok f1) (by omega)
        exact ⟨m_ok_mo q.1 (by omega), q.2⟩
    · exact ⟨m_ok_mo hs (by omega), hf⟩
theorem lp_tl {i : Nat} {I : z_I} {kd : Nat} (hi : i < 24) :
    ∀ fu (s : z_sg) bus tr B nn, fu + tr = 4 → tr ≤ 3 → ln_ok s.2.1 i → bus < 2 → s.1 27 = nI tr → (∃ rt, rt ≤ 3 ∧ s.2.1 1 = nI rt) → kd = lnn s.2.1 i 0 → nn = l_n s.2.1 i → m_ok s B → m_fok s → B + 21 * fu + 60 < 2 ^ 29 →
    (∀ b' ag, z_WP (z_X0 L xs) z_P0 (d + 8) m_Mod_triesLine 185 [some (.ref 40), some (.int (nI i)), some (.int (nI kd)), some (.int (nI nn)), some (.int b'), some (.int ag)] [] (z_ms I (m_lp i fu s bus tr)) (z_R0 kp sp wd) J F cn 0 0 Q) →
    z_WP (z_X0 L xs) z_P0 (d + 8) m_Mod_triesLine 66 [some (.ref 40), some (.int (nI i)), some (.int (nI kd)), some (.int (nI nn)), some (.int (nI bus)), some (.int (nI 1))] [] (z_ms I s) (z_R0 kp sp wd) J F cn 0 0 Q := by
  intro fu
  induction fu with
  | zero => intro s bus tr B nn h1 h2; omega
  | succ fu ih =>
    intro s bus tr B nn h1 h2 ho hb h27 hrt hkd hnn hs hf hB hQ
    obtain ⟨rt, hrt3, hrt⟩ := hrt
    have hk5 : lnn s.2.1 i 0 ≤ 5 := ho.2.1
    unfold m_lp at hQ
    refine z_WP_gos [66, 121, 185] 1000 fun K C hK hC => ?_
    conv => whnf
    repeat ((first | refine And.intro (by (conv => arg 2; whnf); (try simp only [z_lit, nI_add, pk_mul, z_pr1, z_pr2]); exact z_in (by omega) (by decide)) ?_ | refine z_bt1 (by decide) ?_ | refine z_bf1 (by decide) ?_ | refine z_bt2 (by decide) ?_ | refine z_bf2 (by decide) ?_); conv => whnf)
    refine hC _ _ _ _ _ _ _ _ _ _ (fun _ _ _ _ _ _ q => q) (sp_timeOf hi ho ?_)
    conv => whnf
    refine hC _ _ _ _ _ _ _ _ _ _ (fun _ _ _ _ _ _ q => q) (sp_isTooMuch ?_)
    conv => whnf
    cases hm : s_much s (nI (s_time s.2.1 i)) <;> rw [hm] at hQ
    · simp only [cond_false] at hQ
      have hbus : nI 1 - nI bus = nI (1 - bus) := pk_sub (by omega)
      have k1 : m_kept s (m_set3 (m_try1 s i bus).1 (m_try1 s i bus).2 (tr + 1) (nI bus)) := kept_try ho hb
      have o1 := try1_ok ho hb hs (by omega)
      have f1 := try1_fok ho hb hf
      have w1 : (m_try1 s i bus).1.2.1 1 = nI rt := by rw [try1_o ho hb (by omega), hrt]
      have e27 : (m_try1 s i bus).1.1 27 = nI tr := by rw [try1_f ho (by omega), h27]
      obtain ⟨oo, hoo, eo⟩ := try1_oc (bus := bus) ho
      have ih' := ih (m_set3 (m_try1 s i bus).1 (m_try1 s i bus).2 (tr + 1) (nI bus)) (1 - bus) (tr + 1) (B + 21) nn
      have hcall : ∀ {kk : Nat} {Q' : z_Q}, kk = (if lnn s.2.1 i 0 = 5 then 4 else lnn s.2.1 i 0) → Q' (some (.int (m_try1 s i bus).2)) (z_ms I (m_try1 s i bus).1) (z_R0 kp sp wd) J F cn → z_M (z_X0 L xs) z_P0 (d + 7) m_Mod_tries [.ref 40, .int (nI bus), .int (nI kk), .int (nI (lnn s.2.1 i 1)), .int (nI (lnn s.2.1 i 2)), .int (nI nn), .int (nI (1584 + 14 * i))] (z_ms I s) (z_R0 kp sp wd) J F cn Q' := fun hkk q => by rw [hnn]; exact sp_try1 hi ho hb hkk hs hf (by omega) q
      rw [hrt] at hQ
      have fin : ∀ (b : Bool), (b = (s_lost (m_try1 s i bus).2 && decide (nI (tr + 1) ≤ nI rt))) → z_WP (z_X0 L xs) z_P0 (d + 8) m_Mod_triesLine 66 [some (.ref 40), some (.int (nI i)), some (.int (nI kd)), some (.int (nI nn)), some (.int (nI (1 - bus))), some (.int (z_bi b))] [] (z_ms I (m_set3 (m_try1 s i bus).1 (m_try1 s i bus).2 (tr + 1) (nI bus))) (z_R0 kp sp wd) J F cn 0 0 Q := by
        intro b hb'
        rw [← hb'] at hQ
        cases b
        · refine z_WP_gos [66, 185] 1000 fun K C hK hC => ?_
          conv => whnf
          repeat ((first | refine And.intro (by (conv => arg 2; whnf); (try simp only [z_lit, nI_add, pk_mul, z_pr1, z_pr2]); exact z_in (by omega) (by decide)) ?_ | refine z_bt1 (by decide) ?_ | refine z_bf1 (by decide) ?_ | refine z_bt2 (by decide) ?_ | refine z_bf2 (by decide) ?_); conv => whnf)
          refine hK _ _ _ _ _ _ _ _ _ _ (hQ _ _)
        · have htr : tr + 1 ≤ rt := by
            have := hb'.symm
            rw [Bool.and_eq_true, decide_eq_true_eq] at this
            apply Nat.le_of_not_lt; intro z
            exact nI_ge (a := rt) (b := tr + 1) z (by omega) this.2
          refine ih' (by omega) (by omega) (ln_ok_c (kept_ln k1) hi ho) (by omega) rfl ⟨rt, hrt3, w1⟩ (by rw [hkd]; exact (lnn_c (kept_ln k1) hi (by omega)).symm) (by rw [hnn]; exact (l_n_c (kept_ln k1) hi).symm) (set3_ok o1) (set3_fok f1) (by omega) hQ
      have es : ∀ t : z_sg, t.1 27 = nI tr → z_m3 I (upd (upd (upd t.1 26 (nI oo)) 27 (nI (tr + 1))) 28 (nI bus)) t.2.1 t.2.2 = z_ms I (m_set3 t (nI oo) (tr + 1) (nI bus)) := fun t _ => rfl
      rw [eo] at fin hcall
      generalize m_try1 s i bus = r at *
      obtain ⟨r1, r2⟩ := r
      simp only at *
      subst eo
      subst hkd
      repeat ((first | refine And.intro (by (conv => arg 2; whnf); (try simp only [z_lit, nI_add, pk_mul, z_pr1, z_pr2]); exact z_in (by omega) (by decide)) ?_ | refine z_bt1 (by decide) ?_ | refine z_bf1 (by decide) ?_ | refine z_bt2 (by decide) ?_ | refine z_bf2 (by decide) ?_); conv => whnf)
      have aft : z_WP (z_X0 L xs) z_P0 (d + 8) m_Mod_triesLine 121 [some (.ref 40), some (.int (nI i)), some (.int (nI (lnn s.2.1 i 0))), some (.int (nI nn)), some (.int (nI bus)), some (.int (nI 1))] [.int (nI oo), .ref 40] (z_ms I r1) (z_R0 kp sp wd) J F cn 0 0 Q := by
        have f0 := fin false
        have f1 := fin true
        refine z_WP_gos [66] 1000 fun K C hK hC => ?_
        conv => whnf
        repeat ((first | refine And.intro (by (conv => arg 2; whnf); (try simp only [z_lit, nI_add, pk_mul, z_pr1, z_pr2]); exact z_in (by omega) (by decide)) ?_ | refine z_bt1 (by decide) ?_ | refine z_bf1 (by decide) ?_ | refine z_bt2 (by decide) ?_ | refine z_bf2 (by decide) ?_); conv => whnf)
        simp (disch := omega) only [z_lit, nI_add, pk_mul, z_pr1, z_pr2, nI_clamp, z_m3_40, z_m3_41, z_m3_44, z_m3_u40, z_m3_u41, z_m3_u44, z_m3_m3, pk_us, pk_un]
        rw [e27]
        simp (disch := omega) only [z_lit, nI_add, pk_mul, z_pr1, z_pr2, nI_clamp, z_m3_40, z_m3_41, z_m3_44, z_m3_u40, z_m3_u41, z_m3_u44, z_m3_m3, pk_us, pk_un]
        rcases (show oo = 0 ∨ oo = 1 ∨ oo = 2 ∨ oo = 3 ∨ oo = 4 by omega) with z | z | z | z | z <;> subst z
        · repeat ((first | refine And.intro (by (conv => arg 2; whnf); (try simp only [z_lit, nI_add, pk_mul, z_pr1, z_pr2]); exact z_in (by omega) (by decide)) ?_ | refine z_bt1 (by decide) ?_ | refine z_bf1 (by decide) ?_ | refine z_bt2 (by decide) ?_ | refine z_bf2 (by decide) ?_); conv => whnf)
          simp (disch := omega) only [z_lit, nI_add, pk_mul, z_pr1, z_pr2, nI_clamp, z_m3_40, z_m3_41, z_m3_44, z_m3_u40, z_m3_u41, z_m3_u44, z_m3_m3, pk_us, pk_un]
          repeat ((first | refine And.intro (by (conv => arg 2; whnf); (try simp only [z_lit, nI_add, pk_mul, z_pr1, z_pr2]); exact z_in (by omega) (by decide)) ?_ | refine z_bt1 (by decide) ?_ | refine z_bf1 (by decide) ?_ | refine z_bt2 (by decide) ?_ | refine z_bf2 (by decide) ?_); conv => whnf)
          simp only [z_lit]
          rw [hbus]
          refine hK _ _ _ _ _ _ _ _ _ _ (f0 rfl)
        · repeat ((first | refine And.intro (by (conv => arg 2; whnf); (try simp only [z_lit, nI_add, pk_mul, z_pr1, z_pr2]); exact z_in (by omega) (by decide)) ?_ | refine z_bt1 (by decide) ?_ | refine z_bf1 (by decide) ?_ | refine z_bt2 (by decide) ?_ | refine z_bf2 (by decide) ?_); conv => whnf)
          try simp (disch := omega) only [z_lit, nI_add, pk_mul, z_pr1, z_pr2, nI_clamp, z_m3_40, z_m3_41, z_m3_44, z_m3_u40, z_m3_u41, z_m3_u44, z_m3_m3, pk_us, pk_un]
          repeat ((first | refine And.intro (by (conv => arg 2; whnf); (try simp only [z_lit, nI_add, pk_mul, z_pr1, z_pr2]); exact z_in (by omega) (by decide)) ?_ | refine z_bt1 (by decide) ?_ | refine z_bf1 (by decide) ?_ | refine z_bt2 (by decide) ?_ | refine z_bf2 (by decide) ?_); conv => whnf)
          refine ⟨fun g => ?_, fun g => ?_⟩ <;> (try simp (disch := omega) only [z_lit, nI_add, pk_mul, z_pr1, z_pr2, nI_clamp, z_m3_40, z_m3_41, z_m3_44, z_m3_u40, z_m3_u41, z_m3_u44, z_m3_m3, pk_us, pk_un] at g) <;> (conv => whnf)
          · have hd : decide (nI (tr + 1) ≤ nI rt) = false := decide_eq_false (Int32.not_le.mpr (by rw [w1] at g; exact g))
            simp only [z_lit]
            rw [hbus]
            refine hK _ _ _ _ _ _ _ _ _ _ (f0 (by rw [hd]; rfl))
          · have hd : decide (nI (tr + 1) ≤ nI rt) = true := decide_eq_true (Int32.not_lt.mp (by rw [w1] at g; exact g))
            simp only [z_lit]
            rw [hbus]
            refine hK _ _ _ _ _ _ _ _ _ _ (f1 (by rw [hd]; rfl))
        · repeat ((first | refine And.intro (by (conv => arg 2; whnf); (try simp only [z_lit, nI_add, pk_mul, z_pr1, z_pr2]); exact z_in (by omega) (by decide)) ?_ | refine z_bt1 (by decide) ?_ | refine z_bf1 (by decide) ?_ | refine z_bt2 (by decide) ?_ | refine z_bf2 (by decide) ?_); conv => whnf)
          try simp (disch := omega) only [z_lit, nI_add, pk_mul, z_pr1, z_pr2, nI_clamp, z_m3_40, z_m3_41, z_m3_44, z_m3_u40, z_m3_u41, z_m3_u44, z_m3_m3, pk_us, pk_un]
          repeat ((first | refine And.intro (by (conv => arg 2; whnf); (try simp only [z_lit, nI_add, pk_mul, z_pr1, z_pr2]); exact z_in (by omega) (by decide)) ?_ | refine z_bt1 (by decide) ?_ | refine z_bf1 (by decide) ?_ | refine z_bt2 (by decide) ?_ | refine z_bf2 (by decide) ?_); conv => whnf)
          refine ⟨fun g => ?_, fun g => ?_⟩ <;> (try simp (disch := omega) only [z_lit, nI_add, pk_mul, z_pr1, z_pr2, nI_clamp, z_m3_40, z_m3_41, z_m3_44, z_m3_u40, z_m3_u41, z_m3_u44, z_m3_m3, pk_us, pk_un] at g) <;> (conv => whnf)
          · have hd : decide (nI (tr + 1) ≤ nI rt) = false := decide_eq_false (Int32.not_le.mpr (by rw [w1] at g; exact g))
            simp only [z_lit]
            rw [hbus]
            refine hK _ _ _ _ _ _ _ _ _ _ (f0 (by rw [hd]; rfl))
          · have hd : decide (nI (tr + 1) ≤ nI rt) = true := decide_eq_true (Int32.not_lt.mp (by rw [w1] at g; exact g))
            simp only [z_lit]
            rw [hbus]
            refine hK _ _ _ _ _ _ _ _ _ _ (f1 (by rw [hd]; rfl))
        · repeat ((first | refine And.intro (by (conv => arg 2; whnf); (try simp only [z_lit, nI_add, pk_mul, z_pr1, z_pr2]); exact z_in (by omega) (by decide)) ?_ | refine z_bt1 (by decide) ?_ | refine z_bf1 (by decide) ?_ | refine z_bt2 (by decide) ?_ | refine z_bf2 (by decide) ?_); conv => whnf)
          simp (disch := omega) only [z_lit, nI_add, pk_mul, z_pr1, z_pr2, nI_clamp, z_m3_40, z_m3_41, z_m3_44, z_m3_u40, z_m3_u41, z_m3_u44, z_m3_m3, pk_us, pk_un]
          repeat ((first | refine And.intro (by (conv => arg 2; whnf); (try simp only [z_lit, nI_add, pk_mul, z_pr1, z_pr2]); exact z_in (by omega) (by decide)) ?_ | refine z_bt1 (by decide) ?_ | refine z_bf1 (by decide) ?_ | refine z_bt2 (by decide) ?_ | refine z_bf2 (by decide) ?_); conv => whnf)
          simp only [z_lit]
          rw [hbus]
          refine hK _ _ _ _ _ _ _ _ _ _ (f0 rfl)
        · repeat ((first | refine And.intro (by (conv => arg 2; whnf); (try simp only [z_lit, nI_add, pk_mul, z_pr1, z_pr2]); exact z_in (by omega) (by decide)) ?_ | refine z_bt1 (by decide) ?_ | refine z_bf1 (by decide) ?_ | refine z_bt2 (by decide) ?_ | refine z_bf2 (by decide) ?_); conv => whnf)
          simp (disch := omega) only [z_lit, nI_add, pk_mul, z_pr1, z_pr2, nI_clamp, z_m3_40, z_m3_41, z_m3_44, z_m3_u40, z_m3_u41, z_m3_u44, z_m3_m3, pk_us, pk_un]
          repeat ((first | refine And.intro (by (conv => arg 2; whnf); (try simp only [z_lit, nI_add, pk_mul, z_pr1, z_pr2]); exact z_in (by omega) (by decide)) ?_ | refine z_bt1 (by decide) ?_ | refine z_bf1 (by decide) ?_ | refine z_bt2 (by decide) ?_ | refine z_bf2 (by decide) ?_); conv => whnf)
          simp only [z_lit]
          rw [hbus]
          refine hK _ _ _ _ _ _ _ _ _ _ (f0 rfl)
      refine ⟨fun g5 => ?_, fun g5 => ?_⟩
      · have n5 : ¬ lnn s.2.1 i 0 = 5 := fun z => g5 (by rw [z]; rfl)
        conv => whnf
        refine hC _ _ _ _ _ _ _ _ _ _ (fun _ _ _ _ _ _ q => q) (sp_toldn (s := s) (f := 1) hi (by decide) ho ?_)
        conv => whnf
        refine hC _ _ _ _ _ _ _ _ _ _ (fun _ _ _ _ _ _ q => q) (sp_toldn (s := s) (f := 2) hi (by decide) ho ?_)
        conv => whnf
        simp only [z_lit, nI_add, pk_mul]
        refine hC _ _ _ _ _ _ _ _ _ _ (fun _ _ _ _ _ _ q => q) (hcall (by rw [if_neg n5]) ?_)
        conv => whnf
        refine hK _ _ _ _ _ _ _ _ _ _ (aft)
      · have n5 : lnn s.2.1 i 0 = 5 := nI_inj9 (by omega) (by omega) g5
        conv => whnf
        refine hC _ _ _ _ _ _ _ _ _ _ (fun _ _ _ _ _ _ q => q) (sp_toldn (s := s) (f := 1) hi (by decide) ho ?_)
        conv => whnf
        refine hC _ _ _ _ _ _ _ _ _ _ (fun _ _ _ _ _ _ q => q) (sp_toldn (s := s) (f := 2) hi (by decide) ho ?_)
        conv => whnf
        simp only [z_lit, nI_add, pk_mul]
        refine hC _ _ _ _ _ _ _ _ _ _ (fun _ _ _ _ _ _ q => q) (hcall (by rw [if_pos n5]) ?_)
        conv => whnf
        refine hK _ _ _ _ _ _ _ _ _ _ (aft)
    · simp only [cond_true] at hQ
      repeat ((first | refine And.intro (by (conv => arg 2; whnf); (try simp only [z_lit, nI_add, pk_mul, z_pr1, z_pr2]); exact z_in (by omega) (by decide)) ?_ | refine z_bt1 (by decide) ?_ | refine z_bf1 (by decide) ?_ | refine z_bt2 (by decide) ?_ | refine z_bf2 (by decide) ?_); conv => whnf)
      refine hK _ _ _ _ _ _ _ _ _ _ (hQ _ _)
end
