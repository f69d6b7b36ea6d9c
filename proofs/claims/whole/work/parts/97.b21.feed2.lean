/-! words fed, the class; both whole; what is cut off -/
section
variable {L : Nat} {xs : Nat → Int32} {d : Nat} {kp sp wd : Value} {I I0 : z_I} {s : z_sg} {R : z_R} {J : z_J} {F : z_F} {cn : Nat} {Q : z_Q} {n k m st c p nn kk ln : Nat} {t : Nat → Nat} {f w y g g0 : Nat → Int32}
theorem lp_add1 {v : Int32} {K : Nat} (hK : K < 32) (h2 : I 32 2 = nI n) (hn : n < 500) (hQ : z_WP (z_X0 L xs) z_P0 d m_Reader_add 3 [some (.ref 32), some (.int v), some (.int (nI K + -nI 8))] [] (z_row (z_row I 33 (upd (I 33) n (nI (btv v K)))) 32 (upd (I 32) 2 (nI (n + 1)))) (z_R0 kp sp wd) J F cn 0 0 Q) :
    z_WP (z_X0 L xs) z_P0 d m_Reader_add 3 [some (.ref 32), some (.int v), some (.int (nI K))] [] I (z_R0 kp sp wd) J F cn 0 0 Q := by
  obtain ⟨b1, b2, b3⟩ := btv_sg (v := v) hK
  have b4 : (v.toUInt32 >>> ((nI K).toUInt32 &&& Int32.toUInt32 (nI 31))).toInt32 &&& nI 255 = nI (btv v K) := b2
  refine z_WP_gos [3] 1000 fun K C hK hC => ?_
  conv => whnf
  refine ⟨fun z => absurd z (nI_pos (by omega)), fun _ => ?_⟩
  conv => whnf
  simp (disch := omega) only [z_lit, nI_add, pk_mul, z_pr1, z_pr2, nI_clamp, z_up_row, z_row_s, z_row_n, z_row_row, pk_us, pk_un]
  rw [h2]
  refine ⟨fun z => absurd z (nI_ge (b := 500) hn (by decide)), fun _ => ?_⟩
  conv => whnf
  simp (disch := omega) only [z_lit, nI_add, pk_mul, z_pr1, z_pr2, nI_clamp, z_up_row, z_row_s, z_row_n, z_row_row, pk_us, pk_un]
  rw [h2]
  refine ⟨vp_in_nI (N := 500) hn (by decide), ?_⟩
  conv => whnf
  simp (disch := omega) only [z_lit, nI_add, pk_mul, z_pr1, z_pr2, nI_clamp, z_up_row, z_row_s, z_row_n, z_row_row, pk_us, pk_un]
  rw [h2, b4]
  simp (disch := omega) only [z_lit, nI_add, pk_mul, z_pr1, z_pr2, nI_clamp, z_up_row, z_row_s, z_row_n, z_row_row, pk_us, pk_un]
  refine hK _ _ _ _ _ _ _ _ _ _ (hQ)
theorem cs_add {v : Int32} (hT : rT I t n) (h2 : I 32 2 = nI n) (hn : n + 4 ≤ 500) (hQ : ∀ I', fr [32, 33] I I' → (∀ j, j ≠ 2 → I' 32 j = I 32 j) → I' 32 2 = nI (n + 4) → rT I' (addT t n v) (n + 4) → Q none I' (z_R0 kp sp wd) J F cn) : z_M (z_X0 L xs) z_P0 d m_Reader_add [.ref 32, .int v] I (z_R0 kp sp wd) J F cn Q := by
  have e2 : ∀ (I : z_I) (a : Nat → Int32) (m : Nat), (z_row (z_row I 33 a) 32 (upd (I 32) 2 (nI m))) 32 2 = nI m := fun I a m => by rw [z_row_s, pk_us]
  refine z_WP_gos [3] 1000 fun K C hK hC => ?_
  conv => whnf
  refine hK _ _ _ _ _ _ _ _ _ _ (lp_add1 (K := 24) (by decide) h2 (by omega) ?_)
  refine lp_add1 (K := 16) (by decide) (e2 _ _ _) (by omega) ?_
  refine lp_add1 (K := 8) (by decide) (e2 _ _ _) (by omega) ?_
  refine lp_add1 (K := 0) (by decide) (e2 _ _ _) (by omega) ?_
  have fin : ∀ I' : z_I, fr [32, 33] I I' → (∀ j, j ≠ 2 → I' 32 j = I 32 j) → I' 32 2 = nI (n + 4) → I' 33 = upd (upd (upd (upd (I 33) n (nI (btv v 24))) (n + 1) (nI (btv v 16))) (n + 2) (nI (btv v 8))) (n + 3) (nI (btv v 0)) → z_WP (z_X0 L xs) z_P0 d m_Reader_add 3 [some (.ref 32), some (.int v), some (.int (nI 0 + -nI 8))] [] I' (z_R0 kp sp wd) J F cn 0 0 Q := by
    intro I' a b c e
    have q := hQ I' a b c (fun j hj => ⟨?_, addT_lt (fun j hj => (hT j hj).2) hj⟩)
    · refine z_WP_gos [] 1000 fun K C hK hC => ?_
      conv => whnf
      refine ⟨fun _ => ?_, fun z => absurd (by decide) z⟩
      conv => whnf
      exact q
    · rw [e]
      unfold addT
      by_cases a : j = n
      · rw [if_pos a, pk_un (by omega), pk_un (by omega), pk_un (by omega), a, pk_us]
      rw [if_neg a]
      by_cases a1 : j = n + 1
      · rw [if_pos a1, pk_un (by omega), pk_un (by omega), a1, pk_us]
      rw [if_neg a1]
      by_cases a2 : j = n + 2
      · rw [if_pos a2, pk_un (by omega), a2, pk_us]
      rw [if_neg a2]
      by_cases a3 : j = n + 3
      · rw [if_pos a3, a3, pk_us]
      rw [if_neg a3, pk_un (by omega), pk_un (by omega), pk_un (by omega), pk_un (by omega)]
      exact (hT j (by omega)).1
  refine fin _ ?_ (fun j hj => ?_) ?_ ?_
  · exact fr_w (fr_w (fr_w (fr_w (fr_w (fr_w (fr_w (fr_w fr_r (by decide)) (by decide)) (by decide)) (by decide)) (by decide)) (by decide)) (by decide)) (by decide)
  · rw [z_row_s, pk_un hj, z_row_s, pk_un hj, z_row_s, pk_un hj, z_row_s, pk_un hj]
  · rw [z_row_s, pk_us]
  · rw [z_row_n _ _ (by decide), z_row_s, z_row_n _ _ (by decide), z_row_s, z_row_n _ _ (by decide), z_row_s, z_row_n _ _ (by decide), z_row_s]
/-- five numbers -/
def fdT (t : Nat → Nat) (n : Nat) (a b c e h : Int32) : Nat → Nat := addT (addT (addT (addT (addT t n a) (n + 4) b) (n + 8) c) (n + 12) e) (n + 16) h
theorem sp_feed {a b c e h : Int32} (hT : mT I t n) (hn : n ≤ 500) (h14 : f 14 = nI n) (h1 : n + 20 ≤ 500 → ∀ r f', mT (z_row I 45 r) (fdT t n a b c e h) (n + 20) → f' 14 = nI (n + 20) → (∀ j, j ≠ 14 → f' j = f j) → Q (some (.int (nI (n + 20)))) (z_ms (z_row I 45 r) (f', w, y)) (z_R0 kp sp wd) J F cn) (h0 : ¬ n + 20 ≤ 500 → Q (some (.int (-1))) (z_ms I (f, w, y)) (z_R0 kp sp wd) J F cn) :
    z_M (z_X0 L xs) z_P0 (d + 1) m_Mod_feed [.ref 40, .int a, .int b, .int c, .int e, .int h] (z_ms I (f, w, y)) (z_R0 kp sp wd) J F cn Q := by
  refine z_WP_gos [] 1000 fun K C hK hC => ?_
  conv => whnf
  simp (disch := omega) only [z_lit, nI_add, pk_mul, z_pr1, z_pr2, nI_clamp, z_m3_40, z_m3_41, z_m3_44, z_m3_u40, z_m3_u41, z_m3_u44, z_m3_m3, pk_us, pk_un]
  rw [h14]
  simp (disch := omega) only [z_lit, nI_add, pk_mul, z_pr1, z_pr2, nI_clamp, z_m3_40, z_m3_41, z_m3_44, z_m3_u40, z_m3_u41, z_m3_u44, z_m3_m3, pk_us, pk_un]
  refine ⟨fun g => ?_, fun g => ?_⟩
  · have g' : n + 20 ≤ 500 := (nI_leI (b := 500) (by omega) (by omega)).mp g
    have q := h1 g'
    unfold fdT at q
    conv => whnf
    refine hC _ _ _ _ _ _ _ _ _ _ (fun _ _ _ _ _ _ q => q) (sp_tapes hT h14 (by omega) (fun r1 f1 m1 k1 o1 => ?_))
    conv => whnf
    refine hC _ _ _ _ _ _ _ _ _ _ (fun _ _ _ _ _ _ q => q) (sp_tapes m1 k1 (by omega) (fun r2 f2 m2 k2 o2 => ?_))
    conv => whnf
    refine hC _ _ _ _ _ _ _ _ _ _ (fun _ _ _ _ _ _ q => q) (sp_tapes m2 k2 (by omega) (fun r3 f3 m3 k3 o3 => ?_))
    conv => whnf
    refine hC _ _ _ _ _ _ _ _ _ _ (fun _ _ _ _ _ _ q => q) (sp_tapes m3 k3 (by omega) (fun r4 f4 m4 k4 o4 => ?_))
    conv => whnf
    refine hC _ _ _ _ _ _ _ _ _ _ (fun _ _ _ _ _ _ q => q) (sp_tapes m4 k4 (by omega) (fun r5 f5 m5 k5 o5 => ?_))
    conv => whnf
    simp (disch := omega) only [z_lit, nI_add, pk_mul, z_pr1, z_pr2, nI_clamp, z_m3_40, z_m3_41, z_m3_44, z_m3_u40, z_m3_u41, z_m3_u44, z_m3_m3, pk_us, pk_un]
    rw [k5]
    simp only [z_row_row] at m5 ⊢
    exact q r5 f5 m5 k5 (fun j hj => (o5 j hj).trans ((o4 j hj).trans ((o3 j hj).trans ((o2 j hj).trans (o1 j hj)))))
  · have g' : ¬ n + 20 ≤ 500 := fun z => g (nI_le (b := 500) z (by decide))
    conv => whnf
    exact h0 g'
theorem cs_hasRoom (hn : n ≤ 500) (h2 : I 32 2 = nI n) (hQ : Q (some (.int (z_bi (decide (n + 20 ≤ 500))))) I (z_R0 kp sp wd) J F cn) : z_M (z_X0 L xs) z_P0 d m_Reader_hasRoom [.ref 32] I (z_R0 kp sp wd) J F cn Q := by
  refine z_WP_gos [] 1000 fun K C hK hC => ?_
  conv => whnf
  simp (disch := omega) only [z_lit, nI_add, pk_mul, z_pr1, z_pr2, nI_clamp, z_up_row, z_row_s, z_row_n, z_row_row, pk_us, pk_un]
  rw [h2]
  simp (disch := omega) only [z_lit, nI_add, pk_mul, z_pr1, z_pr2, nI_clamp, z_up_row, z_row_s, z_row_n, z_row_row, pk_us, pk_un]
  refine ⟨fun g => ?_, fun g => ?_⟩
  · have g' : ¬ n + 20 ≤ 500 := fun z => absurd g (nI_nlt (a := 500) (b := n + 20) z (by decide))
    rw [decide_eq_false g'] at hQ
    conv => whnf
    exact ⟨Or.inl rfl, hQ⟩
  · have g' : n + 20 ≤ 500 := by
      rcases Nat.lt_or_ge 500 (n + 20) with z | z
      · exact absurd (nI_lt (a := 500) z (by omega)) g
      · exact z
    rw [decide_eq_true g'] at hQ
    conv => whnf
    exact ⟨Or.inr rfl, hQ⟩
theorem cb_feed {a b c e h : Int32} (hT : rT I t n) (hn : n ≤ 500) (h2 : I 32 2 = nI n) (h1 : n + 20 ≤ 500 → ∀ I', fr [32, 33] I I' → (∀ j, j ≠ 2 → I' 32 j = I 32 j) → I' 32 2 = nI (n + 20) → rT I' (fdT t n a b c e h) (n + 20) → Q (some (.int (nI (n + 20)))) I' (z_R0 kp sp wd) J F cn) (h0 : ¬ n + 20 ≤ 500 → Q (some (.int (-1))) I (z_R0 kp sp wd) J F cn) :
    z_M (z_X0 L xs) z_P0 (d + 1) m_Bus_feed [.ref 0, .int a, .int b, .int c, .int e, .int h] I (z_R0 kp sp wd) J F cn Q := by
  refine z_WP_gos [] 1000 fun K C hK hC => ?_
  conv => whnf
  refine hC _ _ _ _ _ _ _ _ _ _ (fun _ _ _ _ _ _ q => q) (cs_hasRoom hn h2 ?_)
  conv => whnf
  by_cases g : n + 20 ≤ 500
  · have q := h1 g
    unfold fdT at q
    rw [decide_eq_true g]
    refine ⟨fun _ => ?_, fun z => absurd z (by decide)⟩
    conv => whnf
    refine hC _ _ _ _ _ _ _ _ _ _ (fun _ _ _ _ _ _ q => q) (cs_add hT h2 (by omega) (fun I1 f1 o1 k1 m1 => ?_))
    conv => whnf
    refine hC _ _ _ _ _ _ _ _ _ _ (fun _ _ _ _ _ _ q => q) (cs_add m1 k1 (by omega) (fun I2 f2 o2 k2 m2 => ?_))
    conv => whnf
    refine hC _ _ _ _ _ _ _ _ _ _ (fun _ _ _ _ _ _ q => q) (cs_add m2 k2 (by omega) (fun I3 f3 o3 k3 m3 => ?_))
    conv => whnf
    refine hC _ _ _ _ _ _ _ _ _ _ (fun _ _ _ _ _ _ q => q) (cs_add m3 k3 (by omega) (fun I4 f4 o4 k4 m4 => ?_))
    conv => whnf
    refine hC _ _ _ _ _ _ _ _ _ _ (fun _ _ _ _ _ _ q => q) (cs_add m4 k4 (by omega) (fun I5 f5 o5 k5 m5 => ?_))
    conv => whnf
    rw [k5]
    exact q I5 (fr_t (fr_t (fr_t (fr_t f1 f2) f3) f4) f5) (fun j hj => (o5 j hj).trans ((o4 j hj).trans ((o3 j hj).trans ((o2 j hj).trans (o1 j hj))))) k5 m5
  · rw [decide_eq_false g]
    refine ⟨fun z => absurd rfl z, fun _ => ?_⟩
    conv => whnf
    exact h0 g
theorem mT_le {n' : Nat} (h : mT I t n) (hn : n' ≤ n) : mT I t n' := fun k hk => h k (by omega)
theorem rT_le {n' : Nat} (h : rT I t n) (hn : n' ≤ n) : rT I t n' := fun k hk => h k (by omega)
theorem sp_end {v : Int32} (hn : n ≤ 500) (h14 : f 14 = nI n) (h1 : ∀ n', n' ≤ n → v = nI n' → Q (some (.int 1)) (z_ms I (upd f 14 (nI n'), w, y)) (z_R0 kp sp wd) J F cn) (h0 : (∀ n', n' ≤ n → ¬ v = nI n') → Q (some (.int 0)) (z_ms I (f, w, y)) (z_R0 kp sp wd) J F cn) :
    z_M (z_X0 L xs) z_P0 (d + 1) m_Mod_end [.ref 40, .int v] (z_ms I (f, w, y)) (z_R0 kp sp wd) J F cn Q := by
  refine z_WP_gos [] 1000 fun K C hK hC => ?_
  conv => whnf
  simp (disch := omega) only [z_lit, nI_add, pk_mul, z_pr1, z_pr2, nI_clamp, z_m3_40, z_m3_41, z_m3_44, z_m3_u40, z_m3_u41, z_m3_u44, z_m3_m3, pk_us, pk_un]
  rw [h14]
  refine hC _ _ _ _ _ _ _ _ _ _ (fun _ _ _ _ _ _ q => q) (sp_Mod_isIn (fun x1 x2 => ?_) (fun x => ?_))
  conv => whnf
  · obtain ⟨n', hn', e⟩ := isIn_nat (b := n) (by omega) x1 x2
    subst e
    have q := h1 n' hn' rfl
    refine ⟨fun _ => ?_, fun z => absurd z (by decide)⟩
    conv => whnf
    simp (disch := omega) only [z_lit, nI_add, pk_mul, z_pr1, z_pr2, nI_clamp, z_m3_40, z_m3_41, z_m3_44, z_m3_u40, z_m3_u41, z_m3_u44, z_m3_m3, pk_us, pk_un]
    exact ⟨Or.inr trivial, q⟩
  · repeat ((first | refine And.intro (by (conv => arg 2; whnf); (try simp only [z_lit, nI_add, pk_mul, z_pr1, z_pr2]); exact z_in (by omega) (by decide)) ?_ | refine z_bt1 (by decide) ?_ | refine z_bf1 (by decide) ?_ | refine z_bt2 (by decide) ?_ | refine z_bf2 (by decide) ?_); conv => whnf)
    refine ⟨Or.inl rfl, h0 fun n' hn' e => x ?_⟩
    rw [e]; exact ⟨nI_pos' (by omega), nI_le hn' (by omega)⟩
theorem cb_end {v : Int32} (hn : n ≤ 500) (h2 : I 32 2 = nI n) (h1 : ∀ n', n' ≤ n → v = nI n' → Q (some (.int 1)) (z_row I 32 (upd (I 32) 2 (nI n'))) (z_R0 kp sp wd) J F cn) (h0 : (∀ n', n' ≤ n → ¬ v = nI n') → Q (some (.int 0)) I (z_R0 kp sp wd) J F cn) :
    z_M (z_X0 L xs) z_P0 d m_Bus_end [.ref 0, .int v] I (z_R0 kp sp wd) J F cn Q := by
  refine z_WP_gos [] 1000 fun K C hK hC => ?_
  conv => whnf
  refine ⟨fun g => ?_, fun g => ?_⟩
  · conv => whnf
    refine ⟨Or.inl rfl, h0 fun n' hn' e => absurd g (Int32.not_lt.mpr ?_)⟩
    rw [e]; exact nI_pos' (by omega)
  conv => whnf
  simp (disch := omega) only [z_lit, nI_add, pk_mul, z_pr1, z_pr2, nI_clamp, z_up_row, z_row_s, z_row_n, z_row_row, pk_us, pk_un]
  rw [h2]
  refine ⟨fun g2 => ?_, fun g2 => ?_⟩
  · obtain ⟨n', hn', e⟩ := isIn_nat (b := n) (by omega) (Int32.not_lt.mp g) g2
    subst e
    have q := h1 n' hn' rfl
    conv => whnf
    simp (disch := omega) only [z_lit, nI_add, pk_mul, z_pr1, z_pr2, nI_clamp, z_up_row, z_row_s, z_row_n, z_row_row, pk_us, pk_un]
    exact ⟨Or.inr trivial, q⟩
  · conv => whnf
    refine ⟨Or.inl rfl, h0 fun n' hn' e => g2 ?_⟩
    rw [e]; exact nI_le hn' (by omega)
end
