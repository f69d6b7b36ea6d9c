/-! a talk of the class -/
section
variable {L : Nat} {xs : Nat → Int32} {d : Nat} {kp sp wd : Value} {I : z_I} {w : Nat → Int32} {R : z_R} {J : z_J} {F : z_F} {cn : Nat} {Q : z_Q}
theorem lp_lay {bus many n : Nat} {who : Int32} {held : Bool} {y : Nat → Int32} (hb : bus < 2) (hm : many ≤ 9) (hn : n + 10 < 2 ^ 30) (hy : ∀ j, j < many → I 30 j = y j ∧ b16 (y j))
    (hQ : ∀ I' lc lc', fr [11, 12, 13, 14, 15] I I' → wC I' (s_lays w y n bus who held many).1 (n + many) → z_WP (z_X0 L xs) z_P0 (d + 1) m_Wires_lay 165 [some (.ref 10), some (.int (nI bus)), some (.int who), some (.ref 30), some (.int (nI many)), some (.int (z_bi held)), some (.int (s_lays w y n bus who held many).2), some (.int (nI many)), lc, lc'] [] I' (z_R0 kp sp wd) J F cn 0 0 Q) :
    ∀ j k I' lc lc', k + j = many → fr [11, 12, 13, 14, 15] I I' → wC I' (s_lays w y n bus who held k).1 (n + k) →
    z_WP (z_X0 L xs) z_P0 (d + 1) m_Wires_lay 6 [some (.ref 10), some (.int (nI bus)), some (.int who), some (.ref 30), some (.int (nI many)), some (.int (z_bi held)), some (.int (s_lays w y n bus who held k).2), some (.int (nI k)), lc, lc'] [] I' (z_R0 kp sp wd) J F cn 0 0 Q := by
  intro j
  induction j with
  | zero =>
    intro k I' lc lc' hk hf hR
    obtain rfl : k = many := by omega
    refine z_WP_gos [6, 165] 1000 fun K C hK hC => ?_
    conv => whnf
    refine ⟨fun _ => ?_, fun h => absurd (Int32.le_refl _) h⟩
    conv => whnf
    refine hK _ _ _ _ _ _ _ _ _ _ (hQ I' lc lc' hf hR)
  | succ j ih =>
    intro k I' lc lc' hk hf hR
    have ih' := fun I' lc lc' => ih (k + 1) I' lc lc' (by omega)
    obtain ⟨hy1, hy2⟩ := hy k (by omega)
    rw [← hf 30 (by decide)] at hy1
    obtain ⟨p, hp, h13, hperm⟩ := hR.2.2.1 bus hb
    obtain ⟨a, ha, hw⟩ := hR.2.2.2.1 bus hb
    have hs := hR.1 bus hb
    obtain ⟨m0, m1, m3, m4, -, -⟩ := hR.2.2.2.2
    simp only [s_lays] at ih'
    generalize (s_lays w y n bus who held k).1 = W at *
    generalize (s_lays w y n bus who held k).2 = tu at *
    have hany := s_lay1_any (n := n + k) (who := who) (bits := y k) (held := held) hb (by omega) hw hperm
    have hstep := fun I'' p' => wC_step (I' := I'') (p' := p') (who := who) (held := held) hb (by omega) hR hy2 ha hw hperm
    have oz : tu ||| nI 0 = tu := Int32.or_zero
    have hr : n % 64 < 64 := Nat.mod_lt _ (by decide)
    have hk64 : (n + k) % 64 < 64 := Nat.mod_lt _ (by decide)
    rw [hw] at hs
    cases hh : (ncl (I' 12) bus p).any (z_is (nI (a + 1))) <;> cases held <;> rw [hh] at hany <;> simp only [Bool.or_false, Bool.or_true, Bool.false_or, Bool.true_or] at hany <;> rw [hany] at ih' hstep
    all_goals
      simp only [cond_true, cond_false, oz] at ih'
      refine z_WP_gos [6, 165] 1000 fun K C hK hC => ?_
      conv => whnf
      refine ⟨fun h => absurd h (nI_ge (by omega) (by omega)), fun _ => ?_⟩
      conv => whnf
      repeat ((first | refine And.intro (by (conv => arg 2; whnf); (try simp only [z_lit, nI_add, pk_mul, z_pr1, z_pr2]); exact z_in (by omega) (by decide)) ?_ | refine z_bt1 (by decide) ?_ | refine z_bf1 (by decide) ?_ | refine z_bt2 (by decide) ?_ | refine z_bf2 (by decide) ?_); conv => whnf)
      simp (disch := omega) only [z_lit, nI_add, pk_mul, z_pr1, z_pr2, nI_clamp, z_up_row, z_row_s, z_row_n, z_row_row, pk_us, pk_un]
      rw [hs]
      simp (disch := omega) only [z_lit, nI_add, pk_mul, z_pr1, z_pr2, nI_clamp, z_up_row, z_row_s, z_row_n, z_row_row, pk_us, pk_un]
      refine hC _ _ _ _ _ _ _ _ _ _ (fun _ _ _ _ _ _ q => q) (cw_struck (r12 := I' 12) (r13 := I' 13) (p := p) rfl rfl hb hp h13 (fun r' p' q1 q2 q3 => ?_))
      conv => whnf
      rw [hh]
      repeat ((first | refine And.intro (by (conv => arg 2; whnf); (try simp only [z_lit, nI_add, pk_mul, z_pr1, z_pr2]); exact z_in (by omega) (by decide)) ?_ | refine z_bt1 (by decide) ?_ | refine z_bf1 (by decide) ?_ | refine z_bt2 (by decide) ?_ | refine z_bf2 (by decide) ?_); conv => whnf)
      refine hC _ _ _ _ _ _ _ _ _ _ (fun _ _ _ _ _ _ q => q) (cw_claim14 (rx := I' 14) (n := n + k) rfl m0 m1 m3 m4 ?_)
      conv => whnf
      repeat ((first | refine And.intro (by (conv => arg 2; whnf); (try simp only [z_lit, nI_add, pk_mul, z_pr1, z_pr2]); exact z_in (by omega) (by decide)) ?_ | refine z_bt1 (by decide) ?_ | refine z_bf1 (by decide) ?_ | refine z_bt2 (by decide) ?_ | refine z_bf2 (by decide) ?_); conv => whnf)
      simp (disch := omega) only [z_lit, nI_add, pk_mul, z_pr1, z_pr2, nI_clamp, z_up_row, z_row_s, z_row_n, z_row_row, pk_us, pk_un]
      rw [hy1]
      refine hK _ _ _ _ _ _ _ _ _ _ (ih' _ _ _ ?_ ?_)
      · intro b hb
        simp only [List.mem_cons, List.not_mem_nil, or_false, not_or] at hb
        repeat rw [z_row_n _ _ (by omega)]
        exact hf b (by simp only [List.mem_cons, List.not_mem_nil, or_false, not_or]; exact hb)
      · exact hstep _ p' q1 (by rfl) q2 q3 (by rfl) (by rfl) (by rfl)
/-- the whole of a talk -/
def wR (I : z_I) (w : Nat → Int32) (n k : Nat) : Prop := wC I w n ∧ I 10 5 = w 5 ∧ tR (I 16) (I 17) w k
theorem cw_lay {bus many n k : Nat} {who : Int32} {s : z_sg} (hb : bus < 2) (hm : many ≤ 9) (hn : n + 10 < 2 ^ 30) (hk : k < 2 ^ 30) (hy : ∀ j, j < many → I 30 j = s.2.2 j ∧ b16 (s.2.2 j)) (hR : wR I s.2.1 n k)
    (hQ : ∀ I', fr [10, 11, 12, 13, 14, 15, 16, 17] I I' → wR I' (m_lays s bus who many).1.2.1 (n + many) (k + 1) → Q (some (.int (m_lays s bus who many).2)) I' (z_R0 kp sp wd) J F cn) :
    z_M (z_X0 L xs) z_P0 (d + 2) m_Wires_lay [.ref 10, .int (nI bus), .int who, .ref 30, .int (nI many), .int (z_bi (s_held s.2.1 bus))] I (z_R0 kp sp wd) J F cn Q := by
  obtain ⟨h1, h2, h3⟩ := hR
  have hn2 : s.2.1 2315 = nI n := h1.2.2.2.2.2.2.2.2.1
  have hn3 : (s.2.1 2315).toNatClampNeg = n := by rw [hn2, nI_clamp (by omega)]
  have hk2 : s.2.1 10 = nI k := h3.2.2.2.2.1
  have hk3 : (s.2.1 10).toNatClampNeg = k := by rw [hk2, nI_clamp (by omega)]
  have hb5 : ∀ b, b < 2 → 13 + b ≠ 5 ∧ 2305 + 5 * b ≠ 5 := fun b _ => by omega
  unfold m_lays m_trails at hQ
  simp only [hn3] at hQ
  generalize hh : s_held s.2.1 bus = held at hQ ⊢
  generalize hw0 : upd s.2.1 5 (s.2.1 5 + z_bi held) = w0 at hQ
  have e0 : ∀ j, j ≠ 5 → w0 j = s.2.1 j := fun j hj => by rw [← hw0, pk_un hj]
  have e5 : w0 5 = s.2.1 5 + z_bi held := by rw [← hw0, pk_us]
  have hC0 : wC I w0 n := by
    obtain ⟨a1, a2, a3, a4, a5⟩ := h1
    refine ⟨fun b hb => by rw [e0 _ (by omega)]; exact a1 b hb, fun b hb j hj => by rw [e0 _ (by omega)]; exact a2 b hb j hj, fun b hb => ?_, fun b hb => by rw [e0 _ (by omega)]; exact a4 b hb, ?_⟩
    · rw [nsl_c (w := s.2.1) fun k hk => e0 _ (by omega)]; exact a3 b hb
    · obtain ⟨m0, m1, m3, m4, m5, m6⟩ := a5
      refine ⟨m0, m1, m3, m4, by rw [e0 _ (by omega)]; exact m5, fun r hr hr2 => ?_⟩
      rw [e0 _ (by omega), e0 _ (by omega), e0 _ (by omega), e0 _ (by omega)]
      exact m6 r hr hr2
  have hlo : ∀ j, j < 13 → (s_lays w0 s.2.2 n bus who held many).1 j = w0 j := fun j hj => s_lays_lo hb (by omega) many
  have hlo2 : ∀ j, 2220 ≤ j → j < 2260 → (s_lays w0 s.2.2 n bus who held many).1 j = w0 j := fun j hj hj2 => s_lays_lo hb (by omega) many
  have hk4 : (upd (s_lays w0 s.2.2 n bus who held many).1 (2306 + 5 * bus) ((s_lays w0 s.2.2 n bus who held many).1 (2306 + 5 * bus) + nI 1) 10).toNatClampNeg = k := by
    rw [pk_un (by omega), hlo 10 (by omega), e0 10 (by omega)]; exact hk3
  rw [hk4] at hQ
  refine z_WP_gos [6] 1000 fun K C hK hC => ?_
  conv => whnf
  refine hK _ _ _ _ _ _ _ _ _ _ (lp_lay (w := w0) (n := n) hb hm hn hy ?_ many 0 I none none (by omega) fr_r hC0)
  intro I' lc lc' hf hR
  generalize (s_lays w0 s.2.2 n bus who held many).2 = tu at hQ ⊢
  generalize (s_lays w0 s.2.2 n bus who held many).1 = W at *
  have g16 : I' 16 = I 16 := hf 16 (by decide)
  have g17 : I' 17 = I 17 := hf 17 (by decide)
  have g10 : I' 10 = I 10 := hf 10 (by decide)
  obtain ⟨t0, t1, t3, t4, t5, t6⟩ := h3
  rw [← g16] at t0 t1 t3 t4
  have hk40 : k % 40 < 40 := Nat.mod_lt _ (by decide)
  have hT : ∀ (c : Nat → Int32), (∀ r, r < 40 → c r = I 17 r) → tR (upd (upd (I' 16) 3 (nI ((k + 1) % 40))) 4 (nI (k + 1))) (upd c (k % 40) (nI (10 * bus) + who)) (s_trails (upd W (2306 + 5 * bus) (W (2306 + 5 * bus) + nI 1)) k (nI (10 * bus) + who)) (k + 1) := by
    intro c hc
    unfold s_trails
    refine ⟨by rw [pk_un (by omega), pk_un (by omega)]; exact t0, by rw [pk_un (by omega), pk_un (by omega)]; exact t1, by rw [pk_un (by omega), pk_us], pk_us, pk_us, fun r hr => ?_⟩
    rw [pk_un (j := 2220 + r) (k := 10) (by omega)]
    by_cases e : r = k % 40
    · subst e; rw [pk_us, pk_us]
    · rw [pk_un e, pk_un (j := 2220 + r) (by omega), pk_un (j := 2220 + r) (by omega), hlo2 _ (by omega) (by omega), e0 _ (by omega), hc r hr]
      exact t6 r hr
  have hCt : ∀ I'', I'' 11 = upd (I' 11) (bus * 6 + 2) (I' 11 (bus * 6 + 2) + nI 1) → I'' 12 = I' 12 → I'' 13 = I' 13 → I'' 14 = I' 14 → I'' 15 = I' 15 → wC I'' (s_trails (upd W (2306 + 5 * bus) (W (2306 + 5 * bus) + nI 1)) k (nI (10 * bus) + who)) (n + many) := by
    intro I'' f11 f12 f13 f14 f15
    obtain ⟨a1, a2, a3, a4, a5⟩ := hR
    have o : ∀ j, j ≠ 10 → (j < 2220 ∨ 2260 ≤ j) → j ≠ 2306 + 5 * bus → s_trails (upd W (2306 + 5 * bus) (W (2306 + 5 * bus) + nI 1)) k (nI (10 * bus) + who) j = W j := fun j h1 h2 h3 => by rw [s_trails_o h1 h2, pk_un h3]
    refine ⟨fun b hb => ?_, fun b hb2 j hj => ?_, fun b hb => ?_, fun b hb => by rw [o _ (by omega) (by omega) (by omega)]; exact a4 b hb, ?_⟩
    · rw [f11, pk_un (by omega), o _ (by omega) (by omega) (by omega)]; exact a1 b hb
    · rw [f11]
      by_cases e : b = bus ∧ j = 1
      · obtain ⟨rfl, rfl⟩ := e
        have := a2 b hb2 1 (by omega)
        rw [s_trails_o (by omega) (by omega)]
        show upd (I' 11) (b * 6 + 2) _ (b * 6 + 2) = upd W (2306 + 5 * b) _ (2305 + 5 * b + 1)
        rw [show 2305 + 5 * b + 1 = 2306 + 5 * b by omega, pk_us, pk_us]
        rw [show 2305 + 5 * b + 1 = 2306 + 5 * b by omega] at this
        rw [← this]
      · rw [pk_un (by omega), o _ (by omega) (by omega) (by omega)]; exact a2 b hb2 j hj
    · rw [nsl_c (w := W) fun k hk => o _ (by omega) (by omega) (by omega), f12, f13]; exact a3 b hb
    · rw [f14, f15]
      obtain ⟨m0, m1, m3, m4, m5, m6⟩ := a5
      refine ⟨m0, m1, m3, m4, by rw [o _ (by omega) (by omega) (by omega)]; exact m5, fun r hr hr2 => ?_⟩
      rw [o _ (by omega) (by omega) (by omega), o _ (by omega) (by omega) (by omega), o _ (by omega) (by omega) (by omega), o _ (by omega) (by omega) (by omega)]
      exact m6 r hr hr2
  have h5 : (s_trails (upd W (2306 + 5 * bus) (W (2306 + 5 * bus) + nI 1)) k (nI (10 * bus) + who)) 5 = I 10 5 + z_bi held := by
    rw [s_trails_o (by omega) (by omega), pk_un (by omega), hlo 5 (by omega), e5, h2]
  have hfr : ∀ I'', fr [10, 11, 12, 13, 14, 15, 16, 17] I' I'' → fr [10, 11, 12, 13, 14, 15, 16, 17] I I'' := fun I'' h => fr_t (fr_m hf (by decide)) h
  cases held
  · refine z_WP_gos [] 1000 fun K C hK hC => ?_
    conv => whnf
    repeat ((first | refine And.intro (by (conv => arg 2; whnf); (try simp only [z_lit, nI_add, pk_mul, z_pr1, z_pr2]); exact z_in (by omega) (by decide)) ?_ | refine z_bt1 (by decide) ?_ | refine z_bf1 (by decide) ?_ | refine z_bt2 (by decide) ?_ | refine z_bf2 (by decide) ?_); conv => whnf)
    refine hC _ _ _ _ _ _ _ _ _ _ (fun _ _ _ _ _ _ q => q) (cw_claim16 (rx := I' 16) (n := k) rfl t0 t1 t3 t4 ?_)
    conv => whnf
    repeat ((first | refine And.intro (by (conv => arg 2; whnf); (try simp only [z_lit, nI_add, pk_mul, z_pr1, z_pr2]); exact z_in (by omega) (by decide)) ?_ | refine z_bt1 (by decide) ?_ | refine z_bf1 (by decide) ?_ | refine z_bt2 (by decide) ?_ | refine z_bf2 (by decide) ?_); conv => whnf)
    simp (disch := omega) only [z_lit, nI_add, pk_mul, z_pr1, z_pr2, nI_clamp, z_up_row, z_row_s, z_row_n, z_row_row, pk_us, pk_un]
    refine hQ _ (hfr _ (fr_w (fr_w (fr_w fr_r (by decide)) (by decide)) (by decide))) ⟨hCt _ rfl rfl rfl rfl rfl, ?_, ?_⟩
    · rw [h5]
      show I' 10 5 = _
      rw [g10]
      exact (Int32.add_zero _).symm
    · show tR _ (upd (I' 17) (k % 40 * 1) (nI (10 * bus) + who)) _ _
      rw [Nat.mul_one]
      exact hT (I' 17) (fun r _ => by rw [g17])
  · refine z_WP_gos [] 1000 fun K C hK hC => ?_
    conv => whnf
    repeat ((first | refine And.intro (by (conv => arg 2; whnf); (try simp only [z_lit, nI_add, pk_mul, z_pr1, z_pr2]); exact z_in (by omega) (by decide)) ?_ | refine z_bt1 (by decide) ?_ | refine z_bf1 (by decide) ?_ | refine z_bt2 (by decide) ?_ | refine z_bf2 (by decide) ?_); conv => whnf)
    simp (disch := omega) only [z_lit, nI_add, pk_mul, z_pr1, z_pr2, nI_clamp, z_up_row, z_row_s, z_row_n, z_row_row, pk_us, pk_un]
    refine hC _ _ _ _ _ _ _ _ _ _ (fun _ _ _ _ _ _ q => q) (cw_claim16 (rx := I' 16) (n := k) rfl t0 t1 t3 t4 ?_)
    conv => whnf
    repeat ((first | refine And.intro (by (conv => arg 2; whnf); (try simp only [z_lit, nI_add, pk_mul, z_pr1, z_pr2]); exact z_in (by omega) (by decide)) ?_ | refine z_bt1 (by decide) ?_ | refine z_bf1 (by decide) ?_ | refine z_bt2 (by decide) ?_ | refine z_bf2 (by decide) ?_); conv => whnf)
    simp (disch := omega) only [z_lit, nI_add, pk_mul, z_pr1, z_pr2, nI_clamp, z_up_row, z_row_s, z_row_n, z_row_row, pk_us, pk_un]
    refine hQ _ (hfr _ (fr_w (fr_w (fr_w (fr_w fr_r (by decide)) (by decide)) (by decide)) (by decide))) ⟨hCt _ rfl rfl rfl rfl rfl, ?_, ?_⟩
    · rw [h5]
      show I' 10 5 + nI 1 = _
      rw [g10]
      rfl
    · show tR _ (upd (I' 17) (k % 40 * 1) (nI (10 * bus) + who)) _ _
      rw [Nat.mul_one]
      exact hT (I' 17) (fun r _ => by rw [g17])
end
