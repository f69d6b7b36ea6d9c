/-! the class's lines: what is noted -/
abbrev cP : List Nat := [1, 20, 21, 22, 27, 28, 31, 3, 4, 9, 10, 11, 12, 13, 14, 15, 16, 17, 29, 30]
def pF (I I' : z_I) : Prop := fr cP I I' ∧ ∀ j, j ≠ 10 → I' 1 j = I 1 j
theorem pF_t {I I' I'' : z_I} (h : pF I I') (g : pF I' I'') : pF I I'' := ⟨fr_t h.1 g.1, fun j hj => (g.2 j hj).trans (h.2 j hj)⟩
theorem pF_l {I I' : z_I} (h : lF I I') : pF I I' := ⟨fr_m h.1 (by decide), h.2⟩
theorem pF_r {I : z_I} : pF I I := ⟨fr_r, fun _ _ => rfl⟩
section
variable {L : Nat} {xs : Nat → Int32} {d : Nat} {kp sp wd : Value} {I : z_I} {s : z_sg} {R : z_R} {J : z_J} {F : z_F} {cn : Nat} {Q : z_Q} {n k bus : Nat} {f0 : Int32}
theorem ct_takes (hQ : Q (some (.int (z_bi (!decide (I 30 0 &&& nI 2 = nI 0))))) I (z_R0 kp sp wd) J F cn) : z_M (z_X0 L xs) z_P0 d m_Trial_takesControl [.ref 29] I (z_R0 kp sp wd) J F cn Q := by
  refine z_WP_gos [] 1000 fun K C hK hC => ?_
  conv => whnf
  repeat ((first | refine And.intro (by (conv => arg 2; whnf); (try simp only [z_lit, nI_add, pk_mul, z_pr1, z_pr2]); exact z_in (by omega) (by decide)) ?_ | refine z_bt1 (by decide) ?_ | refine z_bf1 (by decide) ?_ | refine z_bt2 (by decide) ?_ | refine z_bf2 (by decide) ?_); conv => whnf)
  refine ⟨fun h => ?_, fun h => ?_⟩ <;> (try simp (disch := omega) only [z_lit, nI_add, pk_mul, z_pr1, z_pr2, nI_clamp, z_up_row, z_row_s, z_row_n, z_row_row, pk_us, pk_un] at h) <;> (conv => whnf)
  · exact z_Q0 hQ (by rw [decide_eq_true h]; rfl)
  · exact z_Q1 hQ (by rw [decide_eq_false h]; rfl)
def r_note (I : z_I) (i o : Nat) : z_I := z_row (z_row (z_row I 21 (upd (I 21) i (I 21 i + nI 1))) 20 (upd (I 20) (i * 8 + o) (I 20 (i * 8 + o) + nI 1))) 22 (upd (I 22) i (nI o))
theorem cp_note {i o : Nat} (hi : i < 24) (ho : o ≤ 7) (hQ : Q none (r_note I i o) (z_R0 kp sp wd) J F cn) : z_M (z_X0 L xs) z_P0 d m_Plan_note [.ref 18, .int (nI i), .int (nI o)] I (z_R0 kp sp wd) J F cn Q := by
  refine z_WP_gos [] 1000 fun K C hK hC => ?_
  conv => whnf
  repeat ((first | refine And.intro (by (conv => arg 2; whnf); (try simp only [z_lit, nI_add, pk_mul, z_pr1, z_pr2]); exact z_in (by omega) (by decide)) ?_ | refine z_bt1 (by decide) ?_ | refine z_bf1 (by decide) ?_ | refine z_bt2 (by decide) ?_ | refine z_bf2 (by decide) ?_); conv => whnf)
  refine z_Qv hQ ?_
  simp (disch := omega) only [z_lit, nI_add, pk_mul, z_pr1, z_pr2, nI_clamp, z_up_row, z_row_s, z_row_n, z_row_row, pk_us, pk_un]
  rfl
def r_jour (I : z_I) (i : Nat) (tr b o : Int32) (ln : Nat) : z_I := z_row (z_row I 27 (upd (upd (I 27) 3 (nI ((ln + 1) % 60))) 4 (nI (ln + 1)))) 28 (upd (upd (upd (upd (upd (I 28) (ln % 60 * 5) (I 1 7)) (ln % 60 * 5 + 1) (nI i)) (ln % 60 * 5 + 2) tr) (ln % 60 * 5 + 3) b) (ln % 60 * 5 + 4) o)
theorem cf_noteLine {i o ln : Nat} {tr b : Int32} (ho : o ≤ 7) (h0 : I 27 0 = nI 60) (h1 : I 27 1 = nI 5) (h3 : I 27 3 = nI (ln % 60)) (h4 : I 27 4 = nI ln)
    (hQ : Q none (z_row (r_jour I i tr b (nI o) ln) 31 (if o = 0 then upd (I 31) 3 (I 31 3 + nI 1) else upd (I 31) 4 (I 31 4 + nI 1))) (z_R0 kp sp wd) J F cn) : z_M (z_X0 L xs) z_P0 (d + 1) m_Frames_noteLine [.ref 31, .int (nI i), .int tr, .int b, .int (nI o)] I (z_R0 kp sp wd) J F cn Q := by
  have hm : ln % 60 < 60 := Nat.mod_lt _ (by decide)
  refine z_WP_gos [] 1000 fun K C hK hC => ?_
  conv => whnf
  refine hC _ _ _ _ _ _ _ _ _ _ (fun _ _ _ _ _ _ q => q) (cw_claim27 (rx := I 27) (n := ln) rfl h0 h1 h3 h4 ?_)
  conv => whnf
  repeat ((first | refine And.intro (by (conv => arg 2; whnf); (try simp only [z_lit, nI_add, pk_mul, z_pr1, z_pr2]); exact z_in (by omega) (by decide)) ?_ | refine z_bt1 (by decide) ?_ | refine z_bf1 (by decide) ?_ | refine z_bt2 (by decide) ?_ | refine z_bf2 (by decide) ?_); conv => whnf)
  refine ⟨fun g => ?_, fun g => ?_⟩ <;> (try simp (disch := omega) only [z_lit, nI_add, pk_mul, z_pr1, z_pr2, nI_clamp, z_up_row, z_row_s, z_row_n, z_row_row, pk_us, pk_un] at g) <;> (conv => whnf)
  · have ho0 : ¬ o = 0 := fun z => g (by rw [z])
    rw [if_neg ho0] at hQ
    refine z_Qv hQ ?_
    simp (disch := omega) only [z_lit, nI_add, pk_mul, z_pr1, z_pr2, nI_clamp, z_up_row, z_row_s, z_row_n, z_row_row, pk_us, pk_un]
    rfl
  · have ho0 : o = 0 := nI_inj9 (by omega) (by omega) g
    rw [if_pos ho0] at hQ
    refine z_Qv hQ ?_
    simp (disch := omega) only [z_lit, nI_add, pk_mul, z_pr1, z_pr2, nI_clamp, z_up_row, z_row_s, z_row_n, z_row_row, pk_us, pk_un]
    rfl
/-- the model's row behind a line -/
theorem nt_o {i o j : Nat} (hi : i < 24) (ho : o ≤ 7) (h9 : j ≠ 9) (h : j < 1584 ∨ 2220 ≤ j) (hc : j < 2572 ∨ 2764 ≤ j) : (m_nt s i o).2.1 j = s.2.1 j := by
  have hm : (s.2.1 9).toNatClampNeg % 60 < 60 := Nat.mod_lt _ (by decide)
  unfold m_nt w_cnt w_log
  simp only
  generalize (s.2.1 9).toNatClampNeg % 60 = q at hm
  simp (disch := omega) only [pk_un]
theorem nt_l {i o i' f : Nat} (hi : i < 24) (ho : o ≤ 7) (hi' : i' < 24) (hf : f < 11) : (m_nt s i o).2.1 (1584 + 14 * i' + f) = s.2.1 (1584 + 14 * i' + f) := by
  have hm : (s.2.1 9).toNatClampNeg % 60 < 60 := Nat.mod_lt _ (by decide)
  unfold m_nt w_cnt w_log
  simp only
  generalize (s.2.1 9).toNatClampNeg % 60 = q at hm
  simp (disch := omega) only [pk_un]
theorem nt_yR {i o : Nat} {I' : z_I} (hi : i < 24) (ho : o ≤ 7) (h : lR I F s n k) (hI : ∀ b, b ≠ 20 → b ≠ 21 → b ≠ 22 → b ≠ 27 → b ≠ 28 → b ≠ 31 → I' b = I b) : lR I' F (m_nt s i o) n k := by
  obtain ⟨⟨y1, y2, ⟨y3, y4⟩, y5, y6, y7⟩, g, ⟨c5, c6, c10⟩, p, tb, rt, hrt, ert⟩ := h
  have q : ∀ j, j ≠ 9 → (j < 1584 ∨ 2220 ≤ j) → (j < 2572 ∨ 2764 ≤ j) → (m_nt s i o).2.1 j = s.2.1 j := fun j a b c => nt_o hi ho a b c
  have i1 : I' 1 = I 1 := hI 1 (by omega) (by omega) (by omega) (by omega) (by omega) (by omega)
  refine ⟨⟨uRel_of y1 (fun b _ _ => hI b (by omega) (by omega) (by omega) (by omega) (by omega) (by omega)) (fun j hj => q j (by omega) (by omega) (by omega)), wR_of y2 (fun b _ _ => hI b (by omega) (by omega) (by omega) (by omega) (by omega) (by omega)) (fun j hj => q j (by omega) (by omega) (by omega)), ⟨?_, ?_⟩, ?_, kW_of y6 (fun j hj => q j (by omega) (by omega) (by omega)), y7⟩, ⟨fun c hc => ?_, fun c hc => ?_⟩, ⟨?_, ?_, ?_⟩, ?_, ?_, rt, hrt, ?_⟩
  · rw [i1, q 2 (by omega) (by omega) (by omega)]; exact y3
  · rw [i1, q 3 (by omega) (by omega) (by omega)]; exact y4
  · rw [hI 29 (by omega) (by omega) (by omega) (by omega) (by omega) (by omega)]; exact y5
  · rw [q _ (by omega) (by omega) (by omega)]; exact g.1 c hc
  · rw [q _ (by omega) (by omega) (by omega)]; exact g.2 c hc
  · rw [i1, q 0 (by omega) (by omega) (by omega)]; exact c5
  · rw [i1, q 1 (by omega) (by omega) (by omega)]; exact c6
  · rw [i1]; exact c10
  · exact pS_c p (by rw [hI 18 (by omega) (by omega) (by omega) (by omega) (by omega) (by omega)]) (hI 19 (by omega) (by omega) (by omega) (by omega) (by omega) (by omega)) (q 8 (by omega) (by omega) (by omega)) tb.2.1 (fun i' f a b => nt_l hi ho a b)
  · exact tb_c tb (q 8 (by omega) (by omega) (by omega)) (fun i' f a b => nt_l hi ho a b)
  · rw [q 1 (by omega) (by omega) (by omega)]; exact ert
theorem nt_pD {i o ln : Nat} {I' : z_I} (hi : i < (s.2.1 8).toNatClampNeg) (h24 : (s.2.1 8).toNatClampNeg ≤ 24) (ho : o ≤ 7) (h9 : s.2.1 9 = nI ln) (hln : ln < 2 ^ 30) (h : pD I s.2.1) (h20 : I' 20 = upd (I 20) (i * 8 + o) (I 20 (i * 8 + o) + nI 1)) (h21 : I' 21 = upd (I 21) i (I 21 i + nI 1)) (h22 : I' 22 = upd (I 22) i (nI o)) : pD I' (m_nt s i o).2.1 := by
  have hm : ln % 60 < 60 := Nat.mod_lt _ (by decide)
  have e8 : (m_nt s i o).2.1 8 = s.2.1 8 := nt_o (by omega) ho (by omega) (by omega) (by omega)
  have ew : (m_nt s i o).2.1 = w_cnt (w_log s.2.1 s.1 i (ln % 60)) i o := by unfold m_nt; rw [h9, nI_clamp (by omega)]
  generalize ln % 60 = q at hm ew
  have lg : ∀ j, j ≠ 9 → (j < 1920 ∨ 2220 ≤ j) → w_log s.2.1 s.1 i q j = s.2.1 j := fun j a b => by
    unfold w_log; simp (disch := omega) only [pk_un]
  refine ⟨fun i' hi' => ?_, fun j hj => ?_⟩
  · rw [e8] at hi'
    obtain ⟨p1, p2, p3⟩ := h.1 i' hi'
    rw [ew, h21, h22]
    by_cases z : i' = i
    · subst z
      have c0 := h.2 (i' * 8) (by omega)
      refine ⟨?_, ?_, ?_⟩
      · unfold w_cnt
        rw [pk_us, p1]
        simp (disch := omega) only [pk_un, pk_us]
        rw [lg _ (by omega) (by omega)]
      · unfold w_cnt
        rw [pk_us, pk_us]
      · unfold w_cnt
        by_cases y : o = 0
        · subst y
          simp (disch := omega) only [pk_un, pk_us, Nat.add_zero, if_true]
          rw [lg _ (by omega) (by omega), lg _ (by omega) (by omega), p3]
        · rw [if_neg y]
          simp (disch := omega) only [pk_un, pk_us]
          rw [lg _ (by omega) (by omega), lg _ (by omega) (by omega), p3]
          exact Int32.add_zero _
    · unfold w_cnt
      simp (disch := omega) only [pk_un]
      rw [lg _ (by omega) (by omega), lg _ (by omega) (by omega), lg _ (by omega) (by omega), lg _ (by omega) (by omega)]
      exact ⟨p1, p2, p3⟩
  · rw [ew, h20]
    unfold w_cnt
    by_cases z : j = i * 8 + o
    · subst z
      rw [pk_us, h.2 _ (by omega), show 2572 + (i * 8 + o) = 2572 + 8 * i + o by omega]
      simp (disch := omega) only [pk_un, pk_us]
      rw [lg _ (by omega) (by omega)]
    · rw [pk_un z, h.2 j hj]
      simp (disch := omega) only [pk_un]
      rw [lg _ (by omega) (by omega)]
theorem nt_jR {i o ln : Nat} {f c : Nat → Int32} {fr : Int32} (hi : i < 24) (ho : o ≤ 7) (hln : ln < 2 ^ 30) (h26 : s.1 26 = nI o) (h : jR f c s.2.1 ln) (hfr : fr = s.2.1 2) : jR (upd (upd f 3 (nI ((ln + 1) % 60))) 4 (nI (ln + 1))) (upd (upd (upd (upd (upd c (ln % 60 * 5) fr) (ln % 60 * 5 + 1) (nI i)) (ln % 60 * 5 + 2) (s.1 27)) (ln % 60 * 5 + 3) (s.1 28)) (ln % 60 * 5 + 4) (nI o)) (m_nt s i o).2.1 (ln + 1) := by
  obtain ⟨j0, j1, j3, j4, j5, j6⟩ := h
  have hm : ln % 60 < 60 := Nat.mod_lt _ (by decide)
  have ew : (m_nt s i o).2.1 = w_cnt (w_log s.2.1 s.1 i (ln % 60)) i o := by unfold m_nt; rw [j5, nI_clamp (by omega)]
  refine ⟨by rw [pk_un (by omega), pk_un (by omega)]; exact j0, by rw [pk_un (by omega), pk_un (by omega)]; exact j1, by rw [pk_un (by omega), pk_us], pk_us, ?_, fun j hj => ?_⟩
  · rw [ew]
    unfold w_cnt w_log
    simp (disch := omega) only [pk_un, pk_us]
    rw [j5, nI_add]
  · rw [ew]
    generalize ln % 60 = q at *
    unfold w_cnt
    simp (disch := omega) only [pk_un]
    unfold w_log
    subst hfr
    by_cases z4 : j = q * 5 + 4
    · subst z4; rw [show 1920 + (q * 5 + 4) = 1920 + 5 * q + 4 by omega]; simp (disch := omega) only [pk_un, pk_us]; exact h26.symm
    by_cases z3 : j = q * 5 + 3
    · subst z3; rw [show 1920 + (q * 5 + 3) = 1920 + 5 * q + 3 by omega]; simp (disch := omega) only [pk_un, pk_us]
    by_cases z2 : j = q * 5 + 2
    · subst z2; rw [show 1920 + (q * 5 + 2) = 1920 + 5 * q + 2 by omega]; simp (disch := omega) only [pk_un, pk_us]
    by_cases z1 : j = q * 5 + 1
    · subst z1; rw [show 1920 + (q * 5 + 1) = 1920 + 5 * q + 1 by omega]; simp (disch := omega) only [pk_un, pk_us]
    by_cases z0 : j = q * 5
    · subst z0; rw [show 1920 + q * 5 = 1920 + 5 * q by omega]; simp (disch := omega) only [pk_un, pk_us]
    · simp (disch := omega) only [pk_un]; exact j6 j hj
end
