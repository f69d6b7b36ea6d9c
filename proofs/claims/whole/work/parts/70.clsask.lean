/-! the class: who is wanted, and silence -/
section
variable {L : Nat} {xs : Nat → Int32} {d : Nat} {kp sp wd : Value} {I : z_I} {s : z_sg} {R : z_R} {J : z_J} {F : z_F} {cn : Nat} {Q : z_Q} {n k bus : Nat} {f0 : Int32}
theorem md_7 {t : Nat} (hb : bus < 2) (ht : t < 8) (hv : v01 (s.2.1 (176 + t))) : (m_modes s bus t 16).1.1 7 = s.1 7 := by
  rw [m_modes_eq ht]
  simp only
  rw [if_neg (by decide), if_neg (by decide)]
  generalize s_cmd (nI t) (nI 1) (nI 0) (nI 16) = c
  have r7 : (m_lays (s.1, s.2.1, upd (upd s.2.2 0 c) 1 (s.2.1 2 &&& nI 65535)) bus (s.2.1 3) 1).1.1 7 = s.1 7 := m_lays_f4 (by omega)
  generalize m_lays (s.1, s.2.1, upd (upd s.2.2 0 c) 1 (s.2.1 2 &&& nI 65535)) bus (s.2.1 3) 1 = r at r7
  obtain ⟨r1, tu⟩ := r
  simp only at r7 ⊢
  unfold m_md
  rw [show s_apart 16 = false by decide]
  simp only [cond_false]
  cases s_hear r1.2.1 t bus && !decide (tu &&& nI 1 = nI 1)
  · exact r7
  · simp only [cond_true]
    by_cases z : tu = nI 0
    · rw [if_pos z]
      have e7 : (m_last (m_does (m_begins (upd r1.1 6 (nI 0), r1.2.1, r1.2.2) t c) bus t 16) t).1 7 = s.1 7 := r7
      have hs := stt_last (s := (upd r1.1 6 (nI 0), r1.2.1, r1.2.2)) ht (stt_begins (s := (upd r1.1 6 (nI 0), r1.2.1, r1.2.2)) (t := t) (c := c) ht)
      have v176 : v01 ((m_last (m_does (m_begins (upd r1.1 6 (nI 0), r1.2.1, r1.2.2) t c) bus t 16) t).2.1 (176 + t)) := Or.inl hs.2.2.2.2.1
      generalize m_last (m_does (m_begins (upd r1.1 6 (nI 0), r1.2.1, r1.2.2) t c) bus t 16) t = s2 at *
      have mt := mt_vec (s2 := s2) (bus := bus) (t := t) hb ht v176
      cases hsh : s_shut s2.2.1 t bus
      · rw [(mt.2.2 hsh).2.1]; exact e7
      · rw [mt.2.1 hsh]; exact e7
    · rw [if_neg z]; exact r7
/-- a try outside of the lines -/
theorem lR_att {I' : z_I} {F' : z_F} {S : z_sg} {n' k' : Nat} (h : lR I F s n k) (x : yR I' F' S n' k') (t : yT I' s S) (f : fr cT I I') (o1 : ∀ j, j ≤ 4 ∨ (6 ≤ j ∧ j ≤ 9) ∨ (31 ≤ j ∧ j < 48) ∨ (56 ≤ j ∧ j < 112) ∨ (192 ≤ j ∧ j < 576) ∨ (1344 ≤ j ∧ j < 1536) ∨ (1584 ≤ j ∧ j < 2220) ∨ 2572 ≤ j → S.2.1 j = s.2.1 j) (hg : gW S.2.1) : lR (z_row I' 1 (upd (I' 1) 10 (I' 1 10 + I' 29 6))) F' S n' k' ∧ lF I (z_row I' 1 (upd (I' 1) 10 (I' 1 10 + I' 29 6))) := by
  obtain ⟨a, g, ⟨c5, c6, c10⟩, p, tb, rt⟩ := h
  have i1 : I' 1 = I 1 := f 1 (by decide)
  obtain ⟨y1, y2, ⟨y3, y4⟩, y5, y6, y7⟩ := x
  have j1 : ∀ b, b ≠ 1 → (z_row I' 1 (upd (I' 1) 10 (I' 1 10 + I' 29 6))) b = I' b := fun b hb => z_row_n _ _ hb
  refine ⟨⟨⟨uRel_of y1 (fun b h1 h2 => j1 b (by omega)) (fun _ _ => rfl), wR_of y2 (fun b h1 h2 => j1 b (by omega)) (fun _ _ => rfl), ⟨y3, y4⟩, y5, y6, y7⟩, hg, ⟨?_, ?_, ?_⟩, ?_, ?_, ?_⟩, ?_, fun j hj => ?_⟩
  · show I' 1 5 = S.2.1 0
    rw [i1, o1 0 (by omega)]; exact c5
  · show I' 1 6 = S.2.1 1
    rw [i1, o1 1 (by omega)]; exact c6
  · show upd (I' 1) 10 (I' 1 10 + I' 29 6) 10 = S.1 4
    rw [pk_us, i1, c10]; exact t.symm
  · refine pS_c p ?_ ?_ (o1 8 (by omega)) tb.2.1 (fun i f a b => o1 _ (by omega))
    · rw [j1 18 (by omega), f 18 (by decide)]
    · rw [j1 19 (by omega), f 19 (by decide)]
  · exact tb_c tb (o1 8 (by omega)) (fun i f a b => o1 _ (by omega))
  · obtain ⟨r, h1, h2⟩ := rt
    exact ⟨r, h1, by rw [o1 1 (by omega)]; exact h2⟩
  · exact fr_w (fr_m f (fun b hb => List.mem_cons_of_mem _ hb)) (by decide)
  · rw [z_row_s, pk_un hj, i1]
theorem lp_asks {all : Int32} (hn : n + 300 < 2 ^ 30) (hk : k + 60 < 2 ^ 30)
    (hQ : ∀ I' n' k', lR I' F (m_ask all 8 s) n' k' → n' ≤ n + 240 → k' ≤ k + 40 → lF I I' → Q none I' (z_R0 kp sp wd) J F cn) :
    ∀ j t I' n' k', t + j = 8 → lR I' F (m_ask all t s) n' k' → (m_ask all t s).1 7 = all → n' ≤ n + 30 * t → k' ≤ k + 5 * t → lF I I' → z_WP (z_X0 L xs) z_P0 (d + 6) m_Frames_askWanted 2 [some (.ref 31), some (.int (nI t))] [] I' (z_R0 kp sp wd) J F cn 0 0 Q := by
  intro j
  induction j with
  | zero =>
    intro t I' n' k' ht x h7 n1 k1 f
    obtain rfl : t = 8 := by omega
    refine z_WP_gos [2] 1000 fun K C hK hC => ?_
    conv => whnf
    refine ⟨fun _ => ?_, fun h => absurd (by decide) h⟩
    conv => whnf
    exact hQ I' n' k' x (by omega) (by omega) f
  | succ j ih =>
    intro t I' n' k' ht x h7 n1 k1 f
    have ih' := fun I'' n'' k'' => ih (t + 1) I'' n'' k'' (by omega)
    rw [show m_ask all (t + 1) s = m_ask1 (m_ask all t s) all t from rfl] at ih'
    generalize m_ask all t s = S at *
    unfold m_ask1 at ih'
    obtain ⟨y, g, ⟨c5, c6, c10⟩, -⟩ := id x
    have w7 : I' 29 7 = all := by rw [y.2.2.2.1, h7]
    have ht8 : t < 8 := by omega
    have s7 := md_7 (s := S) (bus := 0) (t := t) (by omega) ht8 (y.2.2.2.2.1.2.1 _ (by omega) (by omega))
    have t7 : (m_tries S (m_modes S 0 t 16) 0 t).1.1 7 = all := by
      unfold m_tries
      show (m_slot (m_modes S 0 t 16).1 0 (S.1 4)).1 7 = all
      show (m_modes S 0 t 16).1.1 7 = all
      rw [s7, h7]
    refine z_WP_gos [2] 1000 fun K C hK hC => ?_
    conv => whnf
    refine ⟨fun h => absurd h (nI_ge (a := t) (b := 8) (by omega) (by decide)), fun _ => ?_⟩
    conv => whnf
    refine ⟨fun g0 => ?_, fun g0 => ?_⟩ <;> (try simp (disch := omega) only [z_lit, nI_add, pk_mul, z_pr1, z_pr2, nI_clamp, z_up_row, z_row_s, z_row_n, z_row_row, pk_us, pk_un] at g0) <;> (conv => whnf)
    · rw [w7] at g0
      have g1 : ¬ all >>> (nI t &&& nI 31) &&& nI 1 = nI 1 := fun z => absurd (g0.symm.trans z) (by decide)
      rw [decide_eq_false g1, Bool.false_and] at ih'
      rw [show nI t + 1 = nI (t + 1) from nI_1 t]
      refine hK _ _ _ _ _ _ _ _ _ _ (ih' I' n' k' x h7 (by omega) (by omega) f)
    · rw [w7, v01_n (v01_and _)] at g0
      rw [decide_eq_true g0, Bool.true_and] at ih'
      refine hC _ _ _ _ _ _ _ _ _ _ (fun _ _ _ _ _ _ q => q) (cf_hasTime (s := S) (v := nI 72) c10 c5 ?_)
      conv => whnf
      cases hm : s_much S (nI 72) <;> rw [hm] at ih'
      · simp only [Bool.not_false, cond_true] at ih'
        repeat ((first | refine And.intro (by (conv => arg 2; whnf); (try simp only [z_lit, nI_add, pk_mul, z_pr1, z_pr2]); exact z_in (by omega) (by decide)) ?_ | refine z_bt1 (by decide) ?_ | refine z_bf1 (by decide) ?_ | refine z_bt2 (by decide) ?_ | refine z_bf2 (by decide) ?_); conv => whnf)
        refine hC _ _ _ _ _ _ _ _ _ _ (fun _ _ _ _ _ _ q => q) (ca_mode (s := S) (bus := 0) (t := t) (code := 16) (kd := 4) y (Or.inl rfl) (by omega) (by omega) (by omega) (fun z => by omega) (by omega) (by omega) (fun I1 n2 k2 x1 t1 hn2 hk2 f1 _ => ?_))
        conv => whnf
        have hko : ∀ j, j ≤ 4 ∨ (6 ≤ j ∧ j ≤ 9) ∨ (31 ≤ j ∧ j < 48) ∨ (56 ≤ j ∧ j < 112) ∨ (192 ≤ j ∧ j < 576) ∨ (1344 ≤ j ∧ j < 2220) ∨ 2572 ≤ j → (m_tries S (m_modes S 0 t 16) 0 t).1.2.1 j = S.2.1 j := fun j hj => trs_o (by omega) (by omega) oc_modes hj (m_modes_o (by omega) (by omega) hj)
        obtain ⟨q1, q2⟩ := lR_att x x1 t1 f1 (fun j hj => hko j (by omega)) ⟨fun c hc => by rw [hko _ (by omega)]; exact g.1 c hc, fun c hc => by rw [hko _ (by omega)]; exact g.2 c hc⟩
        simp (disch := omega) only [z_lit, nI_add, pk_mul, z_pr1, z_pr2, nI_clamp, z_up_row, z_row_s, z_row_n, z_row_row, pk_us, pk_un]
        refine hK _ _ _ _ _ _ _ _ _ _ (ih' _ n2 k2 q1 t7 (by omega) (by omega) (lF_t f q2))
      · simp only [Bool.not_true, cond_false] at ih'
        repeat ((first | refine And.intro (by (conv => arg 2; whnf); (try simp only [z_lit, nI_add, pk_mul, z_pr1, z_pr2]); exact z_in (by omega) (by decide)) ?_ | refine z_bt1 (by decide) ?_ | refine z_bf1 (by decide) ?_ | refine z_bt2 (by decide) ?_ | refine z_bf2 (by decide) ?_); conv => whnf)
        rw [show nI t + 1 = nI (t + 1) from nI_1 t]
        refine hK _ _ _ _ _ _ _ _ _ _ (ih' I' n' k' x h7 (by omega) (by omega) f)
theorem cf_askWanted (h : lR I F s n k) (hn : n + 300 < 2 ^ 30) (hk : k + 60 < 2 ^ 30)
    (hQ : ∀ I' n' k', lR I' F (m_ask (s.1 7) 8 s) n' k' → n' ≤ n + 240 → k' ≤ k + 40 → lF I I' → Q none I' (z_R0 kp sp wd) J F cn) : z_M (z_X0 L xs) z_P0 (d + 6) m_Frames_askWanted [.ref 31] I (z_R0 kp sp wd) J F cn Q := by
  refine z_WP_gos [2] 1000 fun K C hK hC => ?_
  conv => whnf
  refine hK _ _ _ _ _ _ _ _ _ _ (lp_asks (s := s) (I := I) hn hk hQ 8 0 I n k rfl h rfl (by omega) (by omega) lF_r)
end
