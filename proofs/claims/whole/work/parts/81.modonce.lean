/-! the model: a frame -/
def oS (s : z_sg) (B ln : Nat) : Prop := tb_ok s.2.1 ∧ (∃ rt, rt ≤ 3 ∧ s.2.1 1 = nI rt) ∧ s.2.1 9 = nI ln ∧ m_ok s B ∧ m_fok s
theorem ok_c {s s' : z_sg} {B : Nat} (h : m_ok s B) (h1 : s'.2.1 2315 = s.2.1 2315) (h2 : s'.2.1 10 = s.2.1 10) : m_ok s' B := by
  obtain ⟨n, k, a, b, c⟩ := h
  exact ⟨n, k, h1.trans a, h2.trans b, c⟩
theorem ok_le {s : z_sg} {B B' : Nat} (h : m_ok s B) (hb : B ≤ B') : m_ok s B' := by
  obtain ⟨n, k, a, b, c, d⟩ := h
  exact ⟨n, k, a, b, by omega, by omega⟩
theorem oS_c {s s' : z_sg} {B ln : Nat} (h : oS s B ln) (hw : ∀ j, j = 1 ∨ j = 8 ∨ j = 9 ∨ j = 10 ∨ (1536 ≤ j ∧ j < 1920) ∨ j = 2315 → s'.2.1 j = s.2.1 j) : oS s' B ln := by
  obtain ⟨a, ⟨rt, b1, b2⟩, c, d, e⟩ := h
  exact ⟨tb_c a (hw 8 (by omega)) (fun i f x y => hw _ (by omega)), ⟨rt, b1, by rw [hw 1 (by omega)]; exact b2⟩, by rw [hw 9 (by omega)]; exact c, ok_c d (hw _ (by omega)) (hw _ (by omega)), m_fok_of e fun c hc => hw _ (by omega)⟩
theorem nt_9 {s : z_sg} {i o : Nat} (hi : i < 24) (ho : o ≤ 7) : (m_nt s i o).2.1 9 = s.2.1 9 + nI 1 := by
  have hm : (s.2.1 9).toNatClampNeg % 60 < 60 := Nat.mod_lt _ (by decide)
  unfold m_nt w_cnt w_log
  simp only
  generalize (s.2.1 9).toNatClampNeg % 60 = q at hm
  simp (disch := omega) only [pk_un, pk_us]
theorem stp_oS {s : z_sg} {i B ln : Nat} (h : oS s B ln) (hi : i < (s.2.1 8).toNatClampNeg) (hB : B + 150 < 2 ^ 29) : oS (m_stp s i) (B + 84) (ln + 1) ∧ (∀ j, j ≤ 4 ∨ j = 6 ∨ j = 8 ∨ (1392 ≤ j ∧ j < 1536) ∨ 2764 ≤ j → (m_stp s i).2.1 j = s.2.1 j) ∧ (m_stp s i).1 25 = s.1 25 := by
  obtain ⟨a, b, c, d, e⟩ := h
  have hi24 : i < 24 := by have := a.2.1; omega
  have ho : ln_ok (m_f s 29 (s.1 29 + nI 1)).2.1 i := a.2.2 i hi
  have gk := goes_kept (s := m_f s 29 (s.1 29 + nI 1)) hi24 ho
  obtain ⟨g1, g2⟩ := goes_ok (s := m_f s 29 (s.1 29 + nI 1)) (B := B) hi24 ho d e hB
  obtain ⟨o, o1, o2, o3⟩ := goes_oc (s := m_f s 29 (s.1 29 + nI 1)) hi24 ho
  have k1 : ∀ j, j ≤ 4 ∨ (6 ≤ j ∧ j ≤ 9) ∨ (31 ≤ j ∧ j < 48) ∨ (56 ≤ j ∧ j < 112) ∨ (192 ≤ j ∧ j < 576) ∨ (1344 ≤ j ∧ j < 1536) ∨ (1584 ≤ j ∧ j < 2220) ∨ 2572 ≤ j → (m_goes (m_f s 29 (s.1 29 + nI 1)) i).2.1 j = s.2.1 j := gk.1
  have k2 : (m_goes (m_f s 29 (s.1 29 + nI 1)) i).1 25 = s.1 25 := (gk.2 25 (by omega) (by omega) (by omega) (by omega) (by omega)).trans (show upd s.1 29 (s.1 29 + nI 1) 25 = s.1 25 from pk_un (by decide))
  unfold m_stp
  rw [o3]
  generalize m_goes (m_f s 29 (s.1 29 + nI 1)) i = G at *
  have n1 : ∀ j, j ≠ 9 → (j < 1584 ∨ 2220 ≤ j) → (j < 2572 ∨ 2764 ≤ j) → (m_nt G i o).2.1 j = G.2.1 j := fun j a b c => nt_o hi24 o1 a b c
  refine ⟨⟨?_, ?_, ?_, ?_, ?_⟩, fun j hj => ?_, ?_⟩
  · refine tb_c a ((n1 8 (by omega) (by omega) (by omega)).trans (k1 8 (by omega))) fun i' f x y => (nt_l hi24 o1 x y).trans (k1 _ (by omega))
  · obtain ⟨rt, b1, b2⟩ := b
    exact ⟨rt, b1, ((n1 1 (by omega) (by omega) (by omega)).trans (k1 1 (by omega))).trans b2⟩
  · show (m_nt G i o).2.1 9 = _
    rw [nt_9 hi24 o1, k1 9 (by omega), c]; exact nI_1 ln
  · exact ok_c (s := G) g1 (n1 _ (by omega) (by omega) (by omega)) (n1 _ (by omega) (by omega) (by omega))
  · exact m_fok_of g2 fun c hc => n1 _ (by omega) (by omega) (by omega)
  · exact (n1 j (by omega) (by omega) (by omega)).trans (k1 j (by omega))
  · show upd G.1 30 (s.1 30 + z_bi (decide (o = 0))) 25 = _
    rw [pk_un (by decide), k2]
def m_ln1 (f : Nat) (s : z_sg) (i : Nat) : z_sg := bif s_due s.2.1 i f then m_stp s i else s
def m_lns (f : Nat) : Nat → z_sg → z_sg
  | 0, s => s
  | i + 1, s => m_ln1 f (m_lns f i s) i
theorem lns_oS {s : z_sg} {f B ln : Nat} (h : oS s B ln) (hB : B + 2400 < 2 ^ 29) : ∀ i, i ≤ (s.2.1 8).toNatClampNeg → (∃ ln', ln' ≤ ln + i ∧ oS (m_lns f i s) (B + 84 * i) ln') ∧ (∀ j, j ≤ 4 ∨ j = 6 ∨ j = 8 ∨ (1392 ≤ j ∧ j < 1536) ∨ 2764 ≤ j → (m_lns f i s).2.1 j = s.2.1 j) ∧ (m_lns f i s).1 25 = s.1 25
  | 0, _ => ⟨⟨ln, Nat.le_refl _, h⟩, fun _ _ => rfl, rfl⟩
  | i + 1, hi => by
    obtain ⟨⟨ln', l1, l2⟩, k, k25⟩ := lns_oS (f := f) h hB i (by omega)
    have h24 := h.1.2.1
    show (∃ ln', ln' ≤ ln + (i + 1) ∧ oS (m_ln1 f (m_lns f i s) i) (B + 84 * (i + 1)) ln') ∧ (∀ j, j ≤ 4 ∨ j = 6 ∨ j = 8 ∨ (1392 ≤ j ∧ j < 1536) ∨ 2764 ≤ j → (m_ln1 f (m_lns f i s) i).2.1 j = s.2.1 j) ∧ (m_ln1 f (m_lns f i s) i).1 25 = s.1 25
    have k8 := k 8 (by omega)
    generalize m_lns f i s = z at *
    unfold m_ln1
    cases s_due z.2.1 i f
    · obtain ⟨a, b, c, d, e⟩ := l2
      exact ⟨⟨ln', by omega, a, b, c, ok_le d (by omega), e⟩, k, k25⟩
    · obtain ⟨q1, q2, q3⟩ := stp_oS l2 (i := i) (by rw [k8]; omega) (by omega)
      exact ⟨⟨ln' + 1, by omega, by rw [show B + 84 * (i + 1) = B + 84 * i + 84 by omega]; exact q1⟩, fun j hj => (q2 j hj).trans (k j hj), q3.trans k25⟩
section
variable {L : Nat} {xs : Nat → Int32} {d : Nat} {kp sp wd : Value} {I : z_I} {s : z_sg} {R : z_R} {J : z_J} {F : z_F} {cn : Nat} {Q : z_Q} {n k : Nat}
theorem lp_lns {f B ln sz : Nat} (h : oS s B ln) (hf : f < 2 ^ 30) (hB : B + 2400 < 2 ^ 29) (hln : ln + 100 < 2 ^ 30) (hsz : (s.2.1 8).toNatClampNeg = sz)
    (hQ : z_WP (z_X0 L xs) z_P0 (d + 10) m_Mod_goesOnce 129 [some (.ref 40), some (.int (nI f)), some (.int (nI sz))] [] (z_ms I (m_lns f sz s)) (z_R0 kp sp wd) J F cn 0 0 Q) :
    ∀ j i, i + j = sz → z_WP (z_X0 L xs) z_P0 (d + 10) m_Mod_goesOnce 68 [some (.ref 40), some (.int (nI f)), some (.int (nI i))] [] (z_ms I (m_lns f i s)) (z_R0 kp sp wd) J F cn 0 0 Q := by
  have h24 := h.1.2.1
  have h8 := h.1.1
  rw [hsz] at h24 h8
  intro j
  induction j with
  | zero =>
    intro i hi
    obtain rfl : i = sz := by omega
    have k8 := (lns_oS (f := f) h hB i (by omega)).2.1 8 (by omega)
    rw [h8] at k8
    generalize m_lns f i s = z at *
    obtain ⟨ff, w, y⟩ := z
    simp only at k8
    refine z_WP_gos [68, 129] 1000 fun K C hK hC => ?_
    conv => whnf
    repeat ((first | refine And.intro (by (conv => arg 2; whnf); (try simp only [z_lit, nI_add, pk_mul, z_pr1, z_pr2]); exact z_in (by omega) (by decide)) ?_ | refine z_bt1 (by decide) ?_ | refine z_bf1 (by decide) ?_ | refine z_bt2 (by decide) ?_ | refine z_bf2 (by decide) ?_); conv => whnf)
    simp (disch := omega) only [z_lit, nI_add, pk_mul, z_pr1, z_pr2, nI_clamp, z_m3_40, z_m3_41, z_m3_44, z_m3_u40, z_m3_u41, z_m3_u44, z_m3_m3, pk_us, pk_un]
    rw [k8]
    refine ⟨fun _ => ?_, fun h => absurd (Int32.le_refl _) h⟩
    conv => whnf
    refine hK _ _ _ _ _ _ _ _ _ _ (hQ)
  | succ j ih =>
    intro i hi
    have ih' := ih (i + 1) (by omega)
    obtain ⟨⟨ln', l1, l2⟩, k1, k2⟩ := lns_oS (f := f) h hB i (by omega)
    have e1 : m_lns f (i + 1) s = m_ln1 f (m_lns f i s) i := rfl
    rw [e1] at ih'
    have k8 := k1 8 (by omega)
    rw [h8] at k8
    generalize m_lns f i s = z at *
    have hz : (z.2.1 8).toNatClampNeg = sz := by rw [k8, nI_clamp (by omega)]
    have ho : ln_ok z.2.1 i := l2.1.2.2 i (by omega)
    obtain ⟨ff, w, y⟩ := z
    simp only at k8 hz ho
    unfold m_ln1 at ih'
    simp only at ih'
    refine z_WP_gos [68, 129] 1000 fun K C hK hC => ?_
    conv => whnf
    repeat ((first | refine And.intro (by (conv => arg 2; whnf); (try simp only [z_lit, nI_add, pk_mul, z_pr1, z_pr2]); exact z_in (by omega) (by decide)) ?_ | refine z_bt1 (by decide) ?_ | refine z_bf1 (by decide) ?_ | refine z_bt2 (by decide) ?_ | refine z_bf2 (by decide) ?_); conv => whnf)
    simp (disch := omega) only [z_lit, nI_add, pk_mul, z_pr1, z_pr2, nI_clamp, z_m3_40, z_m3_41, z_m3_44, z_m3_u40, z_m3_u41, z_m3_u44, z_m3_m3, pk_us, pk_un]
    rw [k8]
    refine ⟨fun h => absurd h (nI_ge (by omega) (by omega)), fun _ => ?_⟩
    conv => whnf
    refine hC _ _ _ _ _ _ _ _ _ _ (fun _ _ _ _ _ _ q => q) (sp_isDue (s := (ff, w, y)) (by omega) ho hf ?_)
    conv => whnf
    cases hd : s_due w i f <;> rw [hd] at ih'
    · repeat ((first | refine And.intro (by (conv => arg 2; whnf); (try simp only [z_lit, nI_add, pk_mul, z_pr1, z_pr2]); exact z_in (by omega) (by decide)) ?_ | refine z_bt1 (by decide) ?_ | refine z_bf1 (by decide) ?_ | refine z_bt2 (by decide) ?_ | refine z_bf2 (by decide) ?_); conv => whnf)
      rw [show nI i + 1 = nI (i + 1) from nI_1 _]
      refine hK _ _ _ _ _ _ _ _ _ _ (ih')
    · simp only [cond_true] at ih'
      unfold m_stp at ih'
      repeat ((first | refine And.intro (by (conv => arg 2; whnf); (try simp only [z_lit, nI_add, pk_mul, z_pr1, z_pr2]); exact z_in (by omega) (by decide)) ?_ | refine z_bt1 (by decide) ?_ | refine z_bf1 (by decide) ?_ | refine z_bt2 (by decide) ?_ | refine z_bf2 (by decide) ?_); conv => whnf)
      simp (disch := omega) only [z_lit, nI_add, pk_mul, z_pr1, z_pr2, nI_clamp, z_m3_40, z_m3_41, z_m3_44, z_m3_u40, z_m3_u41, z_m3_u44, z_m3_m3, pk_us, pk_un]
      refine hC _ _ _ _ _ _ _ _ _ _ (fun _ _ _ _ _ _ q => q) (sp_goes (s := m_f (ff, w, y) 29 (ff 29 + nI 1)) (B := B + 84 * i) (ln := ln') (by omega) ho l2.2.1 l2.2.2.1 (by omega) l2.2.2.2.1 l2.2.2.2.2 (by omega) ?_)
      conv => whnf
      simp only at ih'
      generalize m_goes (m_f (ff, w, y) 29 (ff 29 + nI 1)) i = G at ih' ⊢
      unfold m_f at ih'
      generalize s_out G = o at ih' ⊢
      generalize m_nt G i o = N at ih' ⊢
      obtain ⟨nf, nw, ny⟩ := N
      simp only at ih'
      cases hd : decide (o = 0) <;> rw [hd] at ih'
      · repeat ((first | refine And.intro (by (conv => arg 2; whnf); (try simp only [z_lit, nI_add, pk_mul, z_pr1, z_pr2]); exact z_in (by omega) (by decide)) ?_ | refine z_bt1 (by decide) ?_ | refine z_bf1 (by decide) ?_ | refine z_bt2 (by decide) ?_ | refine z_bf2 (by decide) ?_); conv => whnf)
        simp (disch := omega) only [z_lit, nI_add, pk_mul, z_pr1, z_pr2, nI_clamp, z_m3_40, z_m3_41, z_m3_44, z_m3_u40, z_m3_u41, z_m3_u44, z_m3_m3, pk_us, pk_un]
        refine hK _ _ _ _ _ _ _ _ _ _ (ih')
      · repeat ((first | refine And.intro (by (conv => arg 2; whnf); (try simp only [z_lit, nI_add, pk_mul, z_pr1, z_pr2]); exact z_in (by omega) (by decide)) ?_ | refine z_bt1 (by decide) ?_ | refine z_bf1 (by decide) ?_ | refine z_bt2 (by decide) ?_ | refine z_bf2 (by decide) ?_); conv => whnf)
        simp (disch := omega) only [z_lit, nI_add, pk_mul, z_pr1, z_pr2, nI_clamp, z_m3_40, z_m3_41, z_m3_44, z_m3_u40, z_m3_u41, z_m3_u44, z_m3_m3, pk_us, pk_un]
        refine hK _ _ _ _ _ _ _ _ _ _ (ih')
end
