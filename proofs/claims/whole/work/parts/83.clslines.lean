/-! the class: the lines of a frame -/
section
variable {L : Nat} {xs : Nat → Int32} {d : Nat} {kp sp wd : Value} {I : z_I} {s : z_sg} {R : z_R} {J : z_J} {F : z_F} {cn : Nat} {Q : z_Q} {n k : Nat}
theorem zR_oS {ln : Nat} (h : zR I F s n k ln) : oS s (n + k) ln := by
  obtain ⟨⟨⟨y1, y2, y3, y5, y6, y7⟩, g, c, p, tb, rt⟩, hD, hJ, -⟩ := h
  exact ⟨tb, rt, hJ.2.2.2.2.1, ⟨n, k, y2.1.2.2.2.2.2.2.2.2.1, y2.2.2.2.2.2.2.1, by omega, by omega⟩, g.2⟩
theorem lp_plays {f sz ln : Nat} (h : zR I F s n k ln) (h8 : s.2.1 8 = nI sz) (h24 : sz ≤ 24) (h2 : s.2.1 2 = nI f) (hf : f < 2 ^ 30) (hn : n + k + 4000 < 2 ^ 29) (hln : ln + 100 < 2 ^ 30)
    (hQ : ∀ I' F' n' k' ln', zR I' F' (m_lns f sz s) n' k' ln' → n' ≤ n + 120 * sz → k' ≤ k + 20 * sz → ln' ≤ ln + sz → pF I I' → (∀ b, b ≠ 8 → F' b = F b) → z_WP (z_X0 L xs) z_P0 (d + 7) m_Frames_play 118 [some (.ref 31), some (.int (nI sz))] [] I' (z_R0 kp sp wd) J F' cn 0 0 Q) :
    ∀ j i I' F' n' k' ln', i + j = sz → zR I' F' (m_lns f i s) n' k' ln' → n' ≤ n + 120 * i → k' ≤ k + 20 * i → ln' ≤ ln + i → pF I I' → (∀ b, b ≠ 8 → F' b = F b) → z_WP (z_X0 L xs) z_P0 (d + 7) m_Frames_play 72 [some (.ref 31), some (.int (nI i))] [] I' (z_R0 kp sp wd) J F' cn 0 0 Q := by
  have hs := zR_oS h
  have hc8 : (s.2.1 8).toNatClampNeg = sz := by rw [h8, nI_clamp (by omega)]
  intro j
  induction j with
  | zero =>
    intro i I' F' n' k' ln' hi x hn' hk' hl' pf ff
    obtain rfl : i = sz := by omega
    have w8 := (lns_oS (f := f) hs (by omega) i (by omega)).2.1 8 (by omega)
    have e18 : I' 18 5 = nI i := by rw [x.1.2.2.2.1.1, w8, h8]
    have q := hQ I' F' n' k' ln' x hn' hk' hl' pf ff
    generalize m_lns f i s = z at *
    refine z_WP_gos [72, 118] 1000 fun K C hK hC => ?_
    conv => whnf
    rw [e18]
    refine ⟨fun _ => ?_, fun h => absurd (Int32.le_refl _) h⟩
    conv => whnf
    refine hK _ _ _ _ _ _ _ _ _ _ (q)
  | succ j ih =>
    intro i I' F' n' k' ln' hi x hn' hk' hl' pf ff
    have ih' := ih (i + 1)
    have e1 : m_lns f (i + 1) s = m_ln1 f (m_lns f i s) i := rfl
    rw [e1] at ih'
    obtain ⟨-, kk, -⟩ := lns_oS (f := f) hs (by omega) i (by omega)
    have w8 := (kk 8 (by omega)).trans h8
    have w2 := (kk 2 (by omega)).trans h2
    generalize m_lns f i s = z at *
    have hz : (z.2.1 8).toNatClampNeg = sz := by rw [w8, nI_clamp (by omega)]
    have e18 : I' 18 5 = nI sz := by rw [x.1.2.2.2.1.1, w8]
    have e17 : I' 1 7 = nI f := by rw [x.1.1.2.2.1.1, w2]
    have ho : ln_ok z.2.1 i := x.1.2.2.2.2.1.2.2 i (by omega)
    unfold m_ln1 at ih'
    refine z_WP_gos [72, 118] 1000 fun K C hK hC => ?_
    conv => whnf
    rw [e18]
    refine ⟨fun h => absurd h (nI_ge (by omega) (by omega)), fun _ => ?_⟩
    conv => whnf
    rw [e17]
    refine hC _ _ _ _ _ _ _ _ _ _ (fun _ _ _ _ _ _ q => q) (cp_isDue (w := z.2.1) x.1.2.2.2.1 (by omega) (by omega) ho hf ?_)
    conv => whnf
    cases hd : s_due z.2.1 i f <;> rw [hd] at ih'
    · repeat ((first | refine And.intro (by (conv => arg 2; whnf); (try simp only [z_lit, nI_add, pk_mul, z_pr1, z_pr2]); exact z_in (by omega) (by decide)) ?_ | refine z_bt1 (by decide) ?_ | refine z_bf1 (by decide) ?_ | refine z_bt2 (by decide) ?_ | refine z_bf2 (by decide) ?_); conv => whnf)
      rw [show nI i + 1 = nI (i + 1) from nI_1 _]
      refine hK _ _ _ _ _ _ _ _ _ _ (ih' I' F' n' k' ln' (by omega) x (by omega) (by omega) (by omega) pf ff)
    · repeat ((first | refine And.intro (by (conv => arg 2; whnf); (try simp only [z_lit, nI_add, pk_mul, z_pr1, z_pr2]); exact z_in (by omega) (by decide)) ?_ | refine z_bt1 (by decide) ?_ | refine z_bf1 (by decide) ?_ | refine z_bt2 (by decide) ?_ | refine z_bf2 (by decide) ?_); conv => whnf)
      refine hC _ _ _ _ _ _ _ _ _ _ (fun _ _ _ _ _ _ q => q) (cf_playLine x (by omega) (by omega) (by omega) (by omega) (fun I'' F'' n'' k'' x'' a b c e => ?_))
      conv => whnf
      rw [show nI i + 1 = nI (i + 1) from nI_1 _]
      refine hK _ _ _ _ _ _ _ _ _ _ (ih' I'' F'' n'' k'' (ln' + 1) (by omega) x'' (by omega) (by omega) (by omega) (pF_t pf c) (fun b hb => (e b hb).trans (ff b hb)))
end
