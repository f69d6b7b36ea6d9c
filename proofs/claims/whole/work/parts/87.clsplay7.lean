/-! the class: a frame, whole -/
section
variable {L : Nat} {xs : Nat → Int32} {d : Nat} {kp sp wd : Value} {I : z_I} {s : z_sg} {R : z_R} {J : z_J} {F : z_F} {cn : Nat} {Q : z_Q} {n k : Nat}
theorem en_asks {l1 : Option Value} {I0 I4 : z_I} {F0 : z_F} {T : z_sg} {n0 k0 ln0 ln f : Nat} (h : zR I4 F T n k ln) (h9 : I4 1 9 = T.2.1 4) (h11 : I4 1 11 = T.2.1 6) (hsc : scR I4 T.2.1) (he : ev_ok T.2.1) (hg : gS T.2.1) (h2 : T.2.1 2 = nI f) (hf : f + 1 ≤ 9999) (hn : n + 300 < 2 ^ 30) (hk : k + 60 < 2 ^ 30)
    (hQ : ∀ I' n' k', hR I' F (m_post (m_ctl (m_asked T) ((m_asked T).1 24))).2.1 n' k' ln → aR I' (m_post (m_ctl (m_asked T) ((m_asked T).1 24))) → n' ≤ n + 240 → k' ≤ k + 40 → fr cP I4 I' → Q none I' (z_R0 kp sp wd) J F cn) : z_WP (z_X0 L xs) z_P0 (d + 7) m_Frames_play 118 [some (.ref 31), l1] [] I4 (z_R0 kp sp wd) J F cn 0 0 Q := by
  refine z_WP_gos [148] 1000 fun K C hK hC => ?_
  conv => whnf
  refine hC _ _ _ _ _ _ _ _ _ _ (fun _ _ _ _ _ _ q => q) (cf_askWanted h.1 hn hk (fun I5 n' k' hl hn' hk' hF => ?_))
  conv => whnf
  obtain ⟨q, hq⟩ := ask_qR (I3 := I4) h hl hF h9 h11 hsc he hg
  have a2 : (m_asked T).2.1 2 = nI f := (ask_o (s := T) (all := T.1 7) (j := 2) (by omega) 8 (Nat.le_refl _)).trans h2
  have hQ' := fun I' => hQ I' n' k'
  generalize m_asked T = A at *
  have c2 := (ctl_o (s := A) (t := A.1 24) (j := 2) (by decide) (by decide)).trans a2
  rcases hq with ⟨v1, v2⟩ | ⟨v1, v2, t, v3, v4⟩
  · rw [v1]
    have ec : m_ctl A (A.1 24) = A := if_pos v2
    rw [ec] at hQ'
    refine z_bt1 rfl ?_
    conv => whnf
    refine hK _ _ _ _ _ _ _ _ _ _ (en_frame q a2 hf (fun I' x y z => hQ' I' x y (by omega) (by omega) (fr_t (fr_m hF.1 (by decide)) (fr_m z (by decide)))))
  · rw [v1, v4] at *
    trace_state
    sorry
end
