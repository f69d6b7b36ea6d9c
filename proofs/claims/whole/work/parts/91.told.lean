/-! terminal, noise: the class's calls -/
section
variable {L : Nat} {xs : Nat → Int32} {d : Nat} {kp sp wd : Value} {I : z_I} {s : z_sg} {R : z_R} {J : z_J} {F : z_F} {cn : Nat} {Q : z_Q} {n k : Nat}
/-- home behind a change of what units and noises say -/
theorem hR_low {I' : z_I} {w w' : Nat → Int32} {ln : Nat} (h : hR I F w n k ln) (hb : bR I' F w' n k) (hI : fr [3, 12, 13] I I') (po : ∀ j, j < 15 ∨ 112 ≤ j → w' j = w j) : hR I' F w' n k ln := by
  obtain ⟨-, ⟨c5, c6, c7, c10⟩, ⟨r9, r8, r11⟩, ⟨p, tb, rt, hrt, ert⟩, hD, hJ, hsc, he, hg⟩ := h
  have i1 : I' 1 = I 1 := hI 1 (by decide)
  refine ⟨hb, ⟨?_, ?_, ?_, ?_⟩, ⟨?_, ?_, ?_⟩, ⟨?_, ?_, rt, hrt, ?_⟩, ?_, ?_, ?_, ?_, ?_⟩
  · rw [i1, po 0 (by omega)]; exact c5
  · rw [i1, po 1 (by omega)]; exact c6
  · rw [i1, po 2 (by omega)]; exact c7
  · rw [i1, po 7 (by omega)]; exact c10
  · rw [i1, po 4 (by omega)]; exact r9
  · rw [i1, po 3 (by omega)]; exact r8
  · rw [i1, po 6 (by omega)]; exact r11
  · exact pS_c p (by rw [hI 18 (by decide)]) (hI 19 (by decide)) (po 8 (by omega)) tb.2.1 (fun i f x y => po _ (by omega))
  · exact tb_c tb (po 8 (by omega)) (fun i f x y => po _ (by omega))
  · rw [po 1 (by omega)]; exact ert
  · exact pD_k hD tb.2.1 (hI 20 (by decide)) (hI 21 (by decide)) (hI 22 (by decide)) (fun j hj => po _ (by omega))
  · rw [hI 27 (by decide), hI 28 (by decide)]
    exact jR_k hJ (fun j hj => po _ (by omega))
  · exact scR_k hsc he.2.1 (hI 25 (by decide)) (hI 26 (by decide)) (fun j hj => po _ (by omega))
  · exact ev_k he (fun j hj => po _ (by omega))
  · exact ⟨fun c hc => by rw [po _ (by omega), po _ (by omega)]; exact hg.1 c hc, by rw [po 2 (by omega)]; exact hg.2⟩
theorem cb_terminal {t q v : Int32} {ln : Nat} (h : hR I F s.2.1 n k ln) (h1 : ∀ t' q' v' I', tmv t q v t' q' v' → hR I' F (m_w s (tpl q' + t') (nI v')).2.1 n k ln → fr [3] I I' → Q (some (.int 1)) I' (z_R0 kp sp wd) J F cn) (h0 : (∀ t' q' v', ¬ tmv t q v t' q' v') → Q (some (.int 0)) I (z_R0 kp sp wd) J F cn) :
    z_M (z_X0 L xs) z_P0 (d + 1) m_Bus_terminal [.ref 0, .int t, .int q, .int v] I (z_R0 kp sp wd) J F cn Q := by
  refine z_WP_gos [] 1000 fun K C hK hC => ?_
  conv => whnf
  refine hC _ _ _ _ _ _ _ _ _ _ (fun _ _ _ _ _ _ q => q) (cu_tell (fun t' q' v' ht => ?_) (fun ht => ?_))
  conv => whnf
  · refine ⟨Or.inr rfl, h1 t' q' v' _ ht (hR_low h (bR_tell h.1 ht (z_row_s _ _ _) (fun b hb => z_row_n _ _ hb) rfl) (fr_w fr_r (by decide)) (fun j hj => ?_)) (fr_w fr_r (by decide))⟩
    obtain ⟨-, -, -, x1, x2, x4, -⟩ := ht
    have hr : 31 ≤ tpl q' + t' ∧ tpl q' + t' < 112 := by
      unfold tpl
      by_cases z : q' = 0
      · rw [if_pos z]; omega
      · rw [if_neg z]
        have : t' < 8 := by
          rcases Nat.lt_or_eq_of_le x1 with y | y
          · exact y
          · exact absurd (x4 y) z
        omega
    exact pk_un (by omega)
  · exact ⟨Or.inl rfl, h0 ht⟩
theorem cb_noise {b v : Int32} {ln : Nat} (h : hR I F s.2.1 n k ln) (hn : n + 2000 < 2 ^ 30) (h1 : ∀ b' n' I', nzv b v b' n' → cntn s.2.1 b' 8 < 8 → hR I' F (m_noise s b' n').2.1 n k ln → fr [12, 13] I I' → Q (some (.int (nI (cntn (m_noise s b' n').2.1 b' 8)))) I' (z_R0 kp sp wd) J F cn) (h0 : (∀ b' n', nzv b v b' n' → cntn s.2.1 b' 8 = 8) → Q (some (.int (-1))) I (z_R0 kp sp wd) J F cn) :
    z_M (z_X0 L xs) z_P0 (d + 1) m_Bus_noise [.ref 0, .int b, .int v] I (z_R0 kp sp wd) J F cn Q := by
  refine z_WP_gos [] 1000 fun K C hK hC => ?_
  conv => whnf
  refine ⟨fun g => ?_, fun g => ?_⟩
  · conv => whnf
    refine h0 (fun x y z => absurd g (Int32.not_lt.mpr ?_))
    rw [z.1]; exact nI_pos' (by have := z.2.2.1; omega)
  conv => whnf
  refine ⟨fun g2 => ?_, fun g2 => ?_⟩
  · conv => whnf
    refine h0 (fun x y z => absurd g2 (Int32.not_lt.mpr ?_))
    rw [z.1]; exact nI_le (b := 1) (by have := z.2.2.1; omega) (by decide)
  conv => whnf
  refine ⟨fun g3 => ?_, fun g3 => ?_⟩
  · conv => whnf
    refine h0 (fun x y z => absurd g3 (Int32.not_lt.mpr ?_))
    rw [z.2.1]; exact nI_le (a := 1) z.2.2.2.1 (by have := z.2.2.2.2; omega)
  conv => whnf
  have a1 : nI 0 ≤ b := Int32.not_lt.mp g
  have a2 : b ≤ nI 1 := Int32.not_lt.mp g2
  have a3 : nI 1 ≤ v := Int32.not_lt.mp g3
  obtain ⟨b', hb, eb⟩ := isIn_nat (b := 1) (by decide) a1 a2
  subst eb
  refine ⟨fun g4 => ?_, fun g4 => ?_⟩
  · obtain ⟨n', hn', en⟩ := isIn_nat (b := 999) (by decide) (Int32.le_trans (by decide) a3) g4
    subst en
    have hn1 : 1 ≤ n' := by
      apply Nat.le_of_not_lt; intro z
      exact nI_ge (a := n') (b := 1) z (by decide) a3
    conv => whnf
    refine hC _ _ _ _ _ _ _ _ _ _ (fun _ _ _ _ _ _ q => q) (cw_addNoise (s := s) (by omega) hn1 hn' hn h.1.2.1 (fun e => ?_) (fun e I' f wr => ?_))
    conv => whnf
    · refine h0 (fun x y z => ?_)
      have : b' = x := nI_inj9 (by omega) (by have := z.2.2.1; omega) z.1
      rw [← this]; exact e
    · have fs := fr_spec (w := s.2.1) (b := b') 8 0 rfl rfl e
      exact h1 b' n' I' ⟨rfl, rfl, by omega, hn1, hn'⟩ e (hR_low h (bR_noise h.1 (by omega) e f wr) (fr_m f (by decide)) (fun j hj => pk_un (by omega))) f
  · conv => whnf
    refine h0 (fun x y z => absurd ?_ g4)
    rw [z.2.1]; exact nI_le (b := 999) z.2.2.2.2 (by decide)
end
