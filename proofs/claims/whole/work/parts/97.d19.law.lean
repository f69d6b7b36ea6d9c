/-! the law's loop and its start -/
theorem nI_sub6 {L c : Nat} (hL : L ≤ 3072) (hc : c ≤ 512) (h : ¬ nI L - nI 6 < nI (6 * c)) : 6 * c + 5 < L := by
  apply Nat.lt_of_not_le
  intro z
  apply h
  rw [Int32.lt_iff_toInt_lt, Int32.toInt_sub, nI_toInt (by omega), nI_toInt (by omega), nI_toInt (by omega)]
  rw [Int.bmod_eq_of_le (by omega) (by omega)]
  omega
section
variable {L : Nat} {xs : Nat → Int32} {kp sp wd : Value} {I : z_I} {J : z_J} {F : z_F} {cn c uc us : Nat} {Q : z_Q}
def LO (L : Nat) (xs : Nat → Int32) (c : Nat) (Q : z_Q) : Prop := ∀ (kp sp wd : Value) (cn : Nat) (I : z_I) (J : z_J) (F : z_F) (uc us : Nat), uc ≤ 50 + 28 * c → us ≤ 30000 + 3195 * c → LI kp sp cn I F c → z_WP (z_X0 L xs) z_P0 60 m_Law_law 18 [some (.retAddr 1), some (.ref 0), some (.ref 40), some (.int (nI (6 * c)))] [] I (z_R0 kp sp wd) J F cn uc us Q
set_option maxRecDepth 100000 in
theorem lz_next (ih : LO L xs (c + 1) Q) (hu : uc ≤ 50 + 28 * c) (hs : us ≤ 30000 + 3195 * c) : LN L xs c uc us Q := by
  intro kp sp wd cn I J F uc' us' h1 h2 hLI
  have q := ih kp sp wd cn I J F uc' us' (by omega) (by omega) hLI
  have e : nI (6 * c) + nI 6 = nI (6 * (c + 1)) := by rw [nI_add]; rfl
  rw [← e] at q
  refine z_WP_gos [18] 1000 fun K C hK hC => ?_
  conv => whnf
  refine hK _ _ _ _ _ _ _ _ _ _ (q)
set_option maxRecDepth 100000 in
theorem lz_loop (hL : L ≤ 3072) (hQ : ∀ I R J F cn, Q (some (.int 1)) I R J F cn) : ∀ n c, c + n = 512 → LO L xs c Q := by
  intro n
  induction n with
  | zero =>
    intro c hc kp sp wd cn I J F uc us hu hs h
    refine z_WP_gos [33] 1000 fun K C hK hC => ?_
    conv => whnf
    refine ⟨fun _ => ?_, fun z => ?_⟩
    · conv => whnf
      exact ⟨Or.inr rfl, hQ _ _ _ _ _⟩
    · have := nI_sub6 hL (by omega) z
      omega
  | succ n ih =>
    intro c hc kp sp wd cn I J F uc us hu hs h
    have ih := ih (c + 1) (by omega)
    have hN := lz_next (xs := xs) ih hu hs
    refine z_WP_gos [33] 1000 fun K C hK hC => ?_
    conv => whnf
    refine ⟨fun _ => ?_, fun z => ?_⟩
    · conv => whnf
      exact ⟨Or.inr rfl, hQ _ _ _ _ _⟩
    have hv := nI_sub6 hL (by omega) z
    conv => whnf
    refine And.intro (lw_in0 hv hL) ?_
    conv => whnf
    refine hK _ _ _ _ _ _ _ _ _ _ ?_
    obtain ⟨j, hj, e⟩ := pk_andE (((z_X0 L xs).snd.fst 1).snd.snd (nI (6 * c)).toNatClampNeg) (m := nI 31) 5 (by decide)
    show z_WP (z_X0 L xs) z_P0 60 m_Law_law 33 [some (.retAddr 1), some (.ref 0), some (.ref 40), some (.int (nI (6 * c)))] [.int (((z_X0 L xs).snd.fst 1).snd.snd (nI (6 * c)).toNatClampNeg &&& nI 31)] I (z_R0 kp sp wd) J F cn uc us Q
    rw [e]
    have hu' : uc + 28 ≤ 600000 := by omega
    have hs' : us + 3195 ≤ 7302250 := by omega
    have hc' : c < 512 := by omega
    clear hK hC
    clear e
    have cs : j = 0 ∨ j = 1 ∨ j = 2 ∨ j = 3 ∨ j = 4 ∨ j = 5 ∨ j = 6 ∨ j = 7 ∨ j = 8 ∨ j = 9 ∨ j = 10 ∨ j = 11 ∨ j = 12 ∨ j = 13 ∨ j = 14 ∨ j = 15 ∨ j = 16 ∨ j = 17 ∨ j = 18 ∨ j = 19 ∨ j = 20 ∨ j = 21 ∨ j = 22 ∨ j = 23 ∨ j = 24 ∨ j = 25 ∨ j = 26 ∨ j = 27 ∨ j = 28 ∨ j = 29 ∨ j = 30 ∨ j = 31 := by omega
    rcases cs with rfl | rfl | rfl | rfl | rfl | rfl | rfl | rfl | rfl | rfl | rfl | rfl | rfl | rfl | rfl | rfl | rfl | rfl | rfl | rfl | rfl | rfl | rfl | rfl | rfl | rfl | rfl | rfl | rfl | rfl | rfl | rfl
    · exact z_WP_ts 172 rfl rfl (lz_set hv hL hc' hu' hs' h hN)
    · exact z_WP_ts 205 rfl rfl (lz_terminal hv hL hc' hu' hs' h hN)
    · exact z_WP_ts 248 rfl rfl (lz_word hv hL hc' hu' hs' h hN)
    · exact z_WP_ts 301 rfl rfl (lz_signal hv hL hc' hu' hs' h hN)
    · exact z_WP_ts 354 rfl rfl (lz_noise hv hL hc' hu' hs' h hN)
    · exact z_WP_ts 387 rfl rfl (lz_frame hv hL hc' hu' hs' h hN)
    · exact z_WP_ts 410 rfl rfl (lz_once hv hL hc' hu' hs' h hN)
    · exact z_WP_ts 473 rfl rfl (lz_feed hv hL hc' hu' hs' h hN)
    · exact z_WP_ts 536 rfl rfl (lz_end hv hL hc' hu' hs' h hN)
    · exact z_WP_ts 559 rfl rfl (lz_table hv hL hc' hu' hs' h hN)
    · exact z_WP_ts 572 rfl rfl (lz_events hv hL hc' hu' hs' h hN)
    · exact z_WP_ts 585 rfl rfl (lz_event hv hL hc' hu' hs' h hN)
    · exact z_WP_ts 618 rfl rfl (lz_count hv hL hc' hu' hs' h hN)
    · exact z_WP_ts 651 rfl rfl (lz_fault hv hL hc' hu' hs' h hN)
    · exact z_WP_ts 674 rfl rfl (lz_line hv hL hc' hu' hs' h hN)
    · exact z_WP_ts 707 rfl rfl (lz_load hv hL hc' hu' hs' h hN)
    · exact z_WP_ts 740 rfl rfl (lz_fits hv hL hc' hu' hs' h hN)
    · exact z_WP_ts 763 rfl rfl (lz_spread hv hL hc' hu' hs' h hN)
    · exact z_WP_ts 796 rfl rfl (lz_of hv hL hc' hu' hs' h hN)
    · exact z_WP_ts 829 rfl rfl (lz_at hv hL hc' hu' hs' h hN)
    · exact z_WP_ts 882 rfl rfl (lz_smooth hv hL hc' hu' hs' h hN)
    · exact z_WP_ts 925 rfl rfl (lz_log hv hL hc' hu' hs' h hN)
    · exact z_WP_ts 958 rfl rfl (lz_trail hv hL hc' hu' hs' h hN)
    · exact z_WP_ts 981 rfl rfl (lz_heard hv hL hc' hu' hs' h hN)
    · exact z_WP_ts 1014 rfl rfl (lz_bus hv hL hc' hu' hs' h hN)
    · exact z_WP_ts 1047 rfl rfl (lz_tally hv hL hc' hu' hs' h hN)
    · exact z_WP_ts 1080 rfl rfl (lz_waits hv hL hc' hu' hs' h hN)
    · exact z_WP_ts 1103 rfl rfl (lz_parity hv hL hc' hu' hs' h hN)
    · exact z_WP_ts 1126 rfl rfl (lz_would hv hL hc' hu' hs' h hN)
    · exact z_WP_ts 1159 rfl rfl (lz_image hv hL hc' hu' hs' h hN)
    · exact z_WP_ts 1198 rfl rfl (lz_look hv hL hc' hu' hs' h hN)
    · exact z_WP_ts 1221 rfl rfl (hN kp sp wd cn I J F uc us (Nat.le_add_right _ _) (Nat.le_add_right _ _) (LI_s h))
set_option maxRecDepth 100000 in
theorem LI_ini {I : z_I} {F : z_F} (hF : F 8 = fun _ => 0) : LI .null .null 50 (Iz I) F 0 := by
  have e41 : Iz I 41 = V2 8 := rfl
  have a : I = I := rfl
  refine ⟨⟨0, 0, 0, 2000, by rw [e41]; exact hR_ini hF, by decide, by decide, by decide, hL_ini, rfl, by decide⟩, Or.inl rfl, ⟨fun _ => 0, 0, by decide, fun k hk => absurd hk (Nat.not_lt_zero _), fun k hk => absurd hk (Nat.not_lt_zero _), rfl, rfl⟩, ⟨rfl, rfl⟩, Or.inl ⟨rfl, rfl⟩, Or.inl ⟨rfl, rfl, rfl⟩⟩
set_option maxRecDepth 100000 in
theorem z_law2 (hL : L ≤ 3072) (hQ : ∀ I R J F cn, Q (some (.int 1)) I R J F cn) : z_WP (z_X0 L xs) z_P0 60 m_Law_law 0 (z_ent 4 [.retAddr 1]) [] I (z_R0 .null .null (.retAddr 2)) J F 0 0 0 Q := by
  have lo := lz_loop (xs := xs) hL hQ 512 0 rfl
  refine z_WP_gos [18] 1000 fun K C hK hC => ?_
  conv => whnf
  refine And.intro (by simp only [X_sh, X_bd]; decide) ?_
  conv => whnf
  refine And.intro (by simp only [X_sh, X_bd]; decide) ?_
  refine hC _ _ _ _ _ _ _ _ _ _ (fun _ _ _ _ _ _ q => q) (ci_bus (d := 56) (fun J1 F1 h8 => ?_))
  conv => whnf
  refine And.intro (by simp only [X_sh, X_bd]; decide) ?_
  conv => whnf
  refine And.intro (by simp only [X_sh, X_bd]; decide) ?_
  refine hC _ _ _ _ _ _ _ _ _ _ (fun _ _ _ _ _ _ q => q) (ci_mod (d := 59) (I := Ib (z_row I 0 fun _ => 0)) (R := z_R0 .null .null (.retAddr 2)) (fun J2 F2 h9 => ?_))
  conv => whnf
  have eR : z_row (z_R0 .null .null (.retAddr 2)) 40 (rz 40) = z_R0 .null .null (.retAddr 2) := z_row_idJ (z_R0 .null .null (.retAddr 2)) 40
  rw [eR]
  refine hK _ _ _ _ _ _ _ _ _ _ ?_
  refine lo .null .null (.retAddr 2) 50 (Iz (z_row I 0 fun _ => 0)) J2 F2 _ _ ?_ ?_ (LI_ini (h9.trans h8))
  · simp only [X_sh, X_bd]; decide
  · simp only [X_sh, X_bd]; decide
end
