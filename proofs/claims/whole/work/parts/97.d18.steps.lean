/-! the law: one command -/
section
variable {L : Nat} {xs : Nat → Int32} {kp sp wd : Value} {I : z_I} {J : z_J} {F : z_F} {cn c uc us : Nat} {Q : z_Q}
theorem lw_in {k : Nat} (h : 6 * c + 5 < L) (hL : L ≤ 3072) (hk : k ≤ 5) : vp_in (nI (6 * c) + nI k) L := by
  rw [nI_add]; exact z_in (by omega) (by omega)
theorem lw_in0 (h : 6 * c + 5 < L) (hL : L ≤ 3072) : vp_in (nI (6 * c)) L := z_in (by omega) (by omega)
/-- where a command ends -/
def LN (L : Nat) (xs : Nat → Int32) (c uc us : Nat) (Q : z_Q) : Prop := ∀ (kp sp wd : Value) (cn : Nat) (I : z_I) (J : z_J) (F : z_F) (uc' us' : Nat), uc' ≤ uc + 28 → us' ≤ us + 3195 → LI kp sp cn I F (c + 1) → z_WP (z_X0 L xs) z_P0 60 m_Law_law 1221 [some (.retAddr 1), some (.ref 0), some (.ref 40), some (.int (nI (6 * c)))] [] I (z_R0 kp sp wd) J F cn uc' us' Q
set_option maxRecDepth 100000 in
theorem lz_set (hv : 6 * c + 5 < L) (hL : L ≤ 3072) (hc : c < 512) (hu : uc + 28 ≤ 600000) (hs : us + 3195 ≤ 7302250) (h : LI kp sp cn I F c) (hN : LN L xs c uc us Q) : z_WP (z_X0 L xs) z_P0 60 m_Law_law 172 [some (.retAddr 1), some (.ref 0), some (.ref 40), some (.int (nI (6 * c)))] [] I (z_R0 kp sp wd) J F cn uc us Q := by
  refine z_WP_gos [1221] 1000 fun K C hK hC => ?_
  conv => whnf
  refine And.intro (lw_in (k := 1) hv hL (by decide)) ?_
  conv => whnf
  refine And.intro (lw_in (k := 2) hv hL (by decide)) ?_
  conv => whnf
  refine hC _ _ _ _ _ _ _ _ _ _ (fun r1 I1 R1 J1 F1 cn1 q => ?_) (pf_set hc h)
  obtain ⟨v, rfl, q⟩ := q
  conv => whnf
  refine And.intro (lw_in (k := 1) hv hL (by decide)) ?_
  conv => whnf
  refine And.intro (lw_in (k := 2) hv hL (by decide)) ?_
  conv => whnf
  refine hC _ _ _ _ _ _ _ _ _ _ (fun r2 I2 R2 J2 F2 cn2 q => ?_) q
  obtain ⟨rfl, kp', sp', wd', rfl, hLI⟩ := q
  conv => whnf
  refine z_bt1 rfl ?_
  exact hK _ _ _ _ _ _ _ _ _ _ (hN kp' sp' wd' cn2 I2 J2 F2 _ _ (Nat.le_add_right _ _) (Nat.le_add_right _ _) hLI)
set_option maxRecDepth 100000 in
theorem lz_terminal (hv : 6 * c + 5 < L) (hL : L ≤ 3072) (hc : c < 512) (hu : uc + 28 ≤ 600000) (hs : us + 3195 ≤ 7302250) (h : LI kp sp cn I F c) (hN : LN L xs c uc us Q) : z_WP (z_X0 L xs) z_P0 60 m_Law_law 205 [some (.retAddr 1), some (.ref 0), some (.ref 40), some (.int (nI (6 * c)))] [] I (z_R0 kp sp wd) J F cn uc us Q := by
  refine z_WP_gos [1221] 1000 fun K C hK hC => ?_
  conv => whnf
  refine And.intro (lw_in (k := 1) hv hL (by decide)) ?_
  conv => whnf
  refine And.intro (lw_in (k := 2) hv hL (by decide)) ?_
  conv => whnf
  refine And.intro (lw_in (k := 3) hv hL (by decide)) ?_
  conv => whnf
  refine hC _ _ _ _ _ _ _ _ _ _ (fun r1 I1 R1 J1 F1 cn1 q => ?_) (pf_terminal hc h)
  obtain ⟨v, rfl, q⟩ := q
  conv => whnf
  refine And.intro (lw_in (k := 1) hv hL (by decide)) ?_
  conv => whnf
  refine And.intro (lw_in (k := 2) hv hL (by decide)) ?_
  conv => whnf
  refine And.intro (lw_in (k := 3) hv hL (by decide)) ?_
  conv => whnf
  refine hC _ _ _ _ _ _ _ _ _ _ (fun r2 I2 R2 J2 F2 cn2 q => ?_) q
  obtain ⟨rfl, kp', sp', wd', rfl, hLI⟩ := q
  conv => whnf
  refine z_bt1 rfl ?_
  exact hK _ _ _ _ _ _ _ _ _ _ (hN kp' sp' wd' cn2 I2 J2 F2 _ _ (Nat.le_add_right _ _) (Nat.le_add_right _ _) hLI)
set_option maxRecDepth 100000 in
theorem lz_word (hv : 6 * c + 5 < L) (hL : L ≤ 3072) (hc : c < 512) (hu : uc + 28 ≤ 600000) (hs : us + 3195 ≤ 7302250) (h : LI kp sp cn I F c) (hN : LN L xs c uc us Q) : z_WP (z_X0 L xs) z_P0 60 m_Law_law 248 [some (.retAddr 1), some (.ref 0), some (.ref 40), some (.int (nI (6 * c)))] [] I (z_R0 kp sp wd) J F cn uc us Q := by
  refine z_WP_gos [1221] 1000 fun K C hK hC => ?_
  conv => whnf
  refine And.intro (lw_in (k := 1) hv hL (by decide)) ?_
  conv => whnf
  refine And.intro (lw_in (k := 2) hv hL (by decide)) ?_
  conv => whnf
  refine And.intro (lw_in (k := 3) hv hL (by decide)) ?_
  conv => whnf
  refine And.intro (lw_in (k := 4) hv hL (by decide)) ?_
  conv => whnf
  refine hC _ _ _ _ _ _ _ _ _ _ (fun r1 I1 R1 J1 F1 cn1 q => ?_) (pf_word hc h)
  obtain ⟨v, rfl, q⟩ := q
  conv => whnf
  refine And.intro (lw_in (k := 1) hv hL (by decide)) ?_
  conv => whnf
  refine And.intro (lw_in (k := 2) hv hL (by decide)) ?_
  conv => whnf
  refine And.intro (lw_in (k := 3) hv hL (by decide)) ?_
  conv => whnf
  refine And.intro (lw_in (k := 4) hv hL (by decide)) ?_
  conv => whnf
  refine hC _ _ _ _ _ _ _ _ _ _ (fun r2 I2 R2 J2 F2 cn2 q => ?_) q
  obtain ⟨rfl, kp', sp', wd', rfl, hLI⟩ := q
  conv => whnf
  refine z_bt1 rfl ?_
  exact hK _ _ _ _ _ _ _ _ _ _ (hN kp' sp' wd' cn2 I2 J2 F2 _ _ (Nat.le_add_right _ _) (Nat.le_add_right _ _) hLI)
set_option maxRecDepth 100000 in
theorem lz_signal (hv : 6 * c + 5 < L) (hL : L ≤ 3072) (hc : c < 512) (hu : uc + 28 ≤ 600000) (hs : us + 3195 ≤ 7302250) (h : LI kp sp cn I F c) (hN : LN L xs c uc us Q) : z_WP (z_X0 L xs) z_P0 60 m_Law_law 301 [some (.retAddr 1), some (.ref 0), some (.ref 40), some (.int (nI (6 * c)))] [] I (z_R0 kp sp wd) J F cn uc us Q := by
  refine z_WP_gos [1221] 1000 fun K C hK hC => ?_
  conv => whnf
  refine And.intro (lw_in (k := 1) hv hL (by decide)) ?_
  conv => whnf
  refine And.intro (lw_in (k := 2) hv hL (by decide)) ?_
  conv => whnf
  refine And.intro (lw_in (k := 3) hv hL (by decide)) ?_
  conv => whnf
  refine And.intro (lw_in (k := 4) hv hL (by decide)) ?_
  conv => whnf
  refine hC _ _ _ _ _ _ _ _ _ _ (fun r1 I1 R1 J1 F1 cn1 q => ?_) (pf_signal hc h)
  obtain ⟨v, rfl, q⟩ := q
  conv => whnf
  refine And.intro (lw_in (k := 1) hv hL (by decide)) ?_
  conv => whnf
  refine And.intro (lw_in (k := 2) hv hL (by decide)) ?_
  conv => whnf
  refine And.intro (lw_in (k := 3) hv hL (by decide)) ?_
  conv => whnf
  refine And.intro (lw_in (k := 4) hv hL (by decide)) ?_
  conv => whnf
  refine hC _ _ _ _ _ _ _ _ _ _ (fun r2 I2 R2 J2 F2 cn2 q => ?_) q
  obtain ⟨rfl, kp', sp', wd', rfl, hLI⟩ := q
  conv => whnf
  refine z_bt1 rfl ?_
  exact hK _ _ _ _ _ _ _ _ _ _ (hN kp' sp' wd' cn2 I2 J2 F2 _ _ (Nat.le_add_right _ _) (Nat.le_add_right _ _) hLI)
set_option maxRecDepth 100000 in
theorem lz_noise (hv : 6 * c + 5 < L) (hL : L ≤ 3072) (hc : c < 512) (hu : uc + 28 ≤ 600000) (hs : us + 3195 ≤ 7302250) (h : LI kp sp cn I F c) (hN : LN L xs c uc us Q) : z_WP (z_X0 L xs) z_P0 60 m_Law_law 354 [some (.retAddr 1), some (.ref 0), some (.ref 40), some (.int (nI (6 * c)))] [] I (z_R0 kp sp wd) J F cn uc us Q := by
  refine z_WP_gos [1221] 1000 fun K C hK hC => ?_
  conv => whnf
  refine And.intro (lw_in (k := 1) hv hL (by decide)) ?_
  conv => whnf
  refine And.intro (lw_in (k := 2) hv hL (by decide)) ?_
  conv => whnf
  refine hC _ _ _ _ _ _ _ _ _ _ (fun r1 I1 R1 J1 F1 cn1 q => ?_) (pf_noise hc h)
  obtain ⟨v, rfl, q⟩ := q
  conv => whnf
  refine And.intro (lw_in (k := 1) hv hL (by decide)) ?_
  conv => whnf
  refine And.intro (lw_in (k := 2) hv hL (by decide)) ?_
  conv => whnf
  refine hC _ _ _ _ _ _ _ _ _ _ (fun r2 I2 R2 J2 F2 cn2 q => ?_) q
  obtain ⟨rfl, kp', sp', wd', rfl, hLI⟩ := q
  conv => whnf
  refine z_bt1 rfl ?_
  exact hK _ _ _ _ _ _ _ _ _ _ (hN kp' sp' wd' cn2 I2 J2 F2 _ _ (Nat.le_add_right _ _) (Nat.le_add_right _ _) hLI)
set_option maxRecDepth 100000 in
theorem lz_frame (hv : 6 * c + 5 < L) (hL : L ≤ 3072) (hc : c < 512) (hu : uc + 28 ≤ 600000) (hs : us + 3195 ≤ 7302250) (h : LI kp sp cn I F c) (hN : LN L xs c uc us Q) : z_WP (z_X0 L xs) z_P0 60 m_Law_law 387 [some (.retAddr 1), some (.ref 0), some (.ref 40), some (.int (nI (6 * c)))] [] I (z_R0 kp sp wd) J F cn uc us Q := by
  refine z_WP_gos [1221] 1000 fun K C hK hC => ?_
  conv => whnf
  refine And.intro (lw_in (k := 1) hv hL (by decide)) ?_
  conv => whnf
  refine hC _ _ _ _ _ _ _ _ _ _ (fun r1 I1 R1 J1 F1 cn1 q => ?_) (pf_frame hc h)
  obtain ⟨v, rfl, q⟩ := q
  conv => whnf
  refine And.intro (lw_in (k := 1) hv hL (by decide)) ?_
  conv => whnf
  refine hC _ _ _ _ _ _ _ _ _ _ (fun r2 I2 R2 J2 F2 cn2 q => ?_) q
  obtain ⟨rfl, kp', sp', wd', rfl, hLI⟩ := q
  conv => whnf
  refine z_bt1 rfl ?_
  exact hK _ _ _ _ _ _ _ _ _ _ (hN kp' sp' wd' cn2 I2 J2 F2 _ _ (Nat.le_add_right _ _) (Nat.le_add_right _ _) hLI)
set_option maxRecDepth 100000 in
theorem lz_once (hv : 6 * c + 5 < L) (hL : L ≤ 3072) (hc : c < 512) (hu : uc + 28 ≤ 600000) (hs : us + 3195 ≤ 7302250) (h : LI kp sp cn I F c) (hN : LN L xs c uc us Q) : z_WP (z_X0 L xs) z_P0 60 m_Law_law 410 [some (.retAddr 1), some (.ref 0), some (.ref 40), some (.int (nI (6 * c)))] [] I (z_R0 kp sp wd) J F cn uc us Q := by
  refine z_WP_gos [1221] 1000 fun K C hK hC => ?_
  conv => whnf
  refine And.intro (lw_in (k := 1) hv hL (by decide)) ?_
  conv => whnf
  refine And.intro (lw_in (k := 2) hv hL (by decide)) ?_
  conv => whnf
  refine And.intro (lw_in (k := 3) hv hL (by decide)) ?_
  conv => whnf
  refine And.intro (lw_in (k := 4) hv hL (by decide)) ?_
  conv => whnf
  refine And.intro (lw_in (k := 5) hv hL (by decide)) ?_
  conv => whnf
  refine hC _ _ _ _ _ _ _ _ _ _ (fun r1 I1 R1 J1 F1 cn1 q => ?_) (pf_once hc h)
  obtain ⟨v, rfl, q⟩ := q
  conv => whnf
  refine And.intro (lw_in (k := 1) hv hL (by decide)) ?_
  conv => whnf
  refine And.intro (lw_in (k := 2) hv hL (by decide)) ?_
  conv => whnf
  refine And.intro (lw_in (k := 3) hv hL (by decide)) ?_
  conv => whnf
  refine And.intro (lw_in (k := 4) hv hL (by decide)) ?_
  conv => whnf
  refine And.intro (lw_in (k := 5) hv hL (by decide)) ?_
  conv => whnf
  refine hC _ _ _ _ _ _ _ _ _ _ (fun r2 I2 R2 J2 F2 cn2 q => ?_) q
  obtain ⟨rfl, kp', sp', wd', rfl, hLI⟩ := q
  conv => whnf
  refine z_bt1 rfl ?_
  exact hK _ _ _ _ _ _ _ _ _ _ (hN kp' sp' wd' cn2 I2 J2 F2 _ _ (Nat.le_add_right _ _) (Nat.le_add_right _ _) hLI)
set_option maxRecDepth 100000 in
theorem lz_feed (hv : 6 * c + 5 < L) (hL : L ≤ 3072) (hc : c < 512) (hu : uc + 28 ≤ 600000) (hs : us + 3195 ≤ 7302250) (h : LI kp sp cn I F c) (hN : LN L xs c uc us Q) : z_WP (z_X0 L xs) z_P0 60 m_Law_law 473 [some (.retAddr 1), some (.ref 0), some (.ref 40), some (.int (nI (6 * c)))] [] I (z_R0 kp sp wd) J F cn uc us Q := by
  refine z_WP_gos [1221] 1000 fun K C hK hC => ?_
  conv => whnf
  refine And.intro (lw_in (k := 1) hv hL (by decide)) ?_
  conv => whnf
  refine And.intro (lw_in (k := 2) hv hL (by decide)) ?_
  conv => whnf
  refine And.intro (lw_in (k := 3) hv hL (by decide)) ?_
  conv => whnf
  refine And.intro (lw_in (k := 4) hv hL (by decide)) ?_
  conv => whnf
  refine And.intro (lw_in (k := 5) hv hL (by decide)) ?_
  conv => whnf
  refine hC _ _ _ _ _ _ _ _ _ _ (fun r1 I1 R1 J1 F1 cn1 q => ?_) (pf_feed hc h)
  obtain ⟨v, rfl, q⟩ := q
  conv => whnf
  refine And.intro (lw_in (k := 1) hv hL (by decide)) ?_
  conv => whnf
  refine And.intro (lw_in (k := 2) hv hL (by decide)) ?_
  conv => whnf
  refine And.intro (lw_in (k := 3) hv hL (by decide)) ?_
  conv => whnf
  refine And.intro (lw_in (k := 4) hv hL (by decide)) ?_
  conv => whnf
  refine And.intro (lw_in (k := 5) hv hL (by decide)) ?_
  conv => whnf
  refine hC _ _ _ _ _ _ _ _ _ _ (fun r2 I2 R2 J2 F2 cn2 q => ?_) q
  obtain ⟨rfl, kp', sp', wd', rfl, hLI⟩ := q
  conv => whnf
  refine z_bt1 rfl ?_
  exact hK _ _ _ _ _ _ _ _ _ _ (hN kp' sp' wd' cn2 I2 J2 F2 _ _ (Nat.le_add_right _ _) (Nat.le_add_right _ _) hLI)
set_option maxRecDepth 100000 in
theorem lz_end (hv : 6 * c + 5 < L) (hL : L ≤ 3072) (hc : c < 512) (hu : uc + 28 ≤ 600000) (hs : us + 3195 ≤ 7302250) (h : LI kp sp cn I F c) (hN : LN L xs c uc us Q) : z_WP (z_X0 L xs) z_P0 60 m_Law_law 536 [some (.retAddr 1), some (.ref 0), some (.ref 40), some (.int (nI (6 * c)))] [] I (z_R0 kp sp wd) J F cn uc us Q := by
  refine z_WP_gos [1221] 1000 fun K C hK hC => ?_
  conv => whnf
  refine And.intro (lw_in (k := 1) hv hL (by decide)) ?_
  conv => whnf
  refine hC _ _ _ _ _ _ _ _ _ _ (fun r1 I1 R1 J1 F1 cn1 q => ?_) (pf_end hc h)
  obtain ⟨v, rfl, q⟩ := q
  conv => whnf
  refine And.intro (lw_in (k := 1) hv hL (by decide)) ?_
  conv => whnf
  refine hC _ _ _ _ _ _ _ _ _ _ (fun r2 I2 R2 J2 F2 cn2 q => ?_) q
  obtain ⟨rfl, kp', sp', wd', rfl, hLI⟩ := q
  conv => whnf
  refine z_bt1 rfl ?_
  exact hK _ _ _ _ _ _ _ _ _ _ (hN kp' sp' wd' cn2 I2 J2 F2 _ _ (Nat.le_add_right _ _) (Nat.le_add_right _ _) hLI)
set_option maxRecDepth 100000 in
theorem lz_table (hv : 6 * c + 5 < L) (hL : L ≤ 3072) (hc : c < 512) (hu : uc + 28 ≤ 600000) (hs : us + 3195 ≤ 7302250) (h : LI kp sp cn I F c) (hN : LN L xs c uc us Q) : z_WP (z_X0 L xs) z_P0 60 m_Law_law 559 [some (.retAddr 1), some (.ref 0), some (.ref 40), some (.int (nI (6 * c)))] [] I (z_R0 kp sp wd) J F cn uc us Q := by
  refine z_WP_gos [1221] 1000 fun K C hK hC => ?_
  conv => whnf
  refine hC _ _ _ _ _ _ _ _ _ _ (fun r1 I1 R1 J1 F1 cn1 q => ?_) (pf_table hc h)
  obtain ⟨v, rfl, q⟩ := q
  conv => whnf
  refine hC _ _ _ _ _ _ _ _ _ _ (fun r2 I2 R2 J2 F2 cn2 q => ?_) q
  obtain ⟨rfl, kp', sp', wd', rfl, hLI⟩ := q
  conv => whnf
  refine z_bt1 rfl ?_
  exact hK _ _ _ _ _ _ _ _ _ _ (hN kp' sp' wd' cn2 I2 J2 F2 _ _ (Nat.le_add_right _ _) (Nat.le_add_right _ _) hLI)
set_option maxRecDepth 100000 in
theorem lz_events (hv : 6 * c + 5 < L) (hL : L ≤ 3072) (hc : c < 512) (hu : uc + 28 ≤ 600000) (hs : us + 3195 ≤ 7302250) (h : LI kp sp cn I F c) (hN : LN L xs c uc us Q) : z_WP (z_X0 L xs) z_P0 60 m_Law_law 572 [some (.retAddr 1), some (.ref 0), some (.ref 40), some (.int (nI (6 * c)))] [] I (z_R0 kp sp wd) J F cn uc us Q := by
  refine z_WP_gos [1221] 1000 fun K C hK hC => ?_
  conv => whnf
  refine hC _ _ _ _ _ _ _ _ _ _ (fun r1 I1 R1 J1 F1 cn1 q => ?_) (pf_events hc h)
  obtain ⟨v, rfl, q⟩ := q
  conv => whnf
  refine hC _ _ _ _ _ _ _ _ _ _ (fun r2 I2 R2 J2 F2 cn2 q => ?_) q
  obtain ⟨rfl, kp', sp', wd', rfl, hLI⟩ := q
  conv => whnf
  refine z_bt1 rfl ?_
  exact hK _ _ _ _ _ _ _ _ _ _ (hN kp' sp' wd' cn2 I2 J2 F2 _ _ (Nat.le_add_right _ _) (Nat.le_add_right _ _) hLI)
set_option maxRecDepth 100000 in
theorem lz_event (hv : 6 * c + 5 < L) (hL : L ≤ 3072) (hc : c < 512) (hu : uc + 28 ≤ 600000) (hs : us + 3195 ≤ 7302250) (h : LI kp sp cn I F c) (hN : LN L xs c uc us Q) : z_WP (z_X0 L xs) z_P0 60 m_Law_law 585 [some (.retAddr 1), some (.ref 0), some (.ref 40), some (.int (nI (6 * c)))] [] I (z_R0 kp sp wd) J F cn uc us Q := by
  refine z_WP_gos [1221] 1000 fun K C hK hC => ?_
  conv => whnf
  refine And.intro (lw_in (k := 1) hv hL (by decide)) ?_
  conv => whnf
  refine And.intro (lw_in (k := 2) hv hL (by decide)) ?_
  conv => whnf
  refine hC _ _ _ _ _ _ _ _ _ _ (fun r1 I1 R1 J1 F1 cn1 q => ?_) (pf_event hc h)
  obtain ⟨v, rfl, q⟩ := q
  conv => whnf
  refine And.intro (lw_in (k := 1) hv hL (by decide)) ?_
  conv => whnf
  refine And.intro (lw_in (k := 2) hv hL (by decide)) ?_
  conv => whnf
  refine hC _ _ _ _ _ _ _ _ _ _ (fun r2 I2 R2 J2 F2 cn2 q => ?_) q
  obtain ⟨rfl, kp', sp', wd', rfl, hLI⟩ := q
  conv => whnf
  refine z_bt1 rfl ?_
  exact hK _ _ _ _ _ _ _ _ _ _ (hN kp' sp' wd' cn2 I2 J2 F2 _ _ (Nat.le_add_right _ _) (Nat.le_add_right _ _) hLI)
set_option maxRecDepth 100000 in
theorem lz_count (hv : 6 * c + 5 < L) (hL : L ≤ 3072) (hc : c < 512) (hu : uc + 28 ≤ 600000) (hs : us + 3195 ≤ 7302250) (h : LI kp sp cn I F c) (hN : LN L xs c uc us Q) : z_WP (z_X0 L xs) z_P0 60 m_Law_law 618 [some (.retAddr 1), some (.ref 0), some (.ref 40), some (.int (nI (6 * c)))] [] I (z_R0 kp sp wd) J F cn uc us Q := by
  refine z_WP_gos [1221] 1000 fun K C hK hC => ?_
  conv => whnf
  refine And.intro (lw_in (k := 1) hv hL (by decide)) ?_
  conv => whnf
  refine And.intro (lw_in (k := 2) hv hL (by decide)) ?_
  conv => whnf
  refine hC _ _ _ _ _ _ _ _ _ _ (fun r1 I1 R1 J1 F1 cn1 q => ?_) (pf_count hc h)
  obtain ⟨v, rfl, q⟩ := q
  conv => whnf
  refine And.intro (lw_in (k := 1) hv hL (by decide)) ?_
  conv => whnf
  refine And.intro (lw_in (k := 2) hv hL (by decide)) ?_
  conv => whnf
  refine hC _ _ _ _ _ _ _ _ _ _ (fun r2 I2 R2 J2 F2 cn2 q => ?_) q
  obtain ⟨rfl, kp', sp', wd', rfl, hLI⟩ := q
  conv => whnf
  refine z_bt1 rfl ?_
  exact hK _ _ _ _ _ _ _ _ _ _ (hN kp' sp' wd' cn2 I2 J2 F2 _ _ (Nat.le_add_right _ _) (Nat.le_add_right _ _) hLI)
set_option maxRecDepth 100000 in
theorem lz_fault (hv : 6 * c + 5 < L) (hL : L ≤ 3072) (hc : c < 512) (hu : uc + 28 ≤ 600000) (hs : us + 3195 ≤ 7302250) (h : LI kp sp cn I F c) (hN : LN L xs c uc us Q) : z_WP (z_X0 L xs) z_P0 60 m_Law_law 651 [some (.retAddr 1), some (.ref 0), some (.ref 40), some (.int (nI (6 * c)))] [] I (z_R0 kp sp wd) J F cn uc us Q := by
  refine z_WP_gos [1221] 1000 fun K C hK hC => ?_
  conv => whnf
  refine And.intro (lw_in (k := 1) hv hL (by decide)) ?_
  conv => whnf
  refine hC _ _ _ _ _ _ _ _ _ _ (fun r1 I1 R1 J1 F1 cn1 q => ?_) (pf_fault hc h)
  obtain ⟨v, rfl, q⟩ := q
  conv => whnf
  refine And.intro (lw_in (k := 1) hv hL (by decide)) ?_
  conv => whnf
  refine hC _ _ _ _ _ _ _ _ _ _ (fun r2 I2 R2 J2 F2 cn2 q => ?_) q
  obtain ⟨rfl, kp', sp', wd', rfl, hLI⟩ := q
  conv => whnf
  refine z_bt1 rfl ?_
  exact hK _ _ _ _ _ _ _ _ _ _ (hN kp' sp' wd' cn2 I2 J2 F2 _ _ (Nat.le_add_right _ _) (Nat.le_add_right _ _) hLI)
set_option maxRecDepth 100000 in
theorem lz_line (hv : 6 * c + 5 < L) (hL : L ≤ 3072) (hc : c < 512) (hu : uc + 28 ≤ 600000) (hs : us + 3195 ≤ 7302250) (h : LI kp sp cn I F c) (hN : LN L xs c uc us Q) : z_WP (z_X0 L xs) z_P0 60 m_Law_law 674 [some (.retAddr 1), some (.ref 0), some (.ref 40), some (.int (nI (6 * c)))] [] I (z_R0 kp sp wd) J F cn uc us Q := by
  refine z_WP_gos [1221] 1000 fun K C hK hC => ?_
  conv => whnf
  refine And.intro (lw_in (k := 1) hv hL (by decide)) ?_
  conv => whnf
  refine And.intro (lw_in (k := 2) hv hL (by decide)) ?_
  conv => whnf
  refine hC _ _ _ _ _ _ _ _ _ _ (fun r1 I1 R1 J1 F1 cn1 q => ?_) (pf_line hc h)
  obtain ⟨v, rfl, q⟩ := q
  conv => whnf
  refine And.intro (lw_in (k := 1) hv hL (by decide)) ?_
  conv => whnf
  refine And.intro (lw_in (k := 2) hv hL (by decide)) ?_
  conv => whnf
  refine hC _ _ _ _ _ _ _ _ _ _ (fun r2 I2 R2 J2 F2 cn2 q => ?_) q
  obtain ⟨rfl, kp', sp', wd', rfl, hLI⟩ := q
  conv => whnf
  refine z_bt1 rfl ?_
  exact hK _ _ _ _ _ _ _ _ _ _ (hN kp' sp' wd' cn2 I2 J2 F2 _ _ (Nat.le_add_right _ _) (Nat.le_add_right _ _) hLI)
set_option maxRecDepth 100000 in
theorem lz_load (hv : 6 * c + 5 < L) (hL : L ≤ 3072) (hc : c < 512) (hu : uc + 28 ≤ 600000) (hs : us + 3195 ≤ 7302250) (h : LI kp sp cn I F c) (hN : LN L xs c uc us Q) : z_WP (z_X0 L xs) z_P0 60 m_Law_law 707 [some (.retAddr 1), some (.ref 0), some (.ref 40), some (.int (nI (6 * c)))] [] I (z_R0 kp sp wd) J F cn uc us Q := by
  refine z_WP_gos [1221] 1000 fun K C hK hC => ?_
  conv => whnf
  refine And.intro (lw_in (k := 1) hv hL (by decide)) ?_
  conv => whnf
  refine And.intro (lw_in (k := 2) hv hL (by decide)) ?_
  conv => whnf
  refine hC _ _ _ _ _ _ _ _ _ _ (fun r1 I1 R1 J1 F1 cn1 q => ?_) (pf_load hc h)
  obtain ⟨v, rfl, q⟩ := q
  conv => whnf
  refine And.intro (lw_in (k := 1) hv hL (by decide)) ?_
  conv => whnf
  refine And.intro (lw_in (k := 2) hv hL (by decide)) ?_
  conv => whnf
  refine hC _ _ _ _ _ _ _ _ _ _ (fun r2 I2 R2 J2 F2 cn2 q => ?_) q
  obtain ⟨rfl, kp', sp', wd', rfl, hLI⟩ := q
  conv => whnf
  refine z_bt1 rfl ?_
  exact hK _ _ _ _ _ _ _ _ _ _ (hN kp' sp' wd' cn2 I2 J2 F2 _ _ (Nat.le_add_right _ _) (Nat.le_add_right _ _) hLI)
set_option maxRecDepth 100000 in
theorem lz_fits (hv : 6 * c + 5 < L) (hL : L ≤ 3072) (hc : c < 512) (hu : uc + 28 ≤ 600000) (hs : us + 3195 ≤ 7302250) (h : LI kp sp cn I F c) (hN : LN L xs c uc us Q) : z_WP (z_X0 L xs) z_P0 60 m_Law_law 740 [some (.retAddr 1), some (.ref 0), some (.ref 40), some (.int (nI (6 * c)))] [] I (z_R0 kp sp wd) J F cn uc us Q := by
  refine z_WP_gos [1221] 1000 fun K C hK hC => ?_
  conv => whnf
  refine And.intro (lw_in (k := 1) hv hL (by decide)) ?_
  conv => whnf
  refine hC _ _ _ _ _ _ _ _ _ _ (fun r1 I1 R1 J1 F1 cn1 q => ?_) (pf_fits hc h)
  obtain ⟨v, rfl, q⟩ := q
  conv => whnf
  refine And.intro (lw_in (k := 1) hv hL (by decide)) ?_
  conv => whnf
  refine hC _ _ _ _ _ _ _ _ _ _ (fun r2 I2 R2 J2 F2 cn2 q => ?_) q
  obtain ⟨rfl, kp', sp', wd', rfl, hLI⟩ := q
  conv => whnf
  refine z_bt1 rfl ?_
  exact hK _ _ _ _ _ _ _ _ _ _ (hN kp' sp' wd' cn2 I2 J2 F2 _ _ (Nat.le_add_right _ _) (Nat.le_add_right _ _) hLI)
set_option maxRecDepth 100000 in
theorem lz_spread (hv : 6 * c + 5 < L) (hL : L ≤ 3072) (hc : c < 512) (hu : uc + 28 ≤ 600000) (hs : us + 3195 ≤ 7302250) (h : LI kp sp cn I F c) (hN : LN L xs c uc us Q) : z_WP (z_X0 L xs) z_P0 60 m_Law_law 763 [some (.retAddr 1), some (.ref 0), some (.ref 40), some (.int (nI (6 * c)))] [] I (z_R0 kp sp wd) J F cn uc us Q := by
  refine z_WP_gos [1221] 1000 fun K C hK hC => ?_
  conv => whnf
  refine And.intro (lw_in (k := 1) hv hL (by decide)) ?_
  conv => whnf
  refine And.intro (lw_in (k := 2) hv hL (by decide)) ?_
  conv => whnf
  refine hC _ _ _ _ _ _ _ _ _ _ (fun r1 I1 R1 J1 F1 cn1 q => ?_) (pf_spread hc h)
  obtain ⟨v, rfl, q⟩ := q
  conv => whnf
  refine And.intro (lw_in (k := 1) hv hL (by decide)) ?_
  conv => whnf
  refine And.intro (lw_in (k := 2) hv hL (by decide)) ?_
  conv => whnf
  refine hC _ _ _ _ _ _ _ _ _ _ (fun r2 I2 R2 J2 F2 cn2 q => ?_) q
  obtain ⟨rfl, kp', sp', wd', rfl, hLI⟩ := q
  conv => whnf
  refine z_bt1 rfl ?_
  exact hK _ _ _ _ _ _ _ _ _ _ (hN kp' sp' wd' cn2 I2 J2 F2 _ _ (Nat.le_add_right _ _) (Nat.le_add_right _ _) hLI)
set_option maxRecDepth 100000 in
theorem lz_of (hv : 6 * c + 5 < L) (hL : L ≤ 3072) (hc : c < 512) (hu : uc + 28 ≤ 600000) (hs : us + 3195 ≤ 7302250) (h : LI kp sp cn I F c) (hN : LN L xs c uc us Q) : z_WP (z_X0 L xs) z_P0 60 m_Law_law 796 [some (.retAddr 1), some (.ref 0), some (.ref 40), some (.int (nI (6 * c)))] [] I (z_R0 kp sp wd) J F cn uc us Q := by
  refine z_WP_gos [1221] 1000 fun K C hK hC => ?_
  conv => whnf
  refine And.intro (lw_in (k := 1) hv hL (by decide)) ?_
  conv => whnf
  refine And.intro (lw_in (k := 2) hv hL (by decide)) ?_
  conv => whnf
  refine hC _ _ _ _ _ _ _ _ _ _ (fun r1 I1 R1 J1 F1 cn1 q => ?_) (pf_of hc h)
  obtain ⟨v, rfl, q⟩ := q
  conv => whnf
  refine And.intro (lw_in (k := 1) hv hL (by decide)) ?_
  conv => whnf
  refine And.intro (lw_in (k := 2) hv hL (by decide)) ?_
  conv => whnf
  refine hC _ _ _ _ _ _ _ _ _ _ (fun r2 I2 R2 J2 F2 cn2 q => ?_) q
  obtain ⟨rfl, kp', sp', wd', rfl, hLI⟩ := q
  conv => whnf
  refine z_bt1 rfl ?_
  exact hK _ _ _ _ _ _ _ _ _ _ (hN kp' sp' wd' cn2 I2 J2 F2 _ _ (Nat.le_add_right _ _) (Nat.le_add_right _ _) hLI)
set_option maxRecDepth 100000 in
theorem lz_at (hv : 6 * c + 5 < L) (hL : L ≤ 3072) (hc : c < 512) (hu : uc + 28 ≤ 600000) (hs : us + 3195 ≤ 7302250) (h : LI kp sp cn I F c) (hN : LN L xs c uc us Q) : z_WP (z_X0 L xs) z_P0 60 m_Law_law 829 [some (.retAddr 1), some (.ref 0), some (.ref 40), some (.int (nI (6 * c)))] [] I (z_R0 kp sp wd) J F cn uc us Q := by
  refine z_WP_gos [1221] 1000 fun K C hK hC => ?_
  conv => whnf
  refine And.intro (lw_in (k := 1) hv hL (by decide)) ?_
  conv => whnf
  refine And.intro (lw_in (k := 2) hv hL (by decide)) ?_
  conv => whnf
  refine And.intro (lw_in (k := 3) hv hL (by decide)) ?_
  conv => whnf
  refine And.intro (lw_in (k := 4) hv hL (by decide)) ?_
  conv => whnf
  refine hC _ _ _ _ _ _ _ _ _ _ (fun r1 I1 R1 J1 F1 cn1 q => ?_) (pf_at hc h)
  obtain ⟨v, rfl, q⟩ := q
  conv => whnf
  refine And.intro (lw_in (k := 1) hv hL (by decide)) ?_
  conv => whnf
  refine And.intro (lw_in (k := 2) hv hL (by decide)) ?_
  conv => whnf
  refine And.intro (lw_in (k := 3) hv hL (by decide)) ?_
  conv => whnf
  refine And.intro (lw_in (k := 4) hv hL (by decide)) ?_
  conv => whnf
  refine hC _ _ _ _ _ _ _ _ _ _ (fun r2 I2 R2 J2 F2 cn2 q => ?_) q
  obtain ⟨rfl, kp', sp', wd', rfl, hLI⟩ := q
  conv => whnf
  refine z_bt1 rfl ?_
  exact hK _ _ _ _ _ _ _ _ _ _ (hN kp' sp' wd' cn2 I2 J2 F2 _ _ (Nat.le_add_right _ _) (Nat.le_add_right _ _) hLI)
set_option maxRecDepth 100000 in
theorem lz_smooth (hv : 6 * c + 5 < L) (hL : L ≤ 3072) (hc : c < 512) (hu : uc + 28 ≤ 600000) (hs : us + 3195 ≤ 7302250) (h : LI kp sp cn I F c) (hN : LN L xs c uc us Q) : z_WP (z_X0 L xs) z_P0 60 m_Law_law 882 [some (.retAddr 1), some (.ref 0), some (.ref 40), some (.int (nI (6 * c)))] [] I (z_R0 kp sp wd) J F cn uc us Q := by
  refine z_WP_gos [1221] 1000 fun K C hK hC => ?_
  conv => whnf
  refine And.intro (lw_in (k := 1) hv hL (by decide)) ?_
  conv => whnf
  refine And.intro (lw_in (k := 2) hv hL (by decide)) ?_
  conv => whnf
  refine And.intro (lw_in (k := 3) hv hL (by decide)) ?_
  conv => whnf
  refine hC _ _ _ _ _ _ _ _ _ _ (fun r1 I1 R1 J1 F1 cn1 q => ?_) (pf_smooth hc h)
  obtain ⟨v, rfl, q⟩ := q
  conv => whnf
  refine And.intro (lw_in (k := 1) hv hL (by decide)) ?_
  conv => whnf
  refine And.intro (lw_in (k := 2) hv hL (by decide)) ?_
  conv => whnf
  refine And.intro (lw_in (k := 3) hv hL (by decide)) ?_
  conv => whnf
  refine hC _ _ _ _ _ _ _ _ _ _ (fun r2 I2 R2 J2 F2 cn2 q => ?_) q
  obtain ⟨rfl, kp', sp', wd', rfl, hLI⟩ := q
  conv => whnf
  refine z_bt1 rfl ?_
  exact hK _ _ _ _ _ _ _ _ _ _ (hN kp' sp' wd' cn2 I2 J2 F2 _ _ (Nat.le_add_right _ _) (Nat.le_add_right _ _) hLI)
set_option maxRecDepth 100000 in
theorem lz_log (hv : 6 * c + 5 < L) (hL : L ≤ 3072) (hc : c < 512) (hu : uc + 28 ≤ 600000) (hs : us + 3195 ≤ 7302250) (h : LI kp sp cn I F c) (hN : LN L xs c uc us Q) : z_WP (z_X0 L xs) z_P0 60 m_Law_law 925 [some (.retAddr 1), some (.ref 0), some (.ref 40), some (.int (nI (6 * c)))] [] I (z_R0 kp sp wd) J F cn uc us Q := by
  refine z_WP_gos [1221] 1000 fun K C hK hC => ?_
  conv => whnf
  refine And.intro (lw_in (k := 1) hv hL (by decide)) ?_
  conv => whnf
  refine And.intro (lw_in (k := 2) hv hL (by decide)) ?_
  conv => whnf
  refine hC _ _ _ _ _ _ _ _ _ _ (fun r1 I1 R1 J1 F1 cn1 q => ?_) (pf_log hc h)
  obtain ⟨v, rfl, q⟩ := q
  conv => whnf
  refine And.intro (lw_in (k := 1) hv hL (by decide)) ?_
  conv => whnf
  refine And.intro (lw_in (k := 2) hv hL (by decide)) ?_
  conv => whnf
  refine hC _ _ _ _ _ _ _ _ _ _ (fun r2 I2 R2 J2 F2 cn2 q => ?_) q
  obtain ⟨rfl, kp', sp', wd', rfl, hLI⟩ := q
  conv => whnf
  refine z_bt1 rfl ?_
  exact hK _ _ _ _ _ _ _ _ _ _ (hN kp' sp' wd' cn2 I2 J2 F2 _ _ (Nat.le_add_right _ _) (Nat.le_add_right _ _) hLI)
set_option maxRecDepth 100000 in
theorem lz_trail (hv : 6 * c + 5 < L) (hL : L ≤ 3072) (hc : c < 512) (hu : uc + 28 ≤ 600000) (hs : us + 3195 ≤ 7302250) (h : LI kp sp cn I F c) (hN : LN L xs c uc us Q) : z_WP (z_X0 L xs) z_P0 60 m_Law_law 958 [some (.retAddr 1), some (.ref 0), some (.ref 40), some (.int (nI (6 * c)))] [] I (z_R0 kp sp wd) J F cn uc us Q := by
  refine z_WP_gos [1221] 1000 fun K C hK hC => ?_
  conv => whnf
  refine And.intro (lw_in (k := 1) hv hL (by decide)) ?_
  conv => whnf
  refine hC _ _ _ _ _ _ _ _ _ _ (fun r1 I1 R1 J1 F1 cn1 q => ?_) (pf_trail hc h)
  obtain ⟨v, rfl, q⟩ := q
  conv => whnf
  refine And.intro (lw_in (k := 1) hv hL (by decide)) ?_
  conv => whnf
  refine hC _ _ _ _ _ _ _ _ _ _ (fun r2 I2 R2 J2 F2 cn2 q => ?_) q
  obtain ⟨rfl, kp', sp', wd', rfl, hLI⟩ := q
  conv => whnf
  refine z_bt1 rfl ?_
  exact hK _ _ _ _ _ _ _ _ _ _ (hN kp' sp' wd' cn2 I2 J2 F2 _ _ (Nat.le_add_right _ _) (Nat.le_add_right _ _) hLI)
set_option maxRecDepth 100000 in
theorem lz_heard (hv : 6 * c + 5 < L) (hL : L ≤ 3072) (hc : c < 512) (hu : uc + 28 ≤ 600000) (hs : us + 3195 ≤ 7302250) (h : LI kp sp cn I F c) (hN : LN L xs c uc us Q) : z_WP (z_X0 L xs) z_P0 60 m_Law_law 981 [some (.retAddr 1), some (.ref 0), some (.ref 40), some (.int (nI (6 * c)))] [] I (z_R0 kp sp wd) J F cn uc us Q := by
  refine z_WP_gos [1221] 1000 fun K C hK hC => ?_
  conv => whnf
  refine And.intro (lw_in (k := 1) hv hL (by decide)) ?_
  conv => whnf
  refine And.intro (lw_in (k := 2) hv hL (by decide)) ?_
  conv => whnf
  refine hC _ _ _ _ _ _ _ _ _ _ (fun r1 I1 R1 J1 F1 cn1 q => ?_) (pf_heard hc h)
  obtain ⟨v, rfl, q⟩ := q
  conv => whnf
  refine And.intro (lw_in (k := 1) hv hL (by decide)) ?_
  conv => whnf
  refine And.intro (lw_in (k := 2) hv hL (by decide)) ?_
  conv => whnf
  refine hC _ _ _ _ _ _ _ _ _ _ (fun r2 I2 R2 J2 F2 cn2 q => ?_) q
  obtain ⟨rfl, kp', sp', wd', rfl, hLI⟩ := q
  conv => whnf
  refine z_bt1 rfl ?_
  exact hK _ _ _ _ _ _ _ _ _ _ (hN kp' sp' wd' cn2 I2 J2 F2 _ _ (Nat.le_add_right _ _) (Nat.le_add_right _ _) hLI)
set_option maxRecDepth 100000 in
theorem lz_bus (hv : 6 * c + 5 < L) (hL : L ≤ 3072) (hc : c < 512) (hu : uc + 28 ≤ 600000) (hs : us + 3195 ≤ 7302250) (h : LI kp sp cn I F c) (hN : LN L xs c uc us Q) : z_WP (z_X0 L xs) z_P0 60 m_Law_law 1014 [some (.retAddr 1), some (.ref 0), some (.ref 40), some (.int (nI (6 * c)))] [] I (z_R0 kp sp wd) J F cn uc us Q := by
  refine z_WP_gos [1221] 1000 fun K C hK hC => ?_
  conv => whnf
  refine And.intro (lw_in (k := 1) hv hL (by decide)) ?_
  conv => whnf
  refine And.intro (lw_in (k := 2) hv hL (by decide)) ?_
  conv => whnf
  refine hC _ _ _ _ _ _ _ _ _ _ (fun r1 I1 R1 J1 F1 cn1 q => ?_) (pf_bus hc h)
  obtain ⟨v, rfl, q⟩ := q
  conv => whnf
  refine And.intro (lw_in (k := 1) hv hL (by decide)) ?_
  conv => whnf
  refine And.intro (lw_in (k := 2) hv hL (by decide)) ?_
  conv => whnf
  refine hC _ _ _ _ _ _ _ _ _ _ (fun r2 I2 R2 J2 F2 cn2 q => ?_) q
  obtain ⟨rfl, kp', sp', wd', rfl, hLI⟩ := q
  conv => whnf
  refine z_bt1 rfl ?_
  exact hK _ _ _ _ _ _ _ _ _ _ (hN kp' sp' wd' cn2 I2 J2 F2 _ _ (Nat.le_add_right _ _) (Nat.le_add_right _ _) hLI)
set_option maxRecDepth 100000 in
theorem lz_tally (hv : 6 * c + 5 < L) (hL : L ≤ 3072) (hc : c < 512) (hu : uc + 28 ≤ 600000) (hs : us + 3195 ≤ 7302250) (h : LI kp sp cn I F c) (hN : LN L xs c uc us Q) : z_WP (z_X0 L xs) z_P0 60 m_Law_law 1047 [some (.retAddr 1), some (.ref 0), some (.ref 40), some (.int (nI (6 * c)))] [] I (z_R0 kp sp wd) J F cn uc us Q := by
  refine z_WP_gos [1221] 1000 fun K C hK hC => ?_
  conv => whnf
  refine And.intro (lw_in (k := 1) hv hL (by decide)) ?_
  conv => whnf
  refine And.intro (lw_in (k := 2) hv hL (by decide)) ?_
  conv => whnf
  refine hC _ _ _ _ _ _ _ _ _ _ (fun r1 I1 R1 J1 F1 cn1 q => ?_) (pf_tally hc h)
  obtain ⟨v, rfl, q⟩ := q
  conv => whnf
  refine And.intro (lw_in (k := 1) hv hL (by decide)) ?_
  conv => whnf
  refine And.intro (lw_in (k := 2) hv hL (by decide)) ?_
  conv => whnf
  refine hC _ _ _ _ _ _ _ _ _ _ (fun r2 I2 R2 J2 F2 cn2 q => ?_) q
  obtain ⟨rfl, kp', sp', wd', rfl, hLI⟩ := q
  conv => whnf
  refine z_bt1 rfl ?_
  exact hK _ _ _ _ _ _ _ _ _ _ (hN kp' sp' wd' cn2 I2 J2 F2 _ _ (Nat.le_add_right _ _) (Nat.le_add_right _ _) hLI)
set_option maxRecDepth 100000 in
theorem lz_waits (hv : 6 * c + 5 < L) (hL : L ≤ 3072) (hc : c < 512) (hu : uc + 28 ≤ 600000) (hs : us + 3195 ≤ 7302250) (h : LI kp sp cn I F c) (hN : LN L xs c uc us Q) : z_WP (z_X0 L xs) z_P0 60 m_Law_law 1080 [some (.retAddr 1), some (.ref 0), some (.ref 40), some (.int (nI (6 * c)))] [] I (z_R0 kp sp wd) J F cn uc us Q := by
  refine z_WP_gos [1221] 1000 fun K C hK hC => ?_
  conv => whnf
  refine And.intro (lw_in (k := 1) hv hL (by decide)) ?_
  conv => whnf
  refine hC _ _ _ _ _ _ _ _ _ _ (fun r1 I1 R1 J1 F1 cn1 q => ?_) (pf_waits hc h)
  obtain ⟨v, rfl, q⟩ := q
  conv => whnf
  refine And.intro (lw_in (k := 1) hv hL (by decide)) ?_
  conv => whnf
  refine hC _ _ _ _ _ _ _ _ _ _ (fun r2 I2 R2 J2 F2 cn2 q => ?_) q
  obtain ⟨rfl, kp', sp', wd', rfl, hLI⟩ := q
  conv => whnf
  refine z_bt1 rfl ?_
  exact hK _ _ _ _ _ _ _ _ _ _ (hN kp' sp' wd' cn2 I2 J2 F2 _ _ (Nat.le_add_right _ _) (Nat.le_add_right _ _) hLI)
set_option maxRecDepth 100000 in
theorem lz_parity (hv : 6 * c + 5 < L) (hL : L ≤ 3072) (hc : c < 512) (hu : uc + 28 ≤ 600000) (hs : us + 3195 ≤ 7302250) (h : LI kp sp cn I F c) (hN : LN L xs c uc us Q) : z_WP (z_X0 L xs) z_P0 60 m_Law_law 1103 [some (.retAddr 1), some (.ref 0), some (.ref 40), some (.int (nI (6 * c)))] [] I (z_R0 kp sp wd) J F cn uc us Q := by
  refine z_WP_gos [1221] 1000 fun K C hK hC => ?_
  conv => whnf
  refine And.intro (lw_in (k := 1) hv hL (by decide)) ?_
  conv => whnf
  refine hC _ _ _ _ _ _ _ _ _ _ (fun r1 I1 R1 J1 F1 cn1 q => ?_) (pf_parity hc h)
  obtain ⟨v, rfl, q⟩ := q
  conv => whnf
  refine And.intro (lw_in (k := 1) hv hL (by decide)) ?_
  conv => whnf
  refine hC _ _ _ _ _ _ _ _ _ _ (fun r2 I2 R2 J2 F2 cn2 q => ?_) q
  obtain ⟨rfl, kp', sp', wd', rfl, hLI⟩ := q
  conv => whnf
  refine z_bt1 rfl ?_
  exact hK _ _ _ _ _ _ _ _ _ _ (hN kp' sp' wd' cn2 I2 J2 F2 _ _ (Nat.le_add_right _ _) (Nat.le_add_right _ _) hLI)
set_option maxRecDepth 100000 in
theorem lz_would (hv : 6 * c + 5 < L) (hL : L ≤ 3072) (hc : c < 512) (hu : uc + 28 ≤ 600000) (hs : us + 3195 ≤ 7302250) (h : LI kp sp cn I F c) (hN : LN L xs c uc us Q) : z_WP (z_X0 L xs) z_P0 60 m_Law_law 1126 [some (.retAddr 1), some (.ref 0), some (.ref 40), some (.int (nI (6 * c)))] [] I (z_R0 kp sp wd) J F cn uc us Q := by
  refine z_WP_gos [1221] 1000 fun K C hK hC => ?_
  conv => whnf
  refine And.intro (lw_in (k := 1) hv hL (by decide)) ?_
  conv => whnf
  refine And.intro (lw_in (k := 2) hv hL (by decide)) ?_
  conv => whnf
  refine And.intro (And.intro hu hs) ?_
  refine hC _ _ _ _ _ _ _ _ _ _ (fun r1 I1 R1 J1 F1 cn1 q => ?_) (pf_would hc h)
  obtain ⟨v, rfl, q⟩ := q
  conv => whnf
  refine And.intro (lw_in (k := 1) hv hL (by decide)) ?_
  conv => whnf
  refine And.intro (lw_in (k := 2) hv hL (by decide)) ?_
  conv => whnf
  refine hC _ _ _ _ _ _ _ _ _ _ (fun r2 I2 R2 J2 F2 cn2 q => ?_) q
  obtain ⟨rfl, kp', sp', wd', rfl, hLI⟩ := q
  conv => whnf
  refine z_bt1 rfl ?_
  exact hK _ _ _ _ _ _ _ _ _ _ (hN kp' sp' wd' cn2 I2 J2 F2 _ _ (Nat.le_refl _) (Nat.le_refl _) hLI)
set_option maxRecDepth 100000 in
theorem lz_look (hv : 6 * c + 5 < L) (hL : L ≤ 3072) (hc : c < 512) (hu : uc + 28 ≤ 600000) (hs : us + 3195 ≤ 7302250) (h : LI kp sp cn I F c) (hN : LN L xs c uc us Q) : z_WP (z_X0 L xs) z_P0 60 m_Law_law 1198 [some (.retAddr 1), some (.ref 0), some (.ref 40), some (.int (nI (6 * c)))] [] I (z_R0 kp sp wd) J F cn uc us Q := by
  refine z_WP_gos [1221] 1000 fun K C hK hC => ?_
  conv => whnf
  refine And.intro (lw_in (k := 1) hv hL (by decide)) ?_
  conv => whnf
  refine hC _ _ _ _ _ _ _ _ _ _ (fun r1 I1 R1 J1 F1 cn1 q => ?_) (pf_look hc h)
  obtain ⟨v, rfl, q⟩ := q
  conv => whnf
  refine And.intro (lw_in (k := 1) hv hL (by decide)) ?_
  conv => whnf
  refine hC _ _ _ _ _ _ _ _ _ _ (fun r2 I2 R2 J2 F2 cn2 q => ?_) q
  obtain ⟨rfl, kp', sp', wd', rfl, hLI⟩ := q
  conv => whnf
  refine z_bt1 rfl ?_
  exact hK _ _ _ _ _ _ _ _ _ _ (hN kp' sp' wd' cn2 I2 J2 F2 _ _ (Nat.le_add_right _ _) (Nat.le_add_right _ _) hLI)
set_option maxRecDepth 100000 in
theorem lz_image (hv : 6 * c + 5 < L) (hL : L ≤ 3072) (hc : c < 512) (hu : uc + 28 ≤ 600000) (hs : us + 3195 ≤ 7302250) (h : LI kp sp cn I F c) (hN : LN L xs c uc us Q) : z_WP (z_X0 L xs) z_P0 60 m_Law_law 1159 [some (.retAddr 1), some (.ref 0), some (.ref 40), some (.int (nI (6 * c)))] [] I (z_R0 kp sp wd) J F cn uc us Q := by
  refine z_WP_gos [1221] 1000 fun K C hK hC => ?_
  conv => whnf
  refine And.intro (lw_in (k := 1) hv hL (by decide)) ?_
  conv => whnf
  refine ⟨fun z => ?_, fun z => ?_⟩
  · conv => whnf
    refine And.intro (And.intro hu hs) ?_
    refine hC _ _ _ _ _ _ _ _ _ _ (fun r1 I1 R1 J1 F1 cn1 q => ?_) (pf_image0 hc h)
    obtain ⟨v, rfl, q⟩ := q
    conv => whnf
    refine And.intro (lw_in (k := 1) hv hL (by decide)) ?_
    conv => whnf
    refine ⟨fun y => ?_, fun y => ?_⟩
    · conv => whnf
      refine hC _ _ _ _ _ _ _ _ _ _ (fun r2 I2 R2 J2 F2 cn2 q => ?_) q
      obtain ⟨rfl, kp', sp', wd', rfl, hLI⟩ := q
      conv => whnf
      refine z_bt1 rfl ?_
      exact hK _ _ _ _ _ _ _ _ _ _ (hN kp' sp' wd' cn2 I2 J2 F2 _ _ (Nat.le_refl _) (Nat.le_refl _) hLI)
    · exact absurd z y
  · conv => whnf
    refine And.intro (And.intro hu hs) ?_
    refine hC _ _ _ _ _ _ _ _ _ _ (fun r1 I1 R1 J1 F1 cn1 q => ?_) (pf_image1 (v := 1) (by decide) hc h)
    obtain ⟨v, rfl, q⟩ := q
    conv => whnf
    refine And.intro (lw_in (k := 1) hv hL (by decide)) ?_
    conv => whnf
    refine ⟨fun y => ?_, fun y => ?_⟩
    · exact absurd y z
    · conv => whnf
      refine hC _ _ _ _ _ _ _ _ _ _ (fun r2 I2 R2 J2 F2 cn2 q => ?_) q
      obtain ⟨rfl, kp', sp', wd', rfl, hLI⟩ := q
      conv => whnf
      refine z_bt1 rfl ?_
      exact hK _ _ _ _ _ _ _ _ _ _ (hN kp' sp' wd' cn2 I2 J2 F2 _ _ (Nat.le_refl _) (Nat.le_refl _) hLI)
end
