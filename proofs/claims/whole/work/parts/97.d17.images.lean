/-! pairs of calls: image and would -/
section
variable {L : Nat} {xs : Nat → Int32} {kp sp wd : Value} {I : z_I} {J : z_J} {F : z_F} {cn c n k ln M d : Nat} {s : z_sg} {Q : z_Q}
/-- cells up to 49 as they were, a copy at b: an image is taken -/
theorem fin_take {I1 : z_I} {F1 : z_F} {kp' : Value} {cn' b : Nat} {r : Nat → Int32} (h : LI kp sp cn I F c) (hb : b = 50 ∨ b = 78) (hk : kp' = .ref b) (hC : LC kp' sp cn') (h1 : ∀ c, c < 50 → I1 c = I c) (hF : ∀ c, c < 50 → F1 c = F c) (hp : kpt (b - 1) I F I1 F1) (hr : ∀ j, j < 2861 → r j = I 41 j) :
    ∃ kp2 sp2 wd2, z_R0 kp' sp wd = z_R0 kp2 sp2 wd2 ∧ LI kp2 sp2 cn' (z_ms (z_row I1 42 r) (upd (I 40) 3 (nI 1), I 41, I 44)) F1 (c + 1) := by
  obtain ⟨hw, h6, ht, hv, hK0, hC0⟩ := h
  have hw0 := LW_s hw
  obtain ⟨n, k, ln, M, hr0, bn, bk, bl, hl, hM, hM9⟩ := hw
  have o : ∀ b, b < 50 → b ≠ 42 → b ≠ 40 → b ≠ 41 → b ≠ 44 → z_ms (z_row I1 42 r) (upd (I 40) 3 (nI 1), I 41, I 44) b = I b := fun b y0 y1 y4 y5 y6 => by rw [ms_o y4 y5 y6, z_row_n _ _ y1, h1 b y0]
  have o2 : ∀ b, 50 ≤ b → z_ms (z_row I1 42 r) (upd (I 40) 3 (nI 1), I 41, I 44) b = I1 b := fun b y0 => by rw [ms_o (by omega) (by omega) (by omega), z_row_n _ _ (by omega)]
  have o3 : ∀ j, j ≠ 3 → z_ms (z_row I1 42 r) (upd (I 40) 3 (nI 1), I 41, I 44) 40 j = I 40 j := fun j hj => by
    show upd (I 40) 3 (nI 1) j = I 40 j
    rw [pk_un hj]
  have b49 : 49 ≤ b - 1 := by omega
  have hs : sameW (z_ms (z_row I1 42 r) (upd (I 40) 3 (nI 1), I 41, I 44)) I F1 F := ⟨fun q j hq => by
    have : q < 40 := by unfold cel at hq; omega
    rw [o q (by omega) (by omega) (by omega) (by omega) (by omega)], fun j _ => by rw [hF 8 (by decide)]⟩
  have rm : ∀ q, q < 40 → z_ms (z_row I1 42 r) (upd (I 40) 3 (nI 1), I 41, I 44) q = I q := fun q hq => o q (by omega) (by omega) (by omega) (by omega) (by omega)
  have hr1 : hR (z_ms (z_row I1 42 r) (upd (I 40) 3 (nI 1), I 41, I 44)) F1 (I 41) n k ln := hR_I hr0 hs (fun j hj => by rw [rm 14 (by decide), rm 16 (by decide), rm 27 (by decide)]; exact ⟨rfl, rfl, rfl⟩)
  refine ⟨kp', sp, wd, rfl, ⟨n, k, ln, M, hr1, by omega, by omega, by omega, hL_I hl hs (hR_24 hr0), hM, hM9⟩, by rw [o3 6 (by decide)]; exact h6, LT_c ht (o3 14 (by decide)) (by rw [rm 32 (by decide)]) (rm 33 (by decide)) (o 45 (by decide) (by decide) (by decide) (by decide) (by decide)), ⟨by rw [rm 32 (by decide), o3 20 (by decide)]; exact hv.1, by rw [rm 32 (by decide), o3 23 (by decide)]; exact hv.2⟩, Or.inr ⟨b, hb, hk, ?_, I, F, I 41, hw0, kpt_c hp b49 (fun b hb => o2 b hb) (fun _ _ => rfl), fun j hj => ?_⟩, hC⟩
  · show ¬ upd (I 40) 3 (nI 1) 3 = 0
    rw [pk_us]; decide
  · rw [ms_o (by decide) (by decide) (by decide), z_row_s]; exact hr j hj
/-- an image is brought back -/
theorem fin_back {I1 Ik : z_I} {F1 Fk : z_F} {b : Nat} {wk w' : Nat → Int32} (h : LI kp sp cn I F c) (hb : b = 50 ∨ b = 78) (hk : kp = .ref b) (hw : LW Ik Fk wk c) (hp : kpt (b - 1) Ik Fk I F) (h42 : ∀ j, j < 2861 → I 42 j = wk j) (hs : sameW I1 Ik F1 Fk) (h1 : ∀ c, c < 1 ∨ 28 < c → I1 c = I c) (hm : ∀ j, j < 2 → I1 14 j = I 14 j ∧ I1 16 j = I 16 j ∧ I1 27 j = I 27 j) (hF : ∀ c, c ≠ 8 → F1 c = F c) (hw' : ∀ j, j < 2861 → w' j = I1 42 j) :
    ∃ kp2 sp2 wd2, z_R0 kp sp wd = z_R0 kp2 sp2 wd2 ∧ LI kp2 sp2 cn (z_ms I1 (upd (I 40) 3 (nI 1), w', I 44)) F1 (c + 1) := by
  obtain ⟨⟨n0, k0, ln0, M0, hr0, -⟩, h6, ht, hv, -, hC0⟩ := h
  have hwk := LW_s hw
  obtain ⟨n, k, ln, M, hrk, bn, bk, bl, hl, hM, hM9⟩ := hw
  have rm0 := hR_rm hr0
  have rmk := hR_rm hrk
  have hw2 : ∀ j, j < 2861 → w' j = wk j := fun j hj => by rw [hw' j hj, h1 42 (by omega), h42 j hj]
  have hrI : hR I1 F1 wk n k ln := hR_I hrk hs (fun j hj => by
    have e : j = 0 ∨ j = 1 := by omega
    obtain ⟨x1, x2, x3⟩ := hm j hj
    rw [x1, x2, x3]
    rcases e with e | e <;> subst e
    · exact ⟨rm0.1.1.trans rmk.1.1.symm, rm0.2.1.1.trans rmk.2.1.1.symm, rm0.2.2.1.trans rmk.2.2.1.symm⟩
    · exact ⟨rm0.1.2.trans rmk.1.2.symm, rm0.2.1.2.trans rmk.2.1.2.symm, rm0.2.2.2.trans rmk.2.2.2.symm⟩)
  have hrw : hR I1 F1 w' n k ln := hR_w hrI hw2
  have o : ∀ b, 28 < b → b ≠ 40 → b ≠ 41 → b ≠ 44 → z_ms I1 (upd (I 40) 3 (nI 1), w', I 44) b = I b := fun b y0 y4 y5 y6 => by rw [ms_o y4 y5 y6, h1 b (by omega)]
  have o3 : ∀ j, j ≠ 3 → z_ms I1 (upd (I 40) 3 (nI 1), w', I 44) 40 j = I 40 j := fun j hj => by
    show upd (I 40) 3 (nI 1) j = I 40 j
    rw [pk_un hj]
  have b49 : 49 ≤ b - 1 := by omega
  refine ⟨kp, sp, wd, rfl, ⟨n, k, ln, M, hR_of hrw (fun b hb => ms_o (by omega) (by omega) (by omega)), by omega, by omega, by omega, hL_c (hL_I hl hs (hR_24 hrk)) (by rw [ms_o (by decide) (by decide) (by decide)]) (ms_o (by decide) (by decide) (by decide)) (ms_o (by decide) (by decide) (by decide)), ?_, hM9⟩, by rw [o3 6 (by decide)]; exact h6, LT_c ht (o3 14 (by decide)) (by rw [o 32 (by decide) (by decide) (by decide) (by decide)]) (o 33 (by decide) (by decide) (by decide) (by decide)) (o 45 (by decide) (by decide) (by decide) (by decide)), ⟨by rw [o 32 (by decide) (by decide) (by decide) (by decide), o3 20 (by decide)]; exact hv.1, by rw [o 32 (by decide) (by decide) (by decide) (by decide), o3 23 (by decide)]; exact hv.2⟩, Or.inr ⟨b, hb, hk, ?_, Ik, Fk, wk, hwk, kpt_c hp b49 (fun b hb => o b (by omega) (by omega) (by omega) (by omega)) (fun b hb => hF b (by omega)), fun j hj => ?_⟩, hC0⟩
  · show w' 0 = nI M
    rw [hw2 0 (by decide)]; exact hM
  · show ¬ upd (I 40) 3 (nI 1) 3 = 0
    rw [pk_us]; decide
  · rw [o 42 (by decide) (by decide) (by decide) (by decide)]; exact h42 j hj
theorem pf_image0 (hc : c < 512) (h : LI kp sp cn I F c) : PF L xs m_Bus_image m_Mod_image [.int 0] c I (z_R0 kp sp wd) J F cn := by
  have fin := fin_id (wd := wd) h
  rcases h.2.2.2.2.1 with ⟨e, h3⟩ | ⟨b, hb, e, h3, Ik, Fk, wk, hw, hp, h42⟩
  · subst e
    exact cb_image0 ⟨_, rfl, M_ms rfl rfl rfl (sp_image0 (fun z => absurd h3 z) (fun _ => ⟨rfl, fin⟩))⟩
  · rcases hb with rfl | rfl <;> subst e
    · exact cb_imageB_50 hp (fun I1 F1 hs h1 hm hF => ⟨_, rfl, M_ms (h1 40 (by decide)) (h1 41 (by decide)) (h1 44 (by decide)) (sp_image0 (fun _ w' hw' => ⟨rfl, fin_back h (Or.inl rfl) rfl hw hp h42 hs h1 hm hF hw'⟩) (fun z => absurd z h3))⟩)
    · exact cb_imageB_78 hp (fun I1 F1 hs h1 hm hF => ⟨_, rfl, M_ms (h1 40 (by decide)) (h1 41 (by decide)) (h1 44 (by decide)) (sp_image0 (fun _ w' hw' => ⟨rfl, fin_back h (Or.inr rfl) rfl hw hp h42 hs h1 hm hF hw'⟩) (fun z => absurd z h3))⟩)
theorem pf_image1 {v : Int32} (hv : ¬ v = 0) (hc : c < 512) (h : LI kp sp cn I F c) : PF L xs m_Bus_image m_Mod_image [.int v] c I (z_R0 kp sp wd) J F cn := by
  rcases id h.2.2.2.2.2 with ⟨e1, e2, e3⟩ | ⟨e1, e2, e3⟩ | ⟨e1, e2, e3⟩ | ⟨e1, e2, e3⟩ | ⟨e1, e2, e3⟩ <;> subst e1 <;> subst e2 <;> subst e3
  · refine cb_imageN_50 hv (fun I1 J1 F1 hp h1 hF => ⟨_, rfl, M_ms (h1 40 (by decide)) (h1 41 (by decide)) (h1 44 (by decide)) (sp_image1 hv (fun r hr => ⟨rfl, fin_take h (Or.inl rfl) rfl ?_ (fun c hc => h1 c (by omega)) (fun c hc => hF c (by omega)) hp hr⟩))⟩)
    exact Or.inr (Or.inl ⟨rfl, rfl, rfl⟩)
  · refine cb_imageO_50 hv (fun I1 F1 hp h1 hF => ⟨_, rfl, M_ms (h1 40 (by decide)) (h1 41 (by decide)) (h1 44 (by decide)) (sp_image1 hv (fun r hr => ⟨rfl, fin_take h (Or.inl rfl) rfl ?_ (fun c hc => h1 c (by omega)) (fun c hc => hF c (by omega)) hp hr⟩))⟩)
    exact Or.inr (Or.inl ⟨rfl, rfl, rfl⟩)
  · refine cb_imageN_78 hv (fun I1 J1 F1 hp h1 hF => ⟨_, rfl, M_ms (h1 40 (by decide)) (h1 41 (by decide)) (h1 44 (by decide)) (sp_image1 hv (fun r hr => ⟨rfl, fin_take h (Or.inr rfl) rfl ?_ (fun c hc => h1 c (by omega)) (fun c hc => hF c (by omega)) hp hr⟩))⟩)
    exact Or.inr (Or.inr (Or.inr (Or.inr ⟨rfl, rfl, rfl⟩)))
  · refine cb_imageO_50 hv (fun I1 F1 hp h1 hF => ⟨_, rfl, M_ms (h1 40 (by decide)) (h1 41 (by decide)) (h1 44 (by decide)) (sp_image1 hv (fun r hr => ⟨rfl, fin_take h (Or.inl rfl) rfl ?_ (fun c hc => h1 c (by omega)) (fun c hc => hF c (by omega)) hp hr⟩))⟩)
    exact Or.inr (Or.inr (Or.inr (Or.inl ⟨rfl, rfl, rfl⟩)))
  · refine cb_imageO_78 hv (fun I1 F1 hp h1 hF => ⟨_, rfl, M_ms (h1 40 (by decide)) (h1 41 (by decide)) (h1 44 (by decide)) (sp_image1 hv (fun r hr => ⟨rfl, fin_take h (Or.inr rfl) rfl ?_ (fun c hc => h1 c (by omega)) (fun c hc => hF c (by omega)) hp hr⟩))⟩)
    exact Or.inr (Or.inr (Or.inr (Or.inr ⟨rfl, rfl, rfl⟩)))
/-- behind a would -/
theorem fin_wld {I1 : z_I} {F1 : z_F} {sp' : Value} {cn' : Nat} {T : z_sg} {w' r : Nat → Int32} (h : LI kp sp cn I F c) (hC : LC kp sp' cn') (hs : sameW I1 I F1 F) (h1 : ∀ c, c < 1 ∨ (31 < c ∧ c < 50) → I1 c = I c) (hm : ∀ j, j < 2 → I1 14 j = I 14 j ∧ I1 16 j = I 16 j ∧ I1 27 j = I 27 j)
    (hk : ∀ b : Nat, kp = .ref b → (∀ c, b ≤ c → c ≤ b + 27 → I1 c = I c) ∧ (F1 (b + 7) = F (b + 7))) (hT : ∀ j, kK j → T.1 j = I 40 j) (hT6 : v01 (T.1 6)) (hw : ∀ j, j < 2861 → w' j = I 41 j) :
    ∃ kp2 sp2 wd2, z_R0 kp sp' wd = z_R0 kp2 sp2 wd2 ∧ LI kp2 sp2 cn' (z_ms (z_row I1 43 r) (T.1, w', T.2.2)) F1 (c + 1) := by
  obtain ⟨⟨n, k, ln, M, hr, bn, bk, bl, hl, hM, hM9⟩, h6, ht, hv, hK0, hC0⟩ := h
  have hr1 : hR I1 F1 w' n k ln := hR_w (hR_I hr hs hm) hw
  have o : ∀ b, b ≠ 43 → b ≠ 40 → b ≠ 41 → b ≠ 44 → z_ms (z_row I1 43 r) (T.1, w', T.2.2) b = I1 b := fun b y1 y4 y5 y6 => by rw [ms_o y4 y5 y6, z_row_n _ _ y1]
  have k3 : kK 3 := Or.inl rfl
  have k14 : kK 14 := Or.inr ⟨by omega, by omega⟩
  have k20 : kK 20 := Or.inr ⟨by omega, by omega⟩
  have k23 : kK 23 := Or.inr ⟨by omega, by omega⟩
  have e32 : z_ms (z_row I1 43 r) (T.1, w', T.2.2) 32 = I 32 := by rw [o 32 (by decide) (by decide) (by decide) (by decide), h1 32 (by omega)]
  have e33 : z_ms (z_row I1 43 r) (T.1, w', T.2.2) 33 = I 33 := by rw [o 33 (by decide) (by decide) (by decide) (by decide), h1 33 (by omega)]
  have e42 : z_ms (z_row I1 43 r) (T.1, w', T.2.2) 42 = I 42 := by rw [o 42 (by decide) (by decide) (by decide) (by decide), h1 42 (by omega)]
  have e45 : z_ms (z_row I1 43 r) (T.1, w', T.2.2) 45 = I 45 := by rw [o 45 (by decide) (by decide) (by decide) (by decide), h1 45 (by omega)]
  have eT : ∀ j, kK j → z_ms (z_row I1 43 r) (T.1, w', T.2.2) 40 j = I 40 j := hT
  refine ⟨kp, sp', wd, rfl, ⟨n, k, ln, M, hR_of hr1 (fun b hb => o b (by omega) (by omega) (by omega) (by omega)), by omega, by omega, by omega, hL_c (hL_I hl hs (hR_24 hr)) (by rw [o 18 (by decide) (by decide) (by decide) (by decide)]) (o 19 (by decide) (by decide) (by decide) (by decide)) (o 23 (by decide) (by decide) (by decide) (by decide)), (hw 0 (by decide)).trans hM, hM9⟩, hT6, LT_c ht (eT 14 k14) (by rw [e32]) e33 e45, ⟨by rw [e32, eT 20 k20]; exact hv.1, by rw [e32, eT 23 k23]; exact hv.2⟩, ?_, hC⟩
  rcases hK0 with ⟨a, b⟩ | ⟨b, hb, e, g3, Ik, Fk, wk, a, rr, s⟩
  · exact Or.inl ⟨a, by rw [eT 3 k3]; exact b⟩
  · obtain ⟨z1, z2⟩ := hk b e
    refine Or.inr ⟨b, hb, e, by rw [eT 3 k3]; exact g3, Ik, Fk, wk, LW_s a, ⟨fun q j hq => ?_, fun j hj => ?_⟩, by rw [e42]; exact s⟩
    · have : 1 ≤ q ∧ q ≤ 28 := by unfold cel at hq; omega
      rw [o _ (by omega) (by omega) (by omega) (by omega), z1 _ (by omega) (by omega)]
      exact rr.1 q j hq
    · rw [show b - 1 + 8 = b + 7 by omega, z2, ← show b - 1 + 8 = b + 7 by omega]
      exact rr.2 j hj
theorem wq_u {f : Nat} {n q : Int32} {N a N' a' : Nat} (h : wq f n q N a) (g : wq f n q N' a') : N = N' ∧ a = a' := by
  obtain ⟨h1, h2, h3, h4, h5, h6⟩ := h
  obtain ⟨g1, g2, g3, g4, g5, g6⟩ := g
  exact ⟨nI_inj9 (by omega) (by omega) (h1.symm.trans g1), nI_inj9 (by omega) (by omega) (h5.symm.trans g5)⟩
theorem pf_would {a1 a2 : Int32} (hc : c < 512) (h : LI kp sp cn I F c) : PF L xs m_Bus_would m_Mod_would [.int a1, .int a2] c I (z_R0 kp sp wd) J F cn := by
  have fin := fin_id (wd := wd) h
  obtain ⟨n, k, ln, M, hr, bn, bk, bl, hl, hM, hM9⟩ := h.1
  obtain ⟨f, hf, h2⟩ := hr.1.2.2.1.2.2.2.2
  obtain ⟨co, ho⟩ := hR_oF (s := (I 40, I 41, I 44)) hr h2 hf
  have hT : ∀ N, N ≤ 60 → ∀ j, kK j → (m_fms N (m_zero (I 40, I 41, I 44))).1 j = I 40 j := fun N hN => (fms0_h ho (by omega) hf hN).1
  rcases id h.2.2.2.2.2 with ⟨e1, e2, e3⟩ | ⟨e1, e2, e3⟩ | ⟨e1, e2, e3⟩ | ⟨e1, e2, e3⟩ | ⟨e1, e2, e3⟩ <;> subst e1 <;> subst e2 <;> subst e3
  · refine cb_wouldN_50 (s := (I 40, I 41, I 44)) hr h.2.1 h2 hf (by omega) (by omega) (fun N q I1 J1 F1 hq six hs h1 hm hF => ⟨_, rfl, M_ms (h1 40 (by decide)) (h1 41 (by decide)) (h1 44 (by decide)) (sp_would ho (by omega) (by omega) hf (fun N2 q2 r w' hq2 hw' => ⟨?_, ?_⟩) (fun hn => absurd hq (hn N q)))⟩) (fun hn => ⟨_, rfl, M_ms rfl rfl rfl (sp_would ho (by omega) (by omega) hf (fun N2 q2 r w' hq2 _ => absurd hq2 (hn N2 q2)) (fun _ => ⟨rfl, fin⟩))⟩)
    · obtain ⟨rfl, rfl⟩ := wq_u hq hq2
      rfl
    · obtain ⟨rfl, rfl⟩ := wq_u hq hq2
      obtain ⟨-, z1, z2, z3, -⟩ := hq2
      refine fin_wld (T := m_fms N (m_zero (I 40, I 41, I 44))) h (Or.inr (Or.inr (Or.inl ⟨rfl, rfl, rfl⟩))) hs (fun c hc => h1 c (by omega)) hm (fun b e => ?_) (hT N (by omega)) six hw'
      cases e
  · refine cb_wouldN_78 (s := (I 40, I 41, I 44)) hr h.2.1 h2 hf (by omega) (by omega) (fun N q I1 J1 F1 hq six hs h1 hm hF => ⟨_, rfl, M_ms (h1 40 (by decide)) (h1 41 (by decide)) (h1 44 (by decide)) (sp_would ho (by omega) (by omega) hf (fun N2 q2 r w' hq2 hw' => ⟨?_, ?_⟩) (fun hn => absurd hq (hn N q)))⟩) (fun hn => ⟨_, rfl, M_ms rfl rfl rfl (sp_would ho (by omega) (by omega) hf (fun N2 q2 r w' hq2 _ => absurd hq2 (hn N2 q2)) (fun _ => ⟨rfl, fin⟩))⟩)
    · obtain ⟨rfl, rfl⟩ := wq_u hq hq2
      rfl
    · obtain ⟨rfl, rfl⟩ := wq_u hq hq2
      obtain ⟨-, z1, z2, z3, -⟩ := hq2
      refine fin_wld (T := m_fms N (m_zero (I 40, I 41, I 44))) h (Or.inr (Or.inr (Or.inr (Or.inl ⟨rfl, rfl, rfl⟩)))) hs (fun c hc => h1 c (by omega)) hm (fun b e => ?_) (hT N (by omega)) six hw'
      cases e; exact ⟨fun c x y => h1 c (by omega), hF _ (by decide) (by decide)⟩
  · refine cb_wouldO_50 (s := (I 40, I 41, I 44)) hr h.2.1 h2 hf (by omega) (by omega) (fun N q I1 F1 hq six hs h1 hm hF => ⟨_, rfl, M_ms (h1 40 (by decide)) (h1 41 (by decide)) (h1 44 (by decide)) (sp_would ho (by omega) (by omega) hf (fun N2 q2 r w' hq2 hw' => ⟨?_, ?_⟩) (fun hn => absurd hq (hn N q)))⟩) (fun hn => ⟨_, rfl, M_ms rfl rfl rfl (sp_would ho (by omega) (by omega) hf (fun N2 q2 r w' hq2 _ => absurd hq2 (hn N2 q2)) (fun _ => ⟨rfl, fin⟩))⟩)
    · obtain ⟨rfl, rfl⟩ := wq_u hq hq2
      rfl
    · obtain ⟨rfl, rfl⟩ := wq_u hq hq2
      obtain ⟨-, z1, z2, z3, -⟩ := hq2
      refine fin_wld (T := m_fms N (m_zero (I 40, I 41, I 44))) h (Or.inr (Or.inr (Or.inl ⟨rfl, rfl, rfl⟩))) hs (fun c hc => h1 c (by omega)) hm (fun b e => ?_) (hT N (by omega)) six hw'
      cases e
  · refine cb_wouldO_78 (s := (I 40, I 41, I 44)) hr h.2.1 h2 hf (by omega) (by omega) (fun N q I1 F1 hq six hs h1 hm hF => ⟨_, rfl, M_ms (h1 40 (by decide)) (h1 41 (by decide)) (h1 44 (by decide)) (sp_would ho (by omega) (by omega) hf (fun N2 q2 r w' hq2 hw' => ⟨?_, ?_⟩) (fun hn => absurd hq (hn N q)))⟩) (fun hn => ⟨_, rfl, M_ms rfl rfl rfl (sp_would ho (by omega) (by omega) hf (fun N2 q2 r w' hq2 _ => absurd hq2 (hn N2 q2)) (fun _ => ⟨rfl, fin⟩))⟩)
    · obtain ⟨rfl, rfl⟩ := wq_u hq hq2
      rfl
    · obtain ⟨rfl, rfl⟩ := wq_u hq hq2
      obtain ⟨-, z1, z2, z3, -⟩ := hq2
      refine fin_wld (T := m_fms N (m_zero (I 40, I 41, I 44))) h (Or.inr (Or.inr (Or.inr (Or.inl ⟨rfl, rfl, rfl⟩)))) hs (fun c hc => h1 c (by omega)) hm (fun b e => ?_) (hT N (by omega)) six hw'
      cases e; exact ⟨fun c x y => h1 c (by omega), hF _ (by decide) (by decide)⟩
  · refine cb_wouldO_50 (s := (I 40, I 41, I 44)) hr h.2.1 h2 hf (by omega) (by omega) (fun N q I1 F1 hq six hs h1 hm hF => ⟨_, rfl, M_ms (h1 40 (by decide)) (h1 41 (by decide)) (h1 44 (by decide)) (sp_would ho (by omega) (by omega) hf (fun N2 q2 r w' hq2 hw' => ⟨?_, ?_⟩) (fun hn => absurd hq (hn N q)))⟩) (fun hn => ⟨_, rfl, M_ms rfl rfl rfl (sp_would ho (by omega) (by omega) hf (fun N2 q2 r w' hq2 _ => absurd hq2 (hn N2 q2)) (fun _ => ⟨rfl, fin⟩))⟩)
    · obtain ⟨rfl, rfl⟩ := wq_u hq hq2
      rfl
    · obtain ⟨rfl, rfl⟩ := wq_u hq hq2
      obtain ⟨-, z1, z2, z3, -⟩ := hq2
      refine fin_wld (T := m_fms N (m_zero (I 40, I 41, I 44))) h (Or.inr (Or.inr (Or.inr (Or.inr ⟨rfl, rfl, rfl⟩)))) hs (fun c hc => h1 c (by omega)) hm (fun b e => ?_) (hT N (by omega)) six hw'
      cases e; exact ⟨fun c x y => h1 c (by omega), hF _ (by decide) (by decide)⟩
end
