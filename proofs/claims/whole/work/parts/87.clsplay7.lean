/-! the class: a frame, whole -/
section
variable {L : Nat} {xs : Nat → Int32} {d : Nat} {kp sp wd : Value} {I : z_I} {s : z_sg} {R : z_R} {J : z_J} {F : z_F} {cn : Nat} {Q : z_Q} {n k : Nat}
theorem en_asks {l1 : Option Value} {I4 : z_I} {T : z_sg} {ln f : Nat} (h : zR I4 F T n k ln) (h9 : I4 1 9 = T.2.1 4) (h11 : I4 1 11 = T.2.1 6) (hsc : scR I4 T.2.1) (he : ev_ok T.2.1) (hg : gS T.2.1) (h2 : T.2.1 2 = nI f) (hf : f + 1 ≤ 9999) (hn : n + 300 < 2 ^ 30) (hk : k + 60 < 2 ^ 30)
    (hQ : ∀ I' n' k', hR I' F (m_post (m_ctl (m_asked T) ((m_asked T).1 24))).2.1 n' k' ln → aR I' (m_post (m_ctl (m_asked T) ((m_asked T).1 24))) → n' ≤ n + 240 → k' ≤ k + 40 → fr cP I4 I' → Q none I' (z_R0 kp sp wd) J F cn) : z_WP (z_X0 L xs) z_P0 (d + 7) m_Frames_play 118 [some (.ref 31), l1] [] I4 (z_R0 kp sp wd) J F cn 0 0 Q := by
  refine z_WP_gos [148] 1000 fun K C hK hC => ?_
  conv => whnf
  refine hC _ _ _ _ _ _ _ _ _ _ (fun _ _ _ _ _ _ q => q) (cf_askWanted h.1 hn hk (fun I5 n' k' hl hn' hk' hF => ?_))
  conv => whnf
  obtain ⟨q, hq⟩ := ask_qR (I3 := I4) h hl hF h9 h11 hsc he hg
  have a2 : (m_asked T).2.1 2 = nI f := (ask_o (s := T) (all := T.1 7) (j := 2) (by omega) 8 (Nat.le_refl _)).trans h2
  have hQ' := fun I' => hQ I' n' k'
  generalize m_asked T = A at *
  have c2 := (ctl_o (s := A) (t := A.1 24) (j := 2) (by decide) (by decide)).trans a2
  rcases hq with ⟨v1, v2⟩ | ⟨v1, v2, t, v3, v4⟩
  · rw [v1]
    have ec : m_ctl A (A.1 24) = A := if_pos v2
    rw [ec] at hQ'
    refine z_bt1 rfl ?_
    conv => whnf
    refine hK _ _ _ _ _ _ _ _ _ _ (en_frame q a2 hf (fun I' x y z => hQ' I' x y (by omega) (by omega) (fr_t (fr_m hF.1 (by decide)) (fr_m z (by decide)))))
  · have tne : ∀ t, t < 9 → ¬ nI t = -1 := by decide
    have ec : (m_ctl A (A.1 24)).2.1 = upd (upd A.2.1 3 (A.1 24)) 6 (A.2.1 6 + nI 1) := by
      unfold m_ctl
      rw [if_neg v2]
    obtain ⟨r9, r8, r11⟩ := q.2.2.1
    have q' : qR (z_row I5 1 (upd (upd (I5 1) 8 (nI t)) 11 (I5 1 11 + nI 1))) F (m_ctl A (A.1 24)) n' k' ln := by
      refine qR_ch q ctl_f (fun j a b c => ctl_o a c) ⟨t, v3, by rw [ec, pk_un (by decide), pk_us]; exact v4⟩ (fun b hb => z_row_n _ _ hb) (fun j a b c => by rw [z_row_s, pk_un c, pk_un a]) ⟨?_, ?_, ?_⟩
      · rw [z_row_s, pk_un (by decide), pk_un (by decide), ec, pk_un (by decide), pk_un (by decide)]; exact r9
      · rw [z_row_s, pk_un (by decide), pk_us, ec, pk_un (by decide), pk_us]; exact v4.symm
      · rw [z_row_s, pk_us, ec, pk_us, r11]
    rw [v1, v4]
    refine ⟨fun h => absurd h (tne t (by omega)), fun _ => ?_⟩
    conv => whnf
    rw [v1, v4]
    refine hC _ _ _ _ _ _ _ _ _ _ (fun _ _ _ _ _ _ q => q) (cw_move ?_)
    conv => whnf
    refine hK _ _ _ _ _ _ _ _ _ _ (en_frame q' c2 hf (fun I' x y z => hQ' I' x y (by omega) (by omega) (fr_t (fr_w (fr_m hF.1 (by decide)) (by decide)) (fr_m z (by decide)))))
theorem cf_play {ln f : Nat} (h : hR I F s.2.1 n k ln) (a : aR I s) (h2 : s.2.1 2 = nI f) (hf : f + 1 ≤ 9999) (hn : n + k + 8000 < 2 ^ 29) (hln : ln + 100 < 2 ^ 30)
    (hQ : ∀ I' F' n' k' ln', hR I' F' (m_once s).2.1 n' k' ln' → aR I' (m_once s) → n' ≤ n + 3200 → k' ≤ k + 600 → ln' ≤ ln + 24 → fr cP I I' → (∀ b, b ≠ 8 → F' b = F b) → Q none I' (z_R0 kp sp wd) J F' cn) : z_M (z_X0 L xs) z_P0 (d + 7) m_Frames_play [.ref 31] I (z_R0 kp sp wd) J F cn Q := by
  obtain ⟨hb, ⟨c5, c6, c7, c10⟩, ⟨r9, r8, r11⟩, ⟨p, tb, rt, hrt, ert⟩, hD, hJ, hsc, he, hg⟩ := id h
  have eP : m_sig 48 (m_ev (s.2.1 2764).toNatClampNeg (m_f (m_f s 4 (nI 0)) 7 (nI 0))) = m_pre s := rfl
  have po := fun j hj => pre_o (s := s) he (j := j) hj
  have pf := pre_f (s := s)
  have ee : ∀ j, (j < 15 ∨ 112 ≤ j) → (m_ev (s.2.1 2764).toNatClampNeg (m_f (m_f s 4 (nI 0)) 7 (nI 0))).2.1 j = s.2.1 j := fun j hj => (ev_o (s := m_f (m_f s 4 (nI 0)) 7 (nI 0)) he (j := j) hj _ (Nat.le_refl _)).1
  have hgE : gS (m_ev (s.2.1 2764).toNatClampNeg (m_f (m_f s 4 (nI 0)) 7 (nI 0))).2.1 := ⟨fun c hc => by rw [ee _ (by omega), ee _ (by omega)]; exact hg.1 c hc, by rw [ee 2 (by omega)]; exact hg.2⟩
  obtain ⟨c, hc, h3⟩ := hb.2.2.1.2.2.2.1
  unfold m_once at hQ
  refine z_WP_gos [72, 148] 1000 fun K C hK hC => ?_
  conv => whnf
  refine hC _ _ _ _ _ _ _ _ _ _ (fun _ _ _ _ _ _ q => q) (cf_doEvents (s := m_f (m_f s 4 (nI 0)) 7 (nI 0)) he hsc c7 (by omega) hb (fun I1 b1 f1 => ?_))
  conv => whnf
  have e17 : I1 1 7 = (m_ev (s.2.1 2764).toNatClampNeg (m_f (m_f s 4 (nI 0)) 7 (nI 0))).2.1 2 := by rw [f1 1 (by decide), ee 2 (by omega)]; exact c7
  refine hC _ _ _ _ _ _ _ _ _ _ (fun _ _ _ _ _ _ q => q) (cu_drive (s := m_ev (s.2.1 2764).toNatClampNeg (m_f (m_f s 4 (nI 0)) 7 (nI 0))) hgE e17 b1 (fun I2 b2 f2 => ?_))
  conv => whnf
  rw [eP] at b2
  have f12 : fr [3, 4, 12, 13] I I2 := fr_t (fr_m f1 (by decide)) (fr_m f2 (by decide))
  generalize m_pre s = P at *
  have p2 := (po 2 (by omega)).trans h2
  have p3 := (po 3 (by omega)).trans h3
  have hcl : (P.2.1 3).toNatClampNeg = c := by rw [p3, nI_clamp (by omega)]
  have hfl : (P.2.1 2).toNatClampNeg = f := by rw [p2, nI_clamp (by omega)]
  unfold s_ctp at hQ
  rw [hcl] at hQ
  have e18 : I2 1 8 = nI c := by rw [f12 1 (by decide), r8, h3]
  simp (disch := omega) only [z_lit, nI_add, pk_mul, z_pr1, z_pr2, nI_clamp, z_up_row, z_row_s, z_row_n, z_row_row, pk_us, pk_un]
  rw [e18]
  have hq0 : qR (z_row I2 1 (upd (I2 1) 10 (nI 0))) F P n k ln := mid_qR h a pf po b2 f12 (fun b hb => z_row_n _ _ hb) (z_row_s _ _ _)
  have v31 := b2.2.2.1.1.1 c (by omega)
  refine hC _ _ _ _ _ _ _ _ _ _ (fun _ _ _ _ _ _ q => q) (cu_hasPower (w := P.2.1) (t := c) (by omega) hq0.1.1.1 b2.2.2.1.1 ?_)
  conv => whnf
  refine ⟨fun g => ?_, fun g => ?_⟩
  · have hz : P.2.1 (31 + c) = nI 0 := by
      rcases v31 with z | z
      · exact z
      · rw [z] at g; exact absurd g (by decide)
    rw [if_pos hz] at hQ
    conv => whnf
    refine hC _ _ _ _ _ _ _ _ _ _ (fun _ _ _ _ _ _ q => q) (cf_silent (s := P) hq0.1.1.1 b2.2.2.1.1 ⟨c, hc, p3, hz⟩ hq0.2.2.1 (fun r' hr' ho' => ?_))
    conv => whnf
    have q' : qR (z_row (z_row I2 1 (upd (I2 1) 10 (nI 0))) 1 r') F (m_sil P) n k ln := qR_ch hq0 sil_f (fun j x y z => sil_o x z y) (sil_3 ⟨c, hc, p3⟩) (fun b hb => z_row_n _ _ hb) (fun j x y z => by rw [z_row_s]; exact ho' j x y z) (by rw [z_row_s]; exact hr')
    refine hK _ _ _ _ _ _ _ _ _ _ (en_frame q' ((sil_o (by decide) (by decide) (by decide)).trans p2) hf (fun I' x y z => hQ I' F n k ln x y (by omega) (by omega) (by omega) (fr_t (fr_w (fr_w (fr_m f12 (by decide)) (by decide)) (by decide)) (fr_m z (by decide))) (fun _ _ => rfl)))
  · have hz : ¬ P.2.1 (31 + c) = nI 0 := fun z => g (by rw [z]; decide)
    rw [if_neg hz] at hQ
    have zr : zR (z_row (z_row (z_row I2 1 (upd (upd (I2 1) 10 (nI 0)) 9 (nI 0))) 29 (upd (I2 29) 7 (nI 0))) 31 (upd (I2 31) 2 (-nI 1))) F (m_pow P) n k ln := by
      refine mid_zR h a pf po b2 f12 (fun b x y z => by rw [z_row_n _ _ z, z_row_n _ _ y, z_row_n _ _ x]) (fun j x y => ?_) ?_ ?_ ?_ (fun j x => ?_)
      · rw [z_row_n _ _ (by decide), z_row_n _ _ (by decide), z_row_s, pk_un x, pk_un y]
      · rw [z_row_n _ _ (by decide), z_row_n _ _ (by decide), z_row_s, pk_un (by decide), pk_us]
      · rw [z_row_n _ _ (by decide), z_row_s, pk_us]
      · rw [z_row_s, pk_us]; decide
      · rw [z_row_s, pk_un x]
    have i19 : (z_row (z_row (z_row I2 1 (upd (upd (I2 1) 10 (nI 0)) 9 (nI 0))) 29 (upd (I2 29) 7 (nI 0))) 31 (upd (I2 31) 2 (-nI 1))) 1 9 = nI 0 := by rw [z_row_n _ _ (by decide), z_row_n _ _ (by decide), z_row_s, pk_us]
    have i111 : (z_row (z_row (z_row I2 1 (upd (upd (I2 1) 10 (nI 0)) 9 (nI 0))) 29 (upd (I2 29) 7 (nI 0))) 31 (upd (I2 31) 2 (-nI 1))) 1 11 = P.2.1 6 := by rw [z_row_n _ _ (by decide), z_row_n _ _ (by decide), z_row_s, pk_un (by decide), pk_un (by decide), f12 1 (by decide), r11, po 6 (by omega)]
    have fI3 : fr cP I (z_row (z_row (z_row I2 1 (upd (upd (I2 1) 10 (nI 0)) 9 (nI 0))) 29 (upd (I2 29) 7 (nI 0))) 31 (upd (I2 31) 2 (-nI 1))) := fr_w (fr_w (fr_w (fr_m f12 (by decide)) (by decide)) (by decide)) (by decide)
    have hc8 : P.2.1 8 = nI (P.2.1 8).toNatClampNeg := by rw [po 8 (by omega)]; exact tb.1
    have h24 : (P.2.1 8).toNatClampNeg ≤ 24 := by rw [po 8 (by omega)]; exact tb.2.1
    have w8 : (m_pow P).2.1 8 = nI (P.2.1 8).toNatClampNeg := (pow_o (by decide)).trans hc8
    have w2 : (m_pow P).2.1 2 = nI f := (pow_o (by decide)).trans p2
    have w4 : (m_pow P).2.1 4 = nI 0 := show upd P.2.1 4 (nI 0) 4 = nI 0 from pk_us
    have hoS := zR_oS zr
    obtain ⟨-, kk, -⟩ := lns_oS (f := f) hoS (by omega) (P.2.1 8).toNatClampNeg (by rw [w8, nI_clamp (by omega)]; exact Nat.le_refl _)
    unfold m_run at hQ
    rw [hfl] at hQ
    have lp := lp_plays (d := d) (L := L) (xs := xs) (kp := kp) (sp := sp) (wd := wd) (J := J) (cn := cn) (Q := Q) zr w8 h24 w2 (by omega) (by omega) hln
    generalize (P.2.1 8).toNatClampNeg = sz at *
    have lp2 := lp (fun I4 F4 n' k' ln' x hn' hk' hl' pf4 ff => by
      have e4 : ∀ b, b ∉ cP → I4 b = I b := fun b hb => (pf4.1 b hb).trans (fI3 b hb)
      refine en_asks x ?_ ?_ ?_ ?_ ?_ ((kk 2 (by omega)).trans w2) hf (by omega) (by omega) (fun I' n'' k'' x' y' z1 z2 z3 => ?_)
      · rw [pf4.2 9 (by omega), i19, kk 4 (by omega), w4]
      · rw [pf4.2 11 (by omega), i111, kk 6 (by omega)]; exact (pow_o (by decide)).symm
      · exact scR_k hsc he.2.1 (e4 25 (by decide)) (e4 26 (by decide)) (fun j hj => by rw [kk j (by omega), pow_o (by omega)]; exact po j (by omega))
      · exact ev_k he (fun j hj => by rw [kk j (by omega), pow_o (by omega)]; exact po j (by omega))
      · exact ⟨fun c hc => by rw [kk _ (by omega), kk _ (by omega), pow_o (by omega), pow_o (by omega), po _ (by omega), po _ (by omega)]; exact hg.1 c hc, by rw [kk 2 (by omega), pow_o (by omega), po 2 (by omega)]; exact hg.2⟩
      · exact hQ I' F4 n'' k'' ln' x' y' (by omega) (by omega) (by omega) (fr_t (fr_t fI3 pf4.1) z3) ff) sz 0 _ F n k ln (by omega) zr (by omega) (by omega) (by omega) pF_r (fun _ _ => rfl)
    conv => whnf
    simp (disch := omega) only [z_lit, nI_add, pk_mul, z_pr1, z_pr2, nI_clamp, z_up_row, z_row_s, z_row_n, z_row_row, pk_us, pk_un]
    refine hK _ _ _ _ _ _ _ _ _ _ (lp2)
end
