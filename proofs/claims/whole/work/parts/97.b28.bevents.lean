/-! events as a text, the class whole -/
section
variable {L : Nat} {xs : Nat → Int32} {d : Nat} {kp sp wd : Value} {I I0 : z_I} {s : z_sg} {R : z_R} {J : z_J} {F : z_F} {cn : Nat} {Q : z_Q} {n k m st c p nn kk ln : Nat} {t : Nat → Nat} {w g g0 : Nat → Int32}
theorem cp_script (hc : c ≤ 24) (hQ : ∀ I', fr [25, 26] I I' → I' 25 1 = nI c → (∀ j, j < c * 4 → I' 26 j = I 34 j) → Q none I' (z_R0 kp sp wd) J F cn) : z_M (z_X0 L xs) z_P0 d m_Script_adopt [.ref 25, .ref 34, .int (nI c)] I (z_R0 kp sp wd) J F cn Q := by
  refine z_WP_gos [] 1000 fun K C hK hC => ?_
  conv => whnf
  simp (disch := omega) only [z_lit, nI_add, pk_mul, z_pr1, z_pr2, nI_clamp, z_up_row, z_row_s, z_row_n, z_row_row, pk_us, pk_un]
  refine And.intro ⟨(by (try simp only [z_lit, nI_add, pk_mul]); exact nI_pos (by omega)), (by (try simp only [z_lit, nI_add, pk_mul]); exact nI_pos (by omega)), (by (try simp only [z_lit, nI_add, pk_mul]); exact nI_pos (by omega)), (by (try simp (disch := omega) only [z_lit, nI_clamp, nI_add, pk_mul]); exact (show _ ≤ (264 : Nat) by omega)), (by (try simp (disch := omega) only [z_lit, nI_clamp, nI_add, pk_mul]); exact (show _ ≤ (96 : Nat) by omega))⟩ ?_
  conv => whnf
  simp (disch := omega) only [z_lit, nI_add, pk_mul, z_pr1, z_pr2, nI_clamp, z_up_row, z_row_s, z_row_n, z_row_row, pk_us, pk_un]
  refine hQ _ (fun b hb => ?_) ?_ (fun j hj => ?_)
  · simp only [List.mem_cons, List.not_mem_nil, or_false, not_or] at hb
    rw [z_row_n _ _ hb.1]
    exact z_row_n _ _ hb.2
  · rw [z_row_s, pk_us]
  · rw [z_row_n _ _ (by decide)]
    show va_cpy (I 34) (I 26) 0 0 (c * 4) j = _
    rw [pk_cpy_in (by omega) (by omega), Nat.zero_add, Nat.sub_zero]
theorem hR_events {I' : z_I} (h : hR I F w nn kk ln) (hc : c ≤ 24) (hg : ∀ i, i < c → evG g i) (f : fr [25, 26, 32, 34] I I') (h25 : I' 25 1 = nI c) (h26 : ∀ i, i < c → ∀ a, a < 4 → I' 26 (i * 4 + a) = g (14 * i + a)) : hR I' F (wev w g c) nn kk ln := by
  have ev := wev_ok (w := w) hc hg
  have o : ∀ j, j < 2764 → wev w g c j = w j := fun j hj => wev_o hj
  have sc : scR I' (wev w g c) := by
    refine ⟨by rw [h25, wev_n], fun j hj => ?_⟩
    rw [wev_n, nI_clamp (by omega)] at hj
    have e := h26 (j / 4) (by omega) (j % 4) (by omega)
    rw [show j / 4 * 4 + j % 4 = j by omega] at e
    have e2 := wev_l (w := w) (fr := g) (c := c) (i := j / 4) (f := j % 4) (by omega) (by omega)
    rw [show 2765 + 4 * (j / 4) + j % 4 = 2765 + j by omega] at e2
    rw [e, e2]
  generalize wev w g c = w' at *
  obtain ⟨⟨u, wr, kw, gw⟩, ⟨c5, c6, c7, c10⟩, ⟨r9, r8, r11⟩, ⟨hp, tb, rt, hrt, ert⟩, hD, hJ, -, -, hgS⟩ := h
  have i1 : I' 1 = I 1 := f 1 (by decide)
  have ff : ∀ x, (2 ≤ x ∧ x ≤ 24) ∨ (27 ≤ x ∧ x ≤ 28) → I' x = I x := fun x hx => f x (by simp only [List.mem_cons, List.not_mem_nil, or_false, not_or]; omega)
  refine ⟨⟨uRel_of u (fun x _ _ => ff x (by omega)) (fun j hj => o j (by omega)), wR_of wr (fun x _ _ => ff x (by omega)) (fun j hj => o j (by omega)), kW_of kw (fun j hj => o j (by omega)), gW_k gw (fun j _ _ => o j (by omega))⟩, ⟨?_, ?_, ?_, ?_⟩, ⟨?_, ?_, ?_⟩, ⟨?_, ?_, rt, hrt, ?_⟩, ?_, ?_, sc, ev, ?_⟩
  · rw [i1, o 0 (by omega)]; exact c5
  · rw [i1, o 1 (by omega)]; exact c6
  · rw [i1, o 2 (by omega)]; exact c7
  · rw [i1, o 7 (by omega)]; exact c10
  · rw [i1, o 4 (by omega)]; exact r9
  · rw [i1, o 3 (by omega)]; exact r8
  · rw [i1, o 6 (by omega)]; exact r11
  · exact pS_c hp (by rw [ff 18 (by omega)]) (ff 19 (by omega)) (o 8 (by omega)) tb.2.1 (fun i f a b => o _ (by omega))
  · exact tb_c tb (o 8 (by omega)) (fun i f a b => o _ (by omega))
  · rw [o 1 (by omega)]; exact ert
  · exact pD_k hD tb.2.1 (ff 20 (by omega)) (ff 21 (by omega)) (ff 22 (by omega)) (fun j hj => o _ (by omega))
  · rw [ff 27 (by omega), ff 28 (by omega)]; exact jR_k hJ (fun j hj => o j (by omega))
  · exact ⟨fun x hx => by rw [o _ (by omega), o _ (by omega)]; exact hgS.1 x hx, by rw [o 2 (by omega)]; exact hgS.2⟩
theorem cb_events (h : hR I F w nn kk ln) (hT : rT I t n) (hn : n ≤ 500) (h2 : I 32 2 = nI n)
    (hQ : okQ (peall t n 24 0 g (tkS t n 0)) (fun g' c => ∀ I', fr [25, 26, 32, 34] I I' → hR I' F (wev w g' c) nn kk ln → rdC (I' 32) (nI 0) (-1) → Q (some (.int (nI c))) I' (z_R0 kp sp (.retAddr 4)) J F cn) (fun c p => ∀ I', fr [32, 34] I I' → rdC (I' 32) (nI c) (nI p) → Q (some (.int (-1))) I' (z_R0 kp sp (.retAddr 4)) J F cn)) :
    z_M (z_X0 L xs) z_P0 (d + 11) m_Bus_events [.ref 0] I (z_R0 kp sp wd) J F cn Q := by
  have hok := okQ_and hQ (C := fun g' c => c ≤ 24 ∧ ∀ i, i < c → evG g' i) (fun f' c' e => peall_ok 24 0 g (tkS t n 0) f' c' rfl (fun i hi => by omega) e)
  refine z_WP_gos [] 1000 fun K C hK hC => ?_
  conv => whnf
  refine hC _ _ _ _ _ _ _ _ _ _ (fun _ _ _ _ _ _ q => q) (cs_readEvents (g := g) hT hn h2 (okQ_m hok (fun g' c hq I1 f1 r1 d1 => ?_) (fun c p hq I1 f1 d1 => ?_)))
  conv => whnf
  rotate_left
  · conv => whnf
    refine ⟨fun _ => ?_, fun z => absurd rfl z⟩
    conv => whnf
    exact hq I1 f1 d1
  obtain ⟨⟨hc, hg⟩, hq⟩ := hq
  have hne : ¬ nI c = -1 := fun z => by
    have : (nI c).toInt = (-1 : Int32).toInt := by rw [z]
    rw [nI_toInt (by omega), show (-1 : Int32).toInt = -1 from by decide] at this
    omega
  refine ⟨fun z => absurd z hne, fun _ => ?_⟩
  conv => whnf
  refine hC _ _ _ _ _ _ _ _ _ _ (fun _ _ _ _ _ _ q => q) (cp_script hc (fun I2 f2 e25 e26 => ?_))
  conv => whnf
  have fd : fr [25, 26, 32, 34] I I2 := fr_t (fr_m f1 (by decide)) (fr_m f2 (by decide))
  refine hq I2 fd (hR_events h hc hg fd e25 (fun i hi a ha => ?_)) ?_
  · rw [e26 _ (by omega)]
    exact r1 i hi a ha
  · rw [f2 32 (by decide)]
    exact d1
end
