/-! the class: a frame, put together -/
theorem who_lt {w : Nat → Int32} {u : Nat} : ∀ j t, s_who w j t = some u → u < t + j
  | 0, _, h => by cases h
  | j + 1, t, h => by
    unfold s_who at h
    cases hc : (s_can w t && decide (nI (t + 2) ≤ w 4)) <;> rw [hc] at h
    · have := who_lt j (t + 1) h
      omega
    · cases h
      omega
theorem sil_3 {s : z_sg} (h : ∃ c, c ≤ 8 ∧ s.2.1 3 = nI c) : ∃ c, c ≤ 8 ∧ (m_sil s).2.1 3 = nI c := by
  unfold m_sil
  split
  · obtain ⟨c, a, b⟩ := h
    exact ⟨c, a, (show upd s.2.1 4 (s.2.1 4 + nI 1) 3 = s.2.1 3 from pk_un (by decide)).trans b⟩
  · rename_i t ht
    have := who_lt 9 0 ht
    refine ⟨t, by omega, ?_⟩
    show upd (m_ctl (m_w s 4 (s.2.1 4 + nI 1)) (nI t)).2.1 4 (nI 0) 3 = nI t
    rw [pk_un (by decide)]
    unfold m_ctl
    split
    · rename_i e
      exact e.symm
    · show upd (upd (m_w s 4 (s.2.1 4 + nI 1)).2.1 3 (nI t)) 6 ((m_w s 4 (s.2.1 4 + nI 1)).2.1 6 + nI 1) 3 = nI t
      rw [pk_un (by decide), pk_us]
theorem ctl_f {s : z_sg} {t : Int32} : (m_ctl s t).1 = s.1 := by
  unfold m_ctl
  split <;> rfl
theorem sil_f {s : z_sg} : (m_sil s).1 = s.1 := by
  unfold m_sil
  split
  · rfl
  · show (m_ctl (m_w s 4 (s.2.1 4 + nI 1)) _).1 = s.1
    rw [ctl_f]; rfl
section
variable {L : Nat} {xs : Nat → Int32} {d : Nat} {kp sp wd : Value} {I : z_I} {s : z_sg} {R : z_R} {J : z_J} {F : z_F} {cn : Nat} {Q : z_Q} {n k : Nat}
theorem qR_ch {I' : z_I} {s' : z_sg} {ln : Nat} (h : qR I F s n k ln) (hf : s'.1 = s.1) (ho : ∀ j, j ≠ 3 → j ≠ 4 → j ≠ 6 → s'.2.1 j = s.2.1 j) (hc : ∃ c, c ≤ 8 ∧ s'.2.1 3 = nI c) (hI : ∀ b, b ≠ 1 → I' b = I b) (h1 : ∀ j, j ≠ 8 → j ≠ 9 → j ≠ 11 → I' 1 j = I 1 j) (hs : hS (I' 1) s'.2.1) : qR I' F s' n k ln := by
  obtain ⟨⟨u, wr, ⟨k1, k2, k3, -, k5⟩, g⟩, ⟨c5, c6, c7, c10⟩, -, ⟨p, tb, rt, hrt, ert⟩, hD, hJ, hsc, he, hg, a1, a2, a3, a4⟩ := h
  refine ⟨⟨uRel_of u (fun b x y => hI b (by omega)) (fun j hj => ho j (by omega) (by omega) (by omega)), wR_of wr (fun b x y => hI b (by omega)) (fun j hj => ho j (by omega) (by omega) (by omega)), ⟨⟨fun t ht => ?_, fun j x y => ?_, fun j x y => ?_⟩, fun j x y => ?_, fun j hj => ?_, hc, ?_⟩, gW_k g (fun j x y => ho j (by omega) (by omega) (by omega))⟩, ⟨?_, ?_, ?_, ?_⟩, hs, ⟨?_, ?_, rt, hrt, ?_⟩, ?_, ?_, ?_, ?_, ?_, ?_, ?_, ?_, ?_⟩
  · rw [ho _ (by omega) (by omega) (by omega)]; exact k1.1 t ht
  · rw [ho _ (by omega) (by omega) (by omega)]; exact k1.2.1 j x y
  · rw [ho _ (by omega) (by omega) (by omega)]; exact k1.2.2 j x y
  · rw [ho _ (by omega) (by omega) (by omega)]; exact k2 j x y
  · rw [ho _ (by omega) (by omega) (by omega)]; exact k3 j hj
  · rw [ho _ (by omega) (by omega) (by omega)]; exact k5
  · rw [h1 5 (by omega) (by omega) (by omega), ho _ (by omega) (by omega) (by omega)]; exact c5
  · rw [h1 6 (by omega) (by omega) (by omega), ho _ (by omega) (by omega) (by omega)]; exact c6
  · rw [h1 7 (by omega) (by omega) (by omega), ho _ (by omega) (by omega) (by omega)]; exact c7
  · rw [h1 10 (by omega) (by omega) (by omega), hf]; exact c10
  · exact pS_c p (by rw [hI 18 (by omega)]) (hI 19 (by omega)) (ho 8 (by omega) (by omega) (by omega)) tb.2.1 (fun i f x y => ho _ (by omega) (by omega) (by omega))
  · exact tb_c tb (ho 8 (by omega) (by omega) (by omega)) (fun i f x y => ho _ (by omega) (by omega) (by omega))
  · rw [ho _ (by omega) (by omega) (by omega)]; exact ert
  · exact pD_k hD tb.2.1 (hI 20 (by omega)) (hI 21 (by omega)) (hI 22 (by omega)) (fun j hj => ho _ (by omega) (by omega) (by omega))
  · rw [hI 27 (by omega), hI 28 (by omega)]
    exact jR_k hJ (fun j hj => ho _ (by omega) (by omega) (by omega))
  · exact scR_k hsc he.2.1 (hI 25 (by omega)) (hI 26 (by omega)) (fun j hj => ho _ (by omega) (by omega) (by omega))
  · exact ev_k he (fun j hj => ho _ (by omega) (by omega) (by omega))
  · exact ⟨fun c hc => by rw [ho _ (by omega) (by omega) (by omega), ho _ (by omega) (by omega) (by omega)]; exact hg.1 c hc, by rw [ho 2 (by omega) (by omega) (by omega)]; exact hg.2⟩
  · rw [hI 31 (by omega), hf]; exact a1
  · rw [hI 31 (by omega), hf]; exact a2
  · rw [hI 31 (by omega), hf]; exact a3
  · rw [hf]; exact a4
theorem mid_qR {I2 I3 : z_I} {P : z_sg} {ln : Nat} (h : hR I F s.2.1 n k ln) (a : aR I s) (hf : P.1 = upd (upd s.1 4 (nI 0)) 7 (nI 0)) (po : ∀ j, j < 15 ∨ (112 ≤ j ∧ j < 192) ∨ 576 ≤ j → P.2.1 j = s.2.1 j) (hb : bR I2 F P.2.1 n k) (hI : fr [3, 4, 12, 13] I I2)
    (h3 : ∀ b, b ≠ 1 → I3 b = I2 b) (h1 : I3 1 = upd (I2 1) 10 (nI 0)) : qR I3 F P n k ln := by
  obtain ⟨-, ⟨c5, c6, c7, c10⟩, ⟨r9, r8, r11⟩, ⟨p, tb, rt, hrt, ert⟩, hD, hJ, hsc, he, hg⟩ := h
  obtain ⟨u, wr, kw, g⟩ := hb
  have e : ∀ b, b ∉ ([3, 4, 12, 13, 1] : List Nat) → I3 b = I b := fun b hb => by
    simp only [List.mem_cons, List.not_mem_nil, or_false, not_or] at hb
    rw [h3 b (by omega)]
    exact hI b (by simp only [List.mem_cons, List.not_mem_nil, or_false, not_or]; omega)
  have i1 : ∀ j, j ≠ 10 → I3 1 j = I 1 j := fun j a => by rw [h1, pk_un a, hI 1 (by decide)]
  have fo : ∀ j, j ≠ 4 → j ≠ 7 → P.1 j = s.1 j := fun j a b => by rw [hf, pk_un b, pk_un a]
  refine ⟨⟨uRel_of u (fun b x y => h3 b (by omega)) (fun j hj => rfl), wR_of wr (fun b x y => h3 b (by omega)) (fun j hj => rfl), kw, g⟩, ⟨?_, ?_, ?_, ?_⟩, ⟨?_, ?_, ?_⟩, ⟨?_, ?_, rt, hrt, ?_⟩, ?_, ?_, ?_, ?_, ?_, ?_, ?_, ?_, ?_⟩
  · rw [i1 5 (by omega), po 0 (by omega)]; exact c5
  · rw [i1 6 (by omega), po 1 (by omega)]; exact c6
  · rw [i1 7 (by omega), po 2 (by omega)]; exact c7
  · rw [h1, pk_us, hf, pk_un (by decide), pk_us]
  · rw [i1 9 (by omega), po 4 (by omega)]; exact r9
  · rw [i1 8 (by omega), po 3 (by omega)]; exact r8
  · rw [i1 11 (by omega), po 6 (by omega)]; exact r11
  · exact pS_c p (by rw [e 18 (by decide)]) (e 19 (by decide)) (po 8 (by omega)) tb.2.1 (fun i f x y => po _ (by omega))
  · exact tb_c tb (po 8 (by omega)) (fun i f x y => po _ (by omega))
  · rw [po 1 (by omega)]; exact ert
  · exact pD_k hD tb.2.1 (e 20 (by decide)) (e 21 (by decide)) (e 22 (by decide)) (fun j hj => po _ (by omega))
  · rw [e 27 (by decide), e 28 (by decide)]
    exact jR_k hJ (fun j hj => po _ (by omega))
  · exact scR_k hsc he.2.1 (e 25 (by decide)) (e 26 (by decide)) (fun j hj => po _ (by omega))
  · exact ev_k he (fun j hj => po _ (by omega))
  · exact ⟨fun c hc => by rw [po _ (by omega), po _ (by omega)]; exact hg.1 c hc, by rw [po 2 (by omega)]; exact hg.2⟩
  · rw [e 31 (by decide), fo 30 (by omega) (by omega)]; exact a.1
  · rw [e 31 (by decide), fo 30 (by omega) (by omega), fo 29 (by omega) (by omega)]; exact a.2.1
  · rw [e 31 (by decide), fo 25 (by omega) (by omega)]; exact a.2.2.1
  · rw [fo 6 (by omega) (by omega)]; exact a.2.2.2
/-- behind the lines: what was wanted has been asked -/
theorem ask_qR {I3 I4 I5 : z_I} {F' : z_F} {T : z_sg} {n' k' n'' k'' ln : Nat} (h : zR I4 F T n' k' ln) (hl : lR I5 F' (m_asked T) n'' k'') (hF : lF I4 I5) (h9 : I4 1 9 = T.2.1 4) (h11 : I4 1 11 = T.2.1 6) (hsc : scR I4 T.2.1) (he : ev_ok T.2.1) (hg : gS T.2.1) : qR I5 F' (m_asked T) n'' k'' ln ∧ hh (I5 31 2) ((m_asked T).1 24) ((m_asked T).2.1 3) := by
  obtain ⟨⟨-, -, -, -, tb, -⟩, hD, hJ, h24, h3, h4, h5⟩ := h
  obtain ⟨⟨y1, y2, ⟨y3, y4⟩, y5, y6, y7⟩, g, ⟨c5, c6, c10⟩, p, tb', rt⟩ := hl
  have o : ∀ j, j ≤ 4 ∨ (6 ≤ j ∧ j ≤ 9) ∨ (31 ≤ j ∧ j < 48) ∨ (56 ≤ j ∧ j < 112) ∨ (192 ≤ j ∧ j < 576) ∨ (1344 ≤ j ∧ j < 2220) ∨ 2572 ≤ j → (m_asked T).2.1 j = T.2.1 j := fun j hj => ask_o (s := T) hj 8 (Nat.le_refl _)
  have of : ∀ j, 9 ≤ j → (m_asked T).1 j = T.1 j := fun j hj => ask_f (s := T) hj 8
  have e : ∀ b, b ∉ (1 :: cT) → I5 b = I4 b := hF.1
  refine ⟨⟨⟨y1, y2, y6, g⟩, ⟨c5, c6, y3, c10⟩, ⟨?_, y4, ?_⟩, ⟨p, tb', rt⟩, ?_, ?_, ?_, ?_, ?_, ?_, ?_, ?_, y7⟩, ?_⟩
  · rw [hF.2 9 (by omega), o 4 (by omega)]; exact h9
  · rw [hF.2 11 (by omega), o 6 (by omega)]; exact h11
  · exact pD_k hD tb.2.1 (e 20 (by decide)) (e 21 (by decide)) (e 22 (by decide)) (fun j hj => o _ (by omega))
  · rw [e 27 (by decide), e 28 (by decide)]
    exact jR_k hJ (fun j hj => o _ (by omega))
  · exact scR_k hsc he.2.1 (e 25 (by decide)) (e 26 (by decide)) (fun j hj => o _ (by omega))
  · exact ev_k he (fun j hj => o _ (by omega))
  · exact ⟨fun c hc => by rw [o _ (by omega), o _ (by omega)]; exact hg.1 c hc, by rw [o 2 (by omega)]; exact hg.2⟩
  · rw [e 31 (by decide), of 30 (by omega)]; exact h3
  · rw [e 31 (by decide), of 30 (by omega), of 29 (by omega)]; exact h4
  · rw [e 31 (by decide), of 25 (by omega)]; exact h5
  · rw [e 31 (by decide), of 24 (by omega), o 3 (by omega)]; exact h24
end
