/-! the class: a frame -/
/-- between frames, in both -/
def hR (I : z_I) (F : z_F) (w : Nat → Int32) (n k ln : Nat) : Prop := bR I F w n k ∧ (I 1 5 = w 0 ∧ I 1 6 = w 1 ∧ I 1 7 = w 2 ∧ I 1 10 = w 7) ∧ hS (I 1) w ∧ (pS I w ∧ tb_ok w ∧ ∃ rt, rt ≤ 3 ∧ w 1 = nI rt) ∧ pD I w ∧ jR (I 27) (I 28) w ln ∧ scR I w ∧ ev_ok w ∧ gS w
def aR (I : z_I) (s : z_sg) : Prop := I 31 3 = s.1 30 ∧ I 31 4 + s.1 30 = s.1 29 ∧ I 31 5 = s.1 25 ∧ v01 (s.1 6)
theorem pD_k {I I' : z_I} {w w' : Nat → Int32} (h : pD I w) (h24 : (w 8).toNatClampNeg ≤ 24) (h20 : I' 20 = I 20) (h21 : I' 21 = I 21) (h22 : I' 22 = I 22) (hw : ∀ j, j = 8 ∨ (1584 ≤ j ∧ j < 1920) ∨ (2572 ≤ j ∧ j < 2764) → w' j = w j) : pD I' w' := by
  refine ⟨fun i hi => ?_, fun j hj => by rw [h20, hw _ (by omega)]; exact h.2 j hj⟩
  rw [hw 8 (by omega)] at hi
  rw [h21, h22, hw _ (by omega), hw _ (by omega), hw _ (by omega), hw _ (by omega)]
  exact h.1 i hi
theorem jR_k {f c w w' : Nat → Int32} {ln : Nat} (h : jR f c w ln) (hw : ∀ j, j = 9 ∨ (1920 ≤ j ∧ j < 2220) → w' j = w j) : jR f c w' ln := by
  obtain ⟨a, b, c', d, e, g⟩ := h
  exact ⟨a, b, c', d, by rw [hw 9 (by omega)]; exact e, fun j hj => by rw [hw _ (by omega)]; exact g j hj⟩
theorem gW_k {w w' : Nat → Int32} (h : gW w) (hw : ∀ j, 1392 ≤ j → j < 1584 → w' j = w j) : gW w' :=
  ⟨fun c hc => by rw [hw _ (by omega) (by omega)]; exact h.1 c hc, fun c hc => by rw [hw _ (by omega) (by omega)]; exact h.2 c hc⟩
theorem scR_k {I I' : z_I} {w w' : Nat → Int32} (h : scR I w) (h24 : (w 2764).toNatClampNeg ≤ 24) (h25 : I' 25 = I 25) (h26 : I' 26 = I 26) (hw : ∀ j, 2764 ≤ j → w' j = w j) : scR I' w' := by
  refine ⟨by rw [h25, hw _ (by omega)]; exact h.1, fun j hj => ?_⟩
  rw [hw _ (by omega)] at hj
  rw [h26, hw _ (by omega)]
  exact h.2 j hj
theorem ev_k {w w' : Nat → Int32} (h : ev_ok w) (hw : ∀ j, 2764 ≤ j → w' j = w j) : ev_ok w' := by
  unfold ev_ok
  rw [hw _ (Nat.le_refl _)]
  exact ⟨h.1, h.2.1, fun i hi => e1_c hw (h.2.2 i hi)⟩
theorem pre_f {s : z_sg} : (m_pre s).1 = upd (upd s.1 4 (nI 0)) 7 (nI 0) := by
  unfold m_pre
  rw [sig_f, ev_f]
  rfl
section
variable {L : Nat} {xs : Nat → Int32} {d : Nat} {kp sp wd : Value} {I : z_I} {s : z_sg} {R : z_R} {J : z_J} {F : z_F} {cn : Nat} {Q : z_Q} {n k : Nat}
theorem mid_zR {I2 I3 : z_I} {P : z_sg} {ln : Nat} (h : hR I F s.2.1 n k ln) (a : aR I s) (hf : P.1 = upd (upd s.1 4 (nI 0)) 7 (nI 0)) (po : ∀ j, j < 15 ∨ (112 ≤ j ∧ j < 192) ∨ 576 ≤ j → P.2.1 j = s.2.1 j) (hb : bR I2 F P.2.1 n k) (hI : fr [3, 4, 12, 13] I I2)
    (h3 : ∀ b, b ≠ 1 → b ≠ 29 → b ≠ 31 → I3 b = I2 b) (h1 : ∀ j, j ≠ 9 → j ≠ 10 → I3 1 j = I2 1 j) (h10 : I3 1 10 = nI 0) (h29 : I3 29 7 = nI 0) (h31 : I3 31 2 = -1) (h31' : ∀ j, j ≠ 2 → I3 31 j = I2 31 j) : zR I3 F (m_pow P) n k ln := by
  obtain ⟨-, ⟨c5, c6, c7, c10⟩, ⟨r9, r8, r11⟩, ⟨p, tb, rt, hrt, ert⟩, hD, hJ, -⟩ := h
  obtain ⟨u, wr, kw, g⟩ := hb
  have f1 : (m_pow P).1 = upd P.1 24 (P.2.1 3) := rfl
  have e : ∀ b, b ∉ ([3, 4, 12, 13, 1, 29, 31] : List Nat) → I3 b = I b := fun b hb => by
    simp only [List.mem_cons, List.not_mem_nil, or_false, not_or] at hb
    rw [h3 b (by omega) (by omega) (by omega)]
    exact hI b (by simp only [List.mem_cons, List.not_mem_nil, or_false, not_or]; omega)
  have i1 : ∀ j, j ≠ 9 → j ≠ 10 → I3 1 j = I 1 j := fun j a b => by rw [h1 j a b, hI 1 (by decide)]
  have i31 : ∀ j, j ≠ 2 → I3 31 j = I 31 j := fun j a => by rw [h31' j a, hI 31 (by decide)]
  refine ⟨⟨⟨uRel_of u (fun b x y => h3 b (by omega) (by omega) (by omega)) (fun j hj => pow_o (by omega)), wR_of wr (fun b x y => h3 b (by omega) (by omega) (by omega)) (fun j hj => pow_o (by omega)), ⟨?_, ?_⟩, ?_, kW_of kw (fun j hj => pow_o (by omega)), ?_⟩, gW_k g (fun j x y => pow_o (by omega)), ⟨?_, ?_, ?_⟩, ?_, ?_, rt, hrt, ?_⟩, ?_, ?_, Or.inl ⟨h31, ?_⟩, ?_, ?_, ?_⟩
  · rw [i1 7 (by omega) (by omega), pow_o (by omega), po 2 (by omega)]; exact c7
  · rw [i1 8 (by omega) (by omega), pow_o (by omega), po 3 (by omega)]; exact r8
  · rw [h29, f1, pk_un (by decide), hf, pk_us]
  · rw [f1, pk_un (by decide), hf, pk_un (by decide), pk_un (by decide)]; exact a.2.2.2
  · rw [i1 5 (by omega) (by omega), pow_o (by omega), po 0 (by omega)]; exact c5
  · rw [i1 6 (by omega) (by omega), pow_o (by omega), po 1 (by omega)]; exact c6
  · rw [h10, f1, pk_un (by decide), hf, pk_un (by decide), pk_us]
  · exact pS_c p (by rw [e 18 (by decide)]) (e 19 (by decide)) (by rw [pow_o (by omega)]; exact po 8 (by omega)) tb.2.1 (fun i f x y => by rw [pow_o (by omega)]; exact po _ (by omega))
  · exact tb_c tb (by rw [pow_o (by omega)]; exact po 8 (by omega)) (fun i f x y => by rw [pow_o (by omega)]; exact po _ (by omega))
  · rw [pow_o (by omega), po 1 (by omega)]; exact ert
  · exact pD_k hD tb.2.1 (e 20 (by decide)) (e 21 (by decide)) (e 22 (by decide)) (fun j hj => by rw [pow_o (by omega)]; exact po _ (by omega))
  · rw [e 27 (by decide), e 28 (by decide)]
    exact jR_k hJ (fun j hj => by rw [pow_o (by omega)]; exact po _ (by omega))
  · rw [f1, pk_us, pow_o (by omega)]
  · rw [i31 3 (by omega), f1, pk_un (by decide), hf, pk_un (by decide), pk_un (by decide)]; exact a.1
  · rw [i31 4 (by omega), f1, pk_un (by decide), pk_un (by decide), hf, pk_un (by decide), pk_un (by decide), pk_un (by decide), pk_un (by decide)]; exact a.2.1
  · rw [i31 5 (by omega), f1, pk_un (by decide), hf, pk_un (by decide), pk_un (by decide)]; exact a.2.2.1
end
