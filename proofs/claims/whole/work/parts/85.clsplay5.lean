/-! the class: a frame, its end -/
def qR (I : z_I) (F : z_F) (s : z_sg) (n k ln : Nat) : Prop := bR I F s.2.1 n k ∧ (I 1 5 = s.2.1 0 ∧ I 1 6 = s.2.1 1 ∧ I 1 7 = s.2.1 2 ∧ I 1 10 = s.1 4) ∧ hS (I 1) s.2.1 ∧ (pS I s.2.1 ∧ tb_ok s.2.1 ∧ ∃ rt, rt ≤ 3 ∧ s.2.1 1 = nI rt) ∧ pD I s.2.1 ∧ jR (I 27) (I 28) s.2.1 ln ∧ scR I s.2.1 ∧ ev_ok s.2.1 ∧ gS s.2.1 ∧ aR I s
theorem post_o {s : z_sg} {j : Nat} (h2 : j ≠ 2) (h7 : j ≠ 7) : (m_post s).2.1 j = s.2.1 j := show upd (upd s.2.1 7 (s.1 4)) 2 (s.2.1 2 + nI 1) j = s.2.1 j by rw [pk_un h2, pk_un h7]
theorem post_2 {s : z_sg} : (m_post s).2.1 2 = s.2.1 2 + nI 1 := show upd (upd s.2.1 7 (s.1 4)) 2 (s.2.1 2 + nI 1) 2 = _ from pk_us
theorem post_7 {s : z_sg} : (m_post s).2.1 7 = s.1 4 := show upd (upd s.2.1 7 (s.1 4)) 2 (s.2.1 2 + nI 1) 7 = _ by rw [pk_un (by decide), pk_us]
theorem post_f {s : z_sg} : (m_post s).1 = upd s.1 25 (if s.1 4 ≤ s.1 25 then s.1 25 else s.1 4) := rfl
theorem nI_abs {m : Nat} (h : m < 2 ^ 20) : (nI m).toInt.natAbs < 2 ^ 20 := by
  have : (nI m).toInt = (m : Int) := by
    show (Int32.ofNat m).toInt = _
    rw [Int32.toInt_ofNat_of_lt (by omega)]
  rw [this]; omega
section
variable {L : Nat} {xs : Nat → Int32} {d : Nat} {kp sp wd : Value} {I : z_I} {s : z_sg} {R : z_R} {J : z_J} {F : z_F} {cn : Nat} {Q : z_Q} {n k : Nat}
theorem post_hR {I' : z_I} {ln f : Nat} (h : qR I F s n k ln) (h2 : s.2.1 2 = nI f) (hf : f + 1 ≤ 9999) (hI : ∀ b, b ≠ 1 → b ≠ 31 → I' b = I b) (h1 : I' 1 = upd (I 1) 7 (I 1 7 + nI 1)) (h31 : I' 31 = upd (I 31) 5 (if s.1 4 ≤ s.1 25 then s.1 25 else s.1 4)) : hR I' F (m_post s).2.1 n k ln ∧ aR I' (m_post s) := by
  obtain ⟨⟨u, wr, ⟨k1, k2, k3, k4, -⟩, g⟩, ⟨c5, c6, c7, c10⟩, ⟨r9, r8, r11⟩, ⟨p, tb, rt, hrt, ert⟩, hD, hJ, hsc, he, hg, a1, a2, a3, a4⟩ := h
  have i1 : ∀ j, j ≠ 7 → I' 1 j = I 1 j := fun j hj => by rw [h1, pk_un hj]
  have p2 : (m_post s).2.1 2 = nI (f + 1) := by rw [post_2, h2]; exact nI_1 f
  refine ⟨⟨⟨uRel_of u (fun b x y => hI b (by omega) (by omega)) (fun j hj => post_o (by omega) (by omega)), wR_of wr (fun b x y => hI b (by omega) (by omega)) (fun j hj => post_o (by omega) (by omega)), ⟨⟨fun t ht => ?_, fun j x y => ?_, fun j x y => ?_⟩, fun j x y => ?_, fun j hj => ?_, ?_, ⟨f + 1, hf, p2⟩⟩, gW_k g (fun j x y => post_o (by omega) (by omega))⟩, ⟨?_, ?_, ?_, ?_⟩, ⟨?_, ?_, ?_⟩, ⟨?_, ?_, rt, hrt, ?_⟩, ?_, ?_, ?_, ?_, ?_⟩, ?_, ?_, ?_, ?_⟩
  · rw [post_o (by omega) (by omega)]; exact k1.1 t ht
  · rw [post_o (by omega) (by omega)]; exact k1.2.1 j x y
  · rw [post_o (by omega) (by omega)]; exact k1.2.2 j x y
  · rw [post_o (by omega) (by omega)]; exact k2 j x y
  · rw [post_o (by omega) (by omega)]; exact k3 j hj
  · rw [post_o (by omega) (by omega)]; exact k4
  · rw [i1 5 (by omega), post_o (by omega) (by omega)]; exact c5
  · rw [i1 6 (by omega), post_o (by omega) (by omega)]; exact c6
  · rw [h1, pk_us, post_2, c7]
  · rw [i1 10 (by omega), post_7]; exact c10
  · rw [i1 9 (by omega), post_o (by omega) (by omega)]; exact r9
  · rw [i1 8 (by omega), post_o (by omega) (by omega)]; exact r8
  · rw [i1 11 (by omega), post_o (by omega) (by omega)]; exact r11
  · exact pS_c p (by rw [hI 18 (by omega) (by omega)]) (hI 19 (by omega) (by omega)) (post_o (by omega) (by omega)) tb.2.1 (fun i f x y => post_o (by omega) (by omega))
  · exact tb_c tb (post_o (by omega) (by omega)) (fun i f x y => post_o (by omega) (by omega))
  · rw [post_o (by omega) (by omega)]; exact ert
  · exact pD_k hD tb.2.1 (hI 20 (by omega) (by omega)) (hI 21 (by omega) (by omega)) (hI 22 (by omega) (by omega)) (fun j hj => post_o (by omega) (by omega))
  · rw [hI 27 (by omega) (by omega), hI 28 (by omega) (by omega)]
    exact jR_k hJ (fun j hj => post_o (by omega) (by omega))
  · exact scR_k hsc he.2.1 (hI 25 (by omega) (by omega)) (hI 26 (by omega) (by omega)) (fun j hj => post_o (by omega) (by omega))
  · exact ev_k he (fun j hj => post_o (by omega) (by omega))
  · refine ⟨fun c hc => by rw [post_o (by omega) (by omega), post_o (by omega) (by omega)]; exact hg.1 c hc, ?_⟩
    rw [p2]; exact nI_abs (by omega)
  · rw [h31, post_f, pk_un (by decide), pk_un (by decide)]; exact a1
  · rw [h31, post_f, pk_un (by decide), pk_un (by decide), pk_un (by decide)]; exact a2
  · rw [h31, post_f, pk_us, pk_us]
  · rw [post_f, pk_un (by decide)]; exact a4
theorem en_frame {l1 : Option Value} {ln f : Nat} (h : qR I F s n k ln) (h2 : s.2.1 2 = nI f) (hf : f + 1 ≤ 9999) (hQ : ∀ I', hR I' F (m_post s).2.1 n k ln → aR I' (m_post s) → fr [1, 31] I I' → Q none I' (z_R0 kp sp wd) J F cn) : z_WP (z_X0 L xs) z_P0 (d + 7) m_Frames_play 148 [some (.ref 31), l1] [] I (z_R0 kp sp wd) J F cn 0 0 Q := by
  have e25 : I 31 5 = s.1 25 := h.2.2.2.2.2.2.2.2.2.2.2.1
  have e4 : I 1 10 = s.1 4 := h.2.1.2.2.2
  refine z_WP_gos [] 1000 fun K C hK hC => ?_
  conv => whnf
  rw [e25, e4]
  refine hC _ _ _ _ _ _ _ _ _ _ (fun _ _ _ _ _ _ q => q) (cm_max ?_)
  conv => whnf
  obtain ⟨q1, q2⟩ := post_hR (I' := z_row (z_row I 31 (upd (I 31) 5 (if s.1 4 ≤ s.1 25 then s.1 25 else s.1 4))) 1 (upd (I 1) 7 (I 1 7 + nI 1))) h h2 hf (fun b x y => by rw [z_row_n _ _ (by omega), z_row_n _ _ (by omega)]) (z_row_s _ _ _) (by rw [z_row_n _ _ (by omega)]; exact z_row_s _ _ _)
  refine z_Qv (hQ _ q1 q2 (fun b hb => ?_)) ?_
  · simp only [List.mem_cons, List.not_mem_nil, or_false, not_or] at hb
    rw [z_row_n _ _ (by omega), z_row_n _ _ (by omega)]
  · simp (disch := omega) only [z_lit, nI_add, pk_mul, z_pr1, z_pr2, nI_clamp, z_up_row, z_row_s, z_row_n, z_row_row, pk_us, pk_un]
end
