/-! terminal, noise: the class's calls -/
section
variable {L : Nat} {xs : Nat → Int32} {d : Nat} {kp sp wd : Value} {I : z_I} {s : z_sg} {R : z_R} {J : z_J} {F : z_F} {cn : Nat} {Q : z_Q} {n k : Nat}
/-- home behind a change of what units and noises say -/
theorem hR_low {I' : z_I} {w w' : Nat → Int32} {ln : Nat} (h : hR I F w n k ln) (hb : bR I' F w' n k) (hI : fr [3, 12, 13] I I') (po : ∀ j, j < 15 ∨ 112 ≤ j → w' j = w j) : hR I' F w' n k ln := by
  obtain ⟨-, ⟨c5, c6, c7, c10⟩, ⟨r9, r8, r11⟩, ⟨p, tb, rt, hrt, ert⟩, hD, hJ, hsc, he, hg⟩ := h
  have i1 : I' 1 = I 1 := hI 1 (by decide)
  refine ⟨hb, ⟨?_, ?_, ?_, ?_⟩, ⟨?_, ?_, ?_⟩, ⟨?_, ?_, rt, hrt, ?_⟩, ?_, ?_, ?_, ?_, ?_⟩
  · rw [i1, po 0 (by omega)]; exact c5
  · rw [i1, po 1 (by omega)]; exact c6
  · rw [i1, po 2 (by omega)]; exact c7
  · rw [i1, po 7 (by omega)]; exact c10
  · rw [i1, po 4 (by omega)]; exact r9
  · rw [i1, po 3 (by omega)]; exact r8
  · rw [i1, po 6 (by omega)]; exact r11
  · exact pS_c p (by rw [hI 18 (by decide)]) (hI 19 (by decide)) (po 8 (by omega)) tb.2.1 (fun i f x y => po _ (by omega))
  · exact tb_c tb (po 8 (by omega)) (fun i f x y => po _ (by omega))
  · rw [po 1 (by omega)]; exact ert
  · exact pD_k hD tb.2.1 (hI 20 (by decide)) (hI 21 (by decide)) (hI 22 (by decide)) (fun j hj => po _ (by omega))
  · rw [hI 27 (by decide), hI 28 (by decide)]
    exact jR_k hJ (fun j hj => po _ (by omega))
  · exact scR_k hsc he.2.1 (hI 25 (by decide)) (hI 26 (by decide)) (fun j hj => po _ (by omega))
  · exact ev_k he (fun j hj => po _ (by omega))
  · exact ⟨fun c hc => by rw [po _ (by omega), po _ (by omega)]; exact hg.1 c hc, by rw [po 2 (by omega)]; exact hg.2⟩
end
