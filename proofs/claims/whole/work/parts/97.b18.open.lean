/-! the reader's words -/
theorem bif_c {α : Type} {b : Bool} {x y x' y' : α} (h1 : b = true → x = x') (h2 : b = false → y = y') : (bif b then x else y) = (bif b then x' else y') := by
  cases b
  · exact h2 rfl
  · exact h1 rfl
theorem z_R0_n {kp sp wd v : Value} {b k : Nat} (h : ¬ (b = 32 ∧ k = 5)) : z_R0 kp sp wd b k = z_R0 kp sp v b k := by
  unfold z_R0
  repeat' first
    | with_reducible rfl
    | (refine bif_c (fun x => ?_) (fun x => ?_))
  all_goals exact absurd ⟨Nat.eq_of_beq_eq_true (by assumption), Nat.eq_of_beq_eq_true (by assumption)⟩ h
theorem z_R0_w {kp sp wd v : Value} : z_up (z_R0 kp sp wd) 32 5 v = z_R0 kp sp v := by
  funext b k
  unfold z_up
  by_cases h : b = 32 ∧ k = 5
  · obtain ⟨rfl, rfl⟩ := h
    rfl
  · have e := z_R0_n (kp := kp) (sp := sp) (wd := wd) (v := v) h
    by_cases hb : b = 32
    · subst hb
      have hk : k ≠ 5 := fun z => h ⟨rfl, z⟩
      simp [hk, e]
    · simp [hb, e]
section
variable {L : Nat} {xs : Nat → Int32} {d : Nat} {kp sp wd : Value} {I I0 : z_I} {s : z_sg} {R : z_R} {J : z_J} {F : z_F} {cn : Nat} {Q : z_Q} {n k m st c p : Nat} {t : Nat → Nat} {g g0 : Nat → Int32}
theorem cs_open2 (hT : rT I t n) (hn : n ≤ 500) (h2 : I 32 2 = nI n) (hQ : ∀ I', fr [32] I I' → lvC t n kO2 vO2 (I' 32) (tkS t n 0) → Q none I' (z_R0 kp sp (.retAddr 2)) J F cn) :
    z_M (z_X0 L xs) z_P0 (d + 7) m_Reader_open [.ref 32, .retAddr 2] I (z_R0 kp sp wd) J F cn Q := by
  refine z_WP_gos [] 1000 fun K C hK hC => ?_
  conv => whnf
  simp (disch := omega) only [z_lit, nI_add, pk_mul, z_pr1, z_pr2, nI_clamp, z_up_row, z_row_s, z_row_n, z_row_row, pk_us, pk_un]
  rw [z_R0_w]
  have c := tkS_b (t := t) (n := n) (p := 0) (by omega)
  refine hC _ _ _ _ _ _ _ _ _ _ (fun _ _ _ _ _ _ q => q) (cr_step2 (p := 0) (rT_k hT (z_row_n _ _ (by decide))) hn (by rw [z_row_s, pk_un (by decide), pk_un (by decide), pk_un (by decide)]; exact h2) (by rw [z_row_s, pk_us]) (by omega) (fun r hk a9 a8 a6 a7 a72 a73 => ?_))
  conv => whnf
  rw [z_row_row]
  refine hQ (z_row I 32 r) (fr_w fr_r (by decide)) ?_
  rw [z_row_s] at hk ⊢
  have tk := tk2 (t := t) (n := n) (st := tkS t n 0)
  rw [tk.1] at a6 a7 a72 a73
  exact ⟨c.2, (hk 2 (by omega)).trans (by rw [pk_un (by decide), pk_un (by decide), pk_un (by decide)]; exact h2), (hk 3 (by omega)).trans (by rw [pk_un (by decide), pk_un (by decide), pk_us]), (hk 4 (by omega)).trans (by rw [pk_un (by decide), pk_us]; rfl), a9, a8, a6, fun z => (a7 z).trans (by rw [tk.2 (tk.1.trans z)]; rfl), a72, a73⟩
theorem cs_readTable (hT : rT I t n) (hn : n ≤ 500) (h2 : I 32 2 = nI n) (hQ : okQ (pall t n 24 0 g (tkS t n 0)) (fun g' c => ∀ I', fr [32, 34] I I' → rwA (I' 34) g' c → rdC (I' 32) (nI 0) (-1) → Q (some (.int (nI c))) I' (z_R0 kp sp (.retAddr 2)) J F cn) (fun c p => ∀ I', fr [32, 34] I I' → rdC (I' 32) (nI c) (nI p) → Q (some (.int (-1))) I' (z_R0 kp sp (.retAddr 2)) J F cn)) :
    z_M (z_X0 L xs) z_P0 (d + 10) m_Reader_readTable [.ref 32] I (z_R0 kp sp wd) J F cn Q := by
  refine z_WP_gos [10] 1000 fun K C hK hC => ?_
  conv => whnf
  refine hC _ _ _ _ _ _ _ _ _ _ (fun _ _ _ _ _ _ q => q) (cs_open2 hT hn h2 (fun I1 f1 l1 => ?_))
  conv => whnf
  refine hK _ _ _ _ _ _ _ _ _ _ (lp_rt (I0 := I) hT hn 24 0 g (tkS t n 0) I1 rfl (fr_m f1 (by decide)) (fun i hi => by omega) l1 hQ)
end
