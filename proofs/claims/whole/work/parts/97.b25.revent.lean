/-! events as a text: the class's event -/
def clE (I0 I : z_I) (m b : Nat) (g : Nat → Int32) : Prop := fr [32, 34] I0 I ∧ (∀ j, j < m * 4 → I 34 j = I0 34 j) ∧ ∀ a, a < b → I 34 (m * 4 + a) = g (14 * m + a)
theorem clE_w {I0 I : z_I} {m b : Nat} {g : Nat → Int32} {v : Int32} (h : clE I0 I m b g) : clE I0 (z_row I 34 (upd (I 34) (m * 4 + b) v)) m (b + 1) (upd g (14 * m + b) v) := by
  obtain ⟨h1, h2, h3⟩ := h
  refine ⟨fr_w h1 (by decide), fun j hj => by rw [z_row_s, pk_un (by omega)]; exact h2 j hj, fun a ha => ?_⟩
  rw [z_row_s]
  by_cases z : a = b
  · subst z; rw [pk_us, pk_us]
  · rw [pk_un (by omega), pk_un (by omega)]
    exact h3 a (by omega)
theorem clE_r {I0 I I' : z_I} {m b : Nat} {g : Nat → Int32} (h : clE I0 I m b g) (hf : fr [32] I I') : clE I0 I' m b g := by
  have e : I' 34 = I 34 := hf 34 (by decide)
  exact ⟨fr_t h.1 (fr_m hf (by decide)), fun j hj => by rw [e]; exact h.2.1 j hj, fun a ha => by rw [e]; exact h.2.2 a ha⟩
section
variable {L : Nat} {xs : Nat → Int32} {d : Nat} {kp sp wd : Value} {I I0 : z_I} {s : z_sg} {R : z_R} {J : z_J} {F : z_F} {cn : Nat} {Q : z_Q} {n k m st c p : Nat} {t : Nat → Nat} {g g0 : Nat → Int32}
theorem cs_failE {c p : Nat} (h3 : I 32 3 = nI 0) (hQ : Q none (z_row I 32 (upd (upd (I 32) 3 (nI c)) 4 (nI p))) (z_R0 kp sp wd) J F cn) : z_M (z_X0 L xs) z_P0 d m_Reader_fail [.ref 32, .int (nI c), .int (nI p)] I (z_R0 kp sp wd) J F cn Q := by
  refine z_WP_gos [] 1000 fun K C hK hC => ?_
  conv => whnf
  simp (disch := omega) only [z_lit, nI_add, pk_mul, z_pr1, z_pr2, nI_clamp, z_up_row, z_row_s, z_row_n, z_row_row, pk_us, pk_un]
  rw [h3]
  refine ⟨fun z => absurd rfl z, fun _ => ?_⟩
  conv => whnf
  simp (disch := omega) only [z_lit, nI_add, pk_mul, z_pr1, z_pr2, nI_clamp, z_up_row, z_row_s, z_row_n, z_row_row, pk_us, pk_un]
  exact hQ
theorem cs_number4E {lo hi : Nat} (hT : rT I t n) (hn : n ≤ 500) (hhi : hi < 2 ^ 30) (hlo : lo < 2 ^ 30) (h : lvC t n kO4 vO4 (I 32) st) (hQ : okQ (pnum t n m k lo hi g st) (fun fr' st' => ∀ v I', fr' = upd g (14 * m + k) (nI v) → v ≤ hi → fr [32] I I' → lvC t n kO4 vO4 (I' 32) st' → Q (some (.int (nI v))) I' (z_R0 kp sp (.retAddr 4)) J F cn) (fun c p => c ≠ 0 → c < 100 → Q (some (.int 0)) (z_row I 32 (upd (upd (I 32) 3 (nI c)) 4 (nI p))) (z_R0 kp sp (.retAddr 4)) J F cn)) :
    z_M (z_X0 L xs) z_P0 (d + 7) m_Reader_number [.ref 32, .int (nI lo), .int (nI hi)] I (z_R0 kp sp (.retAddr 4)) J F cn Q := by
  obtain ⟨h0, h2, h3, h4, h9, h8, h6, h71, h72, h73⟩ := id h
  have hl := tkM_le (t := t) (n := n) (st := st)
  have hk2 := kO4_2 _ hl
  have hv := tkV_lt2 hT h0
  unfold pnum at hQ
  refine z_WP_gos [] 1000 fun K C hK hC => ?_
  conv => whnf
  simp (disch := omega) only [z_lit, nI_add, pk_mul, z_pr1, z_pr2, nI_clamp, z_up_row, z_row_s, z_row_n, z_row_row, pk_us, pk_un]
  rw [h3]
  refine ⟨fun _ => ?_, fun z => absurd rfl z⟩
  conv => whnf
  simp (disch := omega) only [z_lit, nI_add, pk_mul, z_pr1, z_pr2, nI_clamp, z_up_row, z_row_s, z_row_n, z_row_row, pk_us, pk_un]
  rw [h6]
  refine ⟨fun g => ?_, fun g => ?_⟩
  rotate_left
  · have g' : ¬ tkM t n st = 2 := fun z => g (by rw [hk2.1.mpr z])
    rw [if_neg g'] at hQ
    conv => whnf
    simp (disch := omega) only [z_lit, nI_add, pk_mul, z_pr1, z_pr2, nI_clamp, z_up_row, z_row_s, z_row_n, z_row_row, pk_us, pk_un]
    rw [h8]
    refine hC _ _ _ _ _ _ _ _ _ _ (fun _ _ _ _ _ _ q => q) (cs_failE (c := 1) (p := st) h3 ?_)
    conv => whnf
    exact hQ (show 1 ≠ 0 by decide) (show 1 < 100 by decide)
  have g' : tkM t n st = 2 := hk2.1.mp (nI_inj9 (b := 2) (by omega) (by omega) g)
  have e7 := h72 (hk2.1.mpr g')
  rw [if_pos g'] at hQ
  conv => whnf
  simp (disch := omega) only [z_lit, nI_add, pk_mul, z_pr1, z_pr2, nI_clamp, z_up_row, z_row_s, z_row_n, z_row_row, pk_us, pk_un]
  rw [e7]
  refine ⟨fun g1 => ?_, fun g1 => ?_⟩
  · have g1' : tkV t n st < lo := (nI_ltI (by omega) (by omega)).mp g1
    rw [if_neg (by omega)] at hQ
    conv => whnf
    simp (disch := omega) only [z_lit, nI_add, pk_mul, z_pr1, z_pr2, nI_clamp, z_up_row, z_row_s, z_row_n, z_row_row, pk_us, pk_un]
    rw [h8]
    refine hC _ _ _ _ _ _ _ _ _ _ (fun _ _ _ _ _ _ q => q) (cs_failE (c := 2) (p := st) h3 ?_)
    conv => whnf
    exact hQ (show 2 ≠ 0 by decide) (show 2 < 100 by decide)
  have g1' : lo ≤ tkV t n st := by
    rcases Nat.lt_or_ge (tkV t n st) lo with z | z
    · exact absurd (nI_lt z (by omega)) g1
    · exact z
  conv => whnf
  simp (disch := omega) only [z_lit, nI_add, pk_mul, z_pr1, z_pr2, nI_clamp, z_up_row, z_row_s, z_row_n, z_row_row, pk_us, pk_un]
  rw [e7]
  refine ⟨fun g2 => ?_, fun g2 => ?_⟩
  · have g2' : tkV t n st ≤ hi := (nI_leI (by omega) (by omega)).mp g2
    rw [if_pos ⟨g1', g2'⟩] at hQ
    conv => whnf
    simp (disch := omega) only [z_lit, nI_add, pk_mul, z_pr1, z_pr2, nI_clamp, z_up_row, z_row_s, z_row_n, z_row_row, pk_us, pk_un]
    rw [e7]
    refine hC _ _ _ _ _ _ _ _ _ _ (fun _ _ _ _ _ _ q => q) (cs_next4 hT hn h (fun I' f' l' => ?_))
    conv => whnf
    exact hQ (tkV t n st) I' rfl g2' f' l'
  · have g2' : ¬ tkV t n st ≤ hi := fun z => g2 (nI_le z (by omega))
    rw [if_neg (by omega)] at hQ
    conv => whnf
    simp (disch := omega) only [z_lit, nI_add, pk_mul, z_pr1, z_pr2, nI_clamp, z_up_row, z_row_s, z_row_n, z_row_row, pk_us, pk_un]
    rw [h8]
    refine hC _ _ _ _ _ _ _ _ _ _ (fun _ _ _ _ _ _ q => q) (cs_failE (c := 2) (p := st) h3 ?_)
    conv => whnf
    exact hQ (show 2 ≠ 0 by decide) (show 2 < 100 by decide)
theorem dE149 (hD : ∀ I', fr [32, 34] I0 I' → ddC (I' 32) c p → Q none I' (z_R0 kp sp (.retAddr 4)) J F cn) (f : fr [32, 34] I0 I) (h : ddC (I 32) c p) {o w : Int32} : z_WP (z_X0 L xs) z_P0 (d + 9) m_Reader_readEvent 149 [some (.ref 32), some (.int o), some (.int w)] [] I (z_R0 kp sp (.retAddr 4)) J F cn 0 0 Q := by
  refine z_WP_gos [] 1000 fun K C hK hC => ?_
  conv => whnf
  refine hC _ _ _ _ _ _ _ _ _ _ (fun _ _ _ _ _ _ q => q) (cs_expectD h ?_)
  conv => whnf
  exact hD I f h
theorem dE62 {w : Int32} (hm : m < 24) (hD : ∀ I', fr [32, 34] I0 I' → ddC (I' 32) c p → Q none I' (z_R0 kp sp (.retAddr 4)) J F cn) (f : fr [32, 34] I0 I) (h : ddC (I 32) c p) : z_WP (z_X0 L xs) z_P0 (d + 9) m_Reader_readEvent 62 [some (.ref 32), some (.int (nI (m * 4))), some (.int w)] [] I (z_R0 kp sp (.retAddr 4)) J F cn 0 0 Q := by
  have step2 : ∀ (a : Nat) (v : Int32), fr [32, 34] I0 (z_row I 34 (upd (I 34) (m * 4 + a) v)) ∧ ddC ((z_row I 34 (upd (I 34) (m * 4 + a) v)) 32) c p := fun a v => ⟨fr_w f (by decide), by rw [z_row_n _ _ (by decide)]; exact h⟩
  refine z_WP_gos [149] 1000 fun K C hK hC => ?_
  conv => whnf
  refine ⟨fun _ => ?_, fun _ => ?_⟩
  · conv => whnf
    refine ⟨fun _ => ?_, fun _ => ?_⟩
    · conv => whnf
      refine hC _ _ _ _ _ _ _ _ _ _ (fun _ _ _ _ _ _ q => q) (cs_numberD h ?_)
      conv => whnf
      repeat ((first | refine And.intro (by (conv => arg 2; whnf); (try simp only [z_lit, nI_add, pk_mul, z_pr1, z_pr2]); exact z_in (by omega) (by decide)) ?_ | refine z_bt1 (by decide) ?_ | refine z_bf1 (by decide) ?_ | refine z_bt2 (by decide) ?_ | refine z_bf2 (by decide) ?_); conv => whnf)
      simp (disch := omega) only [z_lit, nI_add, pk_mul, z_pr1, z_pr2, nI_clamp, z_up_row, z_row_s, z_row_n, z_row_row, pk_us, pk_un]
      refine ⟨fun _ => ?_, fun _ => ?_⟩
      · conv => whnf
        refine hC _ _ _ _ _ _ _ _ _ _ (fun _ _ _ _ _ _ q => q) (cs_numberD (step2 2 (nI 0)).2 ?_)
        conv => whnf
        repeat ((first | refine And.intro (by (conv => arg 2; whnf); (try simp only [z_lit, nI_add, pk_mul, z_pr1, z_pr2]); exact z_in (by omega) (by decide)) ?_ | refine z_bt1 (by decide) ?_ | refine z_bf1 (by decide) ?_ | refine z_bt2 (by decide) ?_ | refine z_bf2 (by decide) ?_); conv => whnf)
        simp (disch := omega) only [z_lit, nI_add, pk_mul, z_pr1, z_pr2, nI_clamp, z_up_row, z_row_s, z_row_n, z_row_row, pk_us, pk_un]
        refine hK _ _ _ _ _ _ _ _ _ _ (dE149 hD (fr_w f (by decide)) (by rw [z_row_n _ _ (by decide)]; exact h))
      · conv => whnf
        refine hC _ _ _ _ _ _ _ _ _ _ (fun _ _ _ _ _ _ q => q) (cs_numberD (step2 2 (nI 0)).2 ?_)
        conv => whnf
        repeat ((first | refine And.intro (by (conv => arg 2; whnf); (try simp only [z_lit, nI_add, pk_mul, z_pr1, z_pr2]); exact z_in (by omega) (by decide)) ?_ | refine z_bt1 (by decide) ?_ | refine z_bf1 (by decide) ?_ | refine z_bt2 (by decide) ?_ | refine z_bf2 (by decide) ?_); conv => whnf)
        simp (disch := omega) only [z_lit, nI_add, pk_mul, z_pr1, z_pr2, nI_clamp, z_up_row, z_row_s, z_row_n, z_row_row, pk_us, pk_un]
        refine hK _ _ _ _ _ _ _ _ _ _ (dE149 hD (fr_w f (by decide)) (by rw [z_row_n _ _ (by decide)]; exact h))
    · conv => whnf
      refine hC _ _ _ _ _ _ _ _ _ _ (fun _ _ _ _ _ _ q => q) (cs_numberD h ?_)
      conv => whnf
      repeat ((first | refine And.intro (by (conv => arg 2; whnf); (try simp only [z_lit, nI_add, pk_mul, z_pr1, z_pr2]); exact z_in (by omega) (by decide)) ?_ | refine z_bt1 (by decide) ?_ | refine z_bf1 (by decide) ?_ | refine z_bt2 (by decide) ?_ | refine z_bf2 (by decide) ?_); conv => whnf)
      simp (disch := omega) only [z_lit, nI_add, pk_mul, z_pr1, z_pr2, nI_clamp, z_up_row, z_row_s, z_row_n, z_row_row, pk_us, pk_un]
      refine ⟨fun _ => ?_, fun _ => ?_⟩
      · conv => whnf
        refine hC _ _ _ _ _ _ _ _ _ _ (fun _ _ _ _ _ _ q => q) (cs_numberD (step2 2 (nI 0)).2 ?_)
        conv => whnf
        repeat ((first | refine And.intro (by (conv => arg 2; whnf); (try simp only [z_lit, nI_add, pk_mul, z_pr1, z_pr2]); exact z_in (by omega) (by decide)) ?_ | refine z_bt1 (by decide) ?_ | refine z_bf1 (by decide) ?_ | refine z_bt2 (by decide) ?_ | refine z_bf2 (by decide) ?_); conv => whnf)
        simp (disch := omega) only [z_lit, nI_add, pk_mul, z_pr1, z_pr2, nI_clamp, z_up_row, z_row_s, z_row_n, z_row_row, pk_us, pk_un]
        refine hK _ _ _ _ _ _ _ _ _ _ (dE149 hD (fr_w f (by decide)) (by rw [z_row_n _ _ (by decide)]; exact h))
      · conv => whnf
        refine hC _ _ _ _ _ _ _ _ _ _ (fun _ _ _ _ _ _ q => q) (cs_numberD (step2 2 (nI 0)).2 ?_)
        conv => whnf
        repeat ((first | refine And.intro (by (conv => arg 2; whnf); (try simp only [z_lit, nI_add, pk_mul, z_pr1, z_pr2]); exact z_in (by omega) (by decide)) ?_ | refine z_bt1 (by decide) ?_ | refine z_bf1 (by decide) ?_ | refine z_bt2 (by decide) ?_ | refine z_bf2 (by decide) ?_); conv => whnf)
        simp (disch := omega) only [z_lit, nI_add, pk_mul, z_pr1, z_pr2, nI_clamp, z_up_row, z_row_s, z_row_n, z_row_row, pk_us, pk_un]
        refine hK _ _ _ _ _ _ _ _ _ _ (dE149 hD (fr_w f (by decide)) (by rw [z_row_n _ _ (by decide)]; exact h))
  · conv => whnf
    refine hC _ _ _ _ _ _ _ _ _ _ (fun _ _ _ _ _ _ q => q) (cs_numberD h ?_)
    conv => whnf
    repeat ((first | refine And.intro (by (conv => arg 2; whnf); (try simp only [z_lit, nI_add, pk_mul, z_pr1, z_pr2]); exact z_in (by omega) (by decide)) ?_ | refine z_bt1 (by decide) ?_ | refine z_bf1 (by decide) ?_ | refine z_bt2 (by decide) ?_ | refine z_bf2 (by decide) ?_); conv => whnf)
    simp (disch := omega) only [z_lit, nI_add, pk_mul, z_pr1, z_pr2, nI_clamp, z_up_row, z_row_s, z_row_n, z_row_row, pk_us, pk_un]
    refine hC _ _ _ _ _ _ _ _ _ _ (fun _ _ _ _ _ _ q => q) (cs_numberD (step2 2 (nI 0)).2 ?_)
    conv => whnf
    repeat ((first | refine And.intro (by (conv => arg 2; whnf); (try simp only [z_lit, nI_add, pk_mul, z_pr1, z_pr2]); exact z_in (by omega) (by decide)) ?_ | refine z_bt1 (by decide) ?_ | refine z_bf1 (by decide) ?_ | refine z_bt2 (by decide) ?_ | refine z_bf2 (by decide) ?_); conv => whnf)
    simp (disch := omega) only [z_lit, nI_add, pk_mul, z_pr1, z_pr2, nI_clamp, z_up_row, z_row_s, z_row_n, z_row_row, pk_us, pk_un]
    refine hK _ _ _ _ _ _ _ _ _ _ (dE149 hD (fr_w f (by decide)) (by rw [z_row_n _ _ (by decide)]; exact h))
end
