/-! THE EVENTS, in both -/
def evn (w : Nat → Int32) (i f : Nat) : Nat := (w (2765 + 4 * i + f)).toNatClampNeg
def e1_ok (w : Nat → Int32) (i : Nat) : Prop := (∀ f, f < 4 → w (2765 + 4 * i + f) = nI (evn w i f)) ∧ evn w i 1 ≤ 8 ∧ (evn w i 1 = 8 → evn w i 2 < 2 ∧ 1 ≤ evn w i 3 ∧ evn w i 3 ≤ 999) ∧ (evn w i 1 ≠ 8 → evn w i 2 ≤ 8 ∧ (evn w i 2 = 8 → evn w i 1 = 0) ∧ evn w i 3 ≤ tmost (evn w i 1))
def ev_ok (w : Nat → Int32) : Prop := w 2764 = nI (w 2764).toNatClampNeg ∧ (w 2764).toNatClampNeg ≤ 24 ∧ ∀ i, i < (w 2764).toNatClampNeg → e1_ok w i
def m_ev1 (s : z_sg) (i : Nat) : z_sg := if s.2.1 (2765 + 4 * i + 0) = s.2.1 2 then (if evn s.2.1 i 1 = 8 then (if cntn s.2.1 (evn s.2.1 i 2) 8 < 8 then m_noise s (evn s.2.1 i 2) (evn s.2.1 i 3) else s) else m_w s (tpl (evn s.2.1 i 1) + evn s.2.1 i 2) (nI (evn s.2.1 i 3))) else s
def m_ev : Nat → z_sg → z_sg
  | 0, s => s
  | i + 1, s => m_ev1 (m_ev i s) i
theorem ev1_o {s : z_sg} {i j : Nat} (ho : e1_ok s.2.1 i) (hj : j < 15 ∨ 112 ≤ j) : (m_ev1 s i).2.1 j = s.2.1 j := by
  obtain ⟨-, h1, h2, h3⟩ := ho
  unfold m_ev1
  split
  · split
    · rename_i z
      split
      · rename_i y
        have fs := fr_spec (w := s.2.1) (b := evn s.2.1 i 2) 8 0 rfl rfl y
        have := (h2 z).1
        exact pk_un (by omega)
      · rfl
    · rename_i z
      have h4 := h3 z
      have ht : tpl (evn s.2.1 i 1) + evn s.2.1 i 2 < 112 ∧ 31 ≤ tpl (evn s.2.1 i 1) + evn s.2.1 i 2 := by
        unfold tpl
        by_cases y : evn s.2.1 i 1 = 0
        · rw [if_pos y]; omega
        · rw [if_neg y]
          have : evn s.2.1 i 2 < 8 := by
            rcases Nat.lt_or_eq_of_le h4.1 with x | x
            · exact x
            · exact absurd (h4.2.1 x) y
          omega
      exact pk_un (by omega)
  · rfl
theorem ev1_f {s : z_sg} {i : Nat} : (m_ev1 s i).1 = s.1 := by
  unfold m_ev1
  split
  · split
    · split <;> rfl
    · rfl
  · rfl
theorem e1_c {w w' : Nat → Int32} {i : Nat} (h : ∀ j, 2764 ≤ j → w' j = w j) (ho : e1_ok w i) : e1_ok w' i := by
  have he : ∀ f, evn w' i f = evn w i f := fun f => by unfold evn; rw [h _ (by omega)]
  unfold e1_ok at ho ⊢
  refine ⟨fun f hf => by rw [h _ (by omega), he]; exact ho.1 f hf, ?_⟩
  rw [he, he, he]; exact ho.2
theorem ev_o {s : z_sg} (he : ev_ok s.2.1) {j : Nat} (hj : j < 15 ∨ 112 ≤ j) : ∀ i, i ≤ (s.2.1 2764).toNatClampNeg → (m_ev i s).2.1 j = s.2.1 j ∧ ∀ j, 112 ≤ j → (m_ev i s).2.1 j = s.2.1 j
  | 0, _ => ⟨rfl, fun _ _ => rfl⟩
  | i + 1, hi => by
    have ih := ev_o he hj i (by omega)
    have h1 : e1_ok (m_ev i s).2.1 i := e1_c (fun j hj => ih.2 j (by omega)) (he.2.2 i (by omega))
    exact ⟨(ev1_o h1 hj).trans ih.1, fun j hj => (ev1_o h1 (Or.inr hj)).trans (ih.2 j hj)⟩
theorem ev_f {s : z_sg} : ∀ i, (m_ev i s).1 = s.1
  | 0 => rfl
  | i + 1 => ev1_f.trans (ev_f i)
section
variable {L : Nat} {xs : Nat → Int32} {d : Nat} {kp sp wd : Value} {I : z_I} {s : z_sg} {R : z_R} {J : z_J} {F : z_F} {cn : Nat} {Q : z_Q} {n k : Nat}
theorem lp_tells {ne : Nat} (hne : s.2.1 2764 = nI ne) (h24 : ne ≤ 24) (he : ev_ok s.2.1) (hQ : Q none (z_ms I (m_ev ne s)) (z_R0 kp sp wd) J F cn) :
    ∀ j i, i + j = ne → z_WP (z_X0 L xs) z_P0 (d + 2) m_Mod_tellsEvents 4 [some (.ref 40), some (.int (nI (2765 + 4 * i)))] [] (z_ms I (m_ev i s)) (z_R0 kp sp wd) J F cn 0 0 Q := by
  have hnn : (s.2.1 2764).toNatClampNeg = ne := by rw [hne, nI_clamp (by omega)]
  intro j
  induction j with
  | zero =>
    intro i hi
    obtain rfl : i = ne := by omega
    have e := ((ev_o he (j := 2764) (by omega) i (by omega)).1).trans hne
    refine z_WP_gos [4] 1000 fun K C hK hC => ?_
    conv => whnf
    repeat ((first | refine And.intro (by (conv => arg 2; whnf); (try simp only [z_lit, nI_add, pk_mul, z_pr1, z_pr2]); exact z_in (by omega) (by decide)) ?_ | refine z_bt1 (by decide) ?_ | refine z_bf1 (by decide) ?_ | refine z_bt2 (by decide) ?_ | refine z_bf2 (by decide) ?_); conv => whnf)
    simp (disch := omega) only [z_lit, nI_add, pk_mul, z_pr1, z_pr2, nI_clamp, z_m3_40, z_m3_41, z_m3_44, z_m3_u40, z_m3_u41, z_m3_u44, z_m3_m3, pk_us, pk_un]
    rw [e]
    simp (disch := omega) only [z_lit, nI_add, pk_mul, z_pr1, z_pr2, nI_clamp, z_m3_40, z_m3_41, z_m3_44, z_m3_u40, z_m3_u41, z_m3_u44, z_m3_m3, pk_us, pk_un]
    refine ⟨fun _ => ?_, fun h => absurd (Int32.le_refl _) h⟩
    conv => whnf
    exact hQ
  | succ j ih =>
    intro i hi
    have ih' := ih (i + 1) (by omega)
    have eo := ev_o he (j := 2764) (by omega) i (by omega)
    have e := eo.1.trans hne
    have h1 : e1_ok (m_ev i s).2.1 i := e1_c (fun j hj => eo.2 j (by omega)) (he.2.2 i (by omega))
    rw [show m_ev (i + 1) s = m_ev1 (m_ev i s) i from rfl, show 2765 + 4 * (i + 1) = 2765 + 4 * i + 4 by omega] at ih'
    generalize m_ev i s = S at *
    unfold m_ev1 at ih'
    obtain ⟨g0, g1, g2, g3⟩ := h1
    have w1 : S.2.1 (2765 + 4 * i + 1) = nI (evn S.2.1 i 1) := g0 1 (by omega)
    have w2 : S.2.1 (2765 + 4 * i + 2) = nI (evn S.2.1 i 2) := g0 2 (by omega)
    have w3 : S.2.1 (2765 + 4 * i + 3) = nI (evn S.2.1 i 3) := g0 3 (by omega)
    refine z_WP_gos [4] 1000 fun K C hK hC => ?_
    conv => whnf
    repeat ((first | refine And.intro (by (conv => arg 2; whnf); (try simp only [z_lit, nI_add, pk_mul, z_pr1, z_pr2]); exact z_in (by omega) (by decide)) ?_ | refine z_bt1 (by decide) ?_ | refine z_bf1 (by decide) ?_ | refine z_bt2 (by decide) ?_ | refine z_bf2 (by decide) ?_); conv => whnf)
    simp (disch := omega) only [z_lit, nI_add, pk_mul, z_pr1, z_pr2, nI_clamp, z_m3_40, z_m3_41, z_m3_44, z_m3_u40, z_m3_u41, z_m3_u44, z_m3_m3, pk_us, pk_un]
    rw [e]
    simp (disch := omega) only [z_lit, nI_add, pk_mul, z_pr1, z_pr2, nI_clamp, z_m3_40, z_m3_41, z_m3_44, z_m3_u40, z_m3_u41, z_m3_u44, z_m3_m3, pk_us, pk_un]
    refine ⟨fun h => absurd h (nI_ge (by omega) (by omega)), fun _ => ?_⟩
    conv => whnf
    repeat ((first | refine And.intro (by (conv => arg 2; whnf); (try simp only [z_lit, nI_add, pk_mul, z_pr1, z_pr2]); exact z_in (by omega) (by decide)) ?_ | refine z_bt1 (by decide) ?_ | refine z_bf1 (by decide) ?_ | refine z_bt2 (by decide) ?_ | refine z_bf2 (by decide) ?_); conv => whnf)
    refine ⟨fun gf => ?_, fun gf => ?_⟩ <;> (try simp (disch := omega) only [z_lit, nI_add, pk_mul, z_pr1, z_pr2, nI_clamp, z_m3_40, z_m3_41, z_m3_44, z_m3_u40, z_m3_u41, z_m3_u44, z_m3_m3, pk_us, pk_un] at gf) <;> (conv => whnf)
    · rw [if_pos gf] at ih'
      repeat ((first | refine And.intro (by (conv => arg 2; whnf); (try simp only [z_lit, nI_add, pk_mul, z_pr1, z_pr2]); exact z_in (by omega) (by decide)) ?_ | refine z_bt1 (by decide) ?_ | refine z_bf1 (by decide) ?_ | refine z_bt2 (by decide) ?_ | refine z_bf2 (by decide) ?_); conv => whnf)
      refine ⟨fun g8 => ?_, fun g8 => ?_⟩ <;> (try simp (disch := omega) only [z_lit, nI_add, pk_mul, z_pr1, z_pr2, nI_clamp, z_m3_40, z_m3_41, z_m3_44, z_m3_u40, z_m3_u41, z_m3_u44, z_m3_m3, pk_us, pk_un] at g8) <;> (conv => whnf)
      · rw [w1] at g8
        have n8 : ¬ evn S.2.1 i 1 = 8 := fun z => g8 (by rw [z])
        rw [if_neg n8] at ih'
        obtain ⟨g4, g5, g6⟩ := g3 n8
        repeat ((first | refine And.intro (by (conv => arg 2; whnf); (try simp only [z_lit, nI_add, pk_mul, z_pr1, z_pr2]); exact z_in (by omega) (by decide)) ?_ | refine z_bt1 (by decide) ?_ | refine z_bf1 (by decide) ?_ | refine z_bt2 (by decide) ?_ | refine z_bf2 (by decide) ?_); conv => whnf)
        simp (disch := omega) only [z_lit, nI_add, pk_mul, z_pr1, z_pr2, nI_clamp, z_m3_40, z_m3_41, z_m3_44, z_m3_u40, z_m3_u41, z_m3_u44, z_m3_m3, pk_us, pk_un]
        rw [w1, w2, w3]
        refine hC _ _ _ _ _ _ _ _ _ _ (fun _ _ _ _ _ _ q => q) (sp_terminal (s := S) (fun t' q' v' z => ?_) (fun z => absurd ⟨rfl, rfl, rfl, g4, by omega, g5, g6, fun y => absurd y n8⟩ (z (evn S.2.1 i 2) (evn S.2.1 i 1) (evn S.2.1 i 3))))
        obtain ⟨z1, z2, z3, z4, z5, z6, z7, z8⟩ := z
        have hm := tmost_le (evn S.2.1 i 1)
        have hm2 := tmost_le q'
        obtain rfl : evn S.2.1 i 2 = t' := nI_inj9 (by omega) (by omega) z1
        obtain rfl : evn S.2.1 i 1 = q' := nI_inj9 (by omega) (by omega) z2
        obtain rfl : evn S.2.1 i 3 = v' := nI_inj9 (by omega) (by omega) z3
        conv => whnf
        simp (disch := omega) only [z_lit, nI_add, pk_mul, z_pr1, z_pr2, nI_clamp, z_m3_40, z_m3_41, z_m3_44, z_m3_u40, z_m3_u41, z_m3_u44, z_m3_m3, pk_us, pk_un]
        refine hK _ _ _ _ _ _ _ _ _ _ (ih')
      · rw [w1] at g8
        have n8 : evn S.2.1 i 1 = 8 := nI_inj9 (by omega) (by omega) g8
        rw [if_pos n8] at ih'
        obtain ⟨g4, g5, g6⟩ := g2 n8
        repeat ((first | refine And.intro (by (conv => arg 2; whnf); (try simp only [z_lit, nI_add, pk_mul, z_pr1, z_pr2]); exact z_in (by omega) (by decide)) ?_ | refine z_bt1 (by decide) ?_ | refine z_bf1 (by decide) ?_ | refine z_bt2 (by decide) ?_ | refine z_bf2 (by decide) ?_); conv => whnf)
        simp (disch := omega) only [z_lit, nI_add, pk_mul, z_pr1, z_pr2, nI_clamp, z_m3_40, z_m3_41, z_m3_44, z_m3_u40, z_m3_u41, z_m3_u44, z_m3_m3, pk_us, pk_un]
        rw [w2, w3]
        refine hC _ _ _ _ _ _ _ _ _ _ (fun _ _ _ _ _ _ q => q) (sp_noise (s := S) (fun b' n' z zl => ?_) (fun z => ?_))
        · obtain ⟨z1, z2, z3, z4, z5⟩ := z
          obtain rfl : evn S.2.1 i 2 = b' := nI_inj9 (by omega) (by omega) z1
          obtain rfl : evn S.2.1 i 3 = n' := nI_inj9 (by omega) (by omega) z2
          rw [if_pos zl] at ih'
          conv => whnf
          simp (disch := omega) only [z_lit, nI_add, pk_mul, z_pr1, z_pr2, nI_clamp, z_m3_40, z_m3_41, z_m3_44, z_m3_u40, z_m3_u41, z_m3_u44, z_m3_m3, pk_us, pk_un]
          refine hK _ _ _ _ _ _ _ _ _ _ (ih')
        · have zl := z (evn S.2.1 i 2) (evn S.2.1 i 3) ⟨rfl, rfl, g4, g5, g6⟩
          rw [if_neg (by omega)] at ih'
          conv => whnf
          simp (disch := omega) only [z_lit, nI_add, pk_mul, z_pr1, z_pr2, nI_clamp, z_m3_40, z_m3_41, z_m3_44, z_m3_u40, z_m3_u41, z_m3_u44, z_m3_m3, pk_us, pk_un]
          refine hK _ _ _ _ _ _ _ _ _ _ (ih')
    · rw [if_neg gf] at ih'
      simp only [z_lit, nI_add]
      refine hK _ _ _ _ _ _ _ _ _ _ (ih')
theorem sp_tellsEvents (he : ev_ok s.2.1) (hQ : Q none (z_ms I (m_ev (s.2.1 2764).toNatClampNeg s)) (z_R0 kp sp wd) J F cn) : z_M (z_X0 L xs) z_P0 (d + 2) m_Mod_tellsEvents [.ref 40] (z_ms I s) (z_R0 kp sp wd) J F cn Q := by
  refine z_WP_gos [4] 1000 fun K C hK hC => ?_
  conv => whnf
  refine hK _ _ _ _ _ _ _ _ _ _ (lp_tells (ne := (s.2.1 2764).toNatClampNeg) he.1 he.2.1 he hQ (s.2.1 2764).toNatClampNeg 0 (by omega))
/-- the class's script -/
def scR (I : z_I) (w : Nat → Int32) : Prop := I 25 1 = w 2764 ∧ ∀ j, j < 4 * (w 2764).toNatClampNeg → I 26 j = w (2765 + j)
theorem lp_does {ne : Nat} (hne : s.2.1 2764 = nI ne) (h24 : ne ≤ 24) (he : ev_ok s.2.1) (hsc : scR I s.2.1) (hfr : I 1 7 = s.2.1 2) (hn : n + 2000 < 2 ^ 30)
    (hQ : ∀ I', bR I' F (m_ev ne s).2.1 n k → fr [3, 12, 13] I I' → Q none I' (z_R0 kp sp wd) J F cn) :
    ∀ j i I' (l3 l4 l5 l6 : Option Value), i + j = ne → bR I' F (m_ev i s).2.1 n k → fr [3, 12, 13] I I' → z_WP (z_X0 L xs) z_P0 (d + 2) m_Frames_doEvents 10 [some (.ref 31), some (.ref 25), some (.int (nI i)), l3, l4, l5, l6] [] I' (z_R0 kp sp wd) J F cn 0 0 Q := by
  have hnn : (s.2.1 2764).toNatClampNeg = ne := by rw [hne, nI_clamp (by omega)]
  intro j
  induction j with
  | zero =>
    intro i I' l3 l4 l5 l6 hi x f
    obtain rfl : i = ne := by omega
    have e25 : I' 25 1 = nI i := by rw [f 25 (by decide), hsc.1, hne]
    refine z_WP_gos [10] 1000 fun K C hK hC => ?_
    conv => whnf
    rw [e25]
    refine ⟨fun _ => ?_, fun h => absurd (Int32.le_refl _) h⟩
    conv => whnf
    exact hQ I' x f
  | succ j ih =>
    intro i I' l3 l4 l5 l6 hi x f
    have ih' := fun I'' l3 l4 l5 l6 => ih (i + 1) I'' l3 l4 l5 l6 (by omega)
    have eo := ev_o he (j := 2764) (by omega) i (by omega)
    have e2 : (m_ev i s).2.1 2 = s.2.1 2 := (ev_o he (j := 2) (by omega) i (by omega)).1
    have h1 : e1_ok (m_ev i s).2.1 i := e1_c (fun j hj => eo.2 j (by omega)) (he.2.2 i (by omega))
    have e25 : I' 25 1 = nI ne := by rw [f 25 (by decide), hsc.1, hne]
    have er : ∀ q, q < 4 → I' 26 (i * 4 + q) = (m_ev i s).2.1 (2765 + 4 * i + q) := fun q hq => by
      rw [f 26 (by decide), hsc.2 _ (by omega), eo.2 _ (by omega)]
      exact congrArg s.2.1 (by omega)
    rw [show m_ev (i + 1) s = m_ev1 (m_ev i s) i from rfl] at ih'
    generalize m_ev i s = S at *
    unfold m_ev1 at ih'
    obtain ⟨g0, g1, g2, g3⟩ := h1
    have r0 := er 0 (by omega)
    have r1 := (er 1 (by omega)).trans (g0 1 (by omega))
    have r2 := (er 2 (by omega)).trans (g0 2 (by omega))
    have r3 := (er 3 (by omega)).trans (g0 3 (by omega))
    have f7 : I' 1 7 = S.2.1 2 := by rw [f 1 (by decide), hfr, e2]
    refine z_WP_gos [10] 1000 fun K C hK hC => ?_
    conv => whnf
    rw [e25]
    refine ⟨fun h => absurd h (nI_ge (by omega) (by omega)), fun _ => ?_⟩
    conv => whnf
    repeat ((first | refine And.intro (by (conv => arg 2; whnf); (try simp only [z_lit, nI_add, pk_mul, z_pr1, z_pr2]); exact z_in (by omega) (by decide)) ?_ | refine z_bt1 (by decide) ?_ | refine z_bf1 (by decide) ?_ | refine z_bt2 (by decide) ?_ | refine z_bf2 (by decide) ?_); conv => whnf)
    refine ⟨fun gf => ?_, fun gf => ?_⟩ <;> (try simp (disch := omega) only [z_lit, nI_add, pk_mul, z_pr1, z_pr2, nI_clamp, z_up_row, z_row_s, z_row_n, z_row_row, pk_us, pk_un] at gf) <;> (conv => whnf)
    · rw [r0, f7] at gf
      rw [if_neg gf] at ih'
      simp only [z_lit, nI_add]
      refine hK _ _ _ _ _ _ _ _ _ _ (ih' I' _ _ _ _ x f)
    · rw [r0, f7] at gf
      rw [if_pos gf] at ih'
      repeat ((first | refine And.intro (by (conv => arg 2; whnf); (try simp only [z_lit, nI_add, pk_mul, z_pr1, z_pr2]); exact z_in (by omega) (by decide)) ?_ | refine z_bt1 (by decide) ?_ | refine z_bf1 (by decide) ?_ | refine z_bt2 (by decide) ?_ | refine z_bf2 (by decide) ?_); conv => whnf)
      simp (disch := omega) only [z_lit, nI_add, pk_mul, z_pr1, z_pr2, nI_clamp, z_up_row, z_row_s, z_row_n, z_row_row, pk_us, pk_un]
      rw [r1, r2, r3]
      refine ⟨fun g8 => ?_, fun g8 => ?_⟩
      · have n8 : ¬ evn S.2.1 i 1 = 8 := fun z => g8 (by rw [z]; try rfl)
        rw [if_neg n8] at ih'
        obtain ⟨g4, g5, g6⟩ := g3 n8
        conv => whnf
        refine hC _ _ _ _ _ _ _ _ _ _ (fun _ _ _ _ _ _ q => q) (cu_tell (fun t' q' v' z => ?_) (fun z => absurd ⟨rfl, rfl, rfl, g4, by omega, g5, g6, fun y => absurd y n8⟩ (z (evn S.2.1 i 2) (evn S.2.1 i 1) (evn S.2.1 i 3))))
        have z' := z
        obtain ⟨z1, z2, z3, z4, z5, z6, z7, z8⟩ := z
        have hm := tmost_le (evn S.2.1 i 1)
        have hm2 := tmost_le q'
        obtain rfl : evn S.2.1 i 2 = t' := nI_inj9 (by omega) (by omega) z1
        obtain rfl : evn S.2.1 i 1 = q' := nI_inj9 (by omega) (by omega) z2
        obtain rfl : evn S.2.1 i 3 = v' := nI_inj9 (by omega) (by omega) z3
        conv => whnf
        simp only [z_lit, nI_add]
        refine hK _ _ _ _ _ _ _ _ _ _ (ih' _ _ _ _ _ (bR_tell x z' (z_row_s _ _ _) (fun b hb => z_row_n _ _ hb) rfl) (fr_w f (by decide)))
      · have n8 : evn S.2.1 i 1 = 8 := nI_inj9 (by omega) (by omega) g8
        rw [if_pos n8] at ih'
        obtain ⟨g4, g5, g6⟩ := g2 n8
        conv => whnf
        refine hC _ _ _ _ _ _ _ _ _ _ (fun _ _ _ _ _ _ q => q) (cw_addNoise (s := S) g4 g5 g6 hn x.2.1 (fun z => ?_) (fun z I'' f'' w'' => ?_))
        · rw [if_neg (by omega)] at ih'
          conv => whnf
          simp only [z_lit, nI_add]
          refine hK _ _ _ _ _ _ _ _ _ _ (ih' I' _ _ _ _ x f)
        · rw [if_pos z] at ih'
          conv => whnf
          simp only [z_lit, nI_add]
          refine hK _ _ _ _ _ _ _ _ _ _ (ih' I'' _ _ _ _ (bR_noise x g4 z f'' w'') (fr_t f (fr_m f'' (by decide))))
theorem cf_doEvents (he : ev_ok s.2.1) (hsc : scR I s.2.1) (hfr : I 1 7 = s.2.1 2) (hn : n + 2000 < 2 ^ 30) (h : bR I F s.2.1 n k)
    (hQ : ∀ I', bR I' F (m_ev (s.2.1 2764).toNatClampNeg s).2.1 n k → fr [3, 12, 13] I I' → Q none I' (z_R0 kp sp wd) J F cn) : z_M (z_X0 L xs) z_P0 (d + 2) m_Frames_doEvents [.ref 31] I (z_R0 kp sp wd) J F cn Q := by
  refine z_WP_gos [10] 1000 fun K C hK hC => ?_
  conv => whnf
  refine hK _ _ _ _ _ _ _ _ _ _ (lp_does (s := s) (I := I) (ne := (s.2.1 2764).toNatClampNeg) he.1 he.2.1 he hsc hfr hn hQ (s.2.1 2764).toNatClampNeg 0 I none none none none (by omega) h fr_r)
end
