/-! frames, in both -/
def m_fms : Nat → z_sg → z_sg
  | 0, s => s
  | j + 1, s => m_once (m_fms j s)
def m_zero (s : z_sg) : z_sg := m_f (m_f (m_f s 29 (nI 0)) 30 (nI 0)) 25 (nI 0)
theorem asked_o {s : z_sg} {j : Nat} (hj : j ≤ 4 ∨ (6 ≤ j ∧ j ≤ 9) ∨ (31 ≤ j ∧ j < 48) ∨ (56 ≤ j ∧ j < 112) ∨ (192 ≤ j ∧ j < 576) ∨ (1344 ≤ j ∧ j < 2220) ∨ 2572 ≤ j) : (m_asked s).2.1 j = s.2.1 j := ask_o (s := s) hj 8 (Nat.le_refl _)
section
variable {L : Nat} {xs : Nat → Int32} {d : Nat} {kp sp wd : Value} {I : z_I} {s : z_sg} {R : z_R} {J : z_J} {F : z_F} {cn : Nat} {Q : z_Q} {n k : Nat}
def p8 (v : Int32) : Prop := ∃ t : Nat, t ≤ 8 ∧ v = nI t
theorem lp_24 {i : Nat} (hi : i < 24) : ∀ fu (s : z_sg) bus tr, ln_ok s.2.1 i → bus < 2 → (m_lp i fu s bus tr).1 24 = s.1 24
  | 0, s, bus, tr, ho, hb => rfl
  | fu + 1, s, bus, tr, ho, hb => by
    unfold m_lp
    cases s_much s (nI (s_time s.2.1 i))
    · simp only [cond_false]
      have k1 : m_kept s (m_set3 (m_try1 s i bus).1 (m_try1 s i bus).2 (tr + 1) (nI bus)) := kept_try ho hb
      have k2 : (m_set3 (m_try1 s i bus).1 (m_try1 s i bus).2 (tr + 1) (nI bus)).1 24 = s.1 24 := by
        have e := try1_f (s := s) (i := i) (bus := bus) (j := 24) ho (by omega)
        generalize m_try1 s i bus = z at *
        unfold m_set3
        simp (disch := omega) only [pk_un]
        exact e
      cases s_lost (m_try1 s i bus).2 && decide (nI (tr + 1) ≤ s.2.1 1)
      · exact k2
      · exact (lp_24 hi fu _ (1 - bus) (tr + 1) (ln_ok_c (kept_ln k1) hi ho) (by omega)).trans k2
    · rfl
theorem goes_24 {i : Nat} (hi : i < 24) (ho : ln_ok s.2.1 i) (h : p8 (s.1 24)) : p8 ((m_goes s i).1 24) := by
  have i24 : ∀ (s : z_sg) o, (m_in s o).1 24 = s.1 24 := fun s o => by
    unfold m_in
    simp (disch := omega) only [pk_un]
  unfold m_goes
  cases s_toC s.2.1 i
  · show p8 ((m_tl (m_in s (nI 7)) i).1 24)
    unfold m_tl
    have e := lp_24 (i := i) hi 4 (m_in (m_in s (nI 7)) (nI 6)) (lnn (m_in s (nI 7)).2.1 i 8) 0 ho (ln_b ho)
    rw [i24, i24] at e
    generalize m_lp i 4 (m_in (m_in s (nI 7)) (nI 6)) (lnn (m_in s (nI 7)).2.1 i 8) 0 = z at *
    have hl : lnn (m_in s (nI 7)).2.1 i 1 ≤ 8 := ho.2.2.1
    generalize lnn (m_in s (nI 7)).2.1 i 1 = t at *
    unfold m_hd
    split
    · split
      · exact ⟨t, hl, show upd z.1 24 (nI t) 24 = nI t from pk_us⟩
      · rw [show (m_f z 26 (nI 5)).1 24 = z.1 24 from (show upd z.1 26 (nI 5) 24 = z.1 24 from pk_un (by decide)), e]; exact h
    · rw [e]; exact h
  · show p8 ((m_in s (nI 7)).1 24)
    rw [i24]; exact h
theorem lns_24 {f B ln : Nat} (hs : oS s B ln) (hB : B + 2400 < 2 ^ 29) (h : p8 (s.1 24)) : ∀ i, i ≤ (s.2.1 8).toNatClampNeg → p8 ((m_lns f i s).1 24)
  | 0, _ => h
  | i + 1, hi => by
    have ih := lns_24 (f := f) hs hB h i (by omega)
    obtain ⟨⟨ln', l1, l2⟩, kk, -⟩ := lns_oS (f := f) hs hB i (by omega)
    have h24 := hs.1.2.1
    have k8 := kk 8 (by omega)
    show p8 ((m_ln1 f (m_lns f i s) i).1 24)
    generalize m_lns f i s = z at *
    unfold m_ln1
    cases s_due z.2.1 i f
    · exact ih
    · have g := goes_24 (s := m_f z 29 (z.1 29 + nI 1)) (i := i) (by omega) (l2.1.2.2 i (by rw [k8]; omega)) (by rw [show (m_f z 29 (z.1 29 + nI 1)).1 24 = z.1 24 from (show upd z.1 29 (z.1 29 + nI 1) 24 = z.1 24 from pk_un (by decide))]; exact ih)
      simp only [cond_true]
      unfold m_stp
      generalize m_goes (m_f z 29 (z.1 29 + nI 1)) i = G at *
      show p8 (upd G.1 30 (z.1 30 + z_bi (decide (s_out G = 0))) 24)
      rw [pk_un (by decide)]; exact g
/-- a frame of the model's keeps what the next one asks for -/
theorem once_oF {B ln f c : Nat} (h : oF s B ln f c) (hB : B + 3000 < 2 ^ 29) (hf : f + 1 < 2 ^ 20) : ∃ ln' c', ln' ≤ ln + 24 ∧ oF (m_once s) (B + 2300) ln' (f + 1) c' := by
  obtain ⟨hs, he, hg, h2, h3, hc, -⟩ := h
  have po := fun j hj => pre_o (s := s) he (j := j) hj
  have p2 := (po 2 (by omega)).trans h2
  have p3 := (po 3 (by omega)).trans h3
  have hsP : oS (m_pre s) B ln := oS_c hs fun j hj => po j (by omega)
  have heP : ev_ok (m_pre s).2.1 := ev_k he fun j hj => po j (by omega)
  have hgP : gS (m_pre s).2.1 := ⟨fun c hc => by rw [po _ (by omega), po _ (by omega)]; exact hg.1 c hc, by rw [po 2 (by omega)]; exact hg.2⟩
  unfold m_once
  generalize m_pre s = P at *
  -- the end of a frame
  have post : ∀ (T : z_sg) (B' ln' c' : Nat), oS T B' ln' → ev_ok T.2.1 → (∀ c, c < 48 → g_ok (T.2.1 (1440 + c)) ∧ g_ok (T.2.1 (1488 + c))) → T.2.1 2 = nI f → T.2.1 3 = nI c' → c' ≤ 8 → oF (m_post T) B' ln' (f + 1) c' := by
    intro T B' ln' c' a b c e g hc
    have q2 : (m_post T).2.1 2 = nI (f + 1) := by rw [post_2, e]; exact nI_1 f
    refine ⟨oS_c a fun j hj => post_o (by omega) (by omega), ev_k b fun j hj => post_o (by omega) (by omega), ⟨fun c' hc' => by rw [post_o (by omega) (by omega), post_o (by omega) (by omega)]; exact c c' hc', by rw [q2]; exact nI_abs hf⟩, q2, by rw [post_o (by omega) (by omega)]; exact g, hc, by omega⟩
  have up : ∀ {T : z_sg} {B' ln' : Nat}, oS T B' ln' → B' ≤ B + 2300 → oS T (B + 2300) ln' := fun a hb => ⟨a.1, a.2.1, a.2.2.1, ok_le a.2.2.2.1 hb, a.2.2.2.2⟩
  by_cases hz : s_ctp P.2.1 = nI 0
  · rw [if_pos hz]
    obtain ⟨c', x, y⟩ := sil_3 (s := P) ⟨c, hc, p3⟩
    have so : ∀ j, j ≠ 3 → j ≠ 6 → j ≠ 4 → (m_sil P).2.1 j = P.2.1 j := fun j a b c => sil_o a b c
    exact ⟨ln, c', by omega, post _ _ _ _ (up (oS_c hsP fun j hj => so j (by omega) (by omega) (by omega)) (by omega)) (ev_k heP fun j hj => so j (by omega) (by omega) (by omega)) (fun c hc => by rw [so _ (by omega) (by omega) (by omega), so _ (by omega) (by omega) (by omega)]; exact hgP.1 c hc) ((so 2 (by omega) (by omega) (by omega)).trans p2) y x⟩
  · rw [if_neg hz]
    have hsW : oS (m_pow P) B ln := oS_c hsP fun j hj => pow_o (by omega)
    have h24 := hsP.1.2.1
    have pw8 : ((m_pow P).2.1 8).toNatClampNeg = (P.2.1 8).toNatClampNeg := congrArg Int32.toNatClampNeg (pow_o (by decide))
    have w24 : p8 ((m_pow P).1 24) := ⟨c, hc, (show upd P.1 24 (P.2.1 3) 24 = P.2.1 3 from pk_us).trans p3⟩
    have g24 := lns_24 (f := (P.2.1 2).toNatClampNeg) hsW (by omega) w24 (P.2.1 8).toNatClampNeg (by rw [pw8]; exact Nat.le_refl _)
    obtain ⟨⟨ln', q1, q2⟩, q3, -⟩ := lns_oS (f := (P.2.1 2).toNatClampNeg) hsW (by omega) (P.2.1 8).toNatClampNeg (by rw [pw8]; exact Nat.le_refl _)
    have qo : ∀ j, j ≤ 2 ∨ (1392 ≤ j ∧ j < 1536) ∨ 2764 ≤ j → (m_run P).2.1 j = P.2.1 j := fun j hj => (q3 j (by omega)).trans (pow_o (by omega))
    have q2' : oS (m_run P) (B + 2016) ln' := ⟨q2.1, q2.2.1, q2.2.2.1, ok_le q2.2.2.2.1 (by omega), q2.2.2.2.2⟩
    have g24' : p8 ((m_run P).1 24) := g24
    generalize m_run P = T at *
    have ao : ∀ j, j ≤ 4 ∨ (6 ≤ j ∧ j ≤ 9) ∨ (31 ≤ j ∧ j < 48) ∨ (56 ≤ j ∧ j < 112) ∨ (192 ≤ j ∧ j < 576) ∨ (1344 ≤ j ∧ j < 2220) ∨ 2572 ≤ j → (m_asked T).2.1 j = T.2.1 j := fun j hj => asked_o hj
    have a24 : (m_asked T).1 24 = T.1 24 := ask_f (s := T) (by omega) 8
    have aok : m_ok (m_asked T) (B + 2016 + 21 * 8) := ask_ok q2'.2.2.2.1 (by omega) 8 (Nat.le_refl _)
    generalize m_asked T = A at *
    rw [a24]
    obtain ⟨t, ht, et⟩ := g24'
    rw [et]
    have oA : oS A (B + 2300) ln' := ⟨tb_c q2'.1 (ao 8 (by omega)) (fun i f x y => ao _ (by omega)), by rw [ao 1 (by omega)]; exact q2'.2.1, by rw [ao 9 (by omega)]; exact q2'.2.2.1, ok_le aok (by omega), m_fok_of q2'.2.2.2.2 fun c hc => ao _ (by omega)⟩
    have co : ∀ j, j ≠ 3 → j ≠ 6 → (m_ctl A (nI t)).2.1 j = A.2.1 j := fun j a b => ctl_o a b
    have c3 : (m_ctl A (nI t)).2.1 3 = nI t := by
      unfold m_ctl
      split
      · rename_i e; exact e.symm
      · show upd (upd A.2.1 3 (nI t)) 6 (A.2.1 6 + nI 1) 3 = nI t
        rw [pk_un (by decide), pk_us]
    refine ⟨ln', t, by omega, post _ _ _ _ (oS_c oA fun j hj => co j (by omega) (by omega)) (ev_k heP fun j hj => ?_) (fun c hc => ?_) ?_ c3 ht⟩
    · rw [co j (by omega) (by omega), ao j (by omega), qo j (by omega)]
    · rw [co _ (by omega) (by omega), co _ (by omega) (by omega), ao _ (by omega), ao _ (by omega), qo _ (by omega), qo _ (by omega)]; exact hgP.1 c hc
    · rw [co 2 (by omega) (by omega), ao 2 (by omega), qo 2 (by omega)]; exact p2
end
