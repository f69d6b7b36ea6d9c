/-! frames, in both: the class's call -/
section
variable {L : Nat} {xs : Nat → Int32} {d : Nat} {kp sp wd : Value} {I : z_I} {s : z_sg} {R : z_R} {J : z_J} {F : z_F} {cn : Nat} {Q : z_Q} {n k : Nat}
theorem hR_oF {ln f : Nat} (h : hR I F s.2.1 n k ln) (h2 : s.2.1 2 = nI f) (hf : f ≤ 9999) : ∃ c, oF s (n + k) ln f c := by
  obtain ⟨⟨u, wr, kw, g⟩, -, -, ⟨p, tb, rt⟩, -, hJ, -, he, hg⟩ := h
  obtain ⟨c, hc, h3⟩ := kw.2.2.2.1
  exact ⟨c, ⟨tb, rt, hJ.2.2.2.2.1, ⟨n, k, wr.1.2.2.2.2.2.2.2.2.1, wr.2.2.2.2.2.2.1, by omega, by omega⟩, g.2⟩, he, hg, h2, h3, hc, by omega⟩
/-- home is not touched by what lies elsewhere -/
theorem hR_of {I' : z_I} {w : Nat → Int32} {ln : Nat} (h : hR I F w n k ln) (hI : ∀ b, b ≤ 28 → I' b = I b) : hR I' F w n k ln := by
  obtain ⟨⟨u, wr, kw, g⟩, c, r, ⟨p, tb, rt⟩, hD, hJ, hsc, he, hg⟩ := h
  have i1 := hI 1 (by omega)
  refine ⟨⟨uRel_of u (fun b x y => hI b (by omega)) (fun _ _ => rfl), wR_of wr (fun b x y => hI b (by omega)) (fun _ _ => rfl), kw, g⟩, by rw [i1]; exact c, by rw [i1]; exact r, ⟨pS_c p (by rw [hI 18 (by omega)]) (hI 19 (by omega)) rfl tb.2.1 (fun _ _ _ _ => rfl), tb, rt⟩, pD_k hD tb.2.1 (hI 20 (by omega)) (hI 21 (by omega)) (hI 22 (by omega)) (fun _ _ => rfl), by rw [hI 27 (by omega), hI 28 (by omega)]; exact hJ, scR_k hsc he.2.1 (hI 25 (by omega)) (hI 26 (by omega)) (fun _ _ => rfl), he, hg⟩
theorem le_st {a b c x y : Nat} (h : b ≤ c + x) (g : a ≤ b + y) : a ≤ c + (x + y) := by omega
theorem lp_frames {ln f N : Nat} (h : hR I F s.2.1 n k ln) (h2 : s.2.1 2 = nI f) (hf : f + N ≤ 9999) (hN : N ≤ 60) (hn : n + k + 300000 < 2 ^ 29) (hln : ln + 2000 < 2 ^ 30)
    (hQ : ∀ I' F' n' k' ln', hR I' F' (m_fms N s).2.1 n' k' ln' → aR I' (m_fms N s) → n' ≤ n + 3200 * N → k' ≤ k + 600 * N → ln' ≤ ln + 24 * N → fr cP I I' → (∀ b, b ≠ 8 → F' b = F b) → Q (some (.int ((m_fms N s).1 30))) I' (z_R0 kp sp wd) J F' cn) :
    ∀ j i I' F' n' k' ln', i + j = N → hR I' F' (m_fms i s).2.1 n' k' ln' → aR I' (m_fms i s) → n' ≤ n + 3200 * i → k' ≤ k + 600 * i → ln' ≤ ln + 24 * i → fr cP I I' → (∀ b, b ≠ 8 → F' b = F b) → z_WP (z_X0 L xs) z_P0 (d + 8) m_Bus_frame 37 [some (.ref 0), some (.int (nI N)), some (.int (nI i))] [] I' (z_R0 kp sp wd) J F' cn 0 0 Q := by
  obtain ⟨c, ho⟩ := hR_oF h h2 (by omega)
  intro j
  induction j with
  | zero =>
    intro i I' F' n' k' ln' hi x a hn' hk' hl' pf ff
    obtain rfl : i = N := by omega
    have q := hQ I' F' n' k' ln' x a hn' hk' hl' pf ff
    have e := a.1
    generalize m_fms i s = z at *
    refine z_WP_gos [37] 1000 fun K C hK hC => ?_
    conv => whnf
    refine ⟨fun _ => ?_, fun h => absurd (Int32.le_refl _) h⟩
    conv => whnf
    rw [e]
    exact q
  | succ j ih =>
    intro i I' F' n' k' ln' hi x a hn' hk' hl' pf ff
    have ih' := ih (i + 1)
    have e1 : m_fms (i + 1) s = m_once (m_fms i s) := rfl
    rw [e1] at ih'
    obtain ⟨l0, c0, -, b⟩ := fms_oF ho (by omega) (by omega) i (by omega)
    have b2 := b.2.2.2.1
    generalize m_fms i s = z at *
    refine z_WP_gos [37] 1000 fun K C hK hC => ?_
    conv => whnf
    refine ⟨fun h => absurd h (nI_ge (by omega) (by omega)), fun _ => ?_⟩
    conv => whnf
    refine hC _ _ _ _ _ _ _ _ _ _ (fun _ _ _ _ _ _ q => q) (cf_play (s := z) x a b2 (by omega) (by omega) (by omega) (fun I'' F'' n'' k'' ln'' x'' a'' y1 y2 y3 y4 y5 => ?_))
    conv => whnf
    rw [show nI i + 1 = nI (i + 1) from nI_1 _]
    have ihq := ih' I'' F'' n'' k'' ln'' (by omega) x'' a''
    have m1 : 3200 * (i + 1) = 3200 * i + 3200 := Nat.mul_succ _ _
    have m2 : 600 * (i + 1) = 600 * i + 600 := Nat.mul_succ _ _
    have m3 : 24 * (i + 1) = 24 * i + 24 := Nat.mul_succ _ _
    rw [m1, m2, m3] at ihq
    have z1 : n'' ≤ n + (3200 * i + 3200) := le_st hn' y1
    have z2 : k'' ≤ k + (600 * i + 600) := le_st hk' y2
    have z3 : ln'' ≤ ln + (24 * i + 24) := by omega
    refine hK _ _ _ _ _ _ _ _ _ _ (ihq z1 z2 z3 (fr_t pf y4) (fun b hb => (y5 b hb).trans (ff b hb)))
theorem cf_restart (hQ : Q none (z_row I 31 (upd (upd (upd (I 31) 3 (nI 0)) 4 (nI 0)) 5 (nI 0))) (z_R0 kp sp wd) J F cn) : z_M (z_X0 L xs) z_P0 d m_Frames_restart [.ref 31] I (z_R0 kp sp wd) J F cn Q := by
  refine z_WP_gos [] 1000 fun K C hK hC => ?_
  conv => whnf
  refine z_Qv hQ ?_
  simp (disch := omega) only [z_lit, nI_add, pk_mul, z_pr1, z_pr2, nI_clamp, z_up_row, z_row_s, z_row_n, z_row_row, pk_us, pk_un]
theorem cb_frame {ln f : Nat} {v : Int32} (h : hR I F s.2.1 n k ln) (h6 : v01 (s.1 6)) (h2 : s.2.1 2 = nI f) (hf : f ≤ 9999) (hn : n + k + 300000 < 2 ^ 29) (hln : ln + 2000 < 2 ^ 30)
    (h1 : ∀ N I' F' n' k' ln', v = nI N → 1 ≤ N → N ≤ 60 → f + N ≤ 9999 → hR I' F' (m_fms N (m_zero s)).2.1 n' k' ln' → aR I' (m_fms N (m_zero s)) → n' ≤ n + 3200 * N → k' ≤ k + 600 * N → ln' ≤ ln + 24 * N → fr cP I I' → (∀ b, b ≠ 8 → F' b = F b) → Q (some (.int ((m_fms N (m_zero s)).1 30))) I' (z_R0 kp sp wd) J F' cn)
    (h0 : (∀ N, v = nI N → 1 ≤ N → N ≤ 60 → ¬ f + N ≤ 9999) → Q (some (.int (-1))) I (z_R0 kp sp wd) J F cn) : z_M (z_X0 L xs) z_P0 (d + 8) m_Bus_frame [.ref 0, .int v] I (z_R0 kp sp wd) J F cn Q := by
  have c7 : I 1 7 = nI f := h.2.1.2.2.1.trans h2
  refine z_WP_gos [37] 1000 fun K C hK hC => ?_
  conv => whnf
  refine ⟨fun g => ?_, fun g => ?_⟩
  · conv => whnf
    refine h0 (fun N e a b => absurd g (Int32.not_lt.mpr ?_))
    rw [e]; exact nI_le (a := 1) a (by omega)
  conv => whnf
  refine ⟨fun g2 => ?_, fun g2 => ?_⟩
  · conv => whnf
    refine h0 (fun N e a b => absurd g2 (Int32.not_lt.mpr ?_))
    rw [e]; exact nI_le (b := 60) b (by decide)
  have a : nI 1 ≤ v := Int32.not_lt.mp g
  have b : v ≤ nI 60 := Int32.not_lt.mp g2
  obtain ⟨N, hN, eN⟩ := isIn_nat (b := 60) (by decide) (Int32.le_trans (by decide) a) b
  subst eN
  have hN1 : 1 ≤ N := by
    apply Nat.le_of_not_lt; intro z
    exact nI_ge (a := N) (b := 1) z (by decide) a
  conv => whnf
  rw [c7]
  refine ⟨fun g3 => ?_, fun g3 => ?_⟩
  · have g3' : nI (f + N) ≤ nI 9999 := by rw [← nI_add]; exact g3
    have hle : f + N ≤ 9999 := by
      apply Nat.le_of_not_lt; intro z
      exact nI_ge (a := 9999) (b := f + N) z (by omega) g3'
    have hI0 : hR (z_row I 31 (upd (upd (upd (I 31) 3 (nI 0)) 4 (nI 0)) 5 (nI 0))) F (m_zero s).2.1 n k ln := hR_of h (fun b hb => z_row_n _ _ (by omega))
    have hA0 : aR (z_row I 31 (upd (upd (upd (I 31) 3 (nI 0)) 4 (nI 0)) 5 (nI 0))) (m_zero s) := by
      have ef : (m_zero s).1 = upd (upd (upd s.1 29 (nI 0)) 30 (nI 0)) 25 (nI 0) := rfl
      refine ⟨?_, ?_, ?_, ?_⟩
      · rw [z_row_s, ef]; simp (disch := omega) only [pk_us, pk_un]
      · rw [z_row_s, ef]; simp (disch := omega) only [pk_us, pk_un]; decide
      · rw [z_row_s, ef]; simp (disch := omega) only [pk_us, pk_un]
      · rw [ef]; simp (disch := omega) only [pk_us, pk_un]; exact h6
    have lp := lp_frames (d := d) (L := L) (xs := xs) (kp := kp) (sp := sp) (wd := wd) (J := J) (cn := cn) (Q := Q) (s := m_zero s) hI0 h2 hle hN hn hln (fun I' F' n' k' ln' x y z1 z2 z3 z4 z5 => h1 N I' F' n' k' ln' rfl hN1 hN hle x y z1 z2 z3 (fr_t (fr_w fr_r (by decide)) z4) z5) N 0 _ F n k ln (by omega) hI0 hA0 (Nat.le_add_right _ _) (Nat.le_add_right _ _) (Nat.le_add_right _ _) fr_r (fun _ _ => rfl)
    conv => whnf
    refine hC _ _ _ _ _ _ _ _ _ _ (fun _ _ _ _ _ _ q => q) (cf_restart ?_)
    conv => whnf
    refine hK _ _ _ _ _ _ _ _ _ _ (lp)
  · have g3' : ¬ nI (f + N) ≤ nI 9999 := by rw [← nI_add]; exact g3
    conv => whnf
    refine h0 (fun x y z1 z2 z3 => g3' ?_)
    have : N = x := nI_inj9 (by omega) (by omega) y
    subst this
    exact nI_le (b := 9999) z3 (by decide)
end
