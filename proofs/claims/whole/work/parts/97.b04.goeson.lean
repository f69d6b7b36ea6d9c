/-! the model goes on to the next token -/
def pk15 (f f0 : Nat → Int32) : Prop := ∀ j, j < 15 ∨ 18 < j → f j = f0 j
theorem pk15_u {f f0 : Nat → Int32} {k : Nat} {v : Int32} (h : pk15 f f0) (hk : 15 ≤ k) (h2 : k ≤ 18) : pk15 (upd f k v) f0 := fun j hj => by rw [pk_un (by omega)]; exact h j hj
section
variable {L : Nat} {xs : Nat → Int32} {d : Nat} {kp sp wd : Value} {I : z_I} {s : z_sg} {R : z_R} {J : z_J} {F : z_F} {cn : Nat} {Q : z_Q} {n k : Nat} {t : Nat → Nat} {f0 w y : Nat → Int32}
theorem lp_blank {st : Nat} (hT : mT I t n) (hn : n ≤ 500) (h14 : f0 14 = nI n) (hQ : ∀ f, pk15 f f0 → f 15 = nI st → z_WP (z_X0 L xs) z_P0 (d + 7) m_Mod_goesOn 52 [some (.ref 40)] [] (z_ms I (f, w, y)) (z_R0 kp sp wd) J F cn 0 0 Q) :
    ∀ j p f, p + j = n → run blk t j p = st → pk15 f f0 → f 15 = nI p → z_WP (z_X0 L xs) z_P0 (d + 7) m_Mod_goesOn 0 [some (.ref 40)] [] (z_ms I (f, w, y)) (z_R0 kp sp wd) J F cn 0 0 Q := by
  intro j
  induction j with
  | zero =>
    intro p f hp hr hf h15
    have e14 : f 14 = nI n := (hf 14 (by omega)).trans h14
    have e : p = st := hr
    subst e
    refine z_WP_gos [0, 52] 1000 fun K C hK hC => ?_
    conv => whnf
    simp (disch := omega) only [z_lit, nI_add, pk_mul, z_pr1, z_pr2, nI_clamp, z_m3_40, z_m3_41, z_m3_44, z_m3_u40, z_m3_u41, z_m3_u44, z_m3_m3, pk_us, pk_un]
    rw [e14, h15]
    refine ⟨fun _ => ?_, fun z => absurd (nI_le (a := n) (b := p) (by omega) (by omega)) z⟩
    conv => whnf
    refine hK _ _ _ _ _ _ _ _ _ _ (hQ f hf h15)
  | succ j ih =>
    intro p f hp hr hf h15
    have e14 : f 14 = nI n := (hf 14 (by omega)).trans h14
    obtain ⟨e, hc⟩ := hT p (by omega)
    have e' : z_ms I (f, w, y) 45 p = sgb (t p) := e
    have h32 := sgb_32 (t p) hc
    have h10 := sgb_10 (t p) hc
    rw [run_s] at hr
    have ih' := ih (p + 1) (upd f 15 (nI (p + 1))) (by omega)
    have go : blk (t p) = true → z_WP (z_X0 L xs) z_P0 (d + 7) m_Mod_goesOn 39 [some (.ref 40)] [] (z_ms I (f, w, y)) (z_R0 kp sp wd) J F cn 0 0 Q := by
      intro hb
      rw [if_pos hb] at hr
      have ih2 := ih' hr (pk15_u hf (by omega) (by omega)) pk_us
      refine z_WP_gos [0] 1000 fun K C hK hC => ?_
      conv => whnf
      simp (disch := omega) only [z_lit, nI_add, pk_mul, z_pr1, z_pr2, nI_clamp, z_m3_40, z_m3_41, z_m3_44, z_m3_u40, z_m3_u41, z_m3_u44, z_m3_m3, pk_us, pk_un]
      rw [h15]
      simp (disch := omega) only [z_lit, nI_add, pk_mul, z_pr1, z_pr2, nI_clamp, z_m3_40, z_m3_41, z_m3_44, z_m3_u40, z_m3_u41, z_m3_u44, z_m3_m3, pk_us, pk_un]
      refine hK _ _ _ _ _ _ _ _ _ _ (ih2)
    refine z_WP_gos [0, 39, 52] 1000 fun K C hK hC => ?_
    conv => whnf
    simp (disch := omega) only [z_lit, nI_add, pk_mul, z_pr1, z_pr2, nI_clamp, z_m3_40, z_m3_41, z_m3_44, z_m3_u40, z_m3_u41, z_m3_u44, z_m3_m3, pk_us, pk_un]
    rw [e14, h15]
    refine ⟨fun z => absurd z (nI_ge (by omega) (by omega)), fun _ => ?_⟩
    conv => whnf
    simp (disch := omega) only [z_lit, nI_add, pk_mul, z_pr1, z_pr2, nI_clamp, z_m3_40, z_m3_41, z_m3_44, z_m3_u40, z_m3_u41, z_m3_u44, z_m3_m3, pk_us, pk_un]
    rw [h15]
    repeat ((first | refine And.intro (by (conv => arg 2; whnf); (try simp only [z_lit, nI_add, pk_mul, z_pr1, z_pr2]); exact z_in (by omega) (by decide)) ?_ | refine z_bt1 (by decide) ?_ | refine z_bf1 (by decide) ?_ | refine z_bt2 (by decide) ?_ | refine z_bf2 (by decide) ?_); conv => whnf)
    simp (disch := omega) only [z_lit, nI_add, pk_mul, z_pr1, z_pr2, nI_clamp, z_m3_40, z_m3_41, z_m3_44, z_m3_u40, z_m3_u41, z_m3_u44, z_m3_m3, pk_us, pk_un]
    rw [e']
    refine ⟨fun g => ?_, fun g => ?_⟩
    · conv => whnf
      refine hK _ _ _ _ _ _ _ _ _ _ (go (by unfold blk; rw [decide_eq_true (h32.mp g)]; rfl))
    · conv => whnf
      simp (disch := omega) only [z_lit, nI_add, pk_mul, z_pr1, z_pr2, nI_clamp, z_m3_40, z_m3_41, z_m3_44, z_m3_u40, z_m3_u41, z_m3_u44, z_m3_m3, pk_us, pk_un]
      rw [h15]
      repeat ((first | refine And.intro (by (conv => arg 2; whnf); (try simp only [z_lit, nI_add, pk_mul, z_pr1, z_pr2]); exact z_in (by omega) (by decide)) ?_ | refine z_bt1 (by decide) ?_ | refine z_bf1 (by decide) ?_ | refine z_bt2 (by decide) ?_ | refine z_bf2 (by decide) ?_); conv => whnf)
      simp (disch := omega) only [z_lit, nI_add, pk_mul, z_pr1, z_pr2, nI_clamp, z_m3_40, z_m3_41, z_m3_44, z_m3_u40, z_m3_u41, z_m3_u44, z_m3_m3, pk_us, pk_un]
      rw [e']
      refine ⟨fun g2 => ?_, fun g2 => ?_⟩
      · have hb : ¬ blk (t p) = true := fun z => by
          unfold blk at z
          simp only [Bool.or_eq_true, decide_eq_true_eq] at z
          rcases z with z | z
          · exact g (h32.mpr z)
          · exact g2 (h10.mpr z)
        rw [if_neg hb] at hr
        subst hr
        conv => whnf
        refine hK _ _ _ _ _ _ _ _ _ _ (hQ f hf h15)
      · conv => whnf
        refine hK _ _ _ _ _ _ _ _ _ _ (go (by unfold blk; rw [decide_eq_true (h10.mp g2), Bool.or_true]))
theorem lp_letters {st e : Nat} (hT : mT I t n) (hn : n ≤ 500) (h14 : f0 14 = nI n) (hQ : ∀ f, pk15 f f0 → f 15 = nI e → f 17 = nI st → z_WP (z_X0 L xs) z_P0 (d + 7) m_Mod_goesOn 106 [some (.ref 40)] [] (z_ms I (f, w, y)) (z_R0 kp sp wd) J F cn 0 0 Q) :
    ∀ j p f, p + j = n → run ltr t j p = e → pk15 f f0 → f 15 = nI p → f 17 = nI st → z_WP (z_X0 L xs) z_P0 (d + 7) m_Mod_goesOn 86 [some (.ref 40)] [] (z_ms I (f, w, y)) (z_R0 kp sp wd) J F cn 0 0 Q := by
  intro j
  induction j with
  | zero =>
    intro p f hp hr hf h15 h17
    have e14 : f 14 = nI n := (hf 14 (by omega)).trans h14
    have ee : p = e := hr
    subst ee
    refine z_WP_gos [86, 106] 1000 fun K C hK hC => ?_
    conv => whnf
    refine hC _ _ _ _ _ _ _ _ _ _ (fun _ _ _ _ _ _ q => q) (sp_isLetter (s := (f, w, y)) hT hn e14 h15 (by omega) ?_)
    conv => whnf
    rw [decide_eq_false (show ¬ p < n by omega), Bool.false_and]
    repeat ((first | refine And.intro (by (conv => arg 2; whnf); (try simp only [z_lit, nI_add, pk_mul, z_pr1, z_pr2]); exact z_in (by omega) (by decide)) ?_ | refine z_bt1 (by decide) ?_ | refine z_bf1 (by decide) ?_ | refine z_bt2 (by decide) ?_ | refine z_bf2 (by decide) ?_); conv => whnf)
    refine hK _ _ _ _ _ _ _ _ _ _ (hQ f hf h15 h17)
  | succ j ih =>
    intro p f hp hr hf h15 h17
    have e14 : f 14 = nI n := (hf 14 (by omega)).trans h14
    rw [run_s] at hr
    have ih' := ih (p + 1) (upd f 15 (nI (p + 1))) (by omega)
    refine z_WP_gos [86, 106] 1000 fun K C hK hC => ?_
    conv => whnf
    refine hC _ _ _ _ _ _ _ _ _ _ (fun _ _ _ _ _ _ q => q) (sp_isLetter (s := (f, w, y)) hT hn e14 h15 (by omega) ?_)
    conv => whnf
    rw [decide_eq_true (show p < n by omega), Bool.true_and]
    by_cases z : ltr (t p) = true
    · rw [if_pos z] at hr
      rw [z]
      have ih2 := ih' hr (pk15_u hf (by omega) (by omega)) pk_us (by rw [pk_un (by omega)]; exact h17)
      repeat ((first | refine And.intro (by (conv => arg 2; whnf); (try simp only [z_lit, nI_add, pk_mul, z_pr1, z_pr2]); exact z_in (by omega) (by decide)) ?_ | refine z_bt1 (by decide) ?_ | refine z_bf1 (by decide) ?_ | refine z_bt2 (by decide) ?_ | refine z_bf2 (by decide) ?_); conv => whnf)
      simp (disch := omega) only [z_lit, nI_add, pk_mul, z_pr1, z_pr2, nI_clamp, z_m3_40, z_m3_41, z_m3_44, z_m3_u40, z_m3_u41, z_m3_u44, z_m3_m3, pk_us, pk_un]
      rw [h15]
      simp (disch := omega) only [z_lit, nI_add, pk_mul, z_pr1, z_pr2, nI_clamp, z_m3_40, z_m3_41, z_m3_44, z_m3_u40, z_m3_u41, z_m3_u44, z_m3_m3, pk_us, pk_un]
      refine hK _ _ _ _ _ _ _ _ _ _ (ih2)
    · rw [if_neg z] at hr
      rw [Bool.eq_false_iff.mpr z]
      subst hr
      repeat ((first | refine And.intro (by (conv => arg 2; whnf); (try simp only [z_lit, nI_add, pk_mul, z_pr1, z_pr2]); exact z_in (by omega) (by decide)) ?_ | refine z_bt1 (by decide) ?_ | refine z_bf1 (by decide) ?_ | refine z_bt2 (by decide) ?_ | refine z_bf2 (by decide) ?_); conv => whnf)
      refine hK _ _ _ _ _ _ _ _ _ _ (hQ f hf h15 h17)
theorem lp_digits {st e : Nat} (hT : mT I t n) (hn : n ≤ 500) (h14 : f0 14 = nI n) (hQ : ∀ f, pk15 f f0 → f 15 = nI e → f 17 = nI st → f 18 = nI (numv t st (e - st)) → z_WP (z_X0 L xs) z_P0 (d + 7) m_Mod_goesOn 190 [some (.ref 40)] [] (z_ms I (f, w, y)) (z_R0 kp sp wd) J F cn 0 0 Q) :
    ∀ j p f, p + j = n → st ≤ p → run dgt t j p = e → pk15 f f0 → f 15 = nI p → f 17 = nI st → f 18 = nI (numv t st (p - st)) → z_WP (z_X0 L xs) z_P0 (d + 7) m_Mod_goesOn 129 [some (.ref 40)] [] (z_ms I (f, w, y)) (z_R0 kp sp wd) J F cn 0 0 Q := by
  intro j
  induction j with
  | zero =>
    intro p f hp hs hr hf h15 h17 h18
    have e14 : f 14 = nI n := (hf 14 (by omega)).trans h14
    have ee : p = e := hr
    subst ee
    refine z_WP_gos [129, 190] 1000 fun K C hK hC => ?_
    conv => whnf
    refine hC _ _ _ _ _ _ _ _ _ _ (fun _ _ _ _ _ _ q => q) (sp_isDigit (s := (f, w, y)) hT hn e14 h15 (by omega) ?_)
    conv => whnf
    rw [decide_eq_false (show ¬ p < n by omega), Bool.false_and]
    repeat ((first | refine And.intro (by (conv => arg 2; whnf); (try simp only [z_lit, nI_add, pk_mul, z_pr1, z_pr2]); exact z_in (by omega) (by decide)) ?_ | refine z_bt1 (by decide) ?_ | refine z_bf1 (by decide) ?_ | refine z_bt2 (by decide) ?_ | refine z_bf2 (by decide) ?_); conv => whnf)
    refine hK _ _ _ _ _ _ _ _ _ _ (hQ f hf h15 h17 h18)
  | succ j ih =>
    intro p f hp hs hr hf h15 h17 h18
    have e14 : f 14 = nI n := (hf 14 (by omega)).trans h14
    obtain ⟨e, hc⟩ := hT p (by omega)
    rw [run_s] at hr
    have en : numv t st (p + 1 - st) = if p - st < 4 then 10 * numv t st (p - st) + (t p - 48) else 0 := by
      rw [show p + 1 - st = (p - st) + 1 by omega]
      show (if p - st < 4 then _ else _) = _
      rw [show st + (p - st) = p by omega]
    have ih' := fun f => ih (p + 1) f (by omega) (by omega)
    rw [en] at ih'
    refine z_WP_gos [129, 174, 190] 1000 fun K C hK hC => ?_
    conv => whnf
    refine hC _ _ _ _ _ _ _ _ _ _ (fun _ _ _ _ _ _ q => q) (sp_isDigit (s := (f, w, y)) hT hn e14 h15 (by omega) ?_)
    conv => whnf
    rw [decide_eq_true (show p < n by omega), Bool.true_and]
    by_cases z : dgt (t p) = true
    · rw [if_pos z] at hr
      rw [z]
      have z2 := z
      unfold dgt at z2
      simp only [Bool.and_eq_true, decide_eq_true_eq] at z2
      have e' : z_ms I (f, w, y) 45 p = nI (t p) := e.trans (sgb_lo _ (by omega))
      have tail : ∀ v, v = nI (if p - st < 4 then 10 * numv t st (p - st) + (t p - 48) else 0) → z_WP (z_X0 L xs) z_P0 (d + 7) m_Mod_goesOn 174 [some (.ref 40)] [.int v, .ref 40] (z_ms I (f, w, y)) (z_R0 kp sp wd) J F cn 0 0 Q := by
        intro v hv
        have ih2 := ih' (upd (upd f 18 v) 15 (nI (p + 1))) hr (pk15_u (pk15_u hf (by omega) (by omega)) (by omega) (by omega)) pk_us (by rw [pk_un (by omega), pk_un (by omega)]; exact h17) (by rw [pk_un (by omega), pk_us]; exact hv)
        refine z_WP_gos [129] 1000 fun K C hK hC => ?_
        conv => whnf
        simp (disch := omega) only [z_lit, nI_add, pk_mul, z_pr1, z_pr2, nI_clamp, z_m3_40, z_m3_41, z_m3_44, z_m3_u40, z_m3_u41, z_m3_u44, z_m3_m3, pk_us, pk_un]
        rw [h15]
        simp (disch := omega) only [z_lit, nI_add, pk_mul, z_pr1, z_pr2, nI_clamp, z_m3_40, z_m3_41, z_m3_44, z_m3_u40, z_m3_u41, z_m3_u44, z_m3_m3, pk_us, pk_un]
        refine hK _ _ _ _ _ _ _ _ _ _ (ih2)
      have e1 : nI p - nI st = nI (p - st) := pk_sub hs
      refine ⟨fun y => absurd y (by decide), fun _ => ?_⟩
      conv => whnf
      simp (disch := omega) only [z_lit, nI_add, pk_mul, z_pr1, z_pr2, nI_clamp, z_m3_40, z_m3_41, z_m3_44, z_m3_u40, z_m3_u41, z_m3_u44, z_m3_m3, pk_us, pk_un]
      rw [h15, h17, e1]
      refine ⟨fun g => ?_, fun g => ?_⟩
      · have g' : ¬ p - st < 4 := fun y => absurd g (nI_ge (b := 4) y (by omega))
        conv => whnf
        refine hK _ _ _ _ _ _ _ _ _ _ (tail _ (by rw [if_neg g']; rfl))
      · have g' : p - st < 4 := by
          rcases Nat.lt_or_ge (p - st) 4 with y | y
          · exact y
          · exact absurd (nI_le (a := 4) y (by omega)) g
        conv => whnf
        simp (disch := omega) only [z_lit, nI_add, pk_mul, z_pr1, z_pr2, nI_clamp, z_m3_40, z_m3_41, z_m3_44, z_m3_u40, z_m3_u41, z_m3_u44, z_m3_m3, pk_us, pk_un]
        rw [h15, h18]
        repeat ((first | refine And.intro (by (conv => arg 2; whnf); (try simp only [z_lit, nI_add, pk_mul, z_pr1, z_pr2]); exact z_in (by omega) (by decide)) ?_ | refine z_bt1 (by decide) ?_ | refine z_bf1 (by decide) ?_ | refine z_bt2 (by decide) ?_ | refine z_bf2 (by decide) ?_); conv => whnf)
        simp (disch := omega) only [z_lit, nI_add, pk_mul, z_pr1, z_pr2, nI_clamp, z_m3_40, z_m3_41, z_m3_44, z_m3_u40, z_m3_u41, z_m3_u44, z_m3_m3, pk_us, pk_un]
        rw [e']
        refine hK _ _ _ _ _ _ _ _ _ _ (tail _ (by rw [if_pos g', nI_add, pk_sub (by omega)]; congr 1; omega))
    · rw [if_neg z] at hr
      rw [Bool.eq_false_iff.mpr z]
      subst hr
      repeat ((first | refine And.intro (by (conv => arg 2; whnf); (try simp only [z_lit, nI_add, pk_mul, z_pr1, z_pr2]); exact z_in (by omega) (by decide)) ?_ | refine z_bt1 (by decide) ?_ | refine z_bf1 (by decide) ?_ | refine z_bt2 (by decide) ?_ | refine z_bf2 (by decide) ?_); conv => whnf)
      refine hK _ _ _ _ _ _ _ _ _ _ (hQ f hf h15 h17 h18)
theorem ite_ne2 {c : Prop} [Decidable c] {a b : Nat} (h : a ≠ 2) (h2 : b ≠ 2) : (if c then a else b) ≠ 2 := by
  by_cases z : c
  · rw [if_pos z]; exact h
  · rw [if_neg z]; exact h2
theorem wM_ne2 {st len : Nat} : ¬ wM t st len = 2 := by
  unfold wM
  repeat (refine ite_ne2 (by decide) ?_)
  decide
theorem ltr_lo {c : Nat} (h : ltr c = true) : c < 128 := by
  unfold ltr at h
  simp only [Bool.or_eq_true, Bool.and_eq_true, decide_eq_true_eq] at h
  omega
theorem sp_goesOn {p : Nat} (hT : mT I t n) (hn : n ≤ 500) (h14 : s.1 14 = nI n) (h15 : s.1 15 = nI p) (hp : p ≤ n)
    (hQ : ∀ f, pk15 f s.1 → f 15 = nI (tkE t n (tkS t n p)) → f 17 = nI (tkS t n p) → f 16 = nI (tkM t n (tkS t n p)) → (tkM t n (tkS t n p) = 2 → f 18 = nI (tkV t n (tkS t n p))) → Q none (z_ms I (f, s.2.1, s.2.2)) (z_R0 kp sp wd) J F cn) :
    z_M (z_X0 L xs) z_P0 (d + 7) m_Mod_goesOn [.ref 40] (z_ms I s) (z_R0 kp sp wd) J F cn Q := by
  have hb := run_b (P := blk) (t := t) (n - p) p
  have e0 : run blk t (n - p) p = tkS t n p := rfl
  rw [e0] at hb
  generalize tkS t n p = st at *
  obtain ⟨f0, w, y⟩ := s
  simp only at h14 h15 hQ
  have start : z_WP (z_X0 L xs) z_P0 (d + 7) m_Mod_goesOn 0 [some (.ref 40)] [] (z_ms I (f0, w, y)) (z_R0 kp sp wd) J F cn 0 0 Q := by
    refine lp_blank (st := st) hT hn h14 (fun f hf h15' => ?_) (n - p) p f0 (by omega) e0 (fun _ _ => rfl) h15
    have e14 : f 14 = nI n := (hf 14 (by omega)).trans h14
    have e15' : (upd f 17 (nI st)) 15 = nI st := by rw [pk_un (by omega)]; exact h15'
    have e14' : (upd f 17 (nI st)) 14 = nI n := by rw [pk_un (by omega)]; exact e14
    have hf' : pk15 (upd f 17 (nI st)) f0 := pk15_u hf (by omega) (by omega)
    refine z_WP_gos [86, 129] 1000 fun K C hK hC => ?_
    conv => whnf
    simp (disch := omega) only [z_lit, nI_add, pk_mul, z_pr1, z_pr2, nI_clamp, z_m3_40, z_m3_41, z_m3_44, z_m3_u40, z_m3_u41, z_m3_u44, z_m3_m3, pk_us, pk_un]
    rw [h15', e14]
    try simp (disch := omega) only [z_lit, nI_add, pk_mul, z_pr1, z_pr2, nI_clamp, z_m3_40, z_m3_41, z_m3_44, z_m3_u40, z_m3_u41, z_m3_u44, z_m3_m3, pk_us, pk_un]
    refine ⟨fun g => ?_, fun g => ?_⟩
    rotate_left
    · have g' : st = n := nI_inj9 (by omega) (by omega) g
      have eM : tkM t n st = 0 := if_pos g'
      have eE : tkE t n st = st := by unfold tkE; rw [if_pos g', g']
      have q := hQ (upd (upd f 17 (nI st)) 16 (nI 0)) (pk15_u hf' (by omega) (by omega)) (by rw [eE, pk_un (by omega)]; exact e15') (by rw [pk_un (by omega), pk_us]) (by rw [eM, pk_us]) (fun z => by omega)
      conv => whnf
      simp (disch := omega) only [z_lit, nI_add, pk_mul, z_pr1, z_pr2, nI_clamp, z_m3_40, z_m3_41, z_m3_44, z_m3_u40, z_m3_u41, z_m3_u44, z_m3_m3, pk_us, pk_un]
      exact q
    have g' : ¬ st = n := fun z => g (by rw [z])
    have hlt : st < n := by omega
    obtain ⟨et, hc⟩ := hT st hlt
    conv => whnf
    refine hC _ _ _ _ _ _ _ _ _ _ (fun _ _ _ _ _ _ q => q) (sp_isLetter (s := (upd f 17 (nI st), w, y)) hT hn e14' e15' (by omega) ?_)
    conv => whnf
    rw [decide_eq_true hlt, Bool.true_and]
    by_cases c1 : ltr (t st) = true
    · rw [c1]
      have hrb := run_b (P := ltr) (t := t) (n - st) st
      have hri := run_i (P := ltr) (t := t) (n - st) st
      have eE : tkE t n st = run ltr t (n - st) st := by unfold tkE; rw [if_neg g', if_pos c1]
      have eM : tkM t n st = wM t st (tkE t n st - st) := by unfold tkM; rw [if_neg g', if_pos c1]
      rw [← eE] at hrb hri
      repeat ((first | refine And.intro (by (conv => arg 2; whnf); (try simp only [z_lit, nI_add, pk_mul, z_pr1, z_pr2]); exact z_in (by omega) (by decide)) ?_ | refine z_bt1 (by decide) ?_ | refine z_bf1 (by decide) ?_ | refine z_bt2 (by decide) ?_ | refine z_bf2 (by decide) ?_); conv => whnf)
      refine hK _ _ _ _ _ _ _ _ _ _ (lp_letters (st := st) (e := tkE t n st) hT hn h14 (fun f2 hf2 h15b h17b => ?_) (n - st) st _ (by omega) eE.symm hf' e15' pk_us)
      have q := hQ (upd f2 16 (nI (wM t st (tkE t n st - st)))) (pk15_u hf2 (by omega) (by omega)) (by rw [pk_un (by omega)]; exact h15b) (by rw [pk_un (by omega)]; exact h17b) (by rw [eM, pk_us]) (fun z => ?_)
      · refine z_WP_gos [] 1000 fun K C hK hC => ?_
        conv => whnf
        refine hC _ _ _ _ _ _ _ _ _ _ (fun _ _ _ _ _ _ q => q) (sp_wordOf (s := (f2, w, y)) (st := st) (len := tkE t n st - st) hT hn (by rw [show st + (tkE t n st - st) = tkE t n st by omega]; exact h15b) h17b (by omega) (fun k a b => ltr_lo (hri k a (by omega))) ?_)
        conv => whnf
        simp (disch := omega) only [z_lit, nI_add, pk_mul, z_pr1, z_pr2, nI_clamp, z_m3_40, z_m3_41, z_m3_44, z_m3_u40, z_m3_u41, z_m3_u44, z_m3_m3, pk_us, pk_un]
        exact q
      · rw [eM] at z
        exact absurd z wM_ne2
    · rw [Bool.eq_false_iff.mpr c1]
      refine ⟨fun _ => ?_, fun z => absurd rfl z⟩
      conv => whnf
      refine hC _ _ _ _ _ _ _ _ _ _ (fun _ _ _ _ _ _ q => q) (sp_isDigit (s := (upd f 17 (nI st), w, y)) hT hn e14' e15' (by omega) ?_)
      conv => whnf
      rw [decide_eq_true hlt, Bool.true_and]
      by_cases c2 : dgt (t st) = true
      · rw [c2]
        have hrb := run_b (P := dgt) (t := t) (n - st) st
        have eE : tkE t n st = run dgt t (n - st) st := by unfold tkE; rw [if_neg g', if_neg c1, if_pos c2]
        have eM : tkM t n st = if 4 < tkE t n st - st then 1 else 2 := by unfold tkM; rw [if_neg g', if_neg c1, if_pos c2]
        rw [← eE] at hrb
        refine ⟨fun z => absurd z (by decide), fun _ => ?_⟩
        conv => whnf
        simp (disch := omega) only [z_lit, nI_add, pk_mul, z_pr1, z_pr2, nI_clamp, z_m3_40, z_m3_41, z_m3_44, z_m3_u40, z_m3_u41, z_m3_u44, z_m3_m3, pk_us, pk_un]
        refine hK _ _ _ _ _ _ _ _ _ _ (lp_digits (st := st) (e := tkE t n st) hT hn h14 (fun f2 hf2 h15b h17b h18b => ?_) (n - st) st (upd (upd f 17 (nI st)) 18 (nI 0)) (by omega) (Nat.le_refl _) eE.symm (pk15_u hf' (by omega) (by omega)) (by rw [pk_un (by omega)]; exact e15') (by rw [pk_un (by omega), pk_us]) (by rw [pk_us, Nat.sub_self]; rfl))
        have e1 : nI (tkE t n st) - nI st = nI (tkE t n st - st) := pk_sub (by omega)
        have q := fun v (hv : v = nI (tkM t n st)) => hQ (upd f2 16 v) (pk15_u hf2 (by omega) (by omega)) (by rw [pk_un (by omega)]; exact h15b) (by rw [pk_un (by omega)]; exact h17b) (by rw [pk_us]; exact hv) (fun _ => by rw [pk_un (by omega)]; exact h18b)
        refine z_WP_gos [] 1000 fun K C hK hC => ?_
        conv => whnf
        simp (disch := omega) only [z_lit, nI_add, pk_mul, z_pr1, z_pr2, nI_clamp, z_m3_40, z_m3_41, z_m3_44, z_m3_u40, z_m3_u41, z_m3_u44, z_m3_m3, pk_us, pk_un]
        rw [h15b, h17b, e1]
        refine ⟨fun g2 => ?_, fun g2 => ?_⟩
        · have g2' : tkE t n st - st ≤ 4 := (nI_leI (b := 4) (by omega) (by omega)).mp g2
          have q' := q (nI 2) (by rw [eM, if_neg (by omega)])
          conv => whnf
          simp (disch := omega) only [z_lit, nI_add, pk_mul, z_pr1, z_pr2, nI_clamp, z_m3_40, z_m3_41, z_m3_44, z_m3_u40, z_m3_u41, z_m3_u44, z_m3_m3, pk_us, pk_un]
          exact q'
        · have g2' : 4 < tkE t n st - st := by
            rcases Nat.lt_or_ge 4 (tkE t n st - st) with z | z
            · exact z
            · exact absurd (nI_le (b := 4) z (by omega)) g2
          have q' := q (nI 1) (by rw [eM, if_pos g2'])
          conv => whnf
          simp (disch := omega) only [z_lit, nI_add, pk_mul, z_pr1, z_pr2, nI_clamp, z_m3_40, z_m3_41, z_m3_44, z_m3_u40, z_m3_u41, z_m3_u44, z_m3_m3, pk_us, pk_un]
          exact q'
      · rw [Bool.eq_false_iff.mpr c2]
        have eE : tkE t n st = st + 1 := by unfold tkE; rw [if_neg g', if_neg c1, if_neg c2]
        have eM : tkM t n st = if t st = 59 then 13 else 1 := by unfold tkM; rw [if_neg g', if_neg c1, if_neg c2]
        have h59 := sgb_59 (t st) hc
        have e' : z_ms I (upd f 17 (nI st), w, y) 45 st = sgb (t st) := et
        have q := fun v (hv : v = nI (tkM t n st)) (hne : ¬ tkM t n st = 2) => hQ (upd (upd (upd f 17 (nI st)) 16 v) 15 (nI (st + 1))) (pk15_u (pk15_u hf' (by omega) (by omega)) (by omega) (by omega)) (by rw [pk_us, eE]) (by rw [pk_un (by omega), pk_un (by omega), pk_us]) (by rw [pk_un (by omega), pk_us]; exact hv) (fun z => absurd z hne)
        refine ⟨fun _ => ?_, fun z => absurd rfl z⟩
        conv => whnf
        simp (disch := omega) only [z_lit, nI_add, pk_mul, z_pr1, z_pr2, nI_clamp, z_m3_40, z_m3_41, z_m3_44, z_m3_u40, z_m3_u41, z_m3_u44, z_m3_m3, pk_us, pk_un]
        rw [h15']
        repeat ((first | refine And.intro (by (conv => arg 2; whnf); (try simp only [z_lit, nI_add, pk_mul, z_pr1, z_pr2]); exact z_in (by omega) (by decide)) ?_ | refine z_bt1 (by decide) ?_ | refine z_bf1 (by decide) ?_ | refine z_bt2 (by decide) ?_ | refine z_bf2 (by decide) ?_); conv => whnf)
        simp (disch := omega) only [z_lit, nI_add, pk_mul, z_pr1, z_pr2, nI_clamp, z_m3_40, z_m3_41, z_m3_44, z_m3_u40, z_m3_u41, z_m3_u44, z_m3_m3, pk_us, pk_un]
        rw [e']
        refine ⟨fun g2 => ?_, fun g2 => ?_⟩
        · have g2' : ¬ t st = 59 := fun z => g2 (h59.mpr z)
          have q' := q (nI 1) (by rw [eM, if_neg g2']) (by rw [eM, if_neg g2']; decide)
          conv => whnf
          simp (disch := omega) only [z_lit, nI_add, pk_mul, z_pr1, z_pr2, nI_clamp, z_m3_40, z_m3_41, z_m3_44, z_m3_u40, z_m3_u41, z_m3_u44, z_m3_m3, pk_us, pk_un]
          rw [h15']
          simp (disch := omega) only [z_lit, nI_add, pk_mul, z_pr1, z_pr2, nI_clamp, z_m3_40, z_m3_41, z_m3_44, z_m3_u40, z_m3_u41, z_m3_u44, z_m3_m3, pk_us, pk_un]
          exact q'
        · have g2' : t st = 59 := h59.mp g2
          have q' := q (nI 13) (by rw [eM, if_pos g2']) (by rw [eM, if_pos g2']; decide)
          conv => whnf
          simp (disch := omega) only [z_lit, nI_add, pk_mul, z_pr1, z_pr2, nI_clamp, z_m3_40, z_m3_41, z_m3_44, z_m3_u40, z_m3_u41, z_m3_u44, z_m3_m3, pk_us, pk_un]
          rw [h15']
          simp (disch := omega) only [z_lit, nI_add, pk_mul, z_pr1, z_pr2, nI_clamp, z_m3_40, z_m3_41, z_m3_44, z_m3_u40, z_m3_u41, z_m3_u44, z_m3_m3, pk_us, pk_un]
          exact q'
  exact start
end
