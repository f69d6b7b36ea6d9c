/-! the class goes on to the next token -/
def rk (r r0 : Nat → Int32) : Prop := ∀ j, j < 6 → r j = r0 j
theorem rk_u {r r0 : Nat → Int32} {k : Nat} {v : Int32} (h : rk r r0) (hk : 6 ≤ k) : rk (upd r k v) r0 := fun j hj => by rw [pk_un (by omega)]; exact h j hj
theorem numv_lt {t : Nat → Nat} {st : Nat} (hd : ∀ k, t (st + k) < 256 → True) : ∀ k, k ≤ 4 → (∀ i, i < k → dgt (t (st + i)) = true) → numv t st k < 10 ^ k
  | 0, _, _ => by unfold numv; decide
  | k + 1, h, hg => by
    have ih := numv_lt hd k (by omega) fun i hi => hg i (by omega)
    have g := hg k (by omega)
    unfold dgt at g
    simp only [Bool.and_eq_true, decide_eq_true_eq] at g
    show (if k < 4 then _ else _) < _
    rw [if_pos (by omega), Nat.pow_succ]
    omega
theorem ite_k {c : Prop} [Decidable c] {i : Nat} {b : Nat × Nat} (h : ¬ b.1 = 2 ∧ ¬ b.1 = 3) : ¬ (if c then (1, i) else b).1 = 2 ∧ ¬ (if c then (1, i) else b).1 = 3 := by
  by_cases z : c
  · rw [if_pos z]; exact ⟨fun h => absurd (show 1 = 2 from h) (by decide), fun h => absurd (show 1 = 3 from h) (by decide)⟩
  · rw [if_neg z]; exact h
theorem cW2_k {t : Nat → Nat} {st len : Nat} : ¬ (cW2 t st len).1 = 2 ∧ ¬ (cW2 t st len).1 = 3 := by
  unfold cW2
  repeat (refine ite_k ?_)
  decide
theorem cW4_k {t : Nat → Nat} {st len : Nat} : ¬ (cW4 t st len).1 = 2 ∧ ¬ (cW4 t st len).1 = 3 := by
  unfold cW4
  repeat (refine ite_k ?_)
  decide
section
variable {L : Nat} {xs : Nat → Int32} {d : Nat} {kp sp wd : Value} {I : z_I} {s : z_sg} {R : z_R} {J : z_J} {F : z_F} {cn : Nat} {Q : z_Q} {n k : Nat} {t : Nat → Nat} {r0 : Nat → Int32}
theorem cr_isLetter {c : Nat} (hc : c < 256) (hQ : Q (some (.int (z_bi (ltr c)))) I R J F cn) : z_M (z_X0 L xs) z_P0 d m_Reader_isLetter [.int (nI c)] I R J F cn Q := by
  unfold ltr at hQ
  have up : ∀ {b : Bool}, (97 ≤ c → ¬ c ≤ 122) → (b = (decide (65 ≤ c) && decide (c ≤ 90))) → (decide (97 ≤ c) && decide (c ≤ 122) || decide (65 ≤ c) && decide (c ≤ 90)) = b := by
    intro b h e
    have : (decide (97 ≤ c) && decide (c ≤ 122)) = false := by
      simp only [Bool.and_eq_false_iff, decide_eq_false_iff_not]; omega
    rw [this, Bool.false_or, e]
  have second : (97 ≤ c → ¬ c ≤ 122) → z_WP (z_X0 L xs) z_P0 d m_Reader_isLetter 12 [some (.int (nI c))] [] I R J F cn 0 0 Q := by
    intro h
    refine z_WP_gos [] 1000 fun K C hK hC => ?_
    conv => whnf
    refine ⟨fun g => ?_, fun g => ?_⟩
    · have g' : c < 65 := (nI_ltI (b := 65) (by omega) (by omega)).mp g
      rw [up (b := false) h (by rw [decide_eq_false (show ¬ 65 ≤ c by omega)]; rfl)] at hQ
      conv => whnf
      exact ⟨Or.inl rfl, hQ⟩
    · have g' : 65 ≤ c := by
        rcases Nat.lt_or_ge c 65 with z | z
        · exact absurd (nI_lt (b := 65) z (by omega)) g
        · exact z
      conv => whnf
      refine ⟨fun g2 => ?_, fun g2 => ?_⟩
      · have g2' : 90 < c := (nI_ltI (a := 90) (by omega) (by omega)).mp g2
        rw [up (b := false) h (by rw [decide_eq_false (show ¬ c ≤ 90 by omega), Bool.and_false])] at hQ
        conv => whnf
        exact ⟨Or.inl rfl, hQ⟩
      · have g2' : c ≤ 90 := by
          rcases Nat.lt_or_ge 90 c with z | z
          · exact absurd (nI_lt (a := 90) z (by omega)) g2
          · exact z
        rw [up (b := true) h (by rw [decide_eq_true g', decide_eq_true g2']; rfl)] at hQ
        conv => whnf
        exact ⟨Or.inr rfl, hQ⟩
  refine z_WP_gos [12] 1000 fun K C hK hC => ?_
  conv => whnf
  refine ⟨fun g => ?_, fun g => ?_⟩
  · have g' : c < 97 := (nI_ltI (b := 97) (by omega) (by omega)).mp g
    conv => whnf
    refine hK _ _ _ _ _ _ _ _ _ _ (second (fun _ => by omega))
  · have g' : 97 ≤ c := by
      rcases Nat.lt_or_ge c 97 with z | z
      · exact absurd (nI_lt (b := 97) z (by omega)) g
      · exact z
    conv => whnf
    refine ⟨fun g2 => ?_, fun g2 => ?_⟩
    · have g2' : c ≤ 122 := (nI_leI (b := 122) (by omega) (by omega)).mp g2
      rw [decide_eq_true g', decide_eq_true g2'] at hQ
      conv => whnf
      exact ⟨Or.inr rfl, hQ⟩
    · have g2' : ¬ c ≤ 122 := fun z => g2 (nI_le (b := 122) z (by omega))
      conv => whnf
      refine hK _ _ _ _ _ _ _ _ _ _ (second (fun _ => g2'))
theorem cr_isDigit {c : Nat} (hc : c < 256) (hQ : Q (some (.int (z_bi (dgt c)))) I R J F cn) : z_M (z_X0 L xs) z_P0 d m_Reader_isDigit [.int (nI c)] I R J F cn Q := by
  unfold dgt at hQ
  refine z_WP_gos [] 1000 fun K C hK hC => ?_
  conv => whnf
  refine ⟨fun g => ?_, fun g => ?_⟩
  · have g' : c < 48 := (nI_ltI (b := 48) (by omega) (by omega)).mp g
    rw [decide_eq_false (show ¬ 48 ≤ c by omega)] at hQ
    conv => whnf
    exact ⟨Or.inl rfl, hQ⟩
  · have g' : 48 ≤ c := by
      rcases Nat.lt_or_ge c 48 with z | z
      · exact absurd (nI_lt (b := 48) z (by omega)) g
      · exact z
    rw [decide_eq_true g', Bool.true_and] at hQ
    conv => whnf
    refine ⟨fun g2 => ?_, fun g2 => ?_⟩
    · have g2' : 57 < c := (nI_ltI (a := 57) (by omega) (by omega)).mp g2
      rw [decide_eq_false (show ¬ c ≤ 57 by omega)] at hQ
      conv => whnf
      exact ⟨Or.inl rfl, hQ⟩
    · have g2' : c ≤ 57 := by
        rcases Nat.lt_or_ge 57 c with z | z
        · exact absurd (nI_lt (a := 57) z (by omega)) g2
        · exact z
      rw [decide_eq_true g2'] at hQ
      conv => whnf
      exact ⟨Or.inr rfl, hQ⟩
theorem lp_rnum {st e : Nat} (hT : rT I t n) (hn : n ≤ 500) (h2 : r0 2 = nI n) (hQ : ∀ r v, rk r r0 → r 9 = nI e → r 8 = nI st → r 7 = nI v → (e - st ≤ 4 → v = numv t st (e - st)) → z_WP (z_X0 L xs) z_P0 (d + 1) m_Reader_readNumber 68 [some (.ref 32)] [] (z_row I 32 r) (z_R0 kp sp wd) J F cn 0 0 Q) :
    ∀ j p r v, p + j = n → st ≤ p → run dgt t j p = e → (∀ i, st + i < p → dgt (t (st + i)) = true) → rk r r0 → r 9 = nI p → r 8 = nI st → r 7 = nI v → v ≤ 99999 → (p - st ≤ 4 → v = numv t st (p - st)) → z_WP (z_X0 L xs) z_P0 (d + 1) m_Reader_readNumber 0 [some (.ref 32)] [] (z_row I 32 r) (z_R0 kp sp wd) J F cn 0 0 Q := by
  intro j
  induction j with
  | zero =>
    intro p r v hp hs hr hd hk h9 h8 h7 hv hvn
    have e2 : r 2 = nI n := (hk 2 (by omega)).trans h2
    have ee : p = e := hr
    subst ee
    refine z_WP_gos [0, 68] 1000 fun K C hK hC => ?_
    conv => whnf
    simp (disch := omega) only [z_lit, nI_add, pk_mul, z_pr1, z_pr2, nI_clamp, z_up_row, z_row_s, z_row_n, z_row_row, pk_us, pk_un]
    rw [e2, h9]
    refine ⟨fun _ => ?_, fun z => absurd (nI_le (a := n) (b := p) (by omega) (by omega)) z⟩
    conv => whnf
    refine hK _ _ _ _ _ _ _ _ _ _ (hQ r v hk h9 h8 h7 hvn)
  | succ j ih =>
    intro p r v hp hs hr hd hk h9 h8 h7 hv hvn
    have e2 : r 2 = nI n := (hk 2 (by omega)).trans h2
    obtain ⟨et, hc⟩ := hT p (by omega)
    rw [run_s] at hr
    have ih' := fun v' => ih (p + 1) (upd (upd r 7 (nI v')) 9 (nI (p + 1))) v' (by omega) (by omega)
    refine z_WP_gos [0, 68] 1000 fun K C hK hC => ?_
    conv => whnf
    simp (disch := omega) only [z_lit, nI_add, pk_mul, z_pr1, z_pr2, nI_clamp, z_up_row, z_row_s, z_row_n, z_row_row, pk_us, pk_un]
    rw [e2, h9]
    refine ⟨fun z => absurd z (nI_ge (by omega) (by omega)), fun _ => ?_⟩
    conv => whnf
    simp (disch := omega) only [z_lit, nI_add, pk_mul, z_pr1, z_pr2, nI_clamp, z_up_row, z_row_s, z_row_n, z_row_row, pk_us, pk_un]
    rw [h9]
    repeat ((first | refine And.intro (by (conv => arg 2; whnf); (try simp only [z_lit, nI_add, pk_mul, z_pr1, z_pr2]); exact z_in (by omega) (by decide)) ?_ | refine z_bt1 (by decide) ?_ | refine z_bf1 (by decide) ?_ | refine z_bt2 (by decide) ?_ | refine z_bf2 (by decide) ?_); conv => whnf)
    simp (disch := omega) only [z_lit, nI_add, pk_mul, z_pr1, z_pr2, nI_clamp, z_up_row, z_row_s, z_row_n, z_row_row, pk_us, pk_un]
    rw [et]
    refine hC _ _ _ _ _ _ _ _ _ _ (fun _ _ _ _ _ _ q => q) (cr_isDigit hc ?_)
    conv => whnf
    by_cases z : dgt (t p) = true
    · rw [if_pos z] at hr
      rw [z]
      have z2 := z
      unfold dgt at z2
      simp only [Bool.and_eq_true, decide_eq_true_eq] at z2
      have hd' : ∀ i, st + i < p + 1 → dgt (t (st + i)) = true := fun i hi => by
        rcases Nat.lt_or_eq_of_le (Nat.le_of_lt_succ hi) with y | y
        · exact hd i y
        · rw [y]; exact z
      refine ⟨fun y => absurd y (by decide), fun _ => ?_⟩
      conv => whnf
      simp (disch := omega) only [z_lit, nI_add, pk_mul, z_pr1, z_pr2, nI_clamp, z_up_row, z_row_s, z_row_n, z_row_row, pk_us, pk_un]
      rw [h9, h7]
      repeat ((first | refine And.intro (by (conv => arg 2; whnf); (try simp only [z_lit, nI_add, pk_mul, z_pr1, z_pr2]); exact z_in (by omega) (by decide)) ?_ | refine z_bt1 (by decide) ?_ | refine z_bf1 (by decide) ?_ | refine z_bt2 (by decide) ?_ | refine z_bf2 (by decide) ?_); conv => whnf)
      simp (disch := omega) only [z_lit, nI_add, pk_mul, z_pr1, z_pr2, nI_clamp, z_up_row, z_row_s, z_row_n, z_row_row, pk_us, pk_un]
      rw [et, nI_add, pk_sub (show 48 ≤ v * 10 + t p by omega)]
      refine hC _ _ _ _ _ _ _ _ _ _ (fun _ _ _ _ _ _ q => q) (cm_min ?_)
      conv => whnf
      have key : ∃ v', (if nI 99999 ≤ nI (v * 10 + t p - 48) then nI 99999 else nI (v * 10 + t p - 48)) = nI v' ∧ v' ≤ 99999 ∧ (p + 1 - st ≤ 4 → v' = numv t st (p + 1 - st)) := by
        have en : p + 1 - st ≤ 4 → numv t st (p + 1 - st) = v * 10 + t p - 48 := fun h => by
          rw [show p + 1 - st = (p - st) + 1 by omega]
          show (if p - st < 4 then _ else _) = _
          rw [if_pos (by omega), show st + (p - st) = p by omega, hvn (by omega)]
          omega
        by_cases y : 99999 ≤ v * 10 + t p - 48
        · refine ⟨99999, if_pos (nI_le (a := 99999) y (by omega)), Nat.le_refl _, fun h => ?_⟩
          have := numv_lt (t := t) (st := st) (fun _ _ => trivial) (p + 1 - st) h (fun i hi => hd' i (by omega))
          have h10 : 10 ^ (p + 1 - st) ≤ 10 ^ 4 := Nat.pow_le_pow_right (by decide) h
          have h4 : (10 : Nat) ^ 4 = 10000 := rfl
          rw [en h] at this
          omega
        · exact ⟨v * 10 + t p - 48, if_neg (nI_ge (b := 99999) (by omega) (by decide)), by omega, fun h => (en h).symm⟩
      obtain ⟨v', ev, hv', hvn'⟩ := key
      rw [ev]
      have ih2 := ih' v' hr hd' (rk_u (rk_u hk (by omega)) (by omega)) pk_us (by rw [pk_un (by omega), pk_un (by omega)]; exact h8) (by rw [pk_un (by omega), pk_us]) hv' hvn'
      simp (disch := omega) only [z_lit, nI_add, pk_mul, z_pr1, z_pr2, nI_clamp, z_up_row, z_row_s, z_row_n, z_row_row, pk_us, pk_un]
      rw [h9]
      simp (disch := omega) only [z_lit, nI_add, pk_mul, z_pr1, z_pr2, nI_clamp, z_up_row, z_row_s, z_row_n, z_row_row, pk_us, pk_un]
      refine hK _ _ _ _ _ _ _ _ _ _ (ih2)
    · rw [if_neg z] at hr
      rw [Bool.eq_false_iff.mpr z]
      subst hr
      repeat ((first | refine And.intro (by (conv => arg 2; whnf); (try simp only [z_lit, nI_add, pk_mul, z_pr1, z_pr2]); exact z_in (by omega) (by decide)) ?_ | refine z_bt1 (by decide) ?_ | refine z_bf1 (by decide) ?_ | refine z_bt2 (by decide) ?_ | refine z_bf2 (by decide) ?_); conv => whnf)
      refine hK _ _ _ _ _ _ _ _ _ _ (hQ r v hk h9 h8 h7 hvn)
theorem cr_readNumber {st : Nat} (hT : rT I t n) (hn : n ≤ 500) (h2 : I 32 2 = nI n) (h9 : I 32 9 = nI st) (h8 : I 32 8 = nI st) (h7 : I 32 7 = nI 0) (hs : st ≤ n)
    (hQ : ∀ r, rk r (I 32) → r 9 = nI (run dgt t (n - st) st) → r 8 = nI st → r 6 = nI (if 4 < run dgt t (n - st) st - st then 4 else 2) → (run dgt t (n - st) st - st ≤ 4 → r 7 = nI (numv t st (run dgt t (n - st) st - st))) → Q none (z_row I 32 r) (z_R0 kp sp wd) J F cn) :
    z_M (z_X0 L xs) z_P0 (d + 1) m_Reader_readNumber [.ref 32] I (z_R0 kp sp wd) J F cn Q := by
  have hb := run_b (P := dgt) (t := t) (n - st) st
  generalize he : run dgt t (n - st) st = e at *
  have start := lp_rnum (L := L) (xs := xs) (d := d) (kp := kp) (sp := sp) (wd := wd) (J := J) (F := F) (cn := cn) (Q := Q) (st := st) (e := e) hT hn h2 (fun r v hk k9 k8 k7 kv => ?_) (n - st) st (I 32) 0 (by omega) (Nat.le_refl _) he (fun i hi => by omega) (fun _ _ => rfl) h9 h8 h7 (by omega) (fun _ => by rw [Nat.sub_self]; rfl)
  · rw [z_row_id] at start
    exact start
  have e1 : nI e - nI st = nI (e - st) := pk_sub (by omega)
  refine z_WP_gos [] 1000 fun K C hK hC => ?_
  conv => whnf
  simp (disch := omega) only [z_lit, nI_add, pk_mul, z_pr1, z_pr2, nI_clamp, z_up_row, z_row_s, z_row_n, z_row_row, pk_us, pk_un]
  rw [k9, k8, e1]
  refine ⟨fun g => ?_, fun g => ?_⟩
  · have g' : 4 < e - st := (nI_ltI (a := 4) (by omega) (by omega)).mp g
    have q := hQ (upd r 6 (nI 4)) (rk_u hk (by omega)) (by rw [pk_un (by omega)]; exact k9) (by rw [pk_un (by omega)]; exact k8) (by rw [pk_us, if_pos g']) (fun z => by omega)
    conv => whnf
    simp (disch := omega) only [z_lit, nI_add, pk_mul, z_pr1, z_pr2, nI_clamp, z_up_row, z_row_s, z_row_n, z_row_row, pk_us, pk_un]
    exact q
  · have g' : ¬ 4 < e - st := fun z => g (nI_lt (a := 4) z (by omega))
    have q := hQ (upd r 6 (nI 2)) (rk_u hk (by omega)) (by rw [pk_un (by omega)]; exact k9) (by rw [pk_un (by omega)]; exact k8) (by rw [pk_us, if_neg g']) (fun z => by rw [pk_un (by omega), k7, kv z])
    conv => whnf
    simp (disch := omega) only [z_lit, nI_add, pk_mul, z_pr1, z_pr2, nI_clamp, z_up_row, z_row_s, z_row_n, z_row_row, pk_us, pk_un]
    exact q
theorem lp_rword2 {st e : Nat} (hT : rT I t n) (hn : n ≤ 500) (h2 : r0 2 = nI n) (hQ : ∀ r, rk r r0 → r 9 = nI e → r 8 = nI st → r 7 = nI 0 → z_WP (z_X0 L xs) z_P0 (d + 5) m_Reader_readWord 39 [some (.ref 32), none, none] [] (z_row I 32 r) (z_R0 kp sp (.retAddr 2)) J F cn 0 0 Q) :
    ∀ j p r, p + j = n → run ltr t j p = e → rk r r0 → r 9 = nI p → r 8 = nI st → r 7 = nI 0 → z_WP (z_X0 L xs) z_P0 (d + 5) m_Reader_readWord 0 [some (.ref 32), none, none] [] (z_row I 32 r) (z_R0 kp sp (.retAddr 2)) J F cn 0 0 Q := by
  intro j
  induction j with
  | zero =>
    intro p r hp hr hk h9 h8 h7
    have e2 : r 2 = nI n := (hk 2 (by omega)).trans h2
    have ee : p = e := hr
    subst ee
    refine z_WP_gos [0, 39] 1000 fun K C hK hC => ?_
    conv => whnf
    simp (disch := omega) only [z_lit, nI_add, pk_mul, z_pr1, z_pr2, nI_clamp, z_up_row, z_row_s, z_row_n, z_row_row, pk_us, pk_un]
    rw [e2, h9]
    refine ⟨fun _ => ?_, fun z => absurd (nI_le (a := n) (b := p) (by omega) (by omega)) z⟩
    conv => whnf
    refine hK _ _ _ _ _ _ _ _ _ _ (hQ r hk h9 h8 h7)
  | succ j ih =>
    intro p r hp hr hk h9 h8 h7
    have e2 : r 2 = nI n := (hk 2 (by omega)).trans h2
    obtain ⟨et, hc⟩ := hT p (by omega)
    rw [run_s] at hr
    have ih' := ih (p + 1) (upd r 9 (nI (p + 1))) (by omega)
    refine z_WP_gos [0, 39] 1000 fun K C hK hC => ?_
    conv => whnf
    simp (disch := omega) only [z_lit, nI_add, pk_mul, z_pr1, z_pr2, nI_clamp, z_up_row, z_row_s, z_row_n, z_row_row, pk_us, pk_un]
    rw [e2, h9]
    refine ⟨fun z => absurd z (nI_ge (by omega) (by omega)), fun _ => ?_⟩
    conv => whnf
    simp (disch := omega) only [z_lit, nI_add, pk_mul, z_pr1, z_pr2, nI_clamp, z_up_row, z_row_s, z_row_n, z_row_row, pk_us, pk_un]
    rw [h9]
    repeat ((first | refine And.intro (by (conv => arg 2; whnf); (try simp only [z_lit, nI_add, pk_mul, z_pr1, z_pr2]); exact z_in (by omega) (by decide)) ?_ | refine z_bt1 (by decide) ?_ | refine z_bf1 (by decide) ?_ | refine z_bt2 (by decide) ?_ | refine z_bf2 (by decide) ?_); conv => whnf)
    simp (disch := omega) only [z_lit, nI_add, pk_mul, z_pr1, z_pr2, nI_clamp, z_up_row, z_row_s, z_row_n, z_row_row, pk_us, pk_un]
    rw [et]
    refine hC _ _ _ _ _ _ _ _ _ _ (fun _ _ _ _ _ _ q => q) (cr_isLetter hc ?_)
    conv => whnf
    by_cases z : ltr (t p) = true
    · rw [if_pos z] at hr
      rw [z]
      have ih2 := ih' hr (rk_u hk (by omega)) pk_us (by rw [pk_un (by omega)]; exact h8) (by rw [pk_un (by omega)]; exact h7)
      refine ⟨fun y => absurd y (by decide), fun _ => ?_⟩
      conv => whnf
      simp (disch := omega) only [z_lit, nI_add, pk_mul, z_pr1, z_pr2, nI_clamp, z_up_row, z_row_s, z_row_n, z_row_row, pk_us, pk_un]
      rw [h9]
      simp (disch := omega) only [z_lit, nI_add, pk_mul, z_pr1, z_pr2, nI_clamp, z_up_row, z_row_s, z_row_n, z_row_row, pk_us, pk_un]
      refine hK _ _ _ _ _ _ _ _ _ _ (ih2)
    · rw [if_neg z] at hr
      rw [Bool.eq_false_iff.mpr z]
      subst hr
      repeat ((first | refine And.intro (by (conv => arg 2; whnf); (try simp only [z_lit, nI_add, pk_mul, z_pr1, z_pr2]); exact z_in (by omega) (by decide)) ?_ | refine z_bt1 (by decide) ?_ | refine z_bf1 (by decide) ?_ | refine z_bt2 (by decide) ?_ | refine z_bf2 (by decide) ?_); conv => whnf)
      refine hK _ _ _ _ _ _ _ _ _ _ (hQ r hk h9 h8 h7)
theorem cr_readWord2 {st : Nat} (hT : rT I t n) (hn : n ≤ 500) (h2 : I 32 2 = nI n) (h9 : I 32 9 = nI st) (h8 : I 32 8 = nI st) (h7 : I 32 7 = nI 0) (hs : st ≤ n)
    (hQ : ∀ r, rk r (I 32) → r 9 = nI (run ltr t (n - st) st) → r 8 = nI st → r 6 = nI (cW2 t st (run ltr t (n - st) st - st)).1 → r 7 = nI (cW2 t st (run ltr t (n - st) st - st)).2 → Q none (z_row I 32 r) (z_R0 kp sp (.retAddr 2)) J F cn) :
    z_M (z_X0 L xs) z_P0 (d + 5) m_Reader_readWord [.ref 32] I (z_R0 kp sp (.retAddr 2)) J F cn Q := by
  have hb := run_b (P := ltr) (t := t) (n - st) st
  generalize he : run ltr t (n - st) st = e at *
  have start := lp_rword2 (L := L) (xs := xs) (d := d) (kp := kp) (sp := sp) (J := J) (F := F) (cn := cn) (Q := Q) (st := st) (e := e) hT hn h2 (fun r hk k9 k8 k7 => ?_) (n - st) st (I 32) (by omega) he (fun _ _ => rfl) h9 h8 h7
  · rw [z_row_id] at start
    exact start
  have lp := lp_words2 (L := L) (xs := xs) (d := d) (kp := kp) (sp := sp) (I := z_row I 32 (upd r 6 (nI 4))) (J := J) (F := F) (cn := cn) (Q := Q) (st := st) (len := e - st) (t := t) (n := n) (by rw [z_row_s, pk_us]) (by rw [z_row_s, pk_un (by omega)]; exact k7) (by rw [z_row_s, pk_un (by omega), show st + (e - st) = e by omega]; exact k9) (by rw [z_row_s, pk_un (by omega)]; exact k8) (fun k hk => by rw [z_row_n _ _ (by decide)]; exact hT k hk) hn (by omega) (fun r2 h2 a b => ?_)
  · refine z_WP_gos [48] 1000 fun K C hK hC => ?_
    conv => whnf
    simp (disch := omega) only [z_lit, nI_add, pk_mul, z_pr1, z_pr2, nI_clamp, z_up_row, z_row_s, z_row_n, z_row_row, pk_us, pk_un]
    refine hK _ _ _ _ _ _ _ _ _ _ (lp)
  · rw [z_row_row]
    rw [z_row_s] at h2
    exact hQ r2 (fun j hj => by rw [h2 j (by omega) (by omega), pk_un (by omega)]; exact hk j hj) (by rw [h2 9 (by omega) (by omega), pk_un (by omega)]; exact k9) (by rw [h2 8 (by omega) (by omega), pk_un (by omega)]; exact k8) a b
def tkK2 (t : Nat → Nat) (n st : Nat) : Nat := if st = n then 0 else if ltr (t st) = true then (cW2 t st (tkE t n st - st)).1 else if dgt (t st) = true then (if 4 < tkE t n st - st then 4 else 2) else if t st = 59 then 3 else 4
theorem lp_cblank2 {st : Nat} (hT : rT I t n) (hn : n ≤ 500) (h2 : r0 2 = nI n) (hQ : ∀ r, rk r r0 → r 9 = nI st → z_WP (z_X0 L xs) z_P0 (d + 6) m_Reader_step 52 [some (.ref 32)] [] (z_row I 32 r) (z_R0 kp sp (.retAddr 2)) J F cn 0 0 Q) :
    ∀ j p r, p + j = n → run blk t j p = st → rk r r0 → r 9 = nI p → z_WP (z_X0 L xs) z_P0 (d + 6) m_Reader_step 0 [some (.ref 32)] [] (z_row I 32 r) (z_R0 kp sp (.retAddr 2)) J F cn 0 0 Q := by
  intro j
  induction j with
  | zero =>
    intro p r hp hr hk h9
    have e2 : r 2 = nI n := (hk 2 (by omega)).trans h2
    have e : p = st := hr
    subst e
    refine z_WP_gos [0, 52] 1000 fun K C hK hC => ?_
    conv => whnf
    simp (disch := omega) only [z_lit, nI_add, pk_mul, z_pr1, z_pr2, nI_clamp, z_up_row, z_row_s, z_row_n, z_row_row, pk_us, pk_un]
    rw [e2, h9]
    refine ⟨fun _ => ?_, fun z => absurd (nI_le (a := n) (b := p) (by omega) (by omega)) z⟩
    conv => whnf
    refine hK _ _ _ _ _ _ _ _ _ _ (hQ r hk h9)
  | succ j ih =>
    intro p r hp hr hk h9
    have e2 : r 2 = nI n := (hk 2 (by omega)).trans h2
    obtain ⟨et, hc⟩ := hT p (by omega)
    rw [run_s] at hr
    have ih' := ih (p + 1) (upd r 9 (nI (p + 1))) (by omega)
    have go : blk (t p) = true → z_WP (z_X0 L xs) z_P0 (d + 6) m_Reader_step 39 [some (.ref 32)] [] (z_row I 32 r) (z_R0 kp sp (.retAddr 2)) J F cn 0 0 Q := by
      intro hb
      rw [if_pos hb] at hr
      have ih2 := ih' hr (rk_u hk (by omega)) pk_us
      refine z_WP_gos [0] 1000 fun K C hK hC => ?_
      conv => whnf
      simp (disch := omega) only [z_lit, nI_add, pk_mul, z_pr1, z_pr2, nI_clamp, z_up_row, z_row_s, z_row_n, z_row_row, pk_us, pk_un]
      rw [h9]
      simp (disch := omega) only [z_lit, nI_add, pk_mul, z_pr1, z_pr2, nI_clamp, z_up_row, z_row_s, z_row_n, z_row_row, pk_us, pk_un]
      refine hK _ _ _ _ _ _ _ _ _ _ (ih2)
    refine z_WP_gos [0, 39, 52] 1000 fun K C hK hC => ?_
    conv => whnf
    simp (disch := omega) only [z_lit, nI_add, pk_mul, z_pr1, z_pr2, nI_clamp, z_up_row, z_row_s, z_row_n, z_row_row, pk_us, pk_un]
    rw [e2, h9]
    refine ⟨fun z => absurd z (nI_ge (by omega) (by omega)), fun _ => ?_⟩
    conv => whnf
    simp (disch := omega) only [z_lit, nI_add, pk_mul, z_pr1, z_pr2, nI_clamp, z_up_row, z_row_s, z_row_n, z_row_row, pk_us, pk_un]
    rw [h9]
    repeat ((first | refine And.intro (by (conv => arg 2; whnf); (try simp only [z_lit, nI_add, pk_mul, z_pr1, z_pr2]); exact z_in (by omega) (by decide)) ?_ | refine z_bt1 (by decide) ?_ | refine z_bf1 (by decide) ?_ | refine z_bt2 (by decide) ?_ | refine z_bf2 (by decide) ?_); conv => whnf)
    simp (disch := omega) only [z_lit, nI_add, pk_mul, z_pr1, z_pr2, nI_clamp, z_up_row, z_row_s, z_row_n, z_row_row, pk_us, pk_un]
    rw [et]
    refine ⟨fun g => ?_, fun g => ?_⟩
    · conv => whnf
      refine hK _ _ _ _ _ _ _ _ _ _ (go (by unfold blk; rw [decide_eq_true (nI_inj9 (b := 32) (by omega) (by omega) g)]; rfl))
    · conv => whnf
      simp (disch := omega) only [z_lit, nI_add, pk_mul, z_pr1, z_pr2, nI_clamp, z_up_row, z_row_s, z_row_n, z_row_row, pk_us, pk_un]
      rw [h9]
      repeat ((first | refine And.intro (by (conv => arg 2; whnf); (try simp only [z_lit, nI_add, pk_mul, z_pr1, z_pr2]); exact z_in (by omega) (by decide)) ?_ | refine z_bt1 (by decide) ?_ | refine z_bf1 (by decide) ?_ | refine z_bt2 (by decide) ?_ | refine z_bf2 (by decide) ?_); conv => whnf)
      simp (disch := omega) only [z_lit, nI_add, pk_mul, z_pr1, z_pr2, nI_clamp, z_up_row, z_row_s, z_row_n, z_row_row, pk_us, pk_un]
      rw [et]
      refine ⟨fun g2 => ?_, fun g2 => ?_⟩
      · have hb : ¬ blk (t p) = true := fun z => by
          unfold blk at z
          simp only [Bool.or_eq_true, decide_eq_true_eq] at z
          rcases z with z | z
          · exact g (by rw [z])
          · exact g2 (by rw [z])
        rw [if_neg hb] at hr
        subst hr
        conv => whnf
        refine hK _ _ _ _ _ _ _ _ _ _ (hQ r hk h9)
      · conv => whnf
        refine hK _ _ _ _ _ _ _ _ _ _ (go (by unfold blk; rw [decide_eq_true (nI_inj9 (b := 10) (by omega) (by omega) g2), Bool.or_true]))
theorem cr_step2 {p : Nat} (hT : rT I t n) (hn : n ≤ 500) (h2 : I 32 2 = nI n) (h9 : I 32 9 = nI p) (hp : p ≤ n)
    (hQ : ∀ r, rk r (I 32) → r 9 = nI (tkE t n (tkS t n p)) → r 8 = nI (tkS t n p) → r 6 = nI (tkK2 t n (tkS t n p)) → (tkK2 t n (tkS t n p) = 1 → r 7 = nI (cW2 t (tkS t n p) (tkE t n (tkS t n p) - tkS t n p)).2) → (tkK2 t n (tkS t n p) = 2 → r 7 = nI (tkV t n (tkS t n p))) → (tkK2 t n (tkS t n p) = 3 → r 7 = nI 0) → Q none (z_row I 32 r) (z_R0 kp sp (.retAddr 2)) J F cn) :
    z_M (z_X0 L xs) z_P0 (d + 6) m_Reader_step [.ref 32] I (z_R0 kp sp (.retAddr 2)) J F cn Q := by
  have hb := run_b (P := blk) (t := t) (n - p) p
  have e0 : run blk t (n - p) p = tkS t n p := rfl
  rw [e0] at hb
  generalize tkS t n p = st at *
  have start := lp_cblank2 (L := L) (xs := xs) (d := d) (kp := kp) (sp := sp) (J := J) (F := F) (cn := cn) (Q := Q) (st := st) hT hn h2 (fun r hk k9 => ?_) (n - p) p (I 32) (by omega) e0 (fun _ _ => rfl) h9
  · rw [z_row_id] at start
    exact start
  have k2 : r 2 = nI n := (hk 2 (by omega)).trans h2
  have hT' : ∀ r', rT (z_row I 32 r') t n := fun r' k hk => by rw [z_row_n _ _ (by decide)]; exact hT k hk
  have hk' : rk (upd (upd r 8 (nI st)) 7 (nI 0)) (I 32) := rk_u (rk_u hk (by omega)) (by omega)
  refine z_WP_gos [] 1000 fun K C hK hC => ?_
  conv => whnf
  simp (disch := omega) only [z_lit, nI_add, pk_mul, z_pr1, z_pr2, nI_clamp, z_up_row, z_row_s, z_row_n, z_row_row, pk_us, pk_un]
  rw [k9, k2]
  refine ⟨fun g => ?_, fun g => ?_⟩
  rotate_left
  · have g' : st = n := by
      rcases Nat.lt_or_ge st n with z | z
      · exact absurd (nI_lt z (by omega)) g
      · omega
    have eK : tkK2 t n st = 0 := if_pos g'
    have eE : tkE t n st = st := by unfold tkE; rw [if_pos g', g']
    have q := hQ (upd (upd (upd r 8 (nI st)) 7 (nI 0)) 6 (nI 0)) (rk_u hk' (by omega)) (by rw [eE, pk_un (by omega), pk_un (by omega), pk_un (by omega)]; exact k9) (by rw [pk_un (by omega), pk_un (by omega), pk_us]) (by rw [eK, pk_us]) (fun z => by omega) (fun z => by omega) (fun z => by omega)
    conv => whnf
    simp (disch := omega) only [z_lit, nI_add, pk_mul, z_pr1, z_pr2, nI_clamp, z_up_row, z_row_s, z_row_n, z_row_row, pk_us, pk_un]
    exact q
  have hlt : st < n := (nI_ltI (by omega) (by omega)).mp g
  have g' : ¬ st = n := by omega
  obtain ⟨et, hc⟩ := hT st hlt
  conv => whnf
  simp (disch := omega) only [z_lit, nI_add, pk_mul, z_pr1, z_pr2, nI_clamp, z_up_row, z_row_s, z_row_n, z_row_row, pk_us, pk_un]
  rw [k9]
  repeat ((first | refine And.intro (by (conv => arg 2; whnf); (try simp only [z_lit, nI_add, pk_mul, z_pr1, z_pr2]); exact z_in (by omega) (by decide)) ?_ | refine z_bt1 (by decide) ?_ | refine z_bf1 (by decide) ?_ | refine z_bt2 (by decide) ?_ | refine z_bf2 (by decide) ?_); conv => whnf)
  simp (disch := omega) only [z_lit, nI_add, pk_mul, z_pr1, z_pr2, nI_clamp, z_up_row, z_row_s, z_row_n, z_row_row, pk_us, pk_un]
  rw [et]
  refine hC _ _ _ _ _ _ _ _ _ _ (fun _ _ _ _ _ _ q => q) (cr_isLetter hc ?_)
  conv => whnf
  by_cases c1 : ltr (t st) = true
  · rw [c1]
    have eE : tkE t n st = run ltr t (n - st) st := by unfold tkE; rw [if_neg g', if_pos c1]
    have eK : tkK2 t n st = (cW2 t st (tkE t n st - st)).1 := by unfold tkK2; rw [if_neg g', if_pos c1]
    refine ⟨fun y => absurd y (by decide), fun _ => ?_⟩
    conv => whnf
    refine hC _ _ _ _ _ _ _ _ _ _ (fun _ _ _ _ _ _ q => q) (cr_readWord2 (st := st) (hT' _) hn (by rw [z_row_s, pk_un (by omega), pk_un (by omega)]; exact k2) (by rw [z_row_s, pk_un (by omega), pk_un (by omega)]; exact k9) (by rw [z_row_s, pk_un (by omega), pk_us]) (by rw [z_row_s, pk_us]) (by omega) (fun r2 hk2 j9 j8 j6 j7 => ?_))
    conv => whnf
    rw [z_row_s] at hk2
    rw [← eE] at j9 j6 j7
    rw [z_row_row]
    exact hQ r2 (fun j hj => (hk2 j hj).trans (hk' j hj)) j9 j8 (by rw [eK]; exact j6) (fun _ => j7) (fun z => by rw [eK] at z; exact absurd z cW2_k.1) (fun z => by rw [eK] at z; exact absurd z cW2_k.2)
  · rw [Bool.eq_false_iff.mpr c1]
    refine ⟨fun _ => ?_, fun z => absurd rfl z⟩
    conv => whnf
    simp (disch := omega) only [z_lit, nI_add, pk_mul, z_pr1, z_pr2, nI_clamp, z_up_row, z_row_s, z_row_n, z_row_row, pk_us, pk_un]
    rw [k9]
    repeat ((first | refine And.intro (by (conv => arg 2; whnf); (try simp only [z_lit, nI_add, pk_mul, z_pr1, z_pr2]); exact z_in (by omega) (by decide)) ?_ | refine z_bt1 (by decide) ?_ | refine z_bf1 (by decide) ?_ | refine z_bt2 (by decide) ?_ | refine z_bf2 (by decide) ?_); conv => whnf)
    simp (disch := omega) only [z_lit, nI_add, pk_mul, z_pr1, z_pr2, nI_clamp, z_up_row, z_row_s, z_row_n, z_row_row, pk_us, pk_un]
    rw [et]
    refine hC _ _ _ _ _ _ _ _ _ _ (fun _ _ _ _ _ _ q => q) (cr_isDigit hc ?_)
    conv => whnf
    by_cases c2 : dgt (t st) = true
    · rw [c2]
      have eE : tkE t n st = run dgt t (n - st) st := by unfold tkE; rw [if_neg g', if_neg c1, if_pos c2]
      have eK : tkK2 t n st = if 4 < tkE t n st - st then 4 else 2 := by unfold tkK2; rw [if_neg g', if_neg c1, if_pos c2]
      refine ⟨fun y => absurd y (by decide), fun _ => ?_⟩
      conv => whnf
      refine hC _ _ _ _ _ _ _ _ _ _ (fun _ _ _ _ _ _ q => q) (cr_readNumber (st := st) (hT' _) hn (by rw [z_row_s, pk_un (by omega), pk_un (by omega)]; exact k2) (by rw [z_row_s, pk_un (by omega), pk_un (by omega)]; exact k9) (by rw [z_row_s, pk_un (by omega), pk_us]) (by rw [z_row_s, pk_us]) (by omega) (fun r2 hk2 j9 j8 j6 j7 => ?_))
      conv => whnf
      rw [z_row_s] at hk2
      rw [← eE] at j9 j6 j7
      rw [z_row_row]
      have hne1 : ¬ tkK2 t n st = 1 := by rw [eK]; split <;> decide
      have hne3 : ¬ tkK2 t n st = 3 := by rw [eK]; split <;> decide
      exact hQ r2 (fun j hj => (hk2 j hj).trans (hk' j hj)) j9 j8 (by rw [eK]; exact j6) (fun z => absurd z hne1) (fun z => j7 (by rw [eK] at z; split at z <;> omega)) (fun z => absurd z hne3)
    · rw [Bool.eq_false_iff.mpr c2]
      have eE : tkE t n st = st + 1 := by unfold tkE; rw [if_neg g', if_neg c1, if_neg c2]
      have eK : tkK2 t n st = if t st = 59 then 3 else 4 := by unfold tkK2; rw [if_neg g', if_neg c1, if_neg c2]
      have q := fun v (hv : v = nI (tkK2 t n st)) (h1 : ¬ tkK2 t n st = 1) (h2 : ¬ tkK2 t n st = 2) => hQ (upd (upd (upd (upd r 8 (nI st)) 7 (nI 0)) 6 v) 9 (nI (st + 1))) (rk_u (rk_u hk' (by omega)) (by omega)) (by rw [pk_us, eE]) (by rw [pk_un (by omega), pk_un (by omega), pk_un (by omega), pk_us]) (by rw [pk_un (by omega), pk_us]; exact hv) (fun z => absurd z h1) (fun z => absurd z h2) (fun _ => by rw [pk_un (by omega), pk_un (by omega), pk_us])
      refine ⟨fun _ => ?_, fun z => absurd rfl z⟩
      conv => whnf
      simp (disch := omega) only [z_lit, nI_add, pk_mul, z_pr1, z_pr2, nI_clamp, z_up_row, z_row_s, z_row_n, z_row_row, pk_us, pk_un]
      rw [k9]
      repeat ((first | refine And.intro (by (conv => arg 2; whnf); (try simp only [z_lit, nI_add, pk_mul, z_pr1, z_pr2]); exact z_in (by omega) (by decide)) ?_ | refine z_bt1 (by decide) ?_ | refine z_bf1 (by decide) ?_ | refine z_bt2 (by decide) ?_ | refine z_bf2 (by decide) ?_); conv => whnf)
      simp (disch := omega) only [z_lit, nI_add, pk_mul, z_pr1, z_pr2, nI_clamp, z_up_row, z_row_s, z_row_n, z_row_row, pk_us, pk_un]
      rw [et]
      refine ⟨fun g2 => ?_, fun g2 => ?_⟩
      · have g2' : ¬ t st = 59 := fun z => g2 (by rw [z])
        have q' := q (nI 4) (by rw [eK, if_neg g2']) (by rw [eK, if_neg g2']; decide) (by rw [eK, if_neg g2']; decide)
        conv => whnf
        simp (disch := omega) only [z_lit, nI_add, pk_mul, z_pr1, z_pr2, nI_clamp, z_up_row, z_row_s, z_row_n, z_row_row, pk_us, pk_un]
        rw [k9]
        simp (disch := omega) only [z_lit, nI_add, pk_mul, z_pr1, z_pr2, nI_clamp, z_up_row, z_row_s, z_row_n, z_row_row, pk_us, pk_un]
        exact q'
      · have g2' : t st = 59 := nI_inj9 (b := 59) (by omega) (by omega) g2
        have q' := q (nI 3) (by rw [eK, if_pos g2']) (by rw [eK, if_pos g2']; decide) (by rw [eK, if_pos g2']; decide)
        conv => whnf
        simp (disch := omega) only [z_lit, nI_add, pk_mul, z_pr1, z_pr2, nI_clamp, z_up_row, z_row_s, z_row_n, z_row_row, pk_us, pk_un]
        rw [k9]
        simp (disch := omega) only [z_lit, nI_add, pk_mul, z_pr1, z_pr2, nI_clamp, z_up_row, z_row_s, z_row_n, z_row_row, pk_us, pk_un]
        exact q'
theorem lp_rword4 {st e : Nat} (hT : rT I t n) (hn : n ≤ 500) (h2 : r0 2 = nI n) (hQ : ∀ r, rk r r0 → r 9 = nI e → r 8 = nI st → r 7 = nI 0 → z_WP (z_X0 L xs) z_P0 (d + 5) m_Reader_readWord 39 [some (.ref 32), none, none] [] (z_row I 32 r) (z_R0 kp sp (.retAddr 4)) J F cn 0 0 Q) :
    ∀ j p r, p + j = n → run ltr t j p = e → rk r r0 → r 9 = nI p → r 8 = nI st → r 7 = nI 0 → z_WP (z_X0 L xs) z_P0 (d + 5) m_Reader_readWord 0 [some (.ref 32), none, none] [] (z_row I 32 r) (z_R0 kp sp (.retAddr 4)) J F cn 0 0 Q := by
  intro j
  induction j with
  | zero =>
    intro p r hp hr hk h9 h8 h7
    have e2 : r 2 = nI n := (hk 2 (by omega)).trans h2
    have ee : p = e := hr
    subst ee
    refine z_WP_gos [0, 39] 1000 fun K C hK hC => ?_
    conv => whnf
    simp (disch := omega) only [z_lit, nI_add, pk_mul, z_pr1, z_pr2, nI_clamp, z_up_row, z_row_s, z_row_n, z_row_row, pk_us, pk_un]
    rw [e2, h9]
    refine ⟨fun _ => ?_, fun z => absurd (nI_le (a := n) (b := p) (by omega) (by omega)) z⟩
    conv => whnf
    refine hK _ _ _ _ _ _ _ _ _ _ (hQ r hk h9 h8 h7)
  | succ j ih =>
    intro p r hp hr hk h9 h8 h7
    have e2 : r 2 = nI n := (hk 2 (by omega)).trans h2
    obtain ⟨et, hc⟩ := hT p (by omega)
    rw [run_s] at hr
    have ih' := ih (p + 1) (upd r 9 (nI (p + 1))) (by omega)
    refine z_WP_gos [0, 39] 1000 fun K C hK hC => ?_
    conv => whnf
    simp (disch := omega) only [z_lit, nI_add, pk_mul, z_pr1, z_pr2, nI_clamp, z_up_row, z_row_s, z_row_n, z_row_row, pk_us, pk_un]
    rw [e2, h9]
    refine ⟨fun z => absurd z (nI_ge (by omega) (by omega)), fun _ => ?_⟩
    conv => whnf
    simp (disch := omega) only [z_lit, nI_add, pk_mul, z_pr1, z_pr2, nI_clamp, z_up_row, z_row_s, z_row_n, z_row_row, pk_us, pk_un]
    rw [h9]
    repeat ((first | refine And.intro (by (conv => arg 2; whnf); (try simp only [z_lit, nI_add, pk_mul, z_pr1, z_pr2]); exact z_in (by omega) (by decide)) ?_ | refine z_bt1 (by decide) ?_ | refine z_bf1 (by decide) ?_ | refine z_bt2 (by decide) ?_ | refine z_bf2 (by decide) ?_); conv => whnf)
    simp (disch := omega) only [z_lit, nI_add, pk_mul, z_pr1, z_pr2, nI_clamp, z_up_row, z_row_s, z_row_n, z_row_row, pk_us, pk_un]
    rw [et]
    refine hC _ _ _ _ _ _ _ _ _ _ (fun _ _ _ _ _ _ q => q) (cr_isLetter hc ?_)
    conv => whnf
    by_cases z : ltr (t p) = true
    · rw [if_pos z] at hr
      rw [z]
      have ih2 := ih' hr (rk_u hk (by omega)) pk_us (by rw [pk_un (by omega)]; exact h8) (by rw [pk_un (by omega)]; exact h7)
      refine ⟨fun y => absurd y (by decide), fun _ => ?_⟩
      conv => whnf
      simp (disch := omega) only [z_lit, nI_add, pk_mul, z_pr1, z_pr2, nI_clamp, z_up_row, z_row_s, z_row_n, z_row_row, pk_us, pk_un]
      rw [h9]
      simp (disch := omega) only [z_lit, nI_add, pk_mul, z_pr1, z_pr2, nI_clamp, z_up_row, z_row_s, z_row_n, z_row_row, pk_us, pk_un]
      refine hK _ _ _ _ _ _ _ _ _ _ (ih2)
    · rw [if_neg z] at hr
      rw [Bool.eq_false_iff.mpr z]
      subst hr
      repeat ((first | refine And.intro (by (conv => arg 2; whnf); (try simp only [z_lit, nI_add, pk_mul, z_pr1, z_pr2]); exact z_in (by omega) (by decide)) ?_ | refine z_bt1 (by decide) ?_ | refine z_bf1 (by decide) ?_ | refine z_bt2 (by decide) ?_ | refine z_bf2 (by decide) ?_); conv => whnf)
      refine hK _ _ _ _ _ _ _ _ _ _ (hQ r hk h9 h8 h7)
theorem cr_readWord4 {st : Nat} (hT : rT I t n) (hn : n ≤ 500) (h2 : I 32 2 = nI n) (h9 : I 32 9 = nI st) (h8 : I 32 8 = nI st) (h7 : I 32 7 = nI 0) (hs : st ≤ n)
    (hQ : ∀ r, rk r (I 32) → r 9 = nI (run ltr t (n - st) st) → r 8 = nI st → r 6 = nI (cW4 t st (run ltr t (n - st) st - st)).1 → r 7 = nI (cW4 t st (run ltr t (n - st) st - st)).2 → Q none (z_row I 32 r) (z_R0 kp sp (.retAddr 4)) J F cn) :
    z_M (z_X0 L xs) z_P0 (d + 5) m_Reader_readWord [.ref 32] I (z_R0 kp sp (.retAddr 4)) J F cn Q := by
  have hb := run_b (P := ltr) (t := t) (n - st) st
  generalize he : run ltr t (n - st) st = e at *
  have start := lp_rword4 (L := L) (xs := xs) (d := d) (kp := kp) (sp := sp) (J := J) (F := F) (cn := cn) (Q := Q) (st := st) (e := e) hT hn h2 (fun r hk k9 k8 k7 => ?_) (n - st) st (I 32) (by omega) he (fun _ _ => rfl) h9 h8 h7
  · rw [z_row_id] at start
    exact start
  have lp := lp_words4 (L := L) (xs := xs) (d := d) (kp := kp) (sp := sp) (I := z_row I 32 (upd r 6 (nI 4))) (J := J) (F := F) (cn := cn) (Q := Q) (st := st) (len := e - st) (t := t) (n := n) (by rw [z_row_s, pk_us]) (by rw [z_row_s, pk_un (by omega)]; exact k7) (by rw [z_row_s, pk_un (by omega), show st + (e - st) = e by omega]; exact k9) (by rw [z_row_s, pk_un (by omega)]; exact k8) (fun k hk => by rw [z_row_n _ _ (by decide)]; exact hT k hk) hn (by omega) (fun r2 h2 a b => ?_)
  · refine z_WP_gos [48] 1000 fun K C hK hC => ?_
    conv => whnf
    simp (disch := omega) only [z_lit, nI_add, pk_mul, z_pr1, z_pr2, nI_clamp, z_up_row, z_row_s, z_row_n, z_row_row, pk_us, pk_un]
    refine hK _ _ _ _ _ _ _ _ _ _ (lp)
  · rw [z_row_row]
    rw [z_row_s] at h2
    exact hQ r2 (fun j hj => by rw [h2 j (by omega) (by omega), pk_un (by omega)]; exact hk j hj) (by rw [h2 9 (by omega) (by omega), pk_un (by omega)]; exact k9) (by rw [h2 8 (by omega) (by omega), pk_un (by omega)]; exact k8) a b
def tkK4 (t : Nat → Nat) (n st : Nat) : Nat := if st = n then 0 else if ltr (t st) = true then (cW4 t st (tkE t n st - st)).1 else if dgt (t st) = true then (if 4 < tkE t n st - st then 4 else 2) else if t st = 59 then 3 else 4
theorem lp_cblank4 {st : Nat} (hT : rT I t n) (hn : n ≤ 500) (h2 : r0 2 = nI n) (hQ : ∀ r, rk r r0 → r 9 = nI st → z_WP (z_X0 L xs) z_P0 (d + 6) m_Reader_step 52 [some (.ref 32)] [] (z_row I 32 r) (z_R0 kp sp (.retAddr 4)) J F cn 0 0 Q) :
    ∀ j p r, p + j = n → run blk t j p = st → rk r r0 → r 9 = nI p → z_WP (z_X0 L xs) z_P0 (d + 6) m_Reader_step 0 [some (.ref 32)] [] (z_row I 32 r) (z_R0 kp sp (.retAddr 4)) J F cn 0 0 Q := by
  intro j
  induction j with
  | zero =>
    intro p r hp hr hk h9
    have e2 : r 2 = nI n := (hk 2 (by omega)).trans h2
    have e : p = st := hr
    subst e
    refine z_WP_gos [0, 52] 1000 fun K C hK hC => ?_
    conv => whnf
    simp (disch := omega) only [z_lit, nI_add, pk_mul, z_pr1, z_pr2, nI_clamp, z_up_row, z_row_s, z_row_n, z_row_row, pk_us, pk_un]
    rw [e2, h9]
    refine ⟨fun _ => ?_, fun z => absurd (nI_le (a := n) (b := p) (by omega) (by omega)) z⟩
    conv => whnf
    refine hK _ _ _ _ _ _ _ _ _ _ (hQ r hk h9)
  | succ j ih =>
    intro p r hp hr hk h9
    have e2 : r 2 = nI n := (hk 2 (by omega)).trans h2
    obtain ⟨et, hc⟩ := hT p (by omega)
    rw [run_s] at hr
    have ih' := ih (p + 1) (upd r 9 (nI (p + 1))) (by omega)
    have go : blk (t p) = true → z_WP (z_X0 L xs) z_P0 (d + 6) m_Reader_step 39 [some (.ref 32)] [] (z_row I 32 r) (z_R0 kp sp (.retAddr 4)) J F cn 0 0 Q := by
      intro hb
      rw [if_pos hb] at hr
      have ih2 := ih' hr (rk_u hk (by omega)) pk_us
      refine z_WP_gos [0] 1000 fun K C hK hC => ?_
      conv => whnf
      simp (disch := omega) only [z_lit, nI_add, pk_mul, z_pr1, z_pr2, nI_clamp, z_up_row, z_row_s, z_row_n, z_row_row, pk_us, pk_un]
      rw [h9]
      simp (disch := omega) only [z_lit, nI_add, pk_mul, z_pr1, z_pr2, nI_clamp, z_up_row, z_row_s, z_row_n, z_row_row, pk_us, pk_un]
      refine hK _ _ _ _ _ _ _ _ _ _ (ih2)
    refine z_WP_gos [0, 39, 52] 1000 fun K C hK hC => ?_
    conv => whnf
    simp (disch := omega) only [z_lit, nI_add, pk_mul, z_pr1, z_pr2, nI_clamp, z_up_row, z_row_s, z_row_n, z_row_row, pk_us, pk_un]
    rw [e2, h9]
    refine ⟨fun z => absurd z (nI_ge (by omega) (by omega)), fun _ => ?_⟩
    conv => whnf
    simp (disch := omega) only [z_lit, nI_add, pk_mul, z_pr1, z_pr2, nI_clamp, z_up_row, z_row_s, z_row_n, z_row_row, pk_us, pk_un]
    rw [h9]
    repeat ((first | refine And.intro (by (conv => arg 2; whnf); (try simp only [z_lit, nI_add, pk_mul, z_pr1, z_pr2]); exact z_in (by omega) (by decide)) ?_ | refine z_bt1 (by decide) ?_ | refine z_bf1 (by decide) ?_ | refine z_bt2 (by decide) ?_ | refine z_bf2 (by decide) ?_); conv => whnf)
    simp (disch := omega) only [z_lit, nI_add, pk_mul, z_pr1, z_pr2, nI_clamp, z_up_row, z_row_s, z_row_n, z_row_row, pk_us, pk_un]
    rw [et]
    refine ⟨fun g => ?_, fun g => ?_⟩
    · conv => whnf
      refine hK _ _ _ _ _ _ _ _ _ _ (go (by unfold blk; rw [decide_eq_true (nI_inj9 (b := 32) (by omega) (by omega) g)]; rfl))
    · conv => whnf
      simp (disch := omega) only [z_lit, nI_add, pk_mul, z_pr1, z_pr2, nI_clamp, z_up_row, z_row_s, z_row_n, z_row_row, pk_us, pk_un]
      rw [h9]
      repeat ((first | refine And.intro (by (conv => arg 2; whnf); (try simp only [z_lit, nI_add, pk_mul, z_pr1, z_pr2]); exact z_in (by omega) (by decide)) ?_ | refine z_bt1 (by decide) ?_ | refine z_bf1 (by decide) ?_ | refine z_bt2 (by decide) ?_ | refine z_bf2 (by decide) ?_); conv => whnf)
      simp (disch := omega) only [z_lit, nI_add, pk_mul, z_pr1, z_pr2, nI_clamp, z_up_row, z_row_s, z_row_n, z_row_row, pk_us, pk_un]
      rw [et]
      refine ⟨fun g2 => ?_, fun g2 => ?_⟩
      · have hb : ¬ blk (t p) = true := fun z => by
          unfold blk at z
          simp only [Bool.or_eq_true, decide_eq_true_eq] at z
          rcases z with z | z
          · exact g (by rw [z])
          · exact g2 (by rw [z])
        rw [if_neg hb] at hr
        subst hr
        conv => whnf
        refine hK _ _ _ _ _ _ _ _ _ _ (hQ r hk h9)
      · conv => whnf
        refine hK _ _ _ _ _ _ _ _ _ _ (go (by unfold blk; rw [decide_eq_true (nI_inj9 (b := 10) (by omega) (by omega) g2), Bool.or_true]))
theorem cr_step4 {p : Nat} (hT : rT I t n) (hn : n ≤ 500) (h2 : I 32 2 = nI n) (h9 : I 32 9 = nI p) (hp : p ≤ n)
    (hQ : ∀ r, rk r (I 32) → r 9 = nI (tkE t n (tkS t n p)) → r 8 = nI (tkS t n p) → r 6 = nI (tkK4 t n (tkS t n p)) → (tkK4 t n (tkS t n p) = 1 → r 7 = nI (cW4 t (tkS t n p) (tkE t n (tkS t n p) - tkS t n p)).2) → (tkK4 t n (tkS t n p) = 2 → r 7 = nI (tkV t n (tkS t n p))) → (tkK4 t n (tkS t n p) = 3 → r 7 = nI 0) → Q none (z_row I 32 r) (z_R0 kp sp (.retAddr 4)) J F cn) :
    z_M (z_X0 L xs) z_P0 (d + 6) m_Reader_step [.ref 32] I (z_R0 kp sp (.retAddr 4)) J F cn Q := by
  have hb := run_b (P := blk) (t := t) (n - p) p
  have e0 : run blk t (n - p) p = tkS t n p := rfl
  rw [e0] at hb
  generalize tkS t n p = st at *
  have start := lp_cblank4 (L := L) (xs := xs) (d := d) (kp := kp) (sp := sp) (J := J) (F := F) (cn := cn) (Q := Q) (st := st) hT hn h2 (fun r hk k9 => ?_) (n - p) p (I 32) (by omega) e0 (fun _ _ => rfl) h9
  · rw [z_row_id] at start
    exact start
  have k2 : r 2 = nI n := (hk 2 (by omega)).trans h2
  have hT' : ∀ r', rT (z_row I 32 r') t n := fun r' k hk => by rw [z_row_n _ _ (by decide)]; exact hT k hk
  have hk' : rk (upd (upd r 8 (nI st)) 7 (nI 0)) (I 32) := rk_u (rk_u hk (by omega)) (by omega)
  refine z_WP_gos [] 1000 fun K C hK hC => ?_
  conv => whnf
  simp (disch := omega) only [z_lit, nI_add, pk_mul, z_pr1, z_pr2, nI_clamp, z_up_row, z_row_s, z_row_n, z_row_row, pk_us, pk_un]
  rw [k9, k2]
  refine ⟨fun g => ?_, fun g => ?_⟩
  rotate_left
  · have g' : st = n := by
      rcases Nat.lt_or_ge st n with z | z
      · exact absurd (nI_lt z (by omega)) g
      · omega
    have eK : tkK4 t n st = 0 := if_pos g'
    have eE : tkE t n st = st := by unfold tkE; rw [if_pos g', g']
    have q := hQ (upd (upd (upd r 8 (nI st)) 7 (nI 0)) 6 (nI 0)) (rk_u hk' (by omega)) (by rw [eE, pk_un (by omega), pk_un (by omega), pk_un (by omega)]; exact k9) (by rw [pk_un (by omega), pk_un (by omega), pk_us]) (by rw [eK, pk_us]) (fun z => by omega) (fun z => by omega) (fun z => by omega)
    conv => whnf
    simp (disch := omega) only [z_lit, nI_add, pk_mul, z_pr1, z_pr2, nI_clamp, z_up_row, z_row_s, z_row_n, z_row_row, pk_us, pk_un]
    exact q
  have hlt : st < n := (nI_ltI (by omega) (by omega)).mp g
  have g' : ¬ st = n := by omega
  obtain ⟨et, hc⟩ := hT st hlt
  conv => whnf
  simp (disch := omega) only [z_lit, nI_add, pk_mul, z_pr1, z_pr2, nI_clamp, z_up_row, z_row_s, z_row_n, z_row_row, pk_us, pk_un]
  rw [k9]
  repeat ((first | refine And.intro (by (conv => arg 2; whnf); (try simp only [z_lit, nI_add, pk_mul, z_pr1, z_pr2]); exact z_in (by omega) (by decide)) ?_ | refine z_bt1 (by decide) ?_ | refine z_bf1 (by decide) ?_ | refine z_bt2 (by decide) ?_ | refine z_bf2 (by decide) ?_); conv => whnf)
  simp (disch := omega) only [z_lit, nI_add, pk_mul, z_pr1, z_pr2, nI_clamp, z_up_row, z_row_s, z_row_n, z_row_row, pk_us, pk_un]
  rw [et]
  refine hC _ _ _ _ _ _ _ _ _ _ (fun _ _ _ _ _ _ q => q) (cr_isLetter hc ?_)
  conv => whnf
  by_cases c1 : ltr (t st) = true
  · rw [c1]
    have eE : tkE t n st = run ltr t (n - st) st := by unfold tkE; rw [if_neg g', if_pos c1]
    have eK : tkK4 t n st = (cW4 t st (tkE t n st - st)).1 := by unfold tkK4; rw [if_neg g', if_pos c1]
    refine ⟨fun y => absurd y (by decide), fun _ => ?_⟩
    conv => whnf
    refine hC _ _ _ _ _ _ _ _ _ _ (fun _ _ _ _ _ _ q => q) (cr_readWord4 (st := st) (hT' _) hn (by rw [z_row_s, pk_un (by omega), pk_un (by omega)]; exact k2) (by rw [z_row_s, pk_un (by omega), pk_un (by omega)]; exact k9) (by rw [z_row_s, pk_un (by omega), pk_us]) (by rw [z_row_s, pk_us]) (by omega) (fun r2 hk2 j9 j8 j6 j7 => ?_))
    conv => whnf
    rw [z_row_s] at hk2
    rw [← eE] at j9 j6 j7
    rw [z_row_row]
    exact hQ r2 (fun j hj => (hk2 j hj).trans (hk' j hj)) j9 j8 (by rw [eK]; exact j6) (fun _ => j7) (fun z => by rw [eK] at z; exact absurd z cW4_k.1) (fun z => by rw [eK] at z; exact absurd z cW4_k.2)
  · rw [Bool.eq_false_iff.mpr c1]
    refine ⟨fun _ => ?_, fun z => absurd rfl z⟩
    conv => whnf
    simp (disch := omega) only [z_lit, nI_add, pk_mul, z_pr1, z_pr2, nI_clamp, z_up_row, z_row_s, z_row_n, z_row_row, pk_us, pk_un]
    rw [k9]
    repeat ((first | refine And.intro (by (conv => arg 2; whnf); (try simp only [z_lit, nI_add, pk_mul, z_pr1, z_pr2]); exact z_in (by omega) (by decide)) ?_ | refine z_bt1 (by decide) ?_ | refine z_bf1 (by decide) ?_ | refine z_bt2 (by decide) ?_ | refine z_bf2 (by decide) ?_); conv => whnf)
    simp (disch := omega) only [z_lit, nI_add, pk_mul, z_pr1, z_pr2, nI_clamp, z_up_row, z_row_s, z_row_n, z_row_row, pk_us, pk_un]
    rw [et]
    refine hC _ _ _ _ _ _ _ _ _ _ (fun _ _ _ _ _ _ q => q) (cr_isDigit hc ?_)
    conv => whnf
    by_cases c2 : dgt (t st) = true
    · rw [c2]
      have eE : tkE t n st = run dgt t (n - st) st := by unfold tkE; rw [if_neg g', if_neg c1, if_pos c2]
      have eK : tkK4 t n st = if 4 < tkE t n st - st then 4 else 2 := by unfold tkK4; rw [if_neg g', if_neg c1, if_pos c2]
      refine ⟨fun y => absurd y (by decide), fun _ => ?_⟩
      conv => whnf
      refine hC _ _ _ _ _ _ _ _ _ _ (fun _ _ _ _ _ _ q => q) (cr_readNumber (st := st) (hT' _) hn (by rw [z_row_s, pk_un (by omega), pk_un (by omega)]; exact k2) (by rw [z_row_s, pk_un (by omega), pk_un (by omega)]; exact k9) (by rw [z_row_s, pk_un (by omega), pk_us]) (by rw [z_row_s, pk_us]) (by omega) (fun r2 hk2 j9 j8 j6 j7 => ?_))
      conv => whnf
      rw [z_row_s] at hk2
      rw [← eE] at j9 j6 j7
      rw [z_row_row]
      have hne1 : ¬ tkK4 t n st = 1 := by rw [eK]; split <;> decide
      have hne3 : ¬ tkK4 t n st = 3 := by rw [eK]; split <;> decide
      exact hQ r2 (fun j hj => (hk2 j hj).trans (hk' j hj)) j9 j8 (by rw [eK]; exact j6) (fun z => absurd z hne1) (fun z => j7 (by rw [eK] at z; split at z <;> omega)) (fun z => absurd z hne3)
    · rw [Bool.eq_false_iff.mpr c2]
      have eE : tkE t n st = st + 1 := by unfold tkE; rw [if_neg g', if_neg c1, if_neg c2]
      have eK : tkK4 t n st = if t st = 59 then 3 else 4 := by unfold tkK4; rw [if_neg g', if_neg c1, if_neg c2]
      have q := fun v (hv : v = nI (tkK4 t n st)) (h1 : ¬ tkK4 t n st = 1) (h2 : ¬ tkK4 t n st = 2) => hQ (upd (upd (upd (upd r 8 (nI st)) 7 (nI 0)) 6 v) 9 (nI (st + 1))) (rk_u (rk_u hk' (by omega)) (by omega)) (by rw [pk_us, eE]) (by rw [pk_un (by omega), pk_un (by omega), pk_un (by omega), pk_us]) (by rw [pk_un (by omega), pk_us]; exact hv) (fun z => absurd z h1) (fun z => absurd z h2) (fun _ => by rw [pk_un (by omega), pk_un (by omega), pk_us])
      refine ⟨fun _ => ?_, fun z => absurd rfl z⟩
      conv => whnf
      simp (disch := omega) only [z_lit, nI_add, pk_mul, z_pr1, z_pr2, nI_clamp, z_up_row, z_row_s, z_row_n, z_row_row, pk_us, pk_un]
      rw [k9]
      repeat ((first | refine And.intro (by (conv => arg 2; whnf); (try simp only [z_lit, nI_add, pk_mul, z_pr1, z_pr2]); exact z_in (by omega) (by decide)) ?_ | refine z_bt1 (by decide) ?_ | refine z_bf1 (by decide) ?_ | refine z_bt2 (by decide) ?_ | refine z_bf2 (by decide) ?_); conv => whnf)
      simp (disch := omega) only [z_lit, nI_add, pk_mul, z_pr1, z_pr2, nI_clamp, z_up_row, z_row_s, z_row_n, z_row_row, pk_us, pk_un]
      rw [et]
      refine ⟨fun g2 => ?_, fun g2 => ?_⟩
      · have g2' : ¬ t st = 59 := fun z => g2 (by rw [z])
        have q' := q (nI 4) (by rw [eK, if_neg g2']) (by rw [eK, if_neg g2']; decide) (by rw [eK, if_neg g2']; decide)
        conv => whnf
        simp (disch := omega) only [z_lit, nI_add, pk_mul, z_pr1, z_pr2, nI_clamp, z_up_row, z_row_s, z_row_n, z_row_row, pk_us, pk_un]
        rw [k9]
        simp (disch := omega) only [z_lit, nI_add, pk_mul, z_pr1, z_pr2, nI_clamp, z_up_row, z_row_s, z_row_n, z_row_row, pk_us, pk_un]
        exact q'
      · have g2' : t st = 59 := nI_inj9 (b := 59) (by omega) (by omega) g2
        have q' := q (nI 3) (by rw [eK, if_pos g2']) (by rw [eK, if_pos g2']; decide) (by rw [eK, if_pos g2']; decide)
        conv => whnf
        simp (disch := omega) only [z_lit, nI_add, pk_mul, z_pr1, z_pr2, nI_clamp, z_up_row, z_row_s, z_row_n, z_row_row, pk_us, pk_un]
        rw [k9]
        simp (disch := omega) only [z_lit, nI_add, pk_mul, z_pr1, z_pr2, nI_clamp, z_up_row, z_row_s, z_row_n, z_row_row, pk_us, pk_un]
        exact q'
end
