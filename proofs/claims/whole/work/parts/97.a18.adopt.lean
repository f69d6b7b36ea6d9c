/-! the table is taken over: phases laid -/
def phl : Nat → (Nat → Int32) → Nat → Int32
  | 0, w => w
  | k + 1, w => if lnn (phl k w) k 9 = 0 then phl k w else upd (phl k w) (qat k) (nI (phs (phl k w) k))
theorem phl_s {k : Nat} {w : Nat → Int32} : phl (k + 1) w = if lnn (phl k w) k 9 = 0 then phl k w else upd (phl k w) (qat k) (nI (phs (phl k w) k)) := rfl
theorem s_time_q {w : Nat → Int32} {i j : Nat} {v : Int32} : s_time (upd w (qat i) v) j = s_time w j := by
  unfold s_time
  rw [lnn_q (Or.inr (by decide)) (by omega), lnn_q (Or.inr (by decide)) (by omega), lnn_q (Or.inr (by decide)) (by omega)]
theorem phs_lt {w : Nat → Int32} {i : Nat} (ho : ln_ok w i) : phs w i < lnn w i 6 := amin_lt (pp8 ho).1
theorem ldn_q {w : Nat → Int32} {k q f : Nat} (h9 : ¬ lnn w k 9 = 0) (hq : q < 8) : ∀ m, ldn (upd w (qat k) (nI q)) f (k + 1) m = ldn w f k m + (if k < m ∧ f % lnn w k 6 = q then s_time w k else 0)
  | 0 => by rw [if_neg (by omega)]; rfl
  | m + 1 => by
    have ih := ldn_q (w := w) (k := k) (q := q) (f := f) h9 hq m
    show ldn (upd w (qat k) (nI q)) f (k + 1) m + (bif ldc (upd w (qat k) (nI q)) f (k + 1) m then s_time (upd w (qat k) (nI q)) m else 0) = ldn w f k m + (bif ldc w f k m then s_time w m else 0) + _
    rw [ih, s_time_q]
    unfold ldc
    rw [lnn_q (Or.inr (by decide)) (by omega)]
    by_cases z : m = k
    · subst z
      have e7 : lnn (upd w (qat m) (nI q)) m 7 = q := by
        show (upd w (qat m) (nI q) (qat m)).toNatClampNeg = q
        rw [pk_us, nI_clamp (by omega)]
      unfold s_due
      rw [lnn_q (Or.inr (by decide)) (by omega), e7, decide_eq_false h9, decide_eq_true (Nat.lt_succ_self m), decide_eq_false (Nat.lt_irrefl m), if_neg fun h => absurd h.1 (Nat.lt_irrefl _)]
      by_cases y : f % lnn w m 6 = q
      · rw [decide_eq_true y, if_pos ⟨Nat.lt_succ_self _, y⟩]; simp
      · rw [decide_eq_false y, if_neg fun h => y h.2]; simp
    · have e1 : s_due (upd w (qat k) (nI q)) m f = s_due w m f := by
        unfold s_due
        rw [lnn_q (Or.inl z) (by omega), lnn_q (Or.inl z) (by omega)]
      have e2 : decide (m < k + 1) = decide (m < k) := by
        by_cases y : m < k
        · rw [decide_eq_true y, decide_eq_true (by omega)]
        · rw [decide_eq_false y, decide_eq_false (by omega)]
      have e3 : (if k < m + 1 ∧ f % lnn w k 6 = q then s_time w k else 0) = if k < m ∧ f % lnn w k 6 = q then s_time w k else 0 := by
        by_cases y : k < m ∧ f % lnn w k 6 = q
        · rw [if_pos y, if_pos ⟨by omega, y.2⟩]
        · rw [if_neg y, if_neg fun h => y ⟨by omega, h.2⟩]
      rw [e1, e2, e3]
      omega
theorem ldn_n {w : Nat → Int32} {k f : Nat} (h9 : lnn w k 9 = 0) : ∀ m, ldn w f (k + 1) m = ldn w f k m
  | 0 => rfl
  | m + 1 => by
    show ldn w f (k + 1) m + _ = ldn w f k m + _
    rw [ldn_n h9 m]
    unfold ldc
    by_cases z : m = k
    · subst z; rw [decide_eq_true h9]; rfl
    · have e2 : decide (m < k + 1) = decide (m < k) := by
        by_cases y : m < k
        · rw [decide_eq_true y, decide_eq_true (by omega)]
        · rw [decide_eq_false y, decide_eq_false (by omega)]
      rw [e2]
theorem gof_mq {w : Nat → Int32} {k q : Nat} (ho : ln_ok w k) (hk : k < (w 8).toNatClampNeg) (h9 : ¬ lnn w k 9 = 0) (hq : q < lnn w k 6) : gof (upd w (qat k) (nI q)) k = mq (fun f => ldn w f k (w 8).toNatClampNeg) (lnn w k 6) q 8 + s_time w k := by
  have pp := pp8 ho
  unfold gof mq
  have e7 : lnn (upd w (qat k) (nI q)) k 7 = q := by
    show (upd w (qat k) (nI q) (qat k)).toNatClampNeg = q
    rw [pk_us, nI_clamp (by omega)]
  have h := mxf_T (g := fun f => ldn w f k (w 8).toNatClampNeg) (c := fun f => decide (f < 8 ∧ f % lnn w k 6 = q)) (T := s_time w k) (k := 8) ⟨q, by omega, decide_eq_true ⟨by omega, Nat.mod_eq_of_lt hq⟩⟩
  rw [w8_q]
  have e1 : mxf (fun f => if s_due (upd w (qat k) (nI q)) k f = true then ldn (upd w (qat k) (nI q)) f (k + 1) (w 8).toNatClampNeg else 0) 8 = mxf (fun f => if decide (f < 8 ∧ f % lnn w k 6 = q) = true then ldn w f k (w 8).toNatClampNeg + s_time w k else 0) 8 := mxf_c fun f hf => by
    have ed : s_due (upd w (qat k) (nI q)) k f = decide (f % lnn w k 6 = q) := by
      unfold s_due
      rw [lnn_q (Or.inr (by decide)) (by omega), e7]
    try simp only
    rw [ed, ldn_q h9 (by omega)]
    by_cases y : f % lnn w k 6 = q
    · rw [decide_eq_true y, if_pos rfl, if_pos ⟨hk, y⟩, decide_eq_true ⟨hf, y⟩, if_pos rfl]
    · rw [decide_eq_false y, if_neg (by decide), decide_eq_false fun h => y h.2, if_neg (by decide)]
  have e2 : mxf (fun f => if decide (f < 8 ∧ f % lnn w k 6 = q) = true then ldn w f k (w 8).toNatClampNeg else 0) 8 = mxf (fun f => if f < 8 ∧ f % lnn w k 6 = q then ldn w f k (w 8).toNatClampNeg else 0) 8 := mxf_c fun f hf => by
    try simp only
    by_cases y : f < 8 ∧ f % lnn w k 6 = q
    · rw [if_pos y, decide_eq_true y, if_pos rfl]
    · rw [if_neg y, decide_eq_false y, if_neg (by decide)]
  rw [e1, h, e2]
theorem phs_mq {w : Nat → Int32} {k : Nat} (ho : ln_ok w k) (hk : k < (w 8).toNatClampNeg) (h9 : ¬ lnn w k 9 = 0) : phs w k = amin (fun q => mq (fun f => ldn w f k (w 8).toNatClampNeg) (lnn w k 6) q 8) (lnn w k 6) :=
  amin_add fun q hq => gof_mq ho hk h9 hq
/-- what phases leave alone -/
theorem phl_ok {w : Nat → Int32} (ht : tb_ok w) : ∀ k, k ≤ (w 8).toNatClampNeg → tb_ok (phl k w) ∧ (phl k w) 8 = w 8 ∧ (∀ j, (∀ i, i < 24 → j ≠ qat i) → phl k w j = w j) ∧ (∀ j f, f < 14 → (k ≤ j ∨ f ≠ 7) → lnn (phl k w) j f = lnn w j f)
  | 0, _ => ⟨ht, rfl, fun _ _ => rfl, fun _ _ _ _ => rfl⟩
  | k + 1, hk => by
    obtain ⟨a, b, c, e⟩ := phl_ok ht k (by omega)
    have h24 := ht.2.1
    have ho := a.2.2 k (by rw [b]; omega)
    rw [phl_s]
    by_cases z : lnn (phl k w) k 9 = 0
    · rw [if_pos z]
      exact ⟨a, b, c, fun j f x y => e j f x (by omega)⟩
    · rw [if_neg z]
      refine ⟨tb_q a (by rw [b]; omega) (phs_lt ho), w8_q.trans b, fun j hj => ?_, fun j f x y => ?_⟩
      · rw [pk_un (hj k (by omega))]; exact c j hj
      · rw [lnn_q (by omega) x]; exact e j f x (by omega)
theorem pS_q {I : z_I} {w : Nat → Int32} {i q : Nat} (hp : pS I w) (hi : i < (w 8).toNatClampNeg) (hq : q < 8) : pS (z_row I 19 (upd (I 19) (i * 11 + 7) (nI q))) (upd w (qat i) (nI q)) := by
  refine ⟨by rw [z_row_n _ _ (by decide), w8_q]; exact hp.1, fun j hj => ?_⟩
  rw [w8_q] at hj
  obtain ⟨b0, b1, b2, b3, b4, b5, b6, b7, b8, b9, b10⟩ := hp.2 j hj
  rw [z_row_s]
  have e : ∀ f, f < 14 → f ≠ 7 → lnn (upd w (qat i) (nI q)) j f = lnn w j f := fun f a b => lnn_q (Or.inr b) a
  have en : l_n (upd w (qat i) (nI q)) j = l_n w j := by
    unfold l_n
    rw [e 0 (by omega) (by decide), e 10 (by omega) (by decide), e 3 (by omega) (by decide)]
  rw [pk_un (by omega), pk_un (by omega), pk_un (by omega), pk_un (by omega), pk_un (by omega), pk_un (by omega), pk_un (by omega), pk_un (j := j * 11 + 8) (by omega), pk_un (j := j * 11 + 9) (by omega), pk_un (j := j * 11 + 10) (by omega), e 0 (by omega) (by decide), e 1 (by omega) (by decide), e 2 (by omega) (by decide), e 4 (by omega) (by decide), e 5 (by omega) (by decide), e 6 (by omega) (by decide), e 8 (by omega) (by decide), e 9 (by omega) (by decide), en, s_time_q]
  refine ⟨b0, b1, b2, b3, b4, b5, b6, ?_, b8, b9, b10⟩
  by_cases z : j = i
  · subst z
    rw [pk_us]
    show nI q = nI (upd w (qat j) (nI q) (qat j)).toNatClampNeg
    rw [pk_us, nI_clamp (by omega)]
  · rw [pk_un (by omega), lnn_q (Or.inl z) (by omega)]
    exact b7
section
variable {L : Nat} {xs : Nat → Int32} {d : Nat} {kp sp wd : Value} {I : z_I} {s : z_sg} {R : z_R} {J : z_J} {F : z_F} {cn : Nat} {Q : z_Q} {n k : Nat}
theorem lp_adopt3 {w : Nat → Int32} {from' : Value} (ht : tb_ok w) (hQ : ∀ I', fr [19, 23] I I' → pS I' (phl (w 8).toNatClampNeg w) → hL I' → Q none I' (z_R0 kp sp wd) J F cn) :
    ∀ j k I', k + j = (w 8).toNatClampNeg → fr [19, 23] I I' → pS I' (phl k w) → (∀ f, f < 8 → I' 23 f = nI (ldn (phl k w) f k (w 8).toNatClampNeg)) → z_WP (z_X0 L xs) z_P0 (d + 3) m_Plan_adopt 83 [some (.ref 18), some from', some (.int (nI (w 8).toNatClampNeg)), some (.int (nI k))] [] I' (z_R0 kp sp wd) J F cn 0 0 Q := by
  have h24 := ht.2.1
  intro j
  induction j with
  | zero =>
    intro k I' hk f p l
    have hk' : k = (w 8).toNatClampNeg := by omega
    obtain ⟨a, b, -, -⟩ := phl_ok ht k (by omega)
    have hl : hL I' := fun f hf => by
      rw [l f hf, p.1, b, lds_ldn p a (M := k) (by rw [b]; omega) _ (by rw [b]; omega)]
    rw [hk'] at p
    refine z_WP_gos [83] 1000 fun K C hK hC => ?_
    conv => whnf
    refine ⟨fun _ => ?_, fun h => absurd (nI_le (a := (w 8).toNatClampNeg) (b := k) (by omega) (by omega)) h⟩
    conv => whnf
    exact hQ I' f p hl
  | succ j ih =>
    intro k I' hk f p l
    obtain ⟨a, b, -, -⟩ := phl_ok ht k (by omega)
    have hkn : k < ((phl k w) 8).toNatClampNeg := by rw [b]; omega
    have ho := a.2.2 k hkn
    have pp := pp8 ho
    have h9 := ho.2.2.2.2.2.2.2.2.2.2.2.2.2.2.1
    obtain ⟨b0, b1, b2, b3, b4, b5, b6, b7, b8, b9, b10⟩ := p.2 k hkn
    have lg : ∀ f, f < 8 → I' 23 f = nI (ldn (phl k w) f k ((phl k w) 8).toNatClampNeg) ∧ ldn (phl k w) f k ((phl k w) 8).toNatClampNeg < 2 ^ 30 := fun f hf => by
      refine ⟨by rw [b]; exact l f hf, ?_⟩
      have x := ldn_le (f := f) (M := k) a.2.2
      rw [b] at x ⊢
      omega
    have ih' := fun I' => ih (k + 1) I' (by omega)
    rw [phl_s] at ih'
    refine z_WP_gos [83] 1000 fun K C hK hC => ?_
    conv => whnf
    refine ⟨fun h => absurd h (nI_ge (by omega) (by omega)), fun _ => ?_⟩
    conv => whnf
    refine hC _ _ _ _ _ _ _ _ _ _ (fun _ _ _ _ _ _ q => q) (cp_told (f := 8) (by omega) (by omega) b8 ?_)
    conv => whnf
    refine ⟨fun g => ?_, fun g => ?_⟩
    · have g9 : lnn (phl k w) k 9 = 0 := nI_inj9 (by omega) (by omega) g
      rw [if_pos g9] at ih'
      conv => whnf
      simp (disch := omega) only [z_lit, nI_add, pk_mul, z_pr1, z_pr2, nI_clamp, z_up_row, z_row_s, z_row_n, z_row_row, pk_us, pk_un]
      refine hK _ _ _ _ _ _ _ _ _ _ (ih' I' f p (fun f hf => by rw [ldn_n g9]; exact l f hf))
    · have g9 : ¬ lnn (phl k w) k 9 = 0 := fun z => g (by rw [z]; rfl)
      rw [if_neg g9] at ih'
      have hph := phs_lt ho
      have eph := phs_mq ho hkn g9
      generalize phl k w = w' at *
      conv => whnf
      refine hC _ _ _ _ _ _ _ _ _ _ (fun _ _ _ _ _ _ q => q) (cp_lowestPhase (p := lnn w' k 6) (by omega) b6 lg pp.1 pp.2 ?_)
      conv => whnf
      rw [← eph]
      repeat ((first | refine And.intro (by (conv => arg 2; whnf); (try simp only [z_lit, nI_add, pk_mul, z_pr1, z_pr2]); exact z_in (by omega) (by decide)) ?_ | refine z_bt1 (by decide) ?_ | refine z_bf1 (by decide) ?_ | refine z_bt2 (by decide) ?_ | refine z_bf2 (by decide) ?_); conv => whnf)
      simp (disch := omega) only [z_lit, nI_add, pk_mul, z_pr1, z_pr2, nI_clamp, z_up_row, z_row_s, z_row_n, z_row_row, pk_us, pk_un]
      have p1 := pS_q p hkn (q := phs w' k) (by omega)
      generalize phs w' k = q at *
      have b7' : (z_row I' 19 (upd (I' 19) (k * 11 + 7) (nI q))) 19 (k * 11 + 7) = nI q := by rw [z_row_s, pk_us]
      have b10' : (z_row I' 19 (upd (I' 19) (k * 11 + 7) (nI q))) 19 (k * 11 + 10) = nI (s_time w' k) := by rw [z_row_s, pk_un (by omega)]; exact b10
      have b6' : (z_row I' 19 (upd (I' 19) (k * 11 + 7) (nI q))) 19 (k * 11 + 6) = nI (lnn w' k 6) := by rw [z_row_s, pk_un (by omega)]; exact b6
      refine hC _ _ _ _ _ _ _ _ _ _ (fun _ _ _ _ _ _ q => q) (cp_told (f := 7) (by omega) (by omega) b7' ?_)
      conv => whnf
      refine hC _ _ _ _ _ _ _ _ _ _ (fun _ _ _ _ _ _ q => q) (cp_told (f := 10) (by omega) (by omega) b10' ?_)
      conv => whnf
      refine hC _ _ _ _ _ _ _ _ _ _ (fun _ _ _ _ _ _ q => q) (cp_pile23 (p := lnn w' k 6) (by omega) b6' pp.1 pp.2 hph ?_)
      conv => whnf
      simp (disch := omega) only [z_lit, nI_add, pk_mul, z_pr1, z_pr2, nI_clamp, z_up_row, z_row_s, z_row_n, z_row_row, pk_us, pk_un]
      refine hK _ _ _ _ _ _ _ _ _ _ (ih' _ (fr_w (fr_w f (by decide)) (by decide)) (pS_c p1 (by rw [z_row_n _ _ (by decide)]) (z_row_n _ _ (by decide)) rfl (by rw [w8_q, b]; exact h24) (fun _ _ _ _ => rfl)) (fun f hf => ?_))
      rw [z_row_s, ldn_q g9 (by omega)]
      unfold plc
      by_cases y : f % lnn w' k 6 = q
      · rw [if_pos ⟨hf, hf, y⟩, if_pos ⟨by omega, y⟩, l f hf, nI_add]
      · rw [if_neg fun h => y h.2.2, if_neg fun h => y h.2, l f hf, Nat.add_zero]
end
