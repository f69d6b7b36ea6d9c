/-! what a text says: the class's steps -/
def vO2 (m : Nat) : Nat := m - 3
def lvC (t : Nat → Nat) (n : Nat) (kO vO : Nat → Nat) (r : Nat → Int32) (st : Nat) : Prop := st ≤ n ∧ r 2 = nI n ∧ r 3 = nI 0 ∧ r 4 = -1 ∧ r 9 = nI (tkE t n st) ∧ r 8 = nI st ∧ r 6 = nI (kO (tkM t n st)) ∧ (kO (tkM t n st) = 1 → r 7 = nI (vO (tkM t n st))) ∧ (kO (tkM t n st) = 2 → r 7 = nI (tkV t n st)) ∧ (kO (tkM t n st) = 3 → r 7 = nI 0)
def ddC (r : Nat → Int32) (c p : Nat) : Prop := c ≠ 0 ∧ c < 100 ∧ r 3 = nI c ∧ r 4 = nI p ∧ ∃ n q, q ≤ n ∧ n ≤ 500 ∧ r 2 = nI n ∧ r 9 = nI q
theorem kO2_2 : ∀ m, m ≤ 22 → (kO2 m = 2 ↔ m = 2) ∧ kO2 m ≤ 4 := by decide
theorem kO4_2 : ∀ m, m ≤ 22 → (kO4 m = 2 ↔ m = 2) ∧ kO4 m ≤ 4 := by decide
theorem rT_k {I I' : z_I} {t : Nat → Nat} {n : Nat} (h : rT I t n) (e : I' 33 = I 33) : rT I' t n := fun k hk => by rw [e]; exact h k hk
theorem tkV_lt2 {t : Nat → Nat} {n st : Nat} {I : z_I} (hT : rT I t n) (h : st ≤ n) : tkV t n st < 2 ^ 30 := by
  unfold tkV
  have b := tkE_b (t := t) h
  exact numv_9 _ fun i hi => (hT (st + i) (by omega)).2
section
variable {L : Nat} {xs : Nat → Int32} {d : Nat} {kp sp wd : Value} {I : z_I} {s : z_sg} {R : z_R} {J : z_J} {F : z_F} {cn : Nat} {Q : z_Q} {n k m st : Nat} {t : Nat → Nat} {fr0 : Nat → Int32}
theorem cs_fail {kO vO : Nat → Nat} {c p : Nat} (h : lvC t n kO vO (I 32) st) (hn : n ≤ 500) (hc : c ≠ 0) (hc2 : c < 100) (hQ : ∀ I', fr [32] I I' → ddC (I' 32) c p → Q none I' (z_R0 kp sp wd) J F cn) : z_M (z_X0 L xs) z_P0 d m_Reader_fail [.ref 32, .int (nI c), .int (nI p)] I (z_R0 kp sp wd) J F cn Q := by
  have h3 := h.2.2.1
  have b := tkE_b (t := t) h.1
  have q := hQ (z_row I 32 (upd (upd (I 32) 3 (nI c)) 4 (nI p))) (fr_w fr_r (by decide)) ⟨hc, hc2, by rw [z_row_s, pk_un (by decide), pk_us], by rw [z_row_s, pk_us], n, tkE t n st, b.2.1, hn, by rw [z_row_s, pk_un (by decide), pk_un (by decide)]; exact h.2.1, by rw [z_row_s, pk_un (by decide), pk_un (by decide)]; exact h.2.2.2.2.1⟩
  refine z_WP_gos [] 1000 fun K C hK hC => ?_
  conv => whnf
  simp (disch := omega) only [z_lit, nI_add, pk_mul, z_pr1, z_pr2, nI_clamp, z_up_row, z_row_s, z_row_n, z_row_row, pk_us, pk_un]
  rw [h3]
  refine ⟨fun z => absurd rfl z, fun _ => ?_⟩
  conv => whnf
  simp (disch := omega) only [z_lit, nI_add, pk_mul, z_pr1, z_pr2, nI_clamp, z_up_row, z_row_s, z_row_n, z_row_row, pk_us, pk_un]
  exact q
theorem cs_failD {c' p' : Int32} {c p : Nat} (h : ddC (I 32) c p) (hQ : Q none I (z_R0 kp sp wd) J F cn) : z_M (z_X0 L xs) z_P0 d m_Reader_fail [.ref 32, .int c', .int p'] I (z_R0 kp sp wd) J F cn Q := by
  obtain ⟨h0, hc, h3, h4⟩ := h
  refine z_WP_gos [] 1000 fun K C hK hC => ?_
  conv => whnf
  simp (disch := omega) only [z_lit, nI_add, pk_mul, z_pr1, z_pr2, nI_clamp, z_up_row, z_row_s, z_row_n, z_row_row, pk_us, pk_un]
  rw [h3]
  refine ⟨fun _ => ?_, fun z => absurd (nI_inj9 (b := 0) (by omega) (by omega) z) h0⟩
  conv => whnf
  exact hQ
theorem cs_numberD {a b : Int32} {c p : Nat} (h : ddC (I 32) c p) (hQ : Q (some (.int 0)) I (z_R0 kp sp wd) J F cn) : z_M (z_X0 L xs) z_P0 d m_Reader_number [.ref 32, .int a, .int b] I (z_R0 kp sp wd) J F cn Q := by
  obtain ⟨h0, hc, h3, h4⟩ := h
  refine z_WP_gos [] 1000 fun K C hK hC => ?_
  conv => whnf
  simp (disch := omega) only [z_lit, nI_add, pk_mul, z_pr1, z_pr2, nI_clamp, z_up_row, z_row_s, z_row_n, z_row_row, pk_us, pk_un]
  rw [h3]
  refine ⟨fun z => absurd (nI_inj9 (b := 0) (by omega) (by omega) z) h0, fun _ => ?_⟩
  conv => whnf
  exact hQ
theorem cs_expectD {a b : Int32} {c p : Nat} (h : ddC (I 32) c p) (hQ : Q none I (z_R0 kp sp wd) J F cn) : z_M (z_X0 L xs) z_P0 d m_Reader_expect [.ref 32, .int a, .int b] I (z_R0 kp sp wd) J F cn Q := by
  obtain ⟨h0, hc, h3, h4⟩ := h
  refine z_WP_gos [] 1000 fun K C hK hC => ?_
  conv => whnf
  simp (disch := omega) only [z_lit, nI_add, pk_mul, z_pr1, z_pr2, nI_clamp, z_up_row, z_row_s, z_row_n, z_row_row, pk_us, pk_un]
  rw [h3]
  refine ⟨fun z => absurd (nI_inj9 (b := 0) (by omega) (by omega) z) h0, fun _ => ?_⟩
  conv => whnf
  exact hQ
theorem cs_next2 (hT : rT I t n) (hn : n ≤ 500) (h : lvC t n kO2 vO2 (I 32) st) (hQ : ∀ I', fr [32] I I' → lvC t n kO2 vO2 (I' 32) (nx t n st) → Q none I' (z_R0 kp sp (.retAddr 2)) J F cn) :
    z_M (z_X0 L xs) z_P0 (d + 6) m_Reader_step [.ref 32] I (z_R0 kp sp (.retAddr 2)) J F cn Q := by
  obtain ⟨h0, h2, h3, h4, h9, h8, h6, -⟩ := h
  have b := tkE_b (t := t) h0
  have c := tkS_b (t := t) (n := n) (p := tkE t n st) (by omega)
  refine cr_step2 hT hn h2 h9 (by omega) (fun r hk a9 a8 a6 a7 a72 a73 => hQ (z_row I 32 r) (fr_w fr_r (by decide)) ?_)
  rw [z_row_s]
  have tk := tk2 (t := t) (n := n) (st := tkS t n (tkE t n st))
  rw [tk.1] at a6 a7 a72 a73
  exact ⟨c.2, (hk 2 (by omega)).trans h2, (hk 3 (by omega)).trans h3, (hk 4 (by omega)).trans h4, a9, a8, a6, fun z => (a7 z).trans (by rw [tk.2 (tk.1.trans z)]; rfl), a72, a73⟩
theorem cs_number2 {lo hi : Nat} (hT : rT I t n) (hn : n ≤ 500) (hhi : hi < 2 ^ 30) (hlo : lo < 2 ^ 30) (h : lvC t n kO2 vO2 (I 32) st) (hQ : okQ (pnum t n m k lo hi fr0 st) (fun fr' st' => ∀ v I', fr' = upd fr0 (14 * m + k) (nI v) → lo ≤ v → v ≤ hi → v = tkV t n st → tkM t n st = 2 → fr [32] I I' → lvC t n kO2 vO2 (I' 32) st' → Q (some (.int (nI v))) I' (z_R0 kp sp (.retAddr 2)) J F cn) (fun c p => ∀ I', fr [32] I I' → ddC (I' 32) c p → Q (some (.int 0)) I' (z_R0 kp sp (.retAddr 2)) J F cn)) :
    z_M (z_X0 L xs) z_P0 (d + 7) m_Reader_number [.ref 32, .int (nI lo), .int (nI hi)] I (z_R0 kp sp (.retAddr 2)) J F cn Q := by
  obtain ⟨h0, h2, h3, h4, h9, h8, h6, h71, h72, h73⟩ := id h
  have hl := tkM_le (t := t) (n := n) (st := st)
  have hk2 := kO2_2 _ hl
  have hv := tkV_lt2 hT h0
  unfold pnum at hQ
  refine z_WP_gos [] 1000 fun K C hK hC => ?_
  conv => whnf
  simp (disch := omega) only [z_lit, nI_add, pk_mul, z_pr1, z_pr2, nI_clamp, z_up_row, z_row_s, z_row_n, z_row_row, pk_us, pk_un]
  rw [h3]
  refine ⟨fun _ => ?_, fun z => absurd rfl z⟩
  conv => whnf
  simp (disch := omega) only [z_lit, nI_add, pk_mul, z_pr1, z_pr2, nI_clamp, z_up_row, z_row_s, z_row_n, z_row_row, pk_us, pk_un]
  rw [h6]
  refine ⟨fun g => ?_, fun g => ?_⟩
  rotate_left
  · have g' : ¬ tkM t n st = 2 := fun z => g (by rw [hk2.1.mpr z])
    rw [if_neg g'] at hQ
    conv => whnf
    simp (disch := omega) only [z_lit, nI_add, pk_mul, z_pr1, z_pr2, nI_clamp, z_up_row, z_row_s, z_row_n, z_row_row, pk_us, pk_un]
    rw [h8]
    refine hC _ _ _ _ _ _ _ _ _ _ (fun _ _ _ _ _ _ q => q) (cs_fail (kO := kO2) (vO := vO2) (c := 1) (p := st) h hn (by decide) (by decide) (fun I' f' d' => ?_))
    conv => whnf
    exact hQ I' f' d'
  have g' : tkM t n st = 2 := hk2.1.mp (nI_inj9 (b := 2) (by omega) (by omega) g)
  have e7 := h72 (hk2.1.mpr g')
  rw [if_pos g'] at hQ
  have no : ¬ (lo ≤ tkV t n st ∧ tkV t n st ≤ hi) → z_WP (z_X0 L xs) z_P0 (d + 7) m_Reader_number 44 [some (.ref 32), some (.int (nI lo)), some (.int (nI hi)), none] [] I (z_R0 kp sp (.retAddr 2)) J F cn 0 0 Q := by
    intro x
    rw [if_neg x] at hQ
    refine z_WP_gos [] 1000 fun K C hK hC => ?_
    conv => whnf
    simp (disch := omega) only [z_lit, nI_add, pk_mul, z_pr1, z_pr2, nI_clamp, z_up_row, z_row_s, z_row_n, z_row_row, pk_us, pk_un]
    rw [h8]
    refine hC _ _ _ _ _ _ _ _ _ _ (fun _ _ _ _ _ _ q => q) (cs_fail (kO := kO2) (vO := vO2) (c := 2) (p := st) h hn (by decide) (by decide) (fun I' f' d' => ?_))
    conv => whnf
    exact hQ I' f' d'
  conv => whnf
  simp (disch := omega) only [z_lit, nI_add, pk_mul, z_pr1, z_pr2, nI_clamp, z_up_row, z_row_s, z_row_n, z_row_row, pk_us, pk_un]
  rw [e7]
  refine ⟨fun g1 => ?_, fun g1 => ?_⟩
  · have g1' : tkV t n st < lo := (nI_ltI (by omega) (by omega)).mp g1
    rw [if_neg (by omega)] at hQ
    conv => whnf
    simp (disch := omega) only [z_lit, nI_add, pk_mul, z_pr1, z_pr2, nI_clamp, z_up_row, z_row_s, z_row_n, z_row_row, pk_us, pk_un]
    rw [h8]
    refine hC _ _ _ _ _ _ _ _ _ _ (fun _ _ _ _ _ _ q => q) (cs_fail (kO := kO2) (vO := vO2) (c := 2) (p := st) h hn (by decide) (by decide) (fun I' f' d' => ?_))
    conv => whnf
    exact hQ I' f' d'
  have g1' : lo ≤ tkV t n st := by
    rcases Nat.lt_or_ge (tkV t n st) lo with z | z
    · exact absurd (nI_lt z (by omega)) g1
    · exact z
  conv => whnf
  simp (disch := omega) only [z_lit, nI_add, pk_mul, z_pr1, z_pr2, nI_clamp, z_up_row, z_row_s, z_row_n, z_row_row, pk_us, pk_un]
  rw [e7]
  refine ⟨fun g2 => ?_, fun g2 => ?_⟩
  · have g2' : tkV t n st ≤ hi := (nI_leI (by omega) (by omega)).mp g2
    rw [if_pos ⟨g1', g2'⟩] at hQ
    conv => whnf
    simp (disch := omega) only [z_lit, nI_add, pk_mul, z_pr1, z_pr2, nI_clamp, z_up_row, z_row_s, z_row_n, z_row_row, pk_us, pk_un]
    rw [e7]
    refine hC _ _ _ _ _ _ _ _ _ _ (fun _ _ _ _ _ _ q => q) (cs_next2 hT hn h (fun I' f' l' => ?_))
    conv => whnf
    exact hQ (tkV t n st) I' rfl g1' g2' rfl g' f' l'
  · have g2' : ¬ tkV t n st ≤ hi := fun z => g2 (nI_le z (by omega))
    rw [if_neg (by omega)] at hQ
    conv => whnf
    simp (disch := omega) only [z_lit, nI_add, pk_mul, z_pr1, z_pr2, nI_clamp, z_up_row, z_row_s, z_row_n, z_row_row, pk_us, pk_un]
    rw [h8]
    refine hC _ _ _ _ _ _ _ _ _ _ (fun _ _ _ _ _ _ q => q) (cs_fail (kO := kO2) (vO := vO2) (c := 2) (p := st) h hn (by decide) (by decide) (fun I' f' d' => ?_))
    conv => whnf
    exact hQ I' f' d'
theorem cs_expect2 {a b q : Nat} (hT : rT I t n) (hn : n ≤ 500) (ha : a ≤ 4) (hb : b < 30) (hab : ∀ m, m ≤ 22 → ((kO2 m = a ∧ (a = 1 → vO2 m = b) ∧ (a = 3 → b = 0)) ↔ m = q)) (ha3 : a = 1 ∨ a = 3) (h : lvC t n kO2 vO2 (I 32) st) (hQ : okQ (pneed t n q fr0 st) (fun fr' st' => ∀ I', fr' = fr0 → fr [32] I I' → lvC t n kO2 vO2 (I' 32) st' → Q none I' (z_R0 kp sp (.retAddr 2)) J F cn) (fun c p => ∀ I', fr [32] I I' → ddC (I' 32) c p → Q none I' (z_R0 kp sp (.retAddr 2)) J F cn)) :
    z_M (z_X0 L xs) z_P0 (d + 7) m_Reader_expect [.ref 32, .int (nI a), .int (nI b)] I (z_R0 kp sp (.retAddr 2)) J F cn Q := by
  obtain ⟨h0, h2, h3, h4, h9, h8, h6, h71, h72, h73⟩ := id h
  have hl := tkM_le (t := t) (n := n) (st := st)
  have hk2 := kO2_2 _ hl
  have hb2 : ∀ m, m ≤ 22 → vO2 m < 30 := by decide
  have hv := hb2 _ hl
  have hab' := hab _ hl
  unfold pneed at hQ
  have no : ¬ tkM t n st = q → z_WP (z_X0 L xs) z_P0 (d + 7) m_Reader_expect 24 [some (.ref 32), some (.int (nI a)), some (.int (nI b))] [] I (z_R0 kp sp (.retAddr 2)) J F cn 0 0 Q := by
    intro x
    rw [if_neg x] at hQ
    refine z_WP_gos [] 1000 fun K C hK hC => ?_
    conv => whnf
    simp (disch := omega) only [z_lit, nI_add, pk_mul, z_pr1, z_pr2, nI_clamp, z_up_row, z_row_s, z_row_n, z_row_row, pk_us, pk_un]
    rw [h8]
    refine hC _ _ _ _ _ _ _ _ _ _ (fun _ _ _ _ _ _ q => q) (cs_fail (kO := kO2) (vO := vO2) (c := 1) (p := st) h hn (by decide) (by decide) (fun I' f' d' => ?_))
    conv => whnf
    exact hQ I' f' d'
  refine z_WP_gos [24] 1000 fun K C hK hC => ?_
  conv => whnf
  simp (disch := omega) only [z_lit, nI_add, pk_mul, z_pr1, z_pr2, nI_clamp, z_up_row, z_row_s, z_row_n, z_row_row, pk_us, pk_un]
  rw [h3]
  refine ⟨fun _ => ?_, fun z => absurd rfl z⟩
  conv => whnf
  simp (disch := omega) only [z_lit, nI_add, pk_mul, z_pr1, z_pr2, nI_clamp, z_up_row, z_row_s, z_row_n, z_row_row, pk_us, pk_un]
  rw [h6]
  refine ⟨fun g => ?_, fun g => ?_⟩
  · conv => whnf
    refine hK _ _ _ _ _ _ _ _ _ _ (no (fun z => g (by rw [(hab'.mpr z).1])))
  have g' : kO2 (tkM t n st) = a := nI_inj9 (by omega) (by omega) g
  have e7 : I 32 7 = nI (if a = 1 then vO2 (tkM t n st) else 0) := by
    rcases ha3 with z | z
    · rw [if_pos z]; exact h71 (g'.trans z)
    · rw [if_neg (by omega)]; exact h73 (g'.trans z)
  conv => whnf
  simp (disch := omega) only [z_lit, nI_add, pk_mul, z_pr1, z_pr2, nI_clamp, z_up_row, z_row_s, z_row_n, z_row_row, pk_us, pk_un]
  rw [e7]
  refine ⟨fun g2 => ?_, fun g2 => ?_⟩
  · have g2' : (if a = 1 then vO2 (tkM t n st) else 0) = b := nI_inj9 (by split <;> omega) (by omega) g2
    have x : tkM t n st = q := hab'.mp ⟨g', fun z => by rw [if_pos z] at g2'; exact g2', fun z => by rw [if_neg (by omega)] at g2'; exact g2'.symm⟩
    rw [if_pos x] at hQ
    conv => whnf
    refine hC _ _ _ _ _ _ _ _ _ _ (fun _ _ _ _ _ _ q => q) (cs_next2 hT hn h (fun I' f' l' => ?_))
    conv => whnf
    exact hQ I' rfl f' l'
  · conv => whnf
    refine hK _ _ _ _ _ _ _ _ _ _ (no (fun z => g2 ?_))
    obtain ⟨-, y1, y3⟩ := hab'.mpr z
    rcases ha3 with x | x
    · rw [if_pos x, y1 x]
    · rw [if_neg (by omega), y3 x]
theorem cs_next4 (hT : rT I t n) (hn : n ≤ 500) (h : lvC t n kO4 vO4 (I 32) st) (hQ : ∀ I', fr [32] I I' → lvC t n kO4 vO4 (I' 32) (nx t n st) → Q none I' (z_R0 kp sp (.retAddr 4)) J F cn) :
    z_M (z_X0 L xs) z_P0 (d + 6) m_Reader_step [.ref 32] I (z_R0 kp sp (.retAddr 4)) J F cn Q := by
  obtain ⟨h0, h2, h3, h4, h9, h8, h6, -⟩ := h
  have b := tkE_b (t := t) h0
  have c := tkS_b (t := t) (n := n) (p := tkE t n st) (by omega)
  refine cr_step4 hT hn h2 h9 (by omega) (fun r hk a9 a8 a6 a7 a72 a73 => hQ (z_row I 32 r) (fr_w fr_r (by decide)) ?_)
  rw [z_row_s]
  have tk := tk4 (t := t) (n := n) (st := tkS t n (tkE t n st))
  rw [tk.1] at a6 a7 a72 a73
  exact ⟨c.2, (hk 2 (by omega)).trans h2, (hk 3 (by omega)).trans h3, (hk 4 (by omega)).trans h4, a9, a8, a6, fun z => (a7 z).trans (by rw [tk.2 (tk.1.trans z)]; rfl), a72, a73⟩
theorem cs_number4 {lo hi : Nat} (hT : rT I t n) (hn : n ≤ 500) (hhi : hi < 2 ^ 30) (hlo : lo < 2 ^ 30) (h : lvC t n kO4 vO4 (I 32) st) (hQ : okQ (pnum t n m k lo hi fr0 st) (fun fr' st' => ∀ v I', fr' = upd fr0 (14 * m + k) (nI v) → lo ≤ v → v ≤ hi → v = tkV t n st → tkM t n st = 2 → fr [32] I I' → lvC t n kO4 vO4 (I' 32) st' → Q (some (.int (nI v))) I' (z_R0 kp sp (.retAddr 4)) J F cn) (fun c p => ∀ I', fr [32] I I' → ddC (I' 32) c p → Q (some (.int 0)) I' (z_R0 kp sp (.retAddr 4)) J F cn)) :
    z_M (z_X0 L xs) z_P0 (d + 7) m_Reader_number [.ref 32, .int (nI lo), .int (nI hi)] I (z_R0 kp sp (.retAddr 4)) J F cn Q := by
  obtain ⟨h0, h2, h3, h4, h9, h8, h6, h71, h72, h73⟩ := id h
  have hl := tkM_le (t := t) (n := n) (st := st)
  have hk2 := kO4_2 _ hl
  have hv := tkV_lt2 hT h0
  unfold pnum at hQ
  refine z_WP_gos [] 1000 fun K C hK hC => ?_
  conv => whnf
  simp (disch := omega) only [z_lit, nI_add, pk_mul, z_pr1, z_pr2, nI_clamp, z_up_row, z_row_s, z_row_n, z_row_row, pk_us, pk_un]
  rw [h3]
  refine ⟨fun _ => ?_, fun z => absurd rfl z⟩
  conv => whnf
  simp (disch := omega) only [z_lit, nI_add, pk_mul, z_pr1, z_pr2, nI_clamp, z_up_row, z_row_s, z_row_n, z_row_row, pk_us, pk_un]
  rw [h6]
  refine ⟨fun g => ?_, fun g => ?_⟩
  rotate_left
  · have g' : ¬ tkM t n st = 2 := fun z => g (by rw [hk2.1.mpr z])
    rw [if_neg g'] at hQ
    conv => whnf
    simp (disch := omega) only [z_lit, nI_add, pk_mul, z_pr1, z_pr2, nI_clamp, z_up_row, z_row_s, z_row_n, z_row_row, pk_us, pk_un]
    rw [h8]
    refine hC _ _ _ _ _ _ _ _ _ _ (fun _ _ _ _ _ _ q => q) (cs_fail (kO := kO4) (vO := vO4) (c := 1) (p := st) h hn (by decide) (by decide) (fun I' f' d' => ?_))
    conv => whnf
    exact hQ I' f' d'
  have g' : tkM t n st = 2 := hk2.1.mp (nI_inj9 (b := 2) (by omega) (by omega) g)
  have e7 := h72 (hk2.1.mpr g')
  rw [if_pos g'] at hQ
  have no : ¬ (lo ≤ tkV t n st ∧ tkV t n st ≤ hi) → z_WP (z_X0 L xs) z_P0 (d + 7) m_Reader_number 44 [some (.ref 32), some (.int (nI lo)), some (.int (nI hi)), none] [] I (z_R0 kp sp (.retAddr 4)) J F cn 0 0 Q := by
    intro x
    rw [if_neg x] at hQ
    refine z_WP_gos [] 1000 fun K C hK hC => ?_
    conv => whnf
    simp (disch := omega) only [z_lit, nI_add, pk_mul, z_pr1, z_pr2, nI_clamp, z_up_row, z_row_s, z_row_n, z_row_row, pk_us, pk_un]
    rw [h8]
    refine hC _ _ _ _ _ _ _ _ _ _ (fun _ _ _ _ _ _ q => q) (cs_fail (kO := kO4) (vO := vO4) (c := 2) (p := st) h hn (by decide) (by decide) (fun I' f' d' => ?_))
    conv => whnf
    exact hQ I' f' d'
  conv => whnf
  simp (disch := omega) only [z_lit, nI_add, pk_mul, z_pr1, z_pr2, nI_clamp, z_up_row, z_row_s, z_row_n, z_row_row, pk_us, pk_un]
  rw [e7]
  refine ⟨fun g1 => ?_, fun g1 => ?_⟩
  · have g1' : tkV t n st < lo := (nI_ltI (by omega) (by omega)).mp g1
    rw [if_neg (by omega)] at hQ
    conv => whnf
    simp (disch := omega) only [z_lit, nI_add, pk_mul, z_pr1, z_pr2, nI_clamp, z_up_row, z_row_s, z_row_n, z_row_row, pk_us, pk_un]
    rw [h8]
    refine hC _ _ _ _ _ _ _ _ _ _ (fun _ _ _ _ _ _ q => q) (cs_fail (kO := kO4) (vO := vO4) (c := 2) (p := st) h hn (by decide) (by decide) (fun I' f' d' => ?_))
    conv => whnf
    exact hQ I' f' d'
  have g1' : lo ≤ tkV t n st := by
    rcases Nat.lt_or_ge (tkV t n st) lo with z | z
    · exact absurd (nI_lt z (by omega)) g1
    · exact z
  conv => whnf
  simp (disch := omega) only [z_lit, nI_add, pk_mul, z_pr1, z_pr2, nI_clamp, z_up_row, z_row_s, z_row_n, z_row_row, pk_us, pk_un]
  rw [e7]
  refine ⟨fun g2 => ?_, fun g2 => ?_⟩
  · have g2' : tkV t n st ≤ hi := (nI_leI (by omega) (by omega)).mp g2
    rw [if_pos ⟨g1', g2'⟩] at hQ
    conv => whnf
    simp (disch := omega) only [z_lit, nI_add, pk_mul, z_pr1, z_pr2, nI_clamp, z_up_row, z_row_s, z_row_n, z_row_row, pk_us, pk_un]
    rw [e7]
    refine hC _ _ _ _ _ _ _ _ _ _ (fun _ _ _ _ _ _ q => q) (cs_next4 hT hn h (fun I' f' l' => ?_))
    conv => whnf
    exact hQ (tkV t n st) I' rfl g1' g2' rfl g' f' l'
  · have g2' : ¬ tkV t n st ≤ hi := fun z => g2 (nI_le z (by omega))
    rw [if_neg (by omega)] at hQ
    conv => whnf
    simp (disch := omega) only [z_lit, nI_add, pk_mul, z_pr1, z_pr2, nI_clamp, z_up_row, z_row_s, z_row_n, z_row_row, pk_us, pk_un]
    rw [h8]
    refine hC _ _ _ _ _ _ _ _ _ _ (fun _ _ _ _ _ _ q => q) (cs_fail (kO := kO4) (vO := vO4) (c := 2) (p := st) h hn (by decide) (by decide) (fun I' f' d' => ?_))
    conv => whnf
    exact hQ I' f' d'
theorem cs_expect4 {a b q : Nat} (hT : rT I t n) (hn : n ≤ 500) (ha : a ≤ 4) (hb : b < 30) (hab : ∀ m, m ≤ 22 → ((kO4 m = a ∧ (a = 1 → vO4 m = b) ∧ (a = 3 → b = 0)) ↔ m = q)) (ha3 : a = 1 ∨ a = 3) (h : lvC t n kO4 vO4 (I 32) st) (hQ : okQ (pneed t n q fr0 st) (fun fr' st' => ∀ I', fr' = fr0 → fr [32] I I' → lvC t n kO4 vO4 (I' 32) st' → Q none I' (z_R0 kp sp (.retAddr 4)) J F cn) (fun c p => ∀ I', fr [32] I I' → ddC (I' 32) c p → Q none I' (z_R0 kp sp (.retAddr 4)) J F cn)) :
    z_M (z_X0 L xs) z_P0 (d + 7) m_Reader_expect [.ref 32, .int (nI a), .int (nI b)] I (z_R0 kp sp (.retAddr 4)) J F cn Q := by
  obtain ⟨h0, h2, h3, h4, h9, h8, h6, h71, h72, h73⟩ := id h
  have hl := tkM_le (t := t) (n := n) (st := st)
  have hk2 := kO4_2 _ hl
  have hb2 : ∀ m, m ≤ 22 → vO4 m < 30 := by decide
  have hv := hb2 _ hl
  have hab' := hab _ hl
  unfold pneed at hQ
  have no : ¬ tkM t n st = q → z_WP (z_X0 L xs) z_P0 (d + 7) m_Reader_expect 24 [some (.ref 32), some (.int (nI a)), some (.int (nI b))] [] I (z_R0 kp sp (.retAddr 4)) J F cn 0 0 Q := by
    intro x
    rw [if_neg x] at hQ
    refine z_WP_gos [] 1000 fun K C hK hC => ?_
    conv => whnf
    simp (disch := omega) only [z_lit, nI_add, pk_mul, z_pr1, z_pr2, nI_clamp, z_up_row, z_row_s, z_row_n, z_row_row, pk_us, pk_un]
    rw [h8]
    refine hC _ _ _ _ _ _ _ _ _ _ (fun _ _ _ _ _ _ q => q) (cs_fail (kO := kO4) (vO := vO4) (c := 1) (p := st) h hn (by decide) (by decide) (fun I' f' d' => ?_))
    conv => whnf
    exact hQ I' f' d'
  refine z_WP_gos [24] 1000 fun K C hK hC => ?_
  conv => whnf
  simp (disch := omega) only [z_lit, nI_add, pk_mul, z_pr1, z_pr2, nI_clamp, z_up_row, z_row_s, z_row_n, z_row_row, pk_us, pk_un]
  rw [h3]
  refine ⟨fun _ => ?_, fun z => absurd rfl z⟩
  conv => whnf
  simp (disch := omega) only [z_lit, nI_add, pk_mul, z_pr1, z_pr2, nI_clamp, z_up_row, z_row_s, z_row_n, z_row_row, pk_us, pk_un]
  rw [h6]
  refine ⟨fun g => ?_, fun g => ?_⟩
  · conv => whnf
    refine hK _ _ _ _ _ _ _ _ _ _ (no (fun z => g (by rw [(hab'.mpr z).1])))
  have g' : kO4 (tkM t n st) = a := nI_inj9 (by omega) (by omega) g
  have e7 : I 32 7 = nI (if a = 1 then vO4 (tkM t n st) else 0) := by
    rcases ha3 with z | z
    · rw [if_pos z]; exact h71 (g'.trans z)
    · rw [if_neg (by omega)]; exact h73 (g'.trans z)
  conv => whnf
  simp (disch := omega) only [z_lit, nI_add, pk_mul, z_pr1, z_pr2, nI_clamp, z_up_row, z_row_s, z_row_n, z_row_row, pk_us, pk_un]
  rw [e7]
  refine ⟨fun g2 => ?_, fun g2 => ?_⟩
  · have g2' : (if a = 1 then vO4 (tkM t n st) else 0) = b := nI_inj9 (by split <;> omega) (by omega) g2
    have x : tkM t n st = q := hab'.mp ⟨g', fun z => by rw [if_pos z] at g2'; exact g2', fun z => by rw [if_neg (by omega)] at g2'; exact g2'.symm⟩
    rw [if_pos x] at hQ
    conv => whnf
    refine hC _ _ _ _ _ _ _ _ _ _ (fun _ _ _ _ _ _ q => q) (cs_next4 hT hn h (fun I' f' l' => ?_))
    conv => whnf
    exact hQ I' rfl f' l'
  · conv => whnf
    refine hK _ _ _ _ _ _ _ _ _ _ (no (fun z => g2 ?_))
    obtain ⟨-, y1, y3⟩ := hab'.mpr z
    rcases ha3 with x | x
    · rw [if_pos x, y1 x]
    · rw [if_neg (by omega), y3 x]
end
