/-! phases -/
def amin (V : Nat → Nat) : Nat → Nat
  | 0 => 0
  | k + 1 => if k = 0 ∨ V k < V (amin V k) then k else amin V k
theorem amin_lt {V : Nat → Nat} : ∀ {k}, 0 < k → amin V k < k
  | 0, h => absurd h (Nat.lt_irrefl _)
  | k + 1, _ => by
    unfold amin
    by_cases c : k = 0 ∨ V k < V (amin V k)
    · rw [if_pos c]; exact Nat.lt_succ_self _
    · rw [if_neg c]
      have : k ≠ 0 := fun z => c (Or.inl z)
      exact Nat.lt_succ_of_lt (amin_lt (by omega))
theorem amin_add {V M : Nat → Nat} {T : Nat} : ∀ {k}, (∀ q, q < k → V q = M q + T) → amin V k = amin M k
  | 0, _ => rfl
  | k + 1, h => by
    have ih := amin_add (k := k) fun q hq => h q (by omega)
    unfold amin
    rw [ih]
    by_cases z : k = 0
    · rw [if_pos (Or.inl z), if_pos (Or.inl z)]
    · have hl := amin_lt (V := M) (k := k) (by omega)
      rw [h k (by omega), h (amin M k) (by omega)]
      by_cases y : M k < M (amin M k)
      · rw [if_pos (Or.inr (by omega)), if_pos (Or.inr y)]
      · rw [if_neg (by omega), if_neg (by omega)]
def mq (g : Nat → Nat) (p q : Nat) (c : Nat) : Nat := mxf (fun f => if f < 8 ∧ f % p = q then g f else 0) c
theorem mxf_s {g : Nat → Nat} {k : Nat} : mxf g (k + 1) = max (mxf g k) (g k) := rfl
theorem mxf_z {G : Nat → Nat} {a : Nat} : ∀ {b}, a ≤ b → (∀ f, a ≤ f → f < b → G f = 0) → mxf G b = mxf G a
  | 0, h, _ => by have : a = 0 := by omega
                  rw [this]
  | b + 1, h, hz => by
    rcases Nat.lt_or_eq_of_le h with z | z
    · rw [mxf_s, mxf_z (b := b) (by omega) (fun f x y => hz f x (by omega)), hz b (by omega) (by omega)]
      exact Nat.max_eq_left (Nat.zero_le _)
    · rw [z]
theorem mq_0 {g : Nat → Nat} {p q : Nat} : mq g p q q = 0 := by
  unfold mq
  rw [mxf_z (a := 0) (Nat.zero_le _) fun f _ h => if_neg fun z => by have := Nat.mod_le f p; omega]
  rfl
theorem mod_same {p a b : Nat} (h : a % p = b % p) (h1 : a ≤ b) (h2 : b < a + p) : a = b := by
  have e1 := Nat.div_add_mod a p
  have e2 := Nat.div_add_mod b p
  have h3 : a / p ≤ b / p := Nat.div_le_div_right h1
  have h4 : b / p < a / p + 1 := by
    apply Nat.lt_of_mul_lt_mul_left (a := p)
    rw [Nat.mul_add, Nat.mul_one]
    omega
  have h5 : b / p = a / p := by omega
  rw [h5] at e2
  omega
theorem mq_s {g : Nat → Nat} {p q c : Nat} (hp : 0 < p) (hc : c % p = q) (h8 : c < 8) : mq g p q (c + p) = max (mq g p q c) (g c) := by
  unfold mq
  rw [mxf_z (a := c + 1) (by omega) fun f x y => if_neg fun z => by
    have := mod_same (p := p) (a := c) (b := f) (hc.trans z.2.symm) (by omega) y
    omega]
  show max _ (if c < 8 ∧ c % p = q then g c else 0) = _
  rw [if_pos ⟨h8, hc⟩]
theorem mq_8 {g : Nat → Nat} {p q c : Nat} (h : 8 ≤ c) : mq g p q c = mq g p q 8 := mxf_z h fun f x y => if_neg fun z => by omega
theorem mxf_T {g : Nat → Nat} {c : Nat → Bool} {T : Nat} : ∀ {k}, (∃ f, f < k ∧ c f = true) → mxf (fun f => if c f = true then g f + T else 0) k = mxf (fun f => if c f = true then g f else 0) k + T
  | 0, h => by obtain ⟨f, h, _⟩ := h; omega
  | k + 1, h => by
    unfold mxf
    by_cases z : ∃ f, f < k ∧ c f = true
    · rw [mxf_T z]
      cases hk : c k
      · simp only [Bool.false_eq_true, if_false]
        omega
      · simp only [if_true]
        omega
    · obtain ⟨f, h1, h2⟩ := h
      have : f = k := by
        rcases Nat.lt_or_eq_of_le (Nat.le_of_lt_succ h1) with y | y
        · exact absurd ⟨f, y, h2⟩ z
        · exact y
      subst this
      rw [mxf_z (a := 0) (Nat.zero_le _) fun g _ hg => if_neg fun y => z ⟨g, hg, y⟩, mxf_z (G := fun f => if c f = true then g f else 0) (a := 0) (Nat.zero_le _) fun g _ hg => if_neg fun y => z ⟨g, hg, y⟩, h2]
      simp only [if_true, mxf]
      omega
/-- the model: a line's phase -/
def qat (i : Nat) : Nat := 1584 + 14 * i + 7
def gof (w : Nat → Int32) (i : Nat) : Nat := mxf (fun f => if s_due w i f = true then ldn w f (i + 1) (w 8).toNatClampNeg else 0) 8
def phs (w : Nat → Int32) (i : Nat) : Nat := amin (fun q => gof (upd w (qat i) (nI q)) i) (lnn w i 6)
theorem lnn_q {w : Nat → Int32} {i j f : Nat} {v : Int32} (h : j ≠ i ∨ f ≠ 7) (hf : f < 14) : lnn (upd w (qat i) v) j f = lnn w j f := by
  unfold lnn qat
  rw [pk_un (by omega)]
theorem ln_q {w : Nat → Int32} {i j q : Nat} (ho : ln_ok w j) (hq : q < lnn w i 6) (h8 : q < 8) : ln_ok (upd w (qat i) (nI q)) j := by
  by_cases z : j = i
  · subst z
    have e7 : lnn (upd w (qat j) (nI q)) j 7 = q := by
      show (upd w (qat j) (nI q) (qat j)).toNatClampNeg = q
      rw [pk_us, nI_clamp (by omega)]
    have e : ∀ f, f < 14 → f ≠ 7 → lnn (upd w (qat j) (nI q)) j f = lnn w j f := fun f a b => lnn_q (Or.inr b) a
    unfold ln_ok at ho ⊢
    rw [e 0 (by omega) (by omega), e 1 (by omega) (by omega), e 2 (by omega) (by omega), e 3 (by omega) (by omega), e 4 (by omega) (by omega), e 5 (by omega) (by omega), e 6 (by omega) (by omega), e 8 (by omega) (by omega), e 9 (by omega) (by omega), e 10 (by omega) (by omega), e7]
    refine ⟨fun f hf => ?_, ho.2.1, ho.2.2.1, ho.2.2.2.1, ho.2.2.2.2.1, ho.2.2.2.2.2.1, ho.2.2.2.2.2.2.1, ho.2.2.2.2.2.2.2.1, ho.2.2.2.2.2.2.2.2.1, ho.2.2.2.2.2.2.2.2.2.1, ho.2.2.2.2.2.2.2.2.2.2.1, ho.2.2.2.2.2.2.2.2.2.2.2.1, hq, ho.2.2.2.2.2.2.2.2.2.2.2.2.2⟩
    by_cases y : f = 7
    · subst y
      rw [e7]
      exact pk_us
    · rw [e f (by omega) y, pk_un (by unfold qat; omega)]
      exact ho.1 f hf
  · have e : ∀ f, f < 14 → lnn (upd w (qat i) (nI q)) j f = lnn w j f := fun f a => lnn_q (Or.inl z) a
    unfold ln_ok at ho ⊢
    rw [e 0 (by omega), e 1 (by omega), e 2 (by omega), e 3 (by omega), e 4 (by omega), e 5 (by omega), e 6 (by omega), e 7 (by omega), e 8 (by omega), e 9 (by omega), e 10 (by omega)]
    refine ⟨fun f hf => ?_, ho.2⟩
    rw [e f (by omega), pk_un (by unfold qat; omega)]
    exact ho.1 f hf
theorem w8_q {w : Nat → Int32} {i : Nat} {v : Int32} : upd w (qat i) v 8 = w 8 := pk_un (by unfold qat; omega)
theorem pp8 {w : Nat → Int32} {i : Nat} (ho : ln_ok w i) : 0 < lnn w i 6 ∧ lnn w i 6 ≤ 8 := by
  have p := ho.2.2.2.2.2.2.2.2.2.2.2.1
  omega
theorem tb_q {w : Nat → Int32} {i q : Nat} (ht : tb_ok w) (hi : i < (w 8).toNatClampNeg) (hq : q < lnn w i 6) : tb_ok (upd w (qat i) (nI q)) := by
  have := pp8 (ht.2.2 i hi)
  unfold tb_ok
  rw [w8_q]
  exact ⟨ht.1, ht.2.1, fun j hj => ln_q (ht.2.2 j hj) hq (by omega)⟩
section
variable {L : Nat} {xs : Nat → Int32} {d : Nat} {kp sp wd : Value} {I : z_I} {s : z_sg} {R : z_R} {J : z_J} {F : z_F} {cn : Nat} {Q : z_Q} {n k : Nat}
theorem lp_greatestOf {i : Nat} (ht : tb_ok s.2.1) (hi : i < (s.2.1 8).toNatClampNeg) (hQ : Q (some (.int (nI (gof s.2.1 i)))) (z_ms I s) (z_R0 kp sp wd) J F cn) :
    ∀ j k lc, k + j = 8 → z_WP (z_X0 L xs) z_P0 (d + 3) m_Mod_greatestOf 4 [some (.ref 40), some (.int (nI i)), some (.int (nI (mxf (fun f => if s_due s.2.1 i f = true then ldn s.2.1 f (i + 1) (s.2.1 8).toNatClampNeg else 0) k))), some (.int (nI k)), lc] [] (z_ms I s) (z_R0 kp sp wd) J F cn 0 0 Q := by
  have h24 := ht.2.1
  have ho := ht.2.2 i hi
  have hb : ∀ f, (if s_due s.2.1 i f = true then ldn s.2.1 f (i + 1) (s.2.1 8).toNatClampNeg else 0) ≤ 6240 := fun f => by
    have a := ldn_le (f := f) (M := i + 1) ht.2.2
    split <;> omega
  unfold gof at hQ
  intro j
  induction j with
  | zero =>
    intro k lc hk
    obtain rfl : k = 8 := by omega
    refine z_WP_gos [4] 1000 fun K C hK hC => ?_
    conv => whnf
    repeat ((first | refine And.intro (by (conv => arg 2; whnf); (try simp only [z_lit, nI_add, pk_mul, z_pr1, z_pr2]); exact z_in (by omega) (by decide)) ?_ | refine z_bt1 (by decide) ?_ | refine z_bf1 (by decide) ?_ | refine z_bt2 (by decide) ?_ | refine z_bf2 (by decide) ?_); conv => whnf)
    exact hQ
  | succ j ih =>
    intro k lc hk
    have ih' := fun lc => ih (k + 1) lc (by omega)
    unfold mxf at ih'
    have hm : mxf (fun f => if s_due s.2.1 i f = true then ldn s.2.1 f (i + 1) (s.2.1 8).toNatClampNeg else 0) k ≤ 6240 := mxf_le fun f _ => hb f
    have hl := hb k
    have tail : ∀ lc, z_WP (z_X0 L xs) z_P0 (d + 3) m_Mod_greatestOf 29 [some (.ref 40), some (.int (nI i)), some (.int (nI (mxf (fun f => if s_due s.2.1 i f = true then ldn s.2.1 f (i + 1) (s.2.1 8).toNatClampNeg else 0) k))), some (.int (nI k)), lc] [.int (nI (if s_due s.2.1 i k = true then ldn s.2.1 k (i + 1) (s.2.1 8).toNatClampNeg else 0))] (z_ms I s) (z_R0 kp sp wd) J F cn 0 0 Q := by
      intro lc
      generalize (if s_due s.2.1 i k = true then ldn s.2.1 k (i + 1) (s.2.1 8).toNatClampNeg else 0) = ld at *
      generalize mxf (fun f => if s_due s.2.1 i f = true then ldn s.2.1 f (i + 1) (s.2.1 8).toNatClampNeg else 0) k = mx at *
      refine z_WP_gos [4] 1000 fun K C hK hC => ?_
      conv => whnf
      refine ⟨fun g => ?_, fun g => ?_⟩
      · have z : ld ≤ mx := (nI_leI (by omega) (by omega)).mp g
        rw [Nat.max_eq_left z] at ih'
        conv => whnf
        simp (disch := omega) only [z_lit, nI_add, pk_mul, z_pr1, z_pr2, nI_clamp, z_m3_40, z_m3_41, z_m3_44, z_m3_u40, z_m3_u41, z_m3_u44, z_m3_m3, pk_us, pk_un]
        refine hK _ _ _ _ _ _ _ _ _ _ (ih' _)
      · have z : mx ≤ ld := by
          rcases Nat.le_total mx ld with y | y
          · exact y
          · exact absurd (nI_le y (by omega)) g
        rw [Nat.max_eq_right z] at ih'
        conv => whnf
        simp (disch := omega) only [z_lit, nI_add, pk_mul, z_pr1, z_pr2, nI_clamp, z_m3_40, z_m3_41, z_m3_44, z_m3_u40, z_m3_u41, z_m3_u44, z_m3_m3, pk_us, pk_un]
        refine hK _ _ _ _ _ _ _ _ _ _ (ih' _)
    refine z_WP_gos [4, 29] 1000 fun K C hK hC => ?_
    conv => whnf
    refine ⟨fun h => absurd h (nI_ge (b := 8) (by omega) (by omega)), fun _ => ?_⟩
    conv => whnf
    refine hC _ _ _ _ _ _ _ _ _ _ (fun _ _ _ _ _ _ q => q) (sp_isDue (by omega) ho (by omega) ?_)
    conv => whnf
    cases hd : s_due s.2.1 i k
    · rw [hd, if_neg (by decide)] at tail
      repeat ((first | refine And.intro (by (conv => arg 2; whnf); (try simp only [z_lit, nI_add, pk_mul, z_pr1, z_pr2]); exact z_in (by omega) (by decide)) ?_ | refine z_bt1 (by decide) ?_ | refine z_bf1 (by decide) ?_ | refine z_bt2 (by decide) ?_ | refine z_bf2 (by decide) ?_); conv => whnf)
      refine hK _ _ _ _ _ _ _ _ _ _ (tail _)
    · rw [hd, if_pos rfl] at tail
      repeat ((first | refine And.intro (by (conv => arg 2; whnf); (try simp only [z_lit, nI_add, pk_mul, z_pr1, z_pr2]); exact z_in (by omega) (by decide)) ?_ | refine z_bt1 (by decide) ?_ | refine z_bf1 (by decide) ?_ | refine z_bt2 (by decide) ?_ | refine z_bf2 (by decide) ?_); conv => whnf)
      refine hC _ _ _ _ _ _ _ _ _ _ (fun _ _ _ _ _ _ q => q) (sp_loadOf (M := i) ht (by omega) (by omega) ?_)
      conv => whnf
      refine hK _ _ _ _ _ _ _ _ _ _ (tail _)
theorem sp_greatestOf {i : Nat} (ht : tb_ok s.2.1) (hi : i < (s.2.1 8).toNatClampNeg) (hQ : Q (some (.int (nI (gof s.2.1 i)))) (z_ms I s) (z_R0 kp sp wd) J F cn) :
    z_M (z_X0 L xs) z_P0 (d + 3) m_Mod_greatestOf [.ref 40, .int (nI i)] (z_ms I s) (z_R0 kp sp wd) J F cn Q := by
  refine z_WP_gos [4] 1000 fun K C hK hC => ?_
  conv => whnf
  refine hK _ _ _ _ _ _ _ _ _ _ (lp_greatestOf ht hi hQ 8 0 _ rfl)
theorem gof_le {w : Nat → Int32} {i : Nat} (ht : tb_ok w) : gof w i ≤ 6240 := mxf_le fun f _ => by
  have a := ldn_le (f := f) (M := i + 1) ht.2.2
  have := ht.2.1
  split <;> omega
theorem upd_upd {w : Nat → Int32} {k : Nat} {a b : Int32} : upd (upd w k a) k b = upd w k b := funext fun j => by
  by_cases h : j = k
  · subst h; rw [pk_us, pk_us]
  · rw [pk_un h, pk_un h, pk_un h]
theorem lp_laysPhase {i : Nat} (ht : tb_ok s.2.1) (hi : i < (s.2.1 8).toNatClampNeg) (hQ : Q none (z_ms I (m_w s (qat i) (nI (phs s.2.1 i)))) (z_R0 kp sp wd) J F cn) :
    ∀ j k lc (x : Int32) le, k + j = lnn s.2.1 i 6 → (k = 0 → le = -1) → (0 < k → le = nI (gof (upd s.2.1 (qat i) (nI (amin (fun q => gof (upd s.2.1 (qat i) (nI q)) i) k))) i)) → z_WP (z_X0 L xs) z_P0 (d + 4) m_Mod_laysPhase 7 [some (.ref 40), some (.int (nI i)), some (.int (nI (amin (fun q => gof (upd s.2.1 (qat i) (nI q)) i) k))), some (.int le), some (.int (nI k)), lc] [] (z_ms I (m_w s (qat i) x)) (z_R0 kp sp wd) J F cn 0 0 Q := by
  have h24 := ht.2.1
  have ho := ht.2.2 i hi
  have hp := pp8 ho
  have hx : ∀ x, (m_w s (qat i) x).2.1 = upd s.2.1 (qat i) x := fun x => rfl
  have e6 : ∀ x, (m_w s (qat i) x).2.1 (1584 + 14 * i + 6) = nI (lnn s.2.1 i 6) := fun x => by
    rw [hx, pk_un (by unfold qat; omega)]; exact ho.1 6 (by omega)
  unfold phs at hQ
  intro j
  induction j with
  | zero =>
    intro k lc x le hk h0 h1
    rw [show lnn s.2.1 i 6 = k by omega] at hQ
    have hm := amin_lt (V := fun q => gof (upd s.2.1 (qat i) (nI q)) i) (k := k) (by omega)
    generalize amin (fun q => gof (upd s.2.1 (qat i) (nI q)) i) k = am at *
    have hz : z_ms I (m_w (m_w s (qat i) x) (qat i) (nI am)) = z_ms I (m_w s (qat i) (nI am)) := by
      show z_m3 I s.1 (upd (upd s.2.1 (qat i) x) (qat i) (nI am)) s.2.2 = _
      rw [upd_upd]; rfl
    rw [← hz] at hQ
    refine z_WP_gos [7] 1000 fun K C hK hC => ?_
    conv => whnf
    refine hC _ _ _ _ _ _ _ _ _ _ (fun _ _ _ _ _ _ q => q) (sp_told (f := 6) (by omega) (by omega) ?_)
    conv => whnf
    rw [e6]
    refine ⟨fun _ => ?_, fun h => absurd (nI_le (a := lnn s.2.1 i 6) (b := k) (by omega) (by omega)) h⟩
    conv => whnf
    repeat ((first | refine And.intro (by (conv => arg 2; whnf); (try simp only [z_lit, nI_add, pk_mul, z_pr1, z_pr2]); exact z_in (by omega) (by decide)) ?_ | refine z_bt1 (by decide) ?_ | refine z_bf1 (by decide) ?_ | refine z_bt2 (by decide) ?_ | refine z_bf2 (by decide) ?_); conv => whnf)
    simp (disch := omega) only [z_lit, nI_add, pk_mul, z_pr1, z_pr2, nI_clamp, z_m3_40, z_m3_41, z_m3_44, z_m3_u40, z_m3_u41, z_m3_u44, z_m3_m3, pk_us, pk_un]
    exact z_Qv hQ rfl
  | succ j ih =>
    intro k lc x le hk h0 h1
    have ih' := fun lc le => ih (k + 1) lc (nI k) le (by omega) (fun z => by omega)
    unfold amin at ih'
    have htk := tb_q ht hi (q := k) (by omega)
    have hgk := gof_le (i := i) htk
    have hz : z_ms I (m_w (m_w s (qat i) x) (qat i) (nI k)) = z_ms I (m_w s (qat i) (nI k)) := by
      show z_m3 I s.1 (upd (upd s.2.1 (qat i) x) (qat i) (nI k)) s.2.2 = _
      rw [upd_upd]; rfl
    refine z_WP_gos [7] 1000 fun K C hK hC => ?_
    conv => whnf
    refine hC _ _ _ _ _ _ _ _ _ _ (fun _ _ _ _ _ _ q => q) (sp_told (f := 6) (by omega) (by omega) ?_)
    conv => whnf
    rw [e6]
    refine ⟨fun h => absurd h (nI_ge (by omega) (by omega)), fun _ => ?_⟩
    conv => whnf
    repeat ((first | refine And.intro (by (conv => arg 2; whnf); (try simp only [z_lit, nI_add, pk_mul, z_pr1, z_pr2]); exact z_in (by omega) (by decide)) ?_ | refine z_bt1 (by decide) ?_ | refine z_bf1 (by decide) ?_ | refine z_bt2 (by decide) ?_ | refine z_bf2 (by decide) ?_); conv => whnf)
    simp (disch := omega) only [z_lit, nI_add, pk_mul, z_pr1, z_pr2, nI_clamp, z_m3_40, z_m3_41, z_m3_44, z_m3_u40, z_m3_u41, z_m3_u44, z_m3_m3, pk_us, pk_un]
    have hz' : z_m3 I (m_w s (qat i) x).1 (upd (m_w s (qat i) x).2.1 (1584 + 14 * i + 7) (nI k)) (m_w s (qat i) x).2.2 = z_ms I (m_w s (qat i) (nI k)) := hz
    rw [hz']
    refine hC _ _ _ _ _ _ _ _ _ _ (fun _ _ _ _ _ _ q => q) (sp_greatestOf (s := m_w s (qat i) (nI k)) (i := i) htk (by rw [hx, w8_q]; exact hi) ?_)
    conv => whnf
    rw [hx]
    by_cases k0 : k = 0
    · rw [if_pos (Or.inl k0)] at ih'
      have hle : le = -nI 1 := h0 k0
      refine ⟨fun _ => ?_, fun z => absurd hle z⟩
      conv => whnf
      simp (disch := omega) only [z_lit, nI_add, pk_mul, z_pr1, z_pr2, nI_clamp, z_m3_40, z_m3_41, z_m3_44, z_m3_u40, z_m3_u41, z_m3_u44, z_m3_m3, pk_us, pk_un]
      refine hK _ _ _ _ _ _ _ _ _ _ (ih' _ _ (fun _ => rfl))
    · have hle := h1 (by omega)
      have ham := amin_lt (V := fun q => gof (upd s.2.1 (qat i) (nI q)) i) (k := k) (by omega)
      have hgm := gof_le (i := i) (tb_q ht hi (q := amin (fun q => gof (upd s.2.1 (qat i) (nI q)) i) k) (by omega))
      generalize amin (fun q => gof (upd s.2.1 (qat i) (nI q)) i) k = am at *
      generalize hG : gof (upd s.2.1 (qat i) (nI k)) i = gk at *
      generalize hM : gof (upd s.2.1 (qat i) (nI am)) i = gm at *
      subst hle
      have hne : ¬ nI gm = -nI 1 := fun z => by
        have : (nI gm).toInt = (-nI 1 : Int32).toInt := by rw [z]
        rw [nI_toInt (by omega), show (-nI 1 : Int32).toInt = -1 from by decide] at this
        omega
      refine ⟨fun z => absurd z hne, fun _ => ?_⟩
      conv => whnf
      refine ⟨fun g => ?_, fun g => ?_⟩
      · have g' : gk < gm := (nI_ltI (by omega) (by omega)).mp g
        rw [if_pos (Or.inr g')] at ih'
        conv => whnf
        simp (disch := omega) only [z_lit, nI_add, pk_mul, z_pr1, z_pr2, nI_clamp, z_m3_40, z_m3_41, z_m3_44, z_m3_u40, z_m3_u41, z_m3_u44, z_m3_m3, pk_us, pk_un]
        refine hK _ _ _ _ _ _ _ _ _ _ (ih' _ _ (fun _ => by rw [hG]))
      · have g' : ¬ gk < gm := fun z => g (nI_lt z (by omega))
        rw [if_neg (by omega)] at ih'
        conv => whnf
        simp (disch := omega) only [z_lit, nI_add, pk_mul, z_pr1, z_pr2, nI_clamp, z_m3_40, z_m3_41, z_m3_44, z_m3_u40, z_m3_u41, z_m3_u44, z_m3_m3, pk_us, pk_un]
        refine hK _ _ _ _ _ _ _ _ _ _ (ih' _ _ (fun _ => by rw [hM]))
theorem sp_laysPhase {i : Nat} (ht : tb_ok s.2.1) (hi : i < (s.2.1 8).toNatClampNeg) (hQ : Q none (z_ms I (m_w s (qat i) (nI (phs s.2.1 i)))) (z_R0 kp sp wd) J F cn) :
    z_M (z_X0 L xs) z_P0 (d + 4) m_Mod_laysPhase [.ref 40, .int (nI i)] (z_ms I s) (z_R0 kp sp wd) J F cn Q := by
  have e : m_w s (qat i) (s.2.1 (qat i)) = s := by
    show (s.1, upd s.2.1 (qat i) (s.2.1 (qat i)), s.2.2) = s
    have : upd s.2.1 (qat i) (s.2.1 (qat i)) = s.2.1 := funext fun j => by
      by_cases h : j = qat i
      · rw [h]; exact pk_us
      · exact pk_un h
    rw [this]
  have lp := fun lc => lp_laysPhase (L := L) (xs := xs) (d := d) ht hi hQ (lnn s.2.1 i 6) 0 lc (s.2.1 (qat i)) (-1) (by omega) (fun _ => rfl) (fun z => by omega)
  rw [e] at lp
  refine z_WP_gos [7] 1000 fun K C hK hC => ?_
  conv => whnf
  refine hK _ _ _ _ _ _ _ _ _ _ (lp _)
end
