/-! the model: all times are gone through -/
def prc (w : Nat → Int32) (f a i t : Nat) : Nat → Prop
  | 0 => t = 0
  | j + 1 => ∃ x, (x < a ∨ (x = a ∧ j < i)) ∧ sr w f j x ∧ edg w f j x t
def cmI (cm w : Nat → Int32) (f n a i : Nat) : Prop := ∀ t, t ≤ 9999 → ∀ j, j ≤ n → (ib (cm t) j = true ↔ prc w f a i t j)
theorem cmI_at {cm w : Nat → Int32} {f n a i : Nat} (h : cmI cm w f n a i) (ha : a ≤ 9999) (hi : i ≤ n) : ib (cm a) i = true ↔ sr w f i a := by
  rw [h a ha i hi]
  cases i with
  | zero => exact Iff.rfl
  | succ j =>
    constructor
    · rintro ⟨x, _, b, c⟩
      exact ⟨x, b, c⟩
    · rintro ⟨x, b, c⟩
      refine ⟨x, ?_, b, c⟩
      have := edg_ge c
      omega
theorem cmI_no {cm w : Nat → Int32} {f n a i : Nat} (h : cmI cm w f n a i) (hs : ¬ sr w f i a) : cmI cm w f n a (i + 1) := fun t ht j hj => by
  rw [h t ht j hj]
  cases j with
  | zero => exact Iff.rfl
  | succ j =>
    constructor
    · rintro ⟨x, o, b, c⟩
      exact ⟨x, by omega, b, c⟩
    · rintro ⟨x, o, b, c⟩
      refine ⟨x, ?_, b, c⟩
      rcases o with o | ⟨o, o2⟩
      · exact Or.inl o
      · refine Or.inr ⟨o, ?_⟩
        rcases Nat.lt_or_eq_of_le (Nat.le_of_lt_succ o2) with z | z
        · exact z
        · rw [z, o] at b; exact (hs b).elim
theorem cmI_yes {cm cm' w : Nat → Int32} {f n a i : Nat} (h : cmI cm w f n a i) (hs : sr w f i a) (hc : cmS cm cm' (i + 1) (edg w f i a)) : cmI cm' w f n a (i + 1) := fun t ht j hj => by
  rw [hc t j, h t ht j hj]
  cases j with
  | zero =>
    constructor
    · rintro (o | ⟨o, _⟩)
      · exact o
      · omega
    · exact Or.inl
  | succ j =>
    constructor
    · rintro (⟨x, o, b, c⟩ | ⟨o, c⟩)
      · exact ⟨x, by omega, b, c⟩
      · have e : j = i := by omega
        subst e
        exact ⟨a, Or.inr ⟨rfl, by omega⟩, hs, c⟩
    · rintro ⟨x, o, b, c⟩
      rcases o with o | ⟨o, o2⟩
      · exact Or.inl ⟨x, Or.inl o, b, c⟩
      · rcases Nat.lt_or_eq_of_le (Nat.le_of_lt_succ o2) with z | z
        · exact Or.inl ⟨x, Or.inr ⟨o, z⟩, b, c⟩
        · subst z
          subst o
          exact Or.inr ⟨rfl, c⟩
theorem cmI_next {cm w : Nat → Int32} {f n a : Nat} (h : cmI cm w f n a n) : cmI cm w f n (a + 1) 0 := fun t ht j hj => by
  rw [h t ht j hj]
  cases j with
  | zero => exact Iff.rfl
  | succ j =>
    constructor
    · rintro ⟨x, o, b, c⟩
      exact ⟨x, by omega, b, c⟩
    · rintro ⟨x, o, b, c⟩
      exact ⟨x, by omega, b, c⟩
theorem cmI_skip {cm w : Nat → Int32} {f n a : Nat} (h : cmI cm w f n a 0) (ha : a ≤ 9999) (hz : cm a = 0) : ∀ i, i ≤ n → cmI cm w f n a i
  | 0, _ => h
  | i + 1, hi => by
    have e := cmI_skip h ha hz i (by omega)
    refine cmI_no e fun hs => ?_
    have := (cmI_at e ha (by omega)).mpr hs
    rw [hz, ib_zero] at this
    exact absurd this (by decide)
theorem cmI_end {cm w : Nat → Int32} {f n M : Nat} (h : cmI cm w f n (M + 1) 0) (hM : M ≤ 9999) : ∀ t, t ≤ M → (ib (cm t) n = true ↔ sr w f n t) := fun t ht => by
  rw [h t (by omega) n (Nat.le_refl _)]
  cases n with
  | zero => exact Iff.rfl
  | succ j =>
    constructor
    · rintro ⟨x, _, b, c⟩
      exact ⟨x, b, c⟩
    · rintro ⟨x, b, c⟩
      refine ⟨x, ?_, b, c⟩
      have := edg_ge c
      omega
theorem cmI_ini {cm w : Nat → Int32} {f n : Nat} (h0 : cm 0 = 1) (h : ∀ t, 0 < t → t ≤ 9999 → cm t = 0) : cmI cm w f n 0 0 := fun t ht j hj => by
  rcases Nat.eq_zero_or_pos t with z | z
  · subst z
    rw [h0, ib_one]
    cases j with
    | zero => exact ⟨fun _ => rfl, fun _ => rfl⟩
    | succ j =>
      constructor
      · intro a; exact absurd (of_decide_eq_true a) (by omega)
      · rintro ⟨x, o, _⟩; omega
  · rw [h t z ht, ib_zero]
    cases j with
    | zero => exact ⟨fun a => absurd a (by decide), fun a => by have : t = 0 := a; omega⟩
    | succ j =>
      constructor
      · intro a; exact absurd a (by decide)
      · rintro ⟨x, o, _⟩; omega
def fsI (w : Nat → Int32) (f n a i v : Nat) : Prop := (∀ x j, j < n → (x < a ∨ (x = a ∧ j < i)) → s_act w f j = true → sr w f j x → s_M w < x + s_time w j → v ≤ j) ∧ (v = 24 ∨ (v < n ∧ crd w f v))
theorem fsI_le {w : Nat → Int32} {f n a i v : Nat} (h : fsI w f n a i v) (hn : n ≤ 24) : v ≤ 24 := by
  rcases h.2 with z | z <;> omega
theorem fsI_no {w : Nat → Int32} {f n a i v : Nat} (h : fsI w f n a i v) (hs : s_act w f i = true → sr w f i a → ¬ s_M w < a + s_time w i) : fsI w f n a (i + 1) v := by
  refine ⟨fun x j hj o h1 h2 h3 => ?_, h.2⟩
  rcases o with o | ⟨o, o2⟩
  · exact h.1 x j hj (Or.inl o) h1 h2 h3
  · rcases Nat.lt_or_eq_of_le (Nat.le_of_lt_succ o2) with z | z
    · exact h.1 x j hj (Or.inr ⟨o, z⟩) h1 h2 h3
    · subst z; subst o; exact (hs h1 h2 h3).elim
theorem fsI_yes {w : Nat → Int32} {f n a i v : Nat} (h : fsI w f n a i v) (hi : i < n) (h1 : s_act w f i = true) (h2 : sr w f i a) (h3 : s_M w < a + s_time w i) : fsI w f n a (i + 1) (if i < v then i else v) := by
  refine ⟨fun x j hj o g1 g2 g3 => ?_, ?_⟩
  · rcases o with o | ⟨o, o2⟩
    · have := h.1 x j hj (Or.inl o) g1 g2 g3
      split <;> omega
    · rcases Nat.lt_or_eq_of_le (Nat.le_of_lt_succ o2) with z | z
      · have := h.1 x j hj (Or.inr ⟨o, z⟩) g1 g2 g3
        split <;> omega
      · split <;> omega
  · split
    · exact Or.inr ⟨hi, h1, a, h2, h3⟩
    · exact h.2
theorem fsI_next {w : Nat → Int32} {f n a v : Nat} (h : fsI w f n a n v) : fsI w f n (a + 1) 0 v :=
  ⟨fun x j hj o h1 h2 h3 => h.1 x j hj (by omega) h1 h2 h3, h.2⟩
theorem fsI_skip {w : Nat → Int32} {f n a v : Nat} (h : fsI w f n a 0 v) (hs : ∀ i, i < n → ¬ sr w f i a) : ∀ i, i ≤ n → fsI w f n a i v
  | 0, _ => h
  | i + 1, hi => fsI_no (fsI_skip h hs i (by omega)) fun _ b => (hs i (by omega) b).elim
theorem fsI_end {w : Nat → Int32} {f n v : Nat} (hn : n ≤ 24) (ho : ∀ i, i < n → ln_ok w i) (h : fsI w f n (s_M w + 1) 0 v) : fcr w f n (if v = 24 then -1 else nI v) := by
  have nocrd : ∀ i, i < n → crd w f i → v ≤ i := fun i hi ⟨a, x, b, c⟩ => h.1 x i hi (Or.inl (by
    have := sr_le (fun j hj => ho j (by omega)) b
    omega)) a b c
  by_cases z : v = 24
  · rw [if_pos z]
    exact Or.inl ⟨rfl, fun i hi hc => by have := nocrd i hi hc; omega⟩
  · rw [if_neg z]
    rcases h.2 with y | ⟨y, y2⟩
    · exact (z y).elim
    · exact Or.inr ⟨v, y, rfl, y2, fun j hj hc => by have := nocrd j (by omega) hc; omega⟩
section
variable {L : Nat} {xs : Nat → Int32} {d : Nat} {kp sp wd : Value} {I : z_I} {s : z_sg} {R : z_R} {J : z_J} {F : z_F} {cn : Nat} {Q : z_Q} {cm : Nat → Int32}
theorem edg_on {w : Nat → Int32} {f i : Nat} (h : s_act w f i = true) : edg w f i = rch (s_M w) (s_time w i) (s_q w i) (decide (lnn w i 0 = 3)) (s_rt w + 1) := by
  funext x t; unfold edg; rw [if_pos h]
theorem edg_off {w : Nat → Int32} {f i : Nat} (h : s_act w f i = false) {x : Nat} : edg w f i x = fun t => t = x := by
  funext t; unfold edg; rw [h]; rfl
theorem s_act_n {w : Nat → Int32} {f i : Nat} (h : s_due w i f = false) : s_act w f i = false := by unfold s_act; rw [h]; rfl
theorem s_act_t {w : Nat → Int32} {f i : Nat} (h : s_toC w i = true) : s_act w f i = false := by unfold s_act; rw [h]; simp
theorem s_act_y {w : Nat → Int32} {f i : Nat} (h : s_due w i f = true) (g : s_toC w i = false) : s_act w f i = true := by unfold s_act; rw [h, g]; rfl
theorem lp_spr2 {f a M rt : Nat} (hM : s.2.1 0 = nI M) (hM9 : M ≤ 9999) (ht : tb_ok s.2.1) (hr : s.2.1 1 = nI rt) (hr3 : rt ≤ 3) (ha : a ≤ M) (hf : f < 8)
    (hQ : ∀ cm v l, cmI cm s.2.1 f (s.2.1 8).toNatClampNeg (a + 1) 0 → fsI s.2.1 f (s.2.1 8).toNatClampNeg (a + 1) 0 v → z_WP (z_X0 L xs) z_P0 (d + 3) m_Mod_spreads 36 [some (.ref 40), some (.int (nI f)), some (.int (nI v)), some (.int (nI (a + 1))), l] [] (z_ms (z_row I 49 cm) s) (z_R0 kp sp wd) J F cn 0 0 Q) :
    ∀ j i cm v, i + j = (s.2.1 8).toNatClampNeg → cmI cm s.2.1 f (s.2.1 8).toNatClampNeg a i → fsI s.2.1 f (s.2.1 8).toNatClampNeg a i v →
    z_WP (z_X0 L xs) z_P0 (d + 3) m_Mod_spreads 61 [some (.ref 40), some (.int (nI f)), some (.int (nI v)), some (.int (nI a)), some (.int (nI i))] [] (z_ms (z_row I 49 cm) s) (z_R0 kp sp wd) J F cn 0 0 Q := by
  have eM : s_M s.2.1 = M := by unfold s_M; rw [hM, nI_clamp (by omega)]
  have er : s_rt s.2.1 = rt := by unfold s_rt; rw [hr, nI_clamp (by omega)]
  obtain ⟨e1, e2, e3⟩ := ht
  intro j
  induction j with
  | zero =>
    intro i cm v hi hc hv
    have hi' : i = (s.2.1 8).toNatClampNeg := by omega
    rw [hi'] at hc hv
    refine z_WP_gos [36, 61] 1000 fun K C hK hC => ?_
    conv => whnf
    repeat ((first | refine And.intro (by (conv => arg 2; whnf); (try simp only [z_lit, nI_add, pk_mul, z_pr1, z_pr2]); exact z_in (by omega) (by decide)) ?_ | refine z_bt1 (by decide) ?_ | refine z_bf1 (by decide) ?_ | refine z_bt2 (by decide) ?_ | refine z_bf2 (by decide) ?_); conv => whnf)
    simp (disch := omega) only [z_lit, nI_add, pk_mul, z_pr1, z_pr2, nI_clamp, z_m3_40, z_m3_41, z_m3_44, z_m3_u40, z_m3_u41, z_m3_u44, z_m3_m3, pk_us, pk_un]
    rw [e1, ← hi']
    refine ⟨fun _ => ?_, fun h => absurd (Int32.le_refl _) h⟩
    conv => whnf
    simp (disch := omega) only [z_lit, nI_add, pk_mul, z_pr1, z_pr2, nI_clamp, z_m3_40, z_m3_41, z_m3_44, z_m3_u40, z_m3_u41, z_m3_u44, z_m3_m3, pk_us, pk_un]
    refine hK _ _ _ _ _ _ _ _ _ _ (hQ cm v _ (cmI_next hc) (fsI_next hv))
  | succ j ih =>
    intro i cm v hi hc hv
    have ho := e3 i (by omega)
    have ih' := ih (i + 1)
    have q3 := (s_q_ok ho).2.2
    have hv24 := fsI_le hv e2
    have hat := cmI_at hc (by omega) (show i ≤ _ by omega)
    refine z_WP_gos [36, 61, 109] 1000 fun K C hK hC => ?_
    conv => whnf
    repeat ((first | refine And.intro (by (conv => arg 2; whnf); (try simp only [z_lit, nI_add, pk_mul, z_pr1, z_pr2]); exact z_in (by omega) (by decide)) ?_ | refine z_bt1 (by decide) ?_ | refine z_bf1 (by decide) ?_ | refine z_bt2 (by decide) ?_ | refine z_bf2 (by decide) ?_); conv => whnf)
    simp (disch := omega) only [z_lit, nI_add, pk_mul, z_pr1, z_pr2, nI_clamp, z_m3_40, z_m3_41, z_m3_44, z_m3_u40, z_m3_u41, z_m3_u44, z_m3_m3, pk_us, pk_un]
    rw [e1]
    refine ⟨fun h => absurd h (nI_ge (by omega) (by omega)), fun _ => ?_⟩
    conv => whnf
    repeat ((first | refine And.intro (by (conv => arg 2; whnf); (try simp only [z_lit, nI_add, pk_mul, z_pr1, z_pr2]); exact z_in (by omega) (by decide)) ?_ | refine z_bt1 (by decide) ?_ | refine z_bf1 (by decide) ?_ | refine z_bt2 (by decide) ?_ | refine z_bf2 (by decide) ?_); conv => whnf)
    simp (disch := omega) only [z_lit, nI_add, pk_mul, z_pr1, z_pr2, nI_clamp, z_m3_40, z_m3_41, z_m3_44, z_m3_u40, z_m3_u41, z_m3_u44, z_m3_m3, pk_us, pk_un]
    rw [z_ms_49, ib_shrn (by omega)]
    cases hb : ib (cm a) i
    · have hs : ¬ sr s.2.1 f i a := fun z => by rw [hat.mpr z] at hb; exact absurd hb (by decide)
      rw [if_neg (by decide)]
      repeat ((first | refine And.intro (by (conv => arg 2; whnf); (try simp only [z_lit, nI_add, pk_mul, z_pr1, z_pr2]); exact z_in (by omega) (by decide)) ?_ | refine z_bt1 (by decide) ?_ | refine z_bf1 (by decide) ?_ | refine z_bt2 (by decide) ?_ | refine z_bf2 (by decide) ?_); conv => whnf)
      simp (disch := omega) only [z_lit, nI_add, pk_mul, z_pr1, z_pr2, nI_clamp, z_m3_40, z_m3_41, z_m3_44, z_m3_u40, z_m3_u41, z_m3_u44, z_m3_m3, pk_us, pk_un]
      refine hK _ _ _ _ _ _ _ _ _ _ (ih' cm v (by omega) (cmI_no hc hs) (fsI_no hv fun _ b => (hs b).elim))
    · have hs : sr s.2.1 f i a := hat.mp hb
      rw [if_pos rfl]
      have off : s_act s.2.1 f i = false → z_WP (z_X0 L xs) z_P0 (d + 3) m_Mod_spreads 109 [some (.ref 40), some (.int (nI f)), some (.int (nI v)), some (.int (nI a)), some (.int (nI i))] [] (z_ms (z_row I 49 cm) s) (z_R0 kp sp wd) J F cn 0 0 Q := by
        intro hn
        have r := ih' _ v (by omega) (cmI_yes hc hs (cmS_c (cmS_u (C := cm) (i := i + 1) (x := a) (by omega)) fun t => by rw [edg_off hn])) (fsI_no hv fun z => by rw [hn] at z; exact absurd z (by decide))
        refine z_WP_gos [36, 61] 1000 fun K C hK hC => ?_
        conv => whnf
        repeat ((first | refine And.intro (by (conv => arg 2; whnf); (try simp only [z_lit, nI_add, pk_mul, z_pr1, z_pr2]); exact z_in (by omega) (by decide)) ?_ | refine z_bt1 (by decide) ?_ | refine z_bf1 (by decide) ?_ | refine z_bt2 (by decide) ?_ | refine z_bf2 (by decide) ?_); conv => whnf)
        simp (disch := omega) only [z_lit, nI_add, pk_mul, z_pr1, z_pr2, nI_clamp, z_m3_40, z_m3_41, z_m3_44, z_m3_u40, z_m3_u41, z_m3_u44, z_m3_m3, pk_us, pk_un]
        rw [z_ms_49, z_ms_u49]
        refine hK _ _ _ _ _ _ _ _ _ _ (r)
      repeat ((first | refine And.intro (by (conv => arg 2; whnf); (try simp only [z_lit, nI_add, pk_mul, z_pr1, z_pr2]); exact z_in (by omega) (by decide)) ?_ | refine z_bt1 (by decide) ?_ | refine z_bf1 (by decide) ?_ | refine z_bt2 (by decide) ?_ | refine z_bf2 (by decide) ?_); conv => whnf)
      refine hC _ _ _ _ _ _ _ _ _ _ (fun _ _ _ _ _ _ q => q) (sp_isDue (by omega) ho (by omega) ?_)
      conv => whnf
      cases hd : s_due s.2.1 i f
      · repeat ((first | refine And.intro (by (conv => arg 2; whnf); (try simp only [z_lit, nI_add, pk_mul, z_pr1, z_pr2]); exact z_in (by omega) (by decide)) ?_ | refine z_bt1 (by decide) ?_ | refine z_bf1 (by decide) ?_ | refine z_bt2 (by decide) ?_ | refine z_bf2 (by decide) ?_); conv => whnf)
        refine hK _ _ _ _ _ _ _ _ _ _ (off (s_act_n hd))
      · repeat ((first | refine And.intro (by (conv => arg 2; whnf); (try simp only [z_lit, nI_add, pk_mul, z_pr1, z_pr2]); exact z_in (by omega) (by decide)) ?_ | refine z_bt1 (by decide) ?_ | refine z_bf1 (by decide) ?_ | refine z_bt2 (by decide) ?_ | refine z_bf2 (by decide) ?_); conv => whnf)
        refine hC _ _ _ _ _ _ _ _ _ _ (fun _ _ _ _ _ _ q => q) (sp_isToController (by omega) ho ?_)
        conv => whnf
        cases hc2 : s_toC s.2.1 i
        · have hon := s_act_y hd hc2
          repeat ((first | refine And.intro (by (conv => arg 2; whnf); (try simp only [z_lit, nI_add, pk_mul, z_pr1, z_pr2]); exact z_in (by omega) (by decide)) ?_ | refine z_bt1 (by decide) ?_ | refine z_bf1 (by decide) ?_ | refine z_bt2 (by decide) ?_ | refine z_bf2 (by decide) ?_); conv => whnf)
          refine hC _ _ _ _ _ _ _ _ _ _ (fun _ _ _ _ _ _ q => q) (sp_comesThrough hM hM9 (by omega) ho hr hr3 ha (fun cm' hcm => ?_))
          conv => whnf
          rw [← eM, ← er, ← edg_on hon] at hcm
          have hc' := cmI_yes hc hs hcm
          by_cases hx : a + s_time s.2.1 i ≤ M
          · rw [decide_eq_true hx]
            repeat ((first | refine And.intro (by (conv => arg 2; whnf); (try simp only [z_lit, nI_add, pk_mul, z_pr1, z_pr2]); exact z_in (by omega) (by decide)) ?_ | refine z_bt1 (by decide) ?_ | refine z_bf1 (by decide) ?_ | refine z_bt2 (by decide) ?_ | refine z_bf2 (by decide) ?_); conv => whnf)
            simp (disch := omega) only [z_lit, nI_add, pk_mul, z_pr1, z_pr2, nI_clamp, z_m3_40, z_m3_41, z_m3_44, z_m3_u40, z_m3_u41, z_m3_u44, z_m3_m3, pk_us, pk_un]
            refine hK _ _ _ _ _ _ _ _ _ _ (ih' cm' v (by omega) hc' (fsI_no hv fun _ _ => by omega))
          · rw [decide_eq_false hx]
            have hv' := fsI_yes hv (by omega) hon hs (by omega)
            repeat ((first | refine And.intro (by (conv => arg 2; whnf); (try simp only [z_lit, nI_add, pk_mul, z_pr1, z_pr2]); exact z_in (by omega) (by decide)) ?_ | refine z_bt1 (by decide) ?_ | refine z_bf1 (by decide) ?_ | refine z_bt2 (by decide) ?_ | refine z_bf2 (by decide) ?_); conv => whnf)
            refine ⟨fun g => ?_, fun g => ?_⟩
            · rw [if_neg (show ¬ i < v from fun z => absurd g (nI_ge z (by omega)))] at hv'
              conv => whnf
              simp (disch := omega) only [z_lit, nI_add, pk_mul, z_pr1, z_pr2, nI_clamp, z_m3_40, z_m3_41, z_m3_44, z_m3_u40, z_m3_u41, z_m3_u44, z_m3_m3, pk_us, pk_un]
              refine hK _ _ _ _ _ _ _ _ _ _ (ih' cm' v (by omega) hc' hv')
            · rw [if_pos (show i < v from Nat.not_le.mp fun z => g (nI_le z (by omega)))] at hv'
              conv => whnf
              simp (disch := omega) only [z_lit, nI_add, pk_mul, z_pr1, z_pr2, nI_clamp, z_m3_40, z_m3_41, z_m3_44, z_m3_u40, z_m3_u41, z_m3_u44, z_m3_m3, pk_us, pk_un]
              refine hK _ _ _ _ _ _ _ _ _ _ (ih' cm' i (by omega) hc' hv')
        · repeat ((first | refine And.intro (by (conv => arg 2; whnf); (try simp only [z_lit, nI_add, pk_mul, z_pr1, z_pr2]); exact z_in (by omega) (by decide)) ?_ | refine z_bt1 (by decide) ?_ | refine z_bf1 (by decide) ?_ | refine z_bt2 (by decide) ?_ | refine z_bf2 (by decide) ?_); conv => whnf)
          refine hK _ _ _ _ _ _ _ _ _ _ (off (s_act_t hc2))
theorem lp_spr1 {f M rt : Nat} (hM : s.2.1 0 = nI M) (hM9 : M ≤ 9999) (ht : tb_ok s.2.1) (hr : s.2.1 1 = nI rt) (hr3 : rt ≤ 3) (hf : f < 8)
    (hQ : ∀ cm v, (∀ t, t ≤ M → (ib (cm t) (s.2.1 8).toNatClampNeg = true ↔ sr s.2.1 f (s.2.1 8).toNatClampNeg t)) → fcr s.2.1 f (s.2.1 8).toNatClampNeg v → Q (some (.int v)) (z_ms (z_row I 49 cm) s) (z_R0 kp sp wd) J F cn) :
    ∀ j a cm v l, a + j = M + 1 → cmI cm s.2.1 f (s.2.1 8).toNatClampNeg a 0 → fsI s.2.1 f (s.2.1 8).toNatClampNeg a 0 v →
    z_WP (z_X0 L xs) z_P0 (d + 3) m_Mod_spreads 36 [some (.ref 40), some (.int (nI f)), some (.int (nI v)), some (.int (nI a)), l] [] (z_ms (z_row I 49 cm) s) (z_R0 kp sp wd) J F cn 0 0 Q := by
  have eM : s_M s.2.1 = M := by unfold s_M; rw [hM, nI_clamp (by omega)]
  have e2 := ht.2.1
  intro j
  induction j with
  | zero =>
    intro a cm v l ha hc hv
    have hv24 := fsI_le hv e2
    obtain rfl : a = M + 1 := by omega
    have r := hQ cm _ (cmI_end hc hM9) (fsI_end (v := v) e2 ht.2.2 (by rw [eM]; exact hv))
    refine z_WP_gos [] 1000 fun K C hK hC => ?_
    conv => whnf
    repeat ((first | refine And.intro (by (conv => arg 2; whnf); (try simp only [z_lit, nI_add, pk_mul, z_pr1, z_pr2]); exact z_in (by omega) (by decide)) ?_ | refine z_bt1 (by decide) ?_ | refine z_bf1 (by decide) ?_ | refine z_bt2 (by decide) ?_ | refine z_bf2 (by decide) ?_); conv => whnf)
    simp (disch := omega) only [z_lit, nI_add, pk_mul, z_pr1, z_pr2, nI_clamp, z_m3_40, z_m3_41, z_m3_44, z_m3_u40, z_m3_u41, z_m3_u44, z_m3_m3, pk_us, pk_un]
    rw [hM]
    refine ⟨fun _ => ?_, fun g => absurd (nI_lt (by omega) (by omega)) g⟩
    conv => whnf
    refine ⟨fun g => ?_, fun g => ?_⟩
    · rw [if_neg (fun z => g (by rw [z]; rfl))] at r
      conv => whnf
      exact r
    · rw [if_pos (nI_inj9 (by omega) (by decide) g)] at r
      conv => whnf
      exact r
  | succ j ih =>
    intro a cm v l ha hc hv
    refine z_WP_gos [36, 61] 1000 fun K C hK hC => ?_
    conv => whnf
    repeat ((first | refine And.intro (by (conv => arg 2; whnf); (try simp only [z_lit, nI_add, pk_mul, z_pr1, z_pr2]); exact z_in (by omega) (by decide)) ?_ | refine z_bt1 (by decide) ?_ | refine z_bf1 (by decide) ?_ | refine z_bt2 (by decide) ?_ | refine z_bf2 (by decide) ?_); conv => whnf)
    simp (disch := omega) only [z_lit, nI_add, pk_mul, z_pr1, z_pr2, nI_clamp, z_m3_40, z_m3_41, z_m3_44, z_m3_u40, z_m3_u41, z_m3_u44, z_m3_m3, pk_us, pk_un]
    rw [hM]
    refine ⟨fun g => absurd g (nI_nlt (by omega) (by omega)), fun _ => ?_⟩
    conv => whnf
    repeat ((first | refine And.intro (by (conv => arg 2; whnf); (try simp only [z_lit, nI_add, pk_mul, z_pr1, z_pr2]); exact z_in (by omega) (by decide)) ?_ | refine z_bt1 (by decide) ?_ | refine z_bf1 (by decide) ?_ | refine z_bt2 (by decide) ?_ | refine z_bf2 (by decide) ?_); conv => whnf)
    simp (disch := omega) only [z_lit, nI_add, pk_mul, z_pr1, z_pr2, nI_clamp, z_m3_40, z_m3_41, z_m3_44, z_m3_u40, z_m3_u41, z_m3_u44, z_m3_m3, pk_us, pk_un]
    rw [z_ms_49]
    refine ⟨fun g => ?_, fun g => ?_⟩
    · conv => whnf
      refine hK _ _ _ _ _ _ _ _ _ _ (lp_spr2 hM hM9 ht hr hr3 (by omega) hf (fun cm v l h1 h2 => ih (a + 1) cm v l (by omega) h1 h2) (s.2.1 8).toNatClampNeg 0 cm v (by omega) hc hv)
    · conv => whnf
      simp (disch := omega) only [z_lit, nI_add, pk_mul, z_pr1, z_pr2, nI_clamp, z_m3_40, z_m3_41, z_m3_44, z_m3_u40, z_m3_u41, z_m3_u44, z_m3_m3, pk_us, pk_un]
      have ns : ∀ i, i < (s.2.1 8).toNatClampNeg → ¬ sr s.2.1 f i a := fun i hi hs => by
        have := (cmI_at (cmI_skip hc (by omega) g i (by omega)) (by omega) (by omega)).mpr hs
        rw [show cm a = 0 from g, ib_zero] at this
        exact absurd this (by decide)
      refine hK _ _ _ _ _ _ _ _ _ _ (ih (a + 1) cm v l (by omega) (cmI_next (cmI_skip hc (by omega) g _ (Nat.le_refl _))) (fsI_next (fsI_skip hv ns _ (Nat.le_refl _))))
theorem lp_spr0 {f M rt : Nat} {l3 l4 : Option Value} (hM : s.2.1 0 = nI M) (hM9 : M ≤ 9999) (ht : tb_ok s.2.1) (hr : s.2.1 1 = nI rt) (hr3 : rt ≤ 3) (hf : f < 8)
    (hQ : ∀ cm v, (∀ t, t ≤ M → (ib (cm t) (s.2.1 8).toNatClampNeg = true ↔ sr s.2.1 f (s.2.1 8).toNatClampNeg t)) → fcr s.2.1 f (s.2.1 8).toNatClampNeg v → Q (some (.int v)) (z_ms (z_row I 49 cm) s) (z_R0 kp sp wd) J F cn) :
    ∀ j k cm, k + j = 10000 → (∀ t, t < k → cm t = 0) → z_WP (z_X0 L xs) z_P0 (d + 3) m_Mod_spreads 2 [some (.ref 40), some (.int (nI f)), some (.int (nI k)), l3, l4] [] (z_ms (z_row I 49 cm) s) (z_R0 kp sp wd) J F cn 0 0 Q := by
  intro j
  induction j with
  | zero =>
    intro k cm hk hz
    obtain rfl : k = 10000 := by omega
    refine z_WP_gos [36] 1000 fun K C hK hC => ?_
    conv => whnf
    refine ⟨fun _ => ?_, fun g => absurd (Int32.le_refl _) g⟩
    conv => whnf
    repeat ((first | refine And.intro (by (conv => arg 2; whnf); (try simp only [z_lit, nI_add, pk_mul, z_pr1, z_pr2]); exact z_in (by omega) (by decide)) ?_ | refine z_bt1 (by decide) ?_ | refine z_bf1 (by decide) ?_ | refine z_bt2 (by decide) ?_ | refine z_bf2 (by decide) ?_); conv => whnf)
    simp (disch := omega) only [z_lit, nI_add, pk_mul, z_pr1, z_pr2, nI_clamp, z_m3_40, z_m3_41, z_m3_44, z_m3_u40, z_m3_u41, z_m3_u44, z_m3_m3, pk_us, pk_un]
    rw [z_ms_u49]
    refine hK _ _ _ _ _ _ _ _ _ _ (lp_spr1 hM hM9 ht hr hr3 hf hQ (M + 1) 0 _ 24 l4 (by omega) (cmI_ini (if_pos rfl) fun t h1 h2 => ?_) ⟨fun x j _ o => by omega, Or.inl rfl⟩)
    unfold upd
    rw [if_neg (by omega)]
    exact hz t (by omega)
  | succ j ih =>
    intro k cm hk hz
    refine z_WP_gos [2] 1000 fun K C hK hC => ?_
    conv => whnf
    refine ⟨fun g => absurd g (nI_ge (b := 10000) (by omega) (by omega)), fun _ => ?_⟩
    conv => whnf
    repeat ((first | refine And.intro (by (conv => arg 2; whnf); (try simp only [z_lit, nI_add, pk_mul, z_pr1, z_pr2]); exact z_in (by omega) (by decide)) ?_ | refine z_bt1 (by decide) ?_ | refine z_bf1 (by decide) ?_ | refine z_bt2 (by decide) ?_ | refine z_bf2 (by decide) ?_); conv => whnf)
    simp (disch := omega) only [z_lit, nI_add, pk_mul, z_pr1, z_pr2, nI_clamp, z_m3_40, z_m3_41, z_m3_44, z_m3_u40, z_m3_u41, z_m3_u44, z_m3_m3, pk_us, pk_un]
    rw [z_ms_u49]
    refine hK _ _ _ _ _ _ _ _ _ _ (ih (k + 1) _ (by omega) (fun t ht => ?_))
    unfold upd
    split
    · rfl
    · exact hz t (by omega)
theorem sp_spreads {f M rt : Nat} (hM : s.2.1 0 = nI M) (hM9 : M ≤ 9999) (ht : tb_ok s.2.1) (hr : s.2.1 1 = nI rt) (hr3 : rt ≤ 3) (hf : f < 8)
    (hQ : ∀ cm v, (∀ t, t ≤ M → (ib (cm t) (s.2.1 8).toNatClampNeg = true ↔ sr s.2.1 f (s.2.1 8).toNatClampNeg t)) → fcr s.2.1 f (s.2.1 8).toNatClampNeg v → Q (some (.int v)) (z_ms (z_row I 49 cm) s) (z_R0 kp sp wd) J F cn) :
    z_M (z_X0 L xs) z_P0 (d + 3) m_Mod_spreads [.ref 40, .int (nI f)] (z_ms (z_row I 49 cm) s) (z_R0 kp sp wd) J F cn Q := by
  refine z_WP_gos [2] 1000 fun K C hK hC => ?_
  conv => whnf
  refine hK _ _ _ _ _ _ _ _ _ _ (lp_spr0 hM hM9 ht hr hr3 hf hQ 10000 0 cm (by omega) (fun t h => absurd h (Nat.not_lt_zero _)))
end
