/-! the model: from one time through a line -/
section
variable {L : Nat} {xs : Nat → Int32} {d : Nat} {kp sp wd : Value} {I : z_I} {s : z_sg} {R : z_R} {J : z_J} {F : z_F} {cn : Nat} {Q : z_Q} {cm : Nat → Int32}
theorem z_ms_u49 {i : Nat} {v : Int32} {s : z_sg} : z_up (z_ms (z_row I 49 cm) s) 49 i v = z_ms (z_row I 49 (upd cm i v)) s := by
  obtain ⟨f, w, y⟩ := s
  funext b
  simp only [z_ms, z_m3, z_up, z_row]
  by_cases h : b = 49
  · subst h; rfl
  · rw [if_neg h]
    split
    · rfl
    · split
      · rfl
      · split
        · rfl
        · rfl
theorem z_ms_49 {s : z_sg} : z_ms (z_row I 49 cm) s 49 = cm := z_row_s I 49 cm
theorem sp_quietOf {i : Nat} (hi : i < 24) (ho : ln_ok s.2.1 i) (hQ : Q (some (.int (nI (s_q s.2.1 i)))) (z_ms I s) (z_R0 kp sp wd) J F cn) : z_M (z_X0 L xs) z_P0 (d + 1) m_Mod_quietOf [.ref 40, .int (nI i)] (z_ms I s) (z_R0 kp sp wd) J F cn Q := by
  have hk := ho.2.1
  have hn := ho.2.2.2.2.2.2.1
  unfold s_q at hQ
  refine z_WP_gos [] 1000 fun K C hK hC => ?_
  conv => whnf
  refine hC _ _ _ _ _ _ _ _ _ _ (fun _ _ _ _ _ _ q => q) (sp_toldn (s := s) (f := 0) hi (by decide) ho ?_)
  conv => whnf
  have h : lnn s.2.1 i 0 = 0 ∨ lnn s.2.1 i 0 = 1 ∨ lnn s.2.1 i 0 = 2 ∨ lnn s.2.1 i 0 = 3 ∨ lnn s.2.1 i 0 = 4 ∨ lnn s.2.1 i 0 = 5 := by omega
  rcases h with h | h | h | h | h | h <;> rw [h] at hQ ⊢ <;> simp only at hQ
  · repeat ((first | refine And.intro (by (conv => arg 2; whnf); (try simp only [z_lit, nI_add, pk_mul, z_pr1, z_pr2]); exact z_in (by omega) (by decide)) ?_ | refine z_bt1 (by decide) ?_ | refine z_bf1 (by decide) ?_ | refine z_bt2 (by decide) ?_ | refine z_bf2 (by decide) ?_); conv => whnf)
    refine hC _ _ _ _ _ _ _ _ _ _ (fun _ _ _ _ _ _ q => q) (sp_toldn (s := s) (f := 3) hi (by decide) ho ?_)
    conv => whnf
    refine z_Qi hQ ?_ rfl
    simp (disch := omega) only [z_lit, nI_add, pk_mul, z_pr1, z_pr2, nI_clamp, z_m3_40, z_m3_41, z_m3_44, z_m3_u40, z_m3_u41, z_m3_u44, z_m3_m3, pk_us, pk_un]
    congr 1; omega
  · repeat ((first | refine And.intro (by (conv => arg 2; whnf); (try simp only [z_lit, nI_add, pk_mul, z_pr1, z_pr2]); exact z_in (by omega) (by decide)) ?_ | refine z_bt1 (by decide) ?_ | refine z_bf1 (by decide) ?_ | refine z_bt2 (by decide) ?_ | refine z_bf2 (by decide) ?_); conv => whnf)
    refine z_Qi hQ ?_ rfl
    rfl
  · repeat ((first | refine And.intro (by (conv => arg 2; whnf); (try simp only [z_lit, nI_add, pk_mul, z_pr1, z_pr2]); exact z_in (by omega) (by decide)) ?_ | refine z_bt1 (by decide) ?_ | refine z_bf1 (by decide) ?_ | refine z_bt2 (by decide) ?_ | refine z_bf2 (by decide) ?_); conv => whnf)
    refine z_Qi hQ ?_ rfl
    rfl
  · repeat ((first | refine And.intro (by (conv => arg 2; whnf); (try simp only [z_lit, nI_add, pk_mul, z_pr1, z_pr2]); exact z_in (by omega) (by decide)) ?_ | refine z_bt1 (by decide) ?_ | refine z_bf1 (by decide) ?_ | refine z_bt2 (by decide) ?_ | refine z_bf2 (by decide) ?_); conv => whnf)
    refine z_Qi hQ ?_ rfl
    rfl
  · have hc : lnn s.2.1 i 10 < 32 := ho.2.2.2.2.2.2.2.2.2.2.2.2.2.2.2.1
    repeat ((first | refine And.intro (by (conv => arg 2; whnf); (try simp only [z_lit, nI_add, pk_mul, z_pr1, z_pr2]); exact z_in (by omega) (by decide)) ?_ | refine z_bt1 (by decide) ?_ | refine z_bf1 (by decide) ?_ | refine z_bt2 (by decide) ?_ | refine z_bf2 (by decide) ?_); conv => whnf)
    refine hC _ _ _ _ _ _ _ _ _ _ (fun _ _ _ _ _ _ q => q) (sp_toldn (s := s) (f := 10) hi (by decide) ho ?_)
    conv => whnf
    refine ⟨fun g => ?_, fun g => ?_⟩
    · rw [if_neg (fun z => g (by rw [z]; rfl))] at hQ
      conv => whnf
      refine z_Qi hQ ?_ rfl
      rfl
    · rw [if_pos (nI_inj9 (by omega) (by decide) g)] at hQ
      conv => whnf
      refine z_Qi hQ ?_ rfl
      rfl
  · repeat ((first | refine And.intro (by (conv => arg 2; whnf); (try simp only [z_lit, nI_add, pk_mul, z_pr1, z_pr2]); exact z_in (by omega) (by decide)) ?_ | refine z_bt1 (by decide) ?_ | refine z_bf1 (by decide) ?_ | refine z_bt2 (by decide) ?_ | refine z_bf2 (by decide) ?_); conv => whnf)
    refine z_Qi hQ ?_ rfl
    rfl
theorem rch_s {M tm q k x t : Nat} {al : Bool} : rch M tm q al (k + 1) x t = if x + tm ≤ M then (t = x + tm ∨ (al = false ∧ rch M tm q al k (x + q) t)) else t = x := rfl
/-- the row of times with those of a set at a line -/
def cmS (C C' : Nat → Int32) (i : Nat) (P : Nat → Prop) : Prop := ∀ t j, ib (C' t) j = true ↔ (ib (C t) j = true ∨ (j = i ∧ P t))
theorem cmS_u {C : Nat → Int32} {i x : Nat} (hi : i < 32) : cmS C (upd C x (C x ||| (nI 1 <<< (nI i &&& nI 31)))) i (fun t => t = x) := fun t j => by
  unfold upd
  by_cases h : t = x
  · subst h
    rw [if_pos rfl, ib_orn hi]
    simp
  · rw [if_neg h]
    simp [h]
theorem cmS_t {A B C : Nat → Int32} {i : Nat} {P P' : Nat → Prop} (h : cmS A B i P) (h' : cmS B C i P') : cmS A C i (fun t => P t ∨ P' t) := fun t j => by
  rw [h' t j, h t j]
  constructor
  · rintro ((a | ⟨a, b⟩) | ⟨a, b⟩)
    · exact Or.inl a
    · exact Or.inr ⟨a, Or.inl b⟩
    · exact Or.inr ⟨a, Or.inr b⟩
  · rintro (a | ⟨a, b | b⟩)
    · exact Or.inl (Or.inl a)
    · exact Or.inl (Or.inr ⟨a, b⟩)
    · exact Or.inr ⟨a, b⟩
theorem cmS_c {A B : Nat → Int32} {i : Nat} {P P' : Nat → Prop} (h : cmS A B i P) (e : ∀ t, P t ↔ P' t) : cmS A B i P' := fun t j => by
  rw [h t j, e t]
theorem lp_through {x0 i M : Nat} (hM : s.2.1 0 = nI M) (hM9 : M ≤ 9999) (hi : i < 24) (ho : ln_ok s.2.1 i) {rt : Nat} (hr : s.2.1 1 = nI rt) (hr3 : rt ≤ 3) :
    ∀ j k x cm, k + j = rt + 1 → (k = 0 → x = x0) → (0 < k → x0 < x) → x ≤ M →
    (∀ cm' b, cmS cm cm' (i + 1) (rch M (s_time s.2.1 i) (s_q s.2.1 i) (decide (lnn s.2.1 i 0 = 3)) j x) → b = decide (0 < k ∨ x + s_time s.2.1 i ≤ M) → Q (some (.int (z_bi b))) (z_ms (z_row I 49 cm') s) (z_R0 kp sp wd) J F cn) →
    z_WP (z_X0 L xs) z_P0 (d + 2) m_Mod_comesThrough 19 [some (.ref 40), some (.int (nI x0)), some (.int (nI i)), some (.int (nI 1 <<< (nI (i + 1) &&& nI 31))), some (.int (nI x)), some (.int (nI (s_time s.2.1 i))), some (.int (nI k))] [] (z_ms (z_row I 49 cm) s) (z_R0 kp sp wd) J F cn 0 0 Q := by
  obtain ⟨q1, q2, q3⟩ := s_q_ok ho
  have hk := ho.2.1
  have fin : ∀ k x cm, (k = 0 → x = x0) → (0 < k → x0 < x) → x ≤ M → (∀ cm', cmS cm cm' (i + 1) (fun t => t = x) → Q (some (.int (z_bi (decide (0 < k))))) (z_ms (z_row I 49 cm') s) (z_R0 kp sp wd) J F cn) →
      z_WP (z_X0 L xs) z_P0 (d + 2) m_Mod_comesThrough 86 [some (.ref 40), some (.int (nI x0)), some (.int (nI i)), some (.int (nI 1 <<< (nI (i + 1) &&& nI 31))), some (.int (nI x)), some (.int (nI (s_time s.2.1 i))), some (.int (nI k))] [] (z_ms (z_row I 49 cm) s) (z_R0 kp sp wd) J F cn 0 0 Q := by
    intro k x cm h0 h1 hx hQ
    have r := hQ _ (cmS_u (C := cm) (i := i + 1) (x := x) (by omega))
    refine z_WP_gos [] 1000 fun K C hK hC => ?_
    conv => whnf
    repeat ((first | refine And.intro (by (conv => arg 2; whnf); (try simp only [z_lit, nI_add, pk_mul, z_pr1, z_pr2]); exact z_in (by omega) (by decide)) ?_ | refine z_bt1 (by decide) ?_ | refine z_bf1 (by decide) ?_ | refine z_bt2 (by decide) ?_ | refine z_bf2 (by decide) ?_); conv => whnf)
    simp (disch := omega) only [z_lit, nI_add, pk_mul, z_pr1, z_pr2, nI_clamp, z_m3_40, z_m3_41, z_m3_44, z_m3_u40, z_m3_u41, z_m3_u44, z_m3_m3, pk_us, pk_un]
    rw [z_ms_49, z_ms_u49]
    refine ⟨fun g => ?_, fun g => ?_⟩
    · have : ¬ 0 < k := fun z => absurd g (nI_ge (h1 z) (by omega))
      rw [decide_eq_false this] at r
      conv => whnf
      exact ⟨Or.inl rfl, r⟩
    · have : 0 < k := by
        rcases Nat.eq_zero_or_pos k with z | z
        · rw [h0 z] at g; exact absurd (Int32.le_refl _) g
        · exact z
      rw [decide_eq_true this] at r
      conv => whnf
      exact ⟨Or.inr rfl, r⟩
  intro j
  induction j with
  | zero =>
    intro k x cm hk2 h0 h1 hx hQ
    refine z_WP_gos [19, 86] 1000 fun K C hK hC => ?_
    conv => whnf
    repeat ((first | refine And.intro (by (conv => arg 2; whnf); (try simp only [z_lit, nI_add, pk_mul, z_pr1, z_pr2]); exact z_in (by omega) (by decide)) ?_ | refine z_bt1 (by decide) ?_ | refine z_bf1 (by decide) ?_ | refine z_bt2 (by decide) ?_ | refine z_bf2 (by decide) ?_); conv => whnf)
    simp (disch := omega) only [z_lit, nI_add, pk_mul, z_pr1, z_pr2, nI_clamp, z_m3_40, z_m3_41, z_m3_44, z_m3_u40, z_m3_u41, z_m3_u44, z_m3_m3, pk_us, pk_un]
    rw [hr]
    refine ⟨fun _ => ?_, fun g => absurd (nI_lt (by omega) (by omega)) g⟩
    conv => whnf
    refine hK _ _ _ _ _ _ _ _ _ _ (fin k x cm h0 h1 hx (fun cm' hc => ?_))
    refine hQ cm' _ hc ?_
    rw [decide_eq_true (show 0 < k by omega), decide_eq_true (Or.inl (show 0 < k by omega))]
  | succ j ih =>
    intro k x cm hk2 h0 h1 hx hQ
    have ih' := ih (k + 1) (x + s_q s.2.1 i)
    refine z_WP_gos [19, 86] 1000 fun K C hK hC => ?_
    conv => whnf
    repeat ((first | refine And.intro (by (conv => arg 2; whnf); (try simp only [z_lit, nI_add, pk_mul, z_pr1, z_pr2]); exact z_in (by omega) (by decide)) ?_ | refine z_bt1 (by decide) ?_ | refine z_bf1 (by decide) ?_ | refine z_bt2 (by decide) ?_ | refine z_bf2 (by decide) ?_); conv => whnf)
    simp (disch := omega) only [z_lit, nI_add, pk_mul, z_pr1, z_pr2, nI_clamp, z_m3_40, z_m3_41, z_m3_44, z_m3_u40, z_m3_u41, z_m3_u44, z_m3_m3, pk_us, pk_un]
    rw [hr]
    refine ⟨fun g => absurd g (nI_nlt (by omega) (by omega)), fun _ => ?_⟩
    conv => whnf
    repeat ((first | refine And.intro (by (conv => arg 2; whnf); (try simp only [z_lit, nI_add, pk_mul, z_pr1, z_pr2]); exact z_in (by omega) (by decide)) ?_ | refine z_bt1 (by decide) ?_ | refine z_bf1 (by decide) ?_ | refine z_bt2 (by decide) ?_ | refine z_bf2 (by decide) ?_); conv => whnf)
    simp (disch := omega) only [z_lit, nI_add, pk_mul, z_pr1, z_pr2, nI_clamp, z_m3_40, z_m3_41, z_m3_44, z_m3_u40, z_m3_u41, z_m3_u44, z_m3_m3, pk_us, pk_un]
    rw [hM]
    refine ⟨fun g => ?_, fun g => ?_⟩
    · have g' : ¬ x + s_time s.2.1 i ≤ M := fun z => absurd g (nI_nlt z (by omega))
      conv => whnf
      refine hK _ _ _ _ _ _ _ _ _ _ (fin k x cm h0 h1 hx (fun cm' hc => ?_))
      refine hQ cm' _ (cmS_c hc fun t => ?_) ?_
      · unfold rch; rw [if_neg g']
      · congr 1
        simp [g']
    · have g' : x + s_time s.2.1 i ≤ M := Nat.not_lt.mp fun z => g (nI_lt z (by omega))
      rw [decide_eq_true (Or.inr g')] at hQ
      have r1 := cmS_u (C := cm) (i := i + 1) (x := x + s_time s.2.1 i) (by omega)
      conv => whnf
      repeat ((first | refine And.intro (by (conv => arg 2; whnf); (try simp only [z_lit, nI_add, pk_mul, z_pr1, z_pr2]); exact z_in (by omega) (by decide)) ?_ | refine z_bt1 (by decide) ?_ | refine z_bf1 (by decide) ?_ | refine z_bt2 (by decide) ?_ | refine z_bf2 (by decide) ?_); conv => whnf)
      simp (disch := omega) only [z_lit, nI_add, pk_mul, z_pr1, z_pr2, nI_clamp, z_m3_40, z_m3_41, z_m3_44, z_m3_u40, z_m3_u41, z_m3_u44, z_m3_m3, pk_us, pk_un]
      rw [z_ms_49, z_ms_u49]
      refine hC _ _ _ _ _ _ _ _ _ _ (fun _ _ _ _ _ _ q => q) (sp_toldn (f := 0) hi (by decide) ho ?_)
      conv => whnf
      refine ⟨fun g3 => ?_, fun g3 => ?_⟩
      · have g4 : ¬ lnn s.2.1 i 0 = 3 := fun z => g3 (by rw [z])
        rw [decide_eq_false g4] at hQ ih'
        conv => whnf
        refine hC _ _ _ _ _ _ _ _ _ _ (fun _ _ _ _ _ _ q => q) (sp_quietOf hi ho ?_)
        conv => whnf
        simp (disch := omega) only [z_lit, nI_add, pk_mul, z_pr1, z_pr2, nI_clamp, z_m3_40, z_m3_41, z_m3_44, z_m3_u40, z_m3_u41, z_m3_u44, z_m3_m3, pk_us, pk_un]
        refine hK _ _ _ _ _ _ _ _ _ _ (ih' _ (by omega) (fun z => by omega) (fun _ => ?_) (by omega) (fun cm' b hc hb => ?_))
        · rcases Nat.eq_zero_or_pos k with z | z
          · rw [h0 z]; omega
          · have := h1 z; omega
        · refine hQ cm' _ (cmS_c (cmS_t r1 hc) fun t => ?_) ?_
          · rw [rch_s, if_pos g']
            exact ⟨fun h => h.elim Or.inl (fun h => Or.inr ⟨rfl, h⟩), fun h => h.elim Or.inl fun h => Or.inr h.2⟩
          · rw [hb, decide_eq_true (Or.inl (show 0 < k + 1 by omega))]
      · have g4 : lnn s.2.1 i 0 = 3 := nI_inj9 (by omega) (by omega) g3
        rw [decide_eq_true g4] at hQ
        conv => whnf
        refine ⟨Or.inr rfl, hQ _ _ (cmS_c r1 fun t => ?_) rfl⟩
        rw [rch_s, if_pos g']
        simp
theorem sp_comesThrough {x i M : Nat} (hM : s.2.1 0 = nI M) (hM9 : M ≤ 9999) (hi : i < 24) (ho : ln_ok s.2.1 i) {rt : Nat} (hr : s.2.1 1 = nI rt) (hr3 : rt ≤ 3) (hx : x ≤ M)
    (hQ : ∀ cm', cmS cm cm' (i + 1) (rch M (s_time s.2.1 i) (s_q s.2.1 i) (decide (lnn s.2.1 i 0 = 3)) (rt + 1) x) → Q (some (.int (z_bi (decide (x + s_time s.2.1 i ≤ M))))) (z_ms (z_row I 49 cm') s) (z_R0 kp sp wd) J F cn) :
    z_M (z_X0 L xs) z_P0 (d + 2) m_Mod_comesThrough [.ref 40, .int (nI x), .int (nI i)] (z_ms (z_row I 49 cm) s) (z_R0 kp sp wd) J F cn Q := by
  refine z_WP_gos [19] 1000 fun K C hK hC => ?_
  conv => whnf
  refine hC _ _ _ _ _ _ _ _ _ _ (fun _ _ _ _ _ _ q => q) (sp_timeOf hi ho ?_)
  conv => whnf
  simp (disch := omega) only [z_lit, nI_add, pk_mul, z_pr1, z_pr2, nI_clamp, z_m3_40, z_m3_41, z_m3_44, z_m3_u40, z_m3_u41, z_m3_u44, z_m3_m3, pk_us, pk_un]
  refine hK _ _ _ _ _ _ _ _ _ _ (lp_through hM hM9 hi ho hr hr3 (rt + 1) 0 x cm (by omega) (fun _ => rfl) (fun z => absurd z (Nat.lt_irrefl _)) hx (fun cm' b hc hb => ?_))
  rw [hb, show decide (0 < 0 ∨ x + s_time s.2.1 i ≤ M) = decide (x + s_time s.2.1 i ≤ M) by simp]
  exact hQ cm' hc
end
