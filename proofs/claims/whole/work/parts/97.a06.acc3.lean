/-! what may be asked: counts, faults, lines -/
theorem z_swt_no {x : Int32} {d : Nat} : ∀ (ps : List (Int32 × Nat)), (∀ p, p ∈ ps → ¬ x = p.1) → z_swt x d ps = d
  | [], _ => rfl
  | (v, t) :: r, h => by
    unfold z_swt
    rw [if_neg (h (v, t) List.mem_cons_self)]
    exact z_swt_no r fun p hp => h p (List.mem_cons_of_mem _ hp)
def lq (w : Nat → Int32) (B : Nat) (i q : Int32) (i' q' : Nat) : Prop := i = nI i' ∧ i' < (w 8).toNatClampNeg ∧ q = nI q' ∧ q' < B
def q_fault (x y a : Int32) : Int32 := if a = 0 then x else if a = 1 then y else -1
def q_line (w : Nat → Int32) (i : Nat) : Nat → Int32
  | 0 => w (1584 + 14 * i + 0)
  | 1 => w (1584 + 14 * i + 6)
  | 2 => w (1584 + 14 * i + 7)
  | 3 => w (1584 + 14 * i + 8)
  | 4 => nI (s_time w i)
  | 5 => w (1584 + 14 * i + 11)
  | 6 => w (1584 + 14 * i + 12)
  | _ => w (1584 + 14 * i + 13)
theorem t9_24 : ∀ ne, ne ≤ 24 → ∀ i', i' ≤ 24 → (nI i' ≤ nI ne - 1 ↔ i' < ne) := by decide
theorem t8_24 : ∀ ne, ne ≤ 24 → nI ne - 1 ≤ nI 24 := by decide
section
variable {L : Nat} {xs : Nat → Int32} {d : Nat} {kp sp wd : Value} {I : z_I} {s : z_sg} {R : z_R} {J : z_J} {F : z_F} {cn : Nat} {Q : z_Q} {n k : Nat}
theorem sp_count {i q : Int32} (he : tb_ok s.2.1) (h1 : ∀ i' q', lq s.2.1 8 i q i' q' → Q (some (.int (s.2.1 (2572 + 8 * i' + q')))) (z_ms I s) (z_R0 kp sp wd) J F cn) (h0 : (∀ i' q', ¬ lq s.2.1 8 i q i' q') → Q (some (.int (-1))) (z_ms I s) (z_R0 kp sp wd) J F cn) :
    z_M (z_X0 L xs) z_P0 (d + 1) m_Mod_count [.ref 40, .int i, .int q] (z_ms I s) (z_R0 kp sp wd) J F cn Q := by
  obtain ⟨e1, e2, -⟩ := he
  obtain ⟨ff, w, y⟩ := s
  unfold lq at h1 h0
  simp only at e1 e2 h1 h0
  generalize (w 8).toNatClampNeg = ne at e1 e2 h1 h0
  refine z_WP_gos [] 1000 fun K C hK hC => ?_
  conv => whnf
  repeat ((first | refine And.intro (by (conv => arg 2; whnf); (try simp only [z_lit, nI_add, pk_mul, z_pr1, z_pr2]); exact z_in (by omega) (by decide)) ?_ | refine z_bt1 (by decide) ?_ | refine z_bf1 (by decide) ?_ | refine z_bt2 (by decide) ?_ | refine z_bf2 (by decide) ?_); conv => whnf)
  simp (disch := omega) only [z_lit, nI_add, pk_mul, z_pr1, z_pr2, nI_clamp, z_m3_40, z_m3_41, z_m3_44, z_m3_u40, z_m3_u41, z_m3_u44, z_m3_m3, pk_us, pk_un]
  rw [e1]
  refine hC _ _ _ _ _ _ _ _ _ _ (fun _ _ _ _ _ _ q => q) (sp_Mod_isIn (fun x1 x2 => ?_) (fun x => ?_))
  conv => whnf
  · obtain ⟨i', hi, ei⟩ := isIn_nat (b := 24) (by decide) x1 (Int32.le_trans x2 (t8_24 ne e2))
    subst ei
    have hlt := (t9_24 ne e2 i' hi).mp x2
    repeat ((first | refine And.intro (by (conv => arg 2; whnf); (try simp only [z_lit, nI_add, pk_mul, z_pr1, z_pr2]); exact z_in (by omega) (by decide)) ?_ | refine z_bt1 (by decide) ?_ | refine z_bf1 (by decide) ?_ | refine z_bt2 (by decide) ?_ | refine z_bf2 (by decide) ?_); conv => whnf)
    refine hC _ _ _ _ _ _ _ _ _ _ (fun _ _ _ _ _ _ q => q) (sp_Mod_isIn (fun y1 y2 => ?_) (fun z => ?_))
    conv => whnf
    · obtain ⟨q', hq, eq⟩ := isIn_nat (b := 7) (by decide) y1 y2
      subst eq
      have r := h1 i' q' ⟨rfl, hlt, rfl, by omega⟩
      repeat ((first | refine And.intro (by (conv => arg 2; whnf); (try simp only [z_lit, nI_add, pk_mul, z_pr1, z_pr2]); exact z_in (by omega) (by decide)) ?_ | refine z_bt1 (by decide) ?_ | refine z_bf1 (by decide) ?_ | refine z_bt2 (by decide) ?_ | refine z_bf2 (by decide) ?_); conv => whnf)
      simp (disch := omega) only [z_lit, nI_add, pk_mul, z_pr1, z_pr2, nI_clamp, z_m3_40, z_m3_41, z_m3_44, z_m3_u40, z_m3_u41, z_m3_u44, z_m3_m3, pk_us, pk_un]
      exact r
    · repeat ((first | refine And.intro (by (conv => arg 2; whnf); (try simp only [z_lit, nI_add, pk_mul, z_pr1, z_pr2]); exact z_in (by omega) (by decide)) ?_ | refine z_bt1 (by decide) ?_ | refine z_bf1 (by decide) ?_ | refine z_bt2 (by decide) ?_ | refine z_bf2 (by decide) ?_); conv => whnf)
      refine h0 fun a b h => z ?_
      rw [h.2.2.1]; have := h.2.2.2
      exact ⟨nI_pos' (by omega), nI_le (b := 7) (by omega) (by decide)⟩
  · repeat ((first | refine And.intro (by (conv => arg 2; whnf); (try simp only [z_lit, nI_add, pk_mul, z_pr1, z_pr2]); exact z_in (by omega) (by decide)) ?_ | refine z_bt1 (by decide) ?_ | refine z_bf1 (by decide) ?_ | refine z_bt2 (by decide) ?_ | refine z_bf2 (by decide) ?_); conv => whnf)
    refine h0 fun a b h => x ?_
    rw [h.1]; have := h.2.1
    exact ⟨nI_pos' (by omega), (t9_24 ne e2 a (by omega)).mpr this⟩
theorem cb_count {i q : Int32} {w : Nat → Int32} (he : tb_ok w) (hp : pS I w) (hD : pD I w) (h1 : ∀ i' q', lq w 8 i q i' q' → Q (some (.int (w (2572 + 8 * i' + q')))) I (z_R0 kp sp wd) J F cn) (h0 : (∀ i' q', ¬ lq w 8 i q i' q') → Q (some (.int (-1))) I (z_R0 kp sp wd) J F cn) :
    z_M (z_X0 L xs) z_P0 (d + 1) m_Bus_count [.ref 0, .int i, .int q] I (z_R0 kp sp wd) J F cn Q := by
  obtain ⟨e1, e2, -⟩ := he
  have s1 := hp.1
  rw [e1] at s1
  have s2 := hD.2
  unfold lq at h1 h0
  generalize (w 8).toNatClampNeg = ne at s1 e1 e2 h1 h0
  refine z_WP_gos [] 1000 fun K C hK hC => ?_
  conv => whnf
  refine ⟨fun g => ?_, fun g => ?_⟩
  · conv => whnf
    refine h0 fun a b h => absurd g (Int32.not_lt.mpr ?_)
    rw [h.1]; have := h.2.1; exact nI_pos' (by omega)
  conv => whnf
  rw [s1]
  refine ⟨fun g2 => ?_, fun g2 => ?_⟩
  · conv => whnf
    refine h0 fun a b h => ?_
    rw [h.1] at g2; exact nI_ge h.2.1 (by omega) g2
  have hle := Int32.le_of_lt (Int32.not_le.mp g2)
  obtain ⟨i', hi, ei⟩ := isIn_nat (b := ne) (by omega) (Int32.not_lt.mp g) hle
  subst ei
  have hlt : i' < ne := by
    rcases Nat.lt_or_eq_of_le hi with z | z
    · exact z
    · rw [z] at g2; exact absurd (Int32.le_refl _) g2
  conv => whnf
  refine ⟨fun g3 => ?_, fun g3 => ?_⟩
  · conv => whnf
    refine h0 fun a b h => absurd g3 (Int32.not_lt.mpr ?_)
    rw [h.2.2.1]; have := h.2.2.2; exact nI_pos' (by omega)
  conv => whnf
  refine ⟨fun g4 => ?_, fun g4 => ?_⟩
  · obtain ⟨q', hq, eq⟩ := isIn_nat (b := 8) (by decide) (Int32.not_lt.mp g3) (Int32.le_of_lt g4)
    subst eq
    have hq4 : q' < 8 := by
      rcases Nat.lt_or_eq_of_le hq with z | z
      · exact z
      · rw [z] at g4; exact absurd g4 (by decide)
    have r := h1 i' q' ⟨rfl, hlt, rfl, hq4⟩
    have e := s2 (i' * 8 + q') (by omega)
    rw [show 2572 + (i' * 8 + q') = 2572 + 8 * i' + q' by omega] at e
    conv => whnf
    repeat ((first | refine And.intro (by (conv => arg 2; whnf); (try simp only [z_lit, nI_add, pk_mul, z_pr1, z_pr2]); exact z_in (by omega) (by decide)) ?_ | refine z_bt1 (by decide) ?_ | refine z_bf1 (by decide) ?_ | refine z_bt2 (by decide) ?_ | refine z_bf2 (by decide) ?_); conv => whnf)
    simp (disch := omega) only [z_lit, nI_add, pk_mul, z_pr1, z_pr2, nI_clamp, z_up_row, z_row_s, z_row_n, z_row_row, pk_us, pk_un]
    rw [e]
    exact r
  · conv => whnf
    refine h0 fun a b h => g4 ?_
    rw [h.2.2.1]; exact nI_lt (b := 8) h.2.2.2 (by decide)
theorem sp_fault {a : Int32} (hQ : Q (some (.int (q_fault (s.1 20) (s.1 23) a))) (z_ms I s) (z_R0 kp sp wd) J F cn) :
    z_M (z_X0 L xs) z_P0 d m_Mod_fault [.ref 40, .int a] (z_ms I s) (z_R0 kp sp wd) J F cn Q := by
  unfold q_fault at hQ
  refine z_WP_gos [] 1000 fun K C hK hC => ?_
  conv => whnf
  refine ⟨fun g => ?_, fun g => ?_⟩
  · rw [if_neg g] at hQ
    conv => whnf
    refine ⟨fun g2 => ?_, fun g2 => ?_⟩
    · rw [if_neg g2] at hQ
      conv => whnf
      exact hQ
    · rw [if_pos g2] at hQ
      conv => whnf
      exact hQ
  · rw [if_pos g] at hQ
    conv => whnf
    exact hQ
theorem cb_fault {a : Int32} (hQ : Q (some (.int (q_fault (I 32 3) (I 32 4) a))) I (z_R0 kp sp wd) J F cn) :
    z_M (z_X0 L xs) z_P0 d m_Bus_fault [.ref 0, .int a] I (z_R0 kp sp wd) J F cn Q := by
  unfold q_fault at hQ
  refine z_WP_gos [] 1000 fun K C hK hC => ?_
  conv => whnf
  refine ⟨fun g => ?_, fun g => ?_⟩
  · rw [if_neg g] at hQ
    conv => whnf
    refine ⟨fun g2 => ?_, fun g2 => ?_⟩
    · rw [if_neg g2] at hQ
      conv => whnf
      exact hQ
    · rw [if_pos g2] at hQ
      conv => whnf
      exact hQ
  · rw [if_pos g] at hQ
    conv => whnf
    exact hQ
theorem in_or {q : Int32} (A B : Nat) (hB : B < 2 ^ 30) : (∃ q', A ≤ q' ∧ q' < B ∧ q = nI q') ∨ ∀ q', A ≤ q' → q' < B → ¬ q = nI q' := by
  by_cases h : ∃ q', A ≤ q' ∧ q' < B ∧ q = nI q'
  · exact Or.inl h
  · exact Or.inr fun q' a b c => h ⟨q', a, b, c⟩
theorem sp_line {i q : Int32} (he : tb_ok s.2.1) (h1 : ∀ i' q', lq s.2.1 8 i q i' q' → Q (some (.int (q_line s.2.1 i' q'))) (z_ms I s) (z_R0 kp sp wd) J F cn) (h0 : (∀ i' q', ¬ lq s.2.1 8 i q i' q') → Q (some (.int (-1))) (z_ms I s) (z_R0 kp sp wd) J F cn) :
    z_M (z_X0 L xs) z_P0 (d + 2) m_Mod_line [.ref 40, .int i, .int q] (z_ms I s) (z_R0 kp sp wd) J F cn Q := by
  obtain ⟨e1, e2, e3⟩ := he
  unfold lq at h1 h0
  generalize (s.2.1 8).toNatClampNeg = ne at e1 e2 e3 h1 h0
  refine z_WP_gos [20] 1000 fun K C hK hC => ?_
  conv => whnf
  repeat ((first | refine And.intro (by (conv => arg 2; whnf); (try simp only [z_lit, nI_add, pk_mul, z_pr1, z_pr2]); exact z_in (by omega) (by decide)) ?_ | refine z_bt1 (by decide) ?_ | refine z_bf1 (by decide) ?_ | refine z_bt2 (by decide) ?_ | refine z_bf2 (by decide) ?_); conv => whnf)
  simp (disch := omega) only [z_lit, nI_add, pk_mul, z_pr1, z_pr2, nI_clamp, z_m3_40, z_m3_41, z_m3_44, z_m3_u40, z_m3_u41, z_m3_u44, z_m3_m3, pk_us, pk_un]
  rw [e1]
  refine hC _ _ _ _ _ _ _ _ _ _ (fun _ _ _ _ _ _ q => q) (sp_Mod_isIn (fun x1 x2 => ?_) (fun x => ?_))
  conv => whnf
  rotate_left
  · repeat ((first | refine And.intro (by (conv => arg 2; whnf); (try simp only [z_lit, nI_add, pk_mul, z_pr1, z_pr2]); exact z_in (by omega) (by decide)) ?_ | refine z_bt1 (by decide) ?_ | refine z_bf1 (by decide) ?_ | refine z_bt2 (by decide) ?_ | refine z_bf2 (by decide) ?_); conv => whnf)
    refine h0 fun a b h => x ?_
    rw [h.1]; have := h.2.1
    exact ⟨nI_pos' (by omega), (t9_24 ne e2 a (by omega)).mpr this⟩
  obtain ⟨i', hi, ei⟩ := isIn_nat (b := 24) (by decide) x1 (Int32.le_trans x2 (t8_24 ne e2))
  subst ei
  have hlt := (t9_24 ne e2 i' hi).mp x2
  have ho := e3 i' hlt
  repeat ((first | refine And.intro (by (conv => arg 2; whnf); (try simp only [z_lit, nI_add, pk_mul, z_pr1, z_pr2]); exact z_in (by omega) (by decide)) ?_ | refine z_bt1 (by decide) ?_ | refine z_bf1 (by decide) ?_ | refine z_bt2 (by decide) ?_ | refine z_bf2 (by decide) ?_); conv => whnf)
  rcases in_or (q := q) 0 8 (by decide) with ⟨q', -, hq, eq⟩ | hno
  · subst eq
    have r := h1 i' q' ⟨rfl, hlt, rfl, hq⟩
    have hq' : q' = 0 ∨ q' = 1 ∨ q' = 2 ∨ q' = 3 ∨ q' = 4 ∨ q' = 5 ∨ q' = 6 ∨ q' = 7 := by omega
    rcases hq' with rfl | rfl | rfl | rfl | rfl | rfl | rfl | rfl
    · refine hK _ _ _ _ _ _ _ _ _ _ (z_WP_ts 68 rfl (by decide) ?_)
      refine z_WP_gos [] 1000 fun K C hK hC => ?_
      conv => whnf
      refine hC _ _ _ _ _ _ _ _ _ _ (fun _ _ _ _ _ _ q => q) (sp_told (f := 0) (by omega) (by omega) ?_)
      conv => whnf
      exact r
    · refine hK _ _ _ _ _ _ _ _ _ _ (z_WP_ts 75 rfl (by decide) ?_)
      refine z_WP_gos [] 1000 fun K C hK hC => ?_
      conv => whnf
      refine hC _ _ _ _ _ _ _ _ _ _ (fun _ _ _ _ _ _ q => q) (sp_told (f := 6) (by omega) (by omega) ?_)
      conv => whnf
      exact r
    · refine hK _ _ _ _ _ _ _ _ _ _ (z_WP_ts 83 rfl (by decide) ?_)
      refine z_WP_gos [] 1000 fun K C hK hC => ?_
      conv => whnf
      refine hC _ _ _ _ _ _ _ _ _ _ (fun _ _ _ _ _ _ q => q) (sp_told (f := 7) (by omega) (by omega) ?_)
      conv => whnf
      exact r
    · refine hK _ _ _ _ _ _ _ _ _ _ (z_WP_ts 91 rfl (by decide) ?_)
      refine z_WP_gos [] 1000 fun K C hK hC => ?_
      conv => whnf
      refine hC _ _ _ _ _ _ _ _ _ _ (fun _ _ _ _ _ _ q => q) (sp_told (f := 8) (by omega) (by omega) ?_)
      conv => whnf
      exact r
    · refine hK _ _ _ _ _ _ _ _ _ _ (z_WP_ts 99 rfl (by decide) ?_)
      refine z_WP_gos [] 1000 fun K C hK hC => ?_
      conv => whnf
      refine hC _ _ _ _ _ _ _ _ _ _ (fun _ _ _ _ _ _ q => q) (sp_timeOf (by omega) ho ?_)
      conv => whnf
      exact r
    · refine hK _ _ _ _ _ _ _ _ _ _ (z_WP_ts 105 rfl (by decide) ?_)
      refine z_WP_gos [] 1000 fun K C hK hC => ?_
      conv => whnf
      refine hC _ _ _ _ _ _ _ _ _ _ (fun _ _ _ _ _ _ q => q) (sp_told (f := 11) (by omega) (by omega) ?_)
      conv => whnf
      exact r
    · refine hK _ _ _ _ _ _ _ _ _ _ (z_WP_ts 113 rfl (by decide) ?_)
      refine z_WP_gos [] 1000 fun K C hK hC => ?_
      conv => whnf
      refine hC _ _ _ _ _ _ _ _ _ _ (fun _ _ _ _ _ _ q => q) (sp_told (f := 12) (by omega) (by omega) ?_)
      conv => whnf
      exact r
    · refine hK _ _ _ _ _ _ _ _ _ _ (z_WP_ts 121 rfl (by decide) ?_)
      refine z_WP_gos [] 1000 fun K C hK hC => ?_
      conv => whnf
      refine hC _ _ _ _ _ _ _ _ _ _ (fun _ _ _ _ _ _ q => q) (sp_told (f := 13) (by omega) (by omega) ?_)
      conv => whnf
      exact r
  · refine hK _ _ _ _ _ _ _ _ _ _ (z_WP_ts 129 rfl (z_swt_no _ fun p hp => ?_) ?_)
    · simp only [List.mem_cons, List.not_mem_nil, or_false] at hp
      rcases hp with rfl | rfl | rfl | rfl | rfl | rfl | rfl | rfl <;> first
        | exact hno 0 (by omega) (by omega)
        | exact hno 1 (by omega) (by omega)
        | exact hno 2 (by omega) (by omega)
        | exact hno 3 (by omega) (by omega)
        | exact hno 4 (by omega) (by omega)
        | exact hno 5 (by omega) (by omega)
        | exact hno 6 (by omega) (by omega)
        | exact hno 7 (by omega) (by omega)
    · refine z_WP_gos [] 1000 fun K C hK hC => ?_
      conv => whnf
      exact h0 fun a b h => hno b (by omega) h.2.2.2 h.2.2.1
theorem cb_line {i q : Int32} {w : Nat → Int32} (he : tb_ok w) (hp : pS I w) (hD : pD I w) (h1 : ∀ i' q', lq w 8 i q i' q' → Q (some (.int (q_line w i' q'))) I (z_R0 kp sp wd) J F cn) (h0 : (∀ i' q', ¬ lq w 8 i q i' q') → Q (some (.int (-1))) I (z_R0 kp sp wd) J F cn) :
    z_M (z_X0 L xs) z_P0 (d + 1) m_Bus_line [.ref 0, .int i, .int q] I (z_R0 kp sp wd) J F cn Q := by
  obtain ⟨e1, e2, e3⟩ := he
  obtain ⟨s1, s2⟩ := hp
  obtain ⟨d1, d2⟩ := hD
  rw [e1] at s1
  unfold lq at h1 h0
  generalize (w 8).toNatClampNeg = ne at s1 s2 d1 e1 e2 e3 h1 h0
  refine z_WP_gos [23] 1000 fun K C hK hC => ?_
  conv => whnf
  refine ⟨fun g => ?_, fun g => ?_⟩
  · conv => whnf
    refine h0 fun a b h => absurd g (Int32.not_lt.mpr ?_)
    rw [h.1]; have := h.2.1; exact nI_pos' (by omega)
  conv => whnf
  rw [s1]
  refine ⟨fun g2 => ?_, fun g2 => ?_⟩
  rotate_left
  · conv => whnf
    refine h0 fun a b h => g2 ?_
    rw [h.1]; exact nI_lt h.2.1 (by omega)
  have hle := Int32.le_of_lt g2
  obtain ⟨i', hi, ei⟩ := isIn_nat (b := ne) (by omega) (Int32.not_lt.mp g) hle
  subst ei
  have hlt : i' < ne := by
    rcases Nat.lt_or_eq_of_le hi with z | z
    · exact z
    · rw [z] at g2; exact (Int32.lt_irrefl g2).elim
  have i24 : i' < 24 := by omega
  obtain ⟨b0, b1, b2, b3, b4, b5, b6, b7, b8, b9, b10⟩ := s2 i' hlt
  obtain ⟨b11, b13, b12⟩ := d1 i' hlt
  have bc := d2 (i' * 8) (by omega)
  have hl := (e3 i' hlt).1
  have tl : ∀ f, f < 11 → nI (lnn w i' f) = w (1584 + 14 * i' + f) := fun f hf => (hl f hf).symm
  conv => whnf
  rcases in_or (q := q) 0 8 (by decide) with ⟨q', -, hq, eq⟩ | hno
  · subst eq
    have r := h1 i' q' ⟨rfl, hlt, rfl, hq⟩
    have hq' : q' = 0 ∨ q' = 1 ∨ q' = 2 ∨ q' = 3 ∨ q' = 4 ∨ q' = 5 ∨ q' = 6 ∨ q' = 7 := by omega
    rcases hq' with rfl | rfl | rfl | rfl | rfl | rfl | rfl | rfl
    · refine hK _ _ _ _ _ _ _ _ _ _ (z_WP_ts 68 rfl (by decide) ?_)
      refine z_WP_gos [] 1000 fun K C hK hC => ?_
      conv => whnf
      refine hC _ _ _ _ _ _ _ _ _ _ (fun _ _ _ _ _ _ q => q) (cp_told (f := 0) i24 (by omega) b0 ?_)
      conv => whnf
      rw [tl 0 (by omega)]; exact r
    · refine hK _ _ _ _ _ _ _ _ _ _ (z_WP_ts 75 rfl (by decide) ?_)
      refine z_WP_gos [] 1000 fun K C hK hC => ?_
      conv => whnf
      refine hC _ _ _ _ _ _ _ _ _ _ (fun _ _ _ _ _ _ q => q) (cp_told (f := 6) i24 (by omega) b6 ?_)
      conv => whnf
      rw [tl 6 (by omega)]; exact r
    · refine hK _ _ _ _ _ _ _ _ _ _ (z_WP_ts 83 rfl (by decide) ?_)
      refine z_WP_gos [] 1000 fun K C hK hC => ?_
      conv => whnf
      refine hC _ _ _ _ _ _ _ _ _ _ (fun _ _ _ _ _ _ q => q) (cp_told (f := 7) i24 (by omega) b7 ?_)
      conv => whnf
      rw [tl 7 (by omega)]; exact r
    · refine hK _ _ _ _ _ _ _ _ _ _ (z_WP_ts 91 rfl (by decide) ?_)
      refine z_WP_gos [] 1000 fun K C hK hC => ?_
      conv => whnf
      refine hC _ _ _ _ _ _ _ _ _ _ (fun _ _ _ _ _ _ q => q) (cp_told (f := 9) i24 (by omega) b9 ?_)
      conv => whnf
      rw [tl 8 (by omega)]; exact r
    · refine hK _ _ _ _ _ _ _ _ _ _ (z_WP_ts 99 rfl (by decide) ?_)
      refine z_WP_gos [] 1000 fun K C hK hC => ?_
      conv => whnf
      refine hC _ _ _ _ _ _ _ _ _ _ (fun _ _ _ _ _ _ q => q) (cp_told (f := 10) i24 (by omega) b10 ?_)
      conv => whnf
      exact r
    · refine hK _ _ _ _ _ _ _ _ _ _ (z_WP_ts 107 rfl (by decide) ?_)
      refine z_WP_gos [] 1000 fun K C hK hC => ?_
      conv => whnf
      repeat ((first | refine And.intro (by (conv => arg 2; whnf); (try simp only [z_lit, nI_add, pk_mul, z_pr1, z_pr2]); exact z_in (by omega) (by decide)) ?_ | refine z_bt1 (by decide) ?_ | refine z_bf1 (by decide) ?_ | refine z_bt2 (by decide) ?_ | refine z_bf2 (by decide) ?_); conv => whnf)
      simp (disch := omega) only [z_lit, nI_add, pk_mul, z_pr1, z_pr2, nI_clamp, z_up_row, z_row_s, z_row_n, z_row_row, pk_us, pk_un]
      rw [b11]; exact r
    · refine hK _ _ _ _ _ _ _ _ _ _ (z_WP_ts 114 rfl (by decide) ?_)
      refine z_WP_gos [] 1000 fun K C hK hC => ?_
      conv => whnf
      repeat ((first | refine And.intro (by (conv => arg 2; whnf); (try simp only [z_lit, nI_add, pk_mul, z_pr1, z_pr2]); exact z_in (by omega) (by decide)) ?_ | refine z_bt1 (by decide) ?_ | refine z_bf1 (by decide) ?_ | refine z_bt2 (by decide) ?_ | refine z_bf2 (by decide) ?_); conv => whnf)
      simp (disch := omega) only [z_lit, nI_add, pk_mul, z_pr1, z_pr2, nI_clamp, z_up_row, z_row_s, z_row_n, z_row_row, pk_us, pk_un]
      rw [bc, show 2572 + i' * 8 = 2572 + 8 * i' by omega, ← b12]; exact r
    · refine hK _ _ _ _ _ _ _ _ _ _ (z_WP_ts 124 rfl (by decide) ?_)
      refine z_WP_gos [] 1000 fun K C hK hC => ?_
      conv => whnf
      repeat ((first | refine And.intro (by (conv => arg 2; whnf); (try simp only [z_lit, nI_add, pk_mul, z_pr1, z_pr2]); exact z_in (by omega) (by decide)) ?_ | refine z_bt1 (by decide) ?_ | refine z_bf1 (by decide) ?_ | refine z_bt2 (by decide) ?_ | refine z_bf2 (by decide) ?_); conv => whnf)
      simp (disch := omega) only [z_lit, nI_add, pk_mul, z_pr1, z_pr2, nI_clamp, z_up_row, z_row_s, z_row_n, z_row_row, pk_us, pk_un]
      rw [b13]; exact r
  · refine hK _ _ _ _ _ _ _ _ _ _ (z_WP_ts 131 rfl (z_swt_no _ fun p hp => ?_) ?_)
    · simp only [List.mem_cons, List.not_mem_nil, or_false] at hp
      rcases hp with rfl | rfl | rfl | rfl | rfl | rfl | rfl | rfl <;> first
        | exact hno 0 (by omega) (by omega)
        | exact hno 1 (by omega) (by omega)
        | exact hno 2 (by omega) (by omega)
        | exact hno 3 (by omega) (by omega)
        | exact hno 4 (by omega) (by omega)
        | exact hno 5 (by omega) (by omega)
        | exact hno 6 (by omega) (by omega)
        | exact hno 7 (by omega) (by omega)
    · refine z_WP_gos [] 1000 fun K C hK hC => ?_
      conv => whnf
      exact h0 fun a b h => hno b (by omega) h.2.2.2 h.2.2.1
end
