/-! the class's cells: rows, frames of cells -/
theorem z_up_row (M : z_I) (a i : Nat) (v : Int32) : z_up M a i v = z_row M a (upd (M a) i v) := by
  funext b j; unfold z_up z_row upd; by_cases h : b = a <;> simp [h]
theorem z_row_s {α : Type} (M : Nat → α) (a : Nat) (f : α) : z_row M a f a = f := if_pos rfl
theorem z_row_n {α : Type} (M : Nat → α) {a b : Nat} (f : α) (h : b ≠ a) : z_row M a f b = M b := if_neg h
theorem z_row_row {α : Type} (M : Nat → α) (a : Nat) (f g : α) : z_row (z_row M a f) a g = z_row M a g := by
  funext b; unfold z_row; by_cases h : b = a <;> simp [h]
/-- nothing but these cells has changed -/
def fr (S : List Nat) (I I' : z_I) : Prop := ∀ b, b ∉ S → I' b = I b
theorem fr_r {S : List Nat} {I : z_I} : fr S I I := fun _ _ => rfl
theorem fr_t {S : List Nat} {I I' I'' : z_I} (h : fr S I I') (g : fr S I' I'') : fr S I I'' := fun b hb => (g b hb).trans (h b hb)
theorem fr_m {S T : List Nat} {I I' : z_I} (h : fr S I I') (g : ∀ b, b ∈ S → b ∈ T) : fr T I I' := fun b hb => h b (fun z => hb (g b z))
theorem fr_w {S : List Nat} {I I' : z_I} {a : Nat} {f : Nat → Int32} (h : fr S I I') (g : a ∈ S) : fr S I (z_row I' a f) := fun b hb => (z_row_n I' f (fun z => hb (by rw [z]; exact g))).trans (h b hb)
theorem z_Q1 {Q : z_Q} {b : Bool} {I : z_I} {R : z_R} {J : z_J} {F : z_F} {cn : Nat} (q : Q (some (.int (z_bi b))) I R J F cn) (h : b = true) : ((1 : Int32) = 0 ∨ (1 : Int32) = 1) ∧ Q (some (.int 1)) I R J F cn := ⟨Or.inr rfl, by subst h; exact q⟩
theorem z_Q0 {Q : z_Q} {b : Bool} {I : z_I} {R : z_R} {J : z_J} {F : z_F} {cn : Nat} (q : Q (some (.int (z_bi b))) I R J F cn) (h : b = false) : ((0 : Int32) = 0 ∨ (0 : Int32) = 1) ∧ Q (some (.int 0)) I R J F cn := ⟨Or.inl rfl, by subst h; exact q⟩
/-- a number that is 0 or 1 -/
def v01 (v : Int32) : Prop := v = nI 0 ∨ v = nI 1
theorem v01_n {v : Int32} (h : v01 v) : ¬ v = nI 0 ↔ v = nI 1 := by
  rcases h with h | h <;> rw [h] <;> decide
theorem v01_and (x : Int32) : v01 (x &&& nI 1) := by
  obtain ⟨j, hj, e⟩ := pk_andE x (m := nI 1) 1 rfl
  rw [e]
  rcases (show j = 0 ∨ j = 1 by omega) with h | h <;> subst h
  · exact Or.inl rfl
  · exact Or.inr rfl
/-- what is told of the units, as the model has it -/
def uT (r w : Nat → Int32) : Prop := (∀ t, t < 8 → ∀ k, 1 ≤ k → k < 18 → r (t * 18 + k) = w (32 + 8 * k + t)) ∧ (∀ t, t < 9 → r (t * 18 + 0) = w (31 + t)) ∧ (∀ k, 1 ≤ k → k < 18 → r (8 * 18 + k) = nI 0)
/-- the model's numbers of the units are within their bounds -/
def uW (w : Nat → Int32) : Prop := (∀ t, t < 9 → v01 (w (31 + t))) ∧ (∀ j, 40 ≤ j → j < 80 → v01 (w j)) ∧ (∀ j, 120 ≤ j → j < 128 → v01 (w j))
section
variable {L : Nat} {xs : Nat → Int32} {d : Nat} {kp sp wd : Value} {I : z_I} {w : Nat → Int32} {R : z_R} {J : z_J} {F : z_F} {cn : Nat} {Q : z_Q}
theorem cu_cell {t u : Nat} (hQ : Q (some (.int (nI (6 * t + u)))) I R J F cn) : z_M (z_X0 L xs) z_P0 d m_Units_cell [.int (nI t), .int (nI (u + 1))] I R J F cn Q := by
  refine z_WP_gos [] 1000 fun K C hK hC => ?_
  conv => whnf
  refine z_Qi hQ ?_ rfl
  simp only [z_lit, nI_add, pk_mul, z_pr2]
  rw [Nat.mul_comm]
theorem cu_spot {k t u : Nat} (hQ : Q (some (.int (nI (384 * k + 8 * (6 * t + u))))) I R J F cn) : z_M (z_X0 L xs) z_P0 (d + 1) m_Units_spot [.int (nI k), .int (nI t), .int (nI (u + 1))] I R J F cn Q := by
  refine z_WP_gos [] 1000 fun K C hK hC => ?_
  conv => whnf
  refine hC _ _ _ _ _ _ _ _ _ _ (fun _ _ _ _ _ _ q => q) (cu_cell ?_)
  conv => whnf
  refine z_Qi hQ ?_ rfl
  simp only [z_lit, nI_add, pk_mul]
  congr 1; omega
theorem cu_sendSpot {u : Nat} (hQ : Q (some (.int (nI (1152 + 8 * u)))) I R J F cn) : z_M (z_X0 L xs) z_P0 d m_Units_sendSpot [.int (nI (u + 1))] I R J F cn Q := by
  refine z_WP_gos [] 1000 fun K C hK hC => ?_
  conv => whnf
  refine z_Qi hQ ?_ rfl
  simp only [z_lit, nI_add, pk_mul, z_pr2]
  congr 1; omega
theorem cu_hasPower {t : Nat} (ht : t < 9) (hu : uT (I 3) w) (ho : uW w) (hQ : Q (some (.int (z_bi (decide (w (31 + t) = nI 1))))) I (z_R0 kp sp wd) J F cn) : z_M (z_X0 L xs) z_P0 d m_Units_hasPower [.ref 2, .int (nI t)] I (z_R0 kp sp wd) J F cn Q := by
  have e : I 3 (t * 18 + 0) = w (31 + t) := hu.2.1 t ht
  have v := ho.1 t ht
  refine z_WP_gos [] 1000 fun K C hK hC => ?_
  conv => whnf
  repeat ((first | refine And.intro (by (conv => arg 2; whnf); (try simp only [z_lit, nI_add, pk_mul, z_pr1, z_pr2]); exact z_in (by omega) (by decide)) ?_ | refine z_bt1 (by decide) ?_ | refine z_bf1 (by decide) ?_ | refine z_bt2 (by decide) ?_ | refine z_bf2 (by decide) ?_); conv => whnf)
  refine ⟨fun h => ?_, fun h => ?_⟩ <;> (try simp (disch := omega) only [z_lit, nI_add, pk_mul, z_pr1, z_pr2, nI_clamp, z_up_row, z_row_s, z_row_n, z_row_row, pk_us, pk_un] at h) <;> (conv => whnf)
  · rw [e] at h
    exact z_Q0 hQ (by rw [h]; rfl)
  · rw [e, v01_n v] at h
    exact z_Q1 hQ (by rw [h]; rfl)
theorem cu_isBusy {t : Nat} (ht : t < 8) (hu : uT (I 3) w) (ho : uW w) (hQ : Q (some (.int (z_bi (decide (w (40 + t) = nI 1))))) I (z_R0 kp sp wd) J F cn) : z_M (z_X0 L xs) z_P0 d m_Units_isBusy [.ref 2, .int (nI t)] I (z_R0 kp sp wd) J F cn Q := by
  have e : I 3 (t * 18 + 1) = w (40 + t) := hu.1 t ht 1 (by decide) (by decide)
  have v := ho.2.1 (40 + t) (by omega) (by omega)
  refine z_WP_gos [] 1000 fun K C hK hC => ?_
  conv => whnf
  repeat ((first | refine And.intro (by (conv => arg 2; whnf); (try simp only [z_lit, nI_add, pk_mul, z_pr1, z_pr2]); exact z_in (by omega) (by decide)) ?_ | refine z_bt1 (by decide) ?_ | refine z_bf1 (by decide) ?_ | refine z_bt2 (by decide) ?_ | refine z_bf2 (by decide) ?_); conv => whnf)
  refine ⟨fun h => ?_, fun h => ?_⟩ <;> (try simp (disch := omega) only [z_lit, nI_add, pk_mul, z_pr1, z_pr2, nI_clamp, z_up_row, z_row_s, z_row_n, z_row_row, pk_us, pk_un] at h) <;> (conv => whnf)
  · rw [e] at h
    exact z_Q0 hQ (by rw [h]; rfl)
  · rw [e, v01_n v] at h
    exact z_Q1 hQ (by rw [h]; rfl)
theorem cu_isShut {t bus : Nat} (ht : t < 8) (hu : uT (I 3) w) (hQ : Q (some (.int (z_bi (s_shut w t bus)))) I (z_R0 kp sp wd) J F cn) : z_M (z_X0 L xs) z_P0 d m_Units_isShut [.ref 2, .int (nI t), .int (nI bus)] I (z_R0 kp sp wd) J F cn Q := by
  have e : I 3 (t * 18 + 10) = w (112 + t) := hu.1 t ht 10 (by decide) (by decide)
  refine z_WP_gos [] 1000 fun K C hK hC => ?_
  conv => whnf
  repeat ((first | refine And.intro (by (conv => arg 2; whnf); (try simp only [z_lit, nI_add, pk_mul, z_pr1, z_pr2]); exact z_in (by omega) (by decide)) ?_ | refine z_bt1 (by decide) ?_ | refine z_bf1 (by decide) ?_ | refine z_bt2 (by decide) ?_ | refine z_bf2 (by decide) ?_); conv => whnf)
  refine ⟨fun h => ?_, fun h => ?_⟩ <;> (try simp (disch := omega) only [z_lit, nI_add, pk_mul, z_pr1, z_pr2, nI_clamp, z_up_row, z_row_s, z_row_n, z_row_row, pk_us, pk_un] at h) <;> (conv => whnf)
  · rw [e] at h
    exact z_Q0 hQ (by unfold s_shut; rw [h]; rfl)
  · rw [e, v01_n (v01_and _)] at h
    exact z_Q1 hQ (by unfold s_shut; rw [h]; rfl)
theorem cu_isShut8 {bus : Nat} (hb : bus < 2) (hu : uT (I 3) w) (hQ : Q (some (.int (z_bi false))) I (z_R0 kp sp wd) J F cn) : z_M (z_X0 L xs) z_P0 d m_Units_isShut [.ref 2, .int (nI 8), .int (nI bus)] I (z_R0 kp sp wd) J F cn Q := by
  have e : I 3 (8 * 18 + 10) = nI 0 := hu.2.2 10 (by decide) (by decide)
  refine z_WP_gos [] 1000 fun K C hK hC => ?_
  conv => whnf
  repeat ((first | refine And.intro (by (conv => arg 2; whnf); (try simp only [z_lit, nI_add, pk_mul, z_pr1, z_pr2]); exact z_in (by omega) (by decide)) ?_ | refine z_bt1 (by decide) ?_ | refine z_bf1 (by decide) ?_ | refine z_bt2 (by decide) ?_ | refine z_bf2 (by decide) ?_); conv => whnf)
  refine ⟨fun h => ?_, fun h => ?_⟩ <;> (try simp (disch := omega) only [z_lit, nI_add, pk_mul, z_pr1, z_pr2, nI_clamp, z_up_row, z_row_s, z_row_n, z_row_row, pk_us, pk_un] at h) <;> (conv => whnf)
  · exact z_Q0 hQ rfl
  · exfalso
    apply h
    show I 3 (8 * 18 + 10) >>> (nI bus &&& nI 31) &&& nI 1 = nI 0
    rw [e]
    rcases (show bus = 0 ∨ bus = 1 by omega) with h | h <;> subst h <;> decide
theorem cu_isLegal {t u : Nat} (ht : t < 8) (hu : uT (I 3) w) (hQ : Q (some (.int (z_bi (s_legal w t u)))) I (z_R0 kp sp wd) J F cn) : z_M (z_X0 L xs) z_P0 d m_Units_isLegal [.ref 2, .int (nI t), .int (nI (u + 1))] I (z_R0 kp sp wd) J F cn Q := by
  have e : I 3 (t * 18 + 8) = w (96 + t) := hu.1 t ht 8 (by decide) (by decide)
  refine z_WP_gos [] 1000 fun K C hK hC => ?_
  conv => whnf
  repeat ((first | refine And.intro (by (conv => arg 2; whnf); (try simp only [z_lit, nI_add, pk_mul, z_pr1, z_pr2]); exact z_in (by omega) (by decide)) ?_ | refine z_bt1 (by decide) ?_ | refine z_bf1 (by decide) ?_ | refine z_bt2 (by decide) ?_ | refine z_bf2 (by decide) ?_); conv => whnf)
  refine ⟨fun h => ?_, fun h => ?_⟩ <;> (try simp (disch := omega) only [z_lit, nI_add, pk_mul, z_pr1, z_pr2, nI_clamp, z_up_row, z_row_s, z_row_n, z_row_row, pk_us, pk_un] at h) <;> (conv => whnf)
  · rw [e] at h
    exact z_Q0 hQ (by unfold s_legal; rw [h]; rfl)
  · rw [e, v01_n (v01_and _)] at h
    exact z_Q1 hQ (by unfold s_legal; rw [h]; rfl)
theorem cu_hears {t bus : Nat} (ht : t < 8) (hu : uT (I 3) w) (ho : uW w) (hQ : Q (some (.int (z_bi (s_hear w t bus)))) I (z_R0 kp sp wd) J F cn) : z_M (z_X0 L xs) z_P0 (d + 1) m_Units_hears [.ref 2, .int (nI t), .int (nI bus), .int (w 3)] I (z_R0 kp sp wd) J F cn Q := by
  have e : I 3 (t * 18 + 6) = w (80 + t) := hu.1 t ht 6 (by decide) (by decide)
  unfold s_hear at hQ
  refine z_WP_gos [] 1000 fun K C hK hC => ?_
  conv => whnf
  refine ⟨fun h => ?_, fun h => ?_⟩ <;> (try simp (disch := omega) only [z_lit, nI_add, pk_mul, z_pr1, z_pr2, nI_clamp, z_up_row, z_row_s, z_row_n, z_row_row, pk_us, pk_un] at h) <;> (conv => whnf)
  · exact z_Q0 hQ (by simp [h])
  · refine hC _ _ _ _ _ _ _ _ _ _ (fun _ _ _ _ _ _ q => q) (cu_hasPower (by omega) hu ho ?_)
    conv => whnf
    cases hp : decide (w (31 + t) = nI 1) <;> rw [hp] at hQ
    · repeat ((first | refine And.intro (by (conv => arg 2; whnf); (try simp only [z_lit, nI_add, pk_mul, z_pr1, z_pr2]); exact z_in (by omega) (by decide)) ?_ | refine z_bt1 (by decide) ?_ | refine z_bf1 (by decide) ?_ | refine z_bt2 (by decide) ?_ | refine z_bf2 (by decide) ?_); conv => whnf)
      exact z_Q0 hQ rfl
    · repeat ((first | refine And.intro (by (conv => arg 2; whnf); (try simp only [z_lit, nI_add, pk_mul, z_pr1, z_pr2]); exact z_in (by omega) (by decide)) ?_ | refine z_bt1 (by decide) ?_ | refine z_bf1 (by decide) ?_ | refine z_bt2 (by decide) ?_ | refine z_bf2 (by decide) ?_); conv => whnf)
      refine ⟨fun g => ?_, fun g => ?_⟩ <;> (try simp (disch := omega) only [z_lit, nI_add, pk_mul, z_pr1, z_pr2, nI_clamp, z_up_row, z_row_s, z_row_n, z_row_row, pk_us, pk_un] at g) <;> (conv => whnf)
      · rw [e] at g
        exact z_Q0 hQ (by simp [g])
      · rw [e] at g
        exact z_Q1 hQ (by simp [g, h])
theorem cu_hears8 {bus : Nat} (hb : bus < 2) (hu : uT (I 3) w) (ho : uW w) (hQ : Q (some (.int (z_bi (decide (w 39 = nI 1) && !decide (w 3 = nI 8))))) I (z_R0 kp sp wd) J F cn) : z_M (z_X0 L xs) z_P0 (d + 1) m_Units_hears [.ref 2, .int (nI 8), .int (nI bus), .int (w 3)] I (z_R0 kp sp wd) J F cn Q := by
  have e : I 3 (8 * 18 + 6) = nI 0 := hu.2.2 6 (by decide) (by decide)
  refine z_WP_gos [] 1000 fun K C hK hC => ?_
  conv => whnf
  refine ⟨fun h => ?_, fun h => ?_⟩ <;> (try simp (disch := omega) only [z_lit, nI_add, pk_mul, z_pr1, z_pr2, nI_clamp, z_up_row, z_row_s, z_row_n, z_row_row, pk_us, pk_un] at h) <;> (conv => whnf)
  · exact z_Q0 hQ (by simp [← h])
  · refine hC _ _ _ _ _ _ _ _ _ _ (fun _ _ _ _ _ _ q => q) (cu_hasPower (t := 8) (by omega) hu ho ?_)
    conv => whnf
    cases hp : decide (w (31 + 8) = nI 1) <;> (have hp' : decide (w 39 = nI 1) = _ := hp) <;> rw [hp'] at hQ
    · repeat ((first | refine And.intro (by (conv => arg 2; whnf); (try simp only [z_lit, nI_add, pk_mul, z_pr1, z_pr2]); exact z_in (by omega) (by decide)) ?_ | refine z_bt1 (by decide) ?_ | refine z_bf1 (by decide) ?_ | refine z_bt2 (by decide) ?_ | refine z_bf2 (by decide) ?_); conv => whnf)
      exact z_Q0 hQ rfl
    · repeat ((first | refine And.intro (by (conv => arg 2; whnf); (try simp only [z_lit, nI_add, pk_mul, z_pr1, z_pr2]); exact z_in (by omega) (by decide)) ?_ | refine z_bt1 (by decide) ?_ | refine z_bf1 (by decide) ?_ | refine z_bt2 (by decide) ?_ | refine z_bf2 (by decide) ?_); conv => whnf)
      refine ⟨fun g => ?_, fun g => ?_⟩ <;> (try simp (disch := omega) only [z_lit, nI_add, pk_mul, z_pr1, z_pr2, nI_clamp, z_up_row, z_row_s, z_row_n, z_row_row, pk_us, pk_un] at g) <;> (conv => whnf)
      · exfalso
        apply g
        show I 3 (8 * 18 + 6) >>> (nI bus &&& nI 31) &&& nI 1 = nI 0
        rw [e]
        rcases (show bus = 0 ∨ bus = 1 by omega) with h | h <;> subst h <;> decide
      · exact z_Q1 hQ (by rw [decide_eq_false (fun z => h z.symm)]; rfl)
theorem lp_hold {bus : Nat} (hu : uT (I 3) w) (ho : uW w) (h1 : s_held w bus = true → Q (some (.int 1)) I (z_R0 kp sp wd) J F cn) (h0 : s_held w bus = false → Q (some (.int 0)) I (z_R0 kp sp wd) J F cn) :
    ∀ n t, t + n = 8 → (∀ j, j < t → s_held1 w bus j = false) → z_WP (z_X0 L xs) z_P0 (d + 1) m_Units_hold 2 [some (.ref 2), some (.int (nI bus)), some (.int (w 3)), some (.int (nI t))] [] I (z_R0 kp sp wd) J F cn 0 0 Q := by
  intro n
  induction n with
  | zero =>
    intro t ht hj
    obtain rfl : t = 8 := by omega
    refine z_WP_gos [2] 1000 fun K C hK hC => ?_
    conv => whnf
    refine ⟨fun _ => ?_, fun h => absurd (by decide) h⟩
    conv => whnf
    exact ⟨Or.inl rfl, h0 (s_held_f hj)⟩
  | succ n ih =>
    intro t ht hj
    have e : I 3 (t * 18 + 7) = w (88 + t) := hu.1 t (by omega) 7 (by decide) (by decide)
    have inc : nI t + 1 = nI (t + 1) := nI_1 t
    have next : s_held1 w bus t = false → z_WP (z_X0 L xs) z_P0 (d + 1) m_Units_hold 2 [some (.ref 2), some (.int (nI bus)), some (.int (w 3)), some (.int (nI t + 1))] [] I (z_R0 kp sp wd) J F cn 0 0 Q := fun h => inc ▸ ih (t + 1) (by omega) (fun j h2 => by
      rcases Nat.lt_succ_iff_lt_or_eq.mp h2 with h3 | rfl
      · exact hj j h3
      · exact h)
    refine z_WP_gos [2] 1000 fun K C hK hC => ?_
    conv => whnf
    refine ⟨fun h => absurd h (nI_ge (a := t) (b := 8) (by omega) (by decide)), fun _ => ?_⟩
    conv => whnf
    refine ⟨fun h => ?_, fun h => ?_⟩ <;> (try simp (disch := omega) only [z_lit, nI_add, pk_mul, z_pr1, z_pr2, nI_clamp, z_up_row, z_row_s, z_row_n, z_row_row, pk_us, pk_un] at h) <;> (conv => whnf)
    · refine hK _ _ _ _ _ _ _ _ _ _ (next (by simp [s_held1, h]))
    · refine hC _ _ _ _ _ _ _ _ _ _ (fun _ _ _ _ _ _ q => q) (cu_hasPower (by omega) hu ho ?_)
      conv => whnf
      cases hp : decide (w (31 + t) = nI 1)
      · repeat ((first | refine And.intro (by (conv => arg 2; whnf); (try simp only [z_lit, nI_add, pk_mul, z_pr1, z_pr2]); exact z_in (by omega) (by decide)) ?_ | refine z_bt1 (by decide) ?_ | refine z_bf1 (by decide) ?_ | refine z_bt2 (by decide) ?_ | refine z_bf2 (by decide) ?_); conv => whnf)
        refine hK _ _ _ _ _ _ _ _ _ _ (next (by simp [s_held1, hp]))
      · repeat ((first | refine And.intro (by (conv => arg 2; whnf); (try simp only [z_lit, nI_add, pk_mul, z_pr1, z_pr2]); exact z_in (by omega) (by decide)) ?_ | refine z_bt1 (by decide) ?_ | refine z_bf1 (by decide) ?_ | refine z_bt2 (by decide) ?_ | refine z_bf2 (by decide) ?_); conv => whnf)
        refine ⟨fun g => ?_, fun g => ?_⟩ <;> (try simp (disch := omega) only [z_lit, nI_add, pk_mul, z_pr1, z_pr2, nI_clamp, z_up_row, z_row_s, z_row_n, z_row_row, pk_us, pk_un] at g) <;> (conv => whnf)
        · rw [e] at g
          refine hK _ _ _ _ _ _ _ _ _ _ (next (by simp [s_held1, g]; intro z; exact absurd z (by decide)))
        · rw [e, v01_n (v01_and _)] at g
          exact ⟨Or.inr rfl, h1 (s_held_t (j := t) (by omega) (by simp only [decide_eq_true_eq] at hp; simp [s_held1, g, hp, h]))⟩
theorem cu_hold {bus : Nat} (hu : uT (I 3) w) (ho : uW w) (hQ : Q (some (.int (z_bi (s_held w bus)))) I (z_R0 kp sp wd) J F cn) : z_M (z_X0 L xs) z_P0 (d + 1) m_Units_hold [.ref 2, .int (nI bus), .int (w 3)] I (z_R0 kp sp wd) J F cn Q := by
  refine z_WP_gos [2] 1000 fun K C hK hC => ?_
  conv => whnf
  refine hK _ _ _ _ _ _ _ _ _ _ (lp_hold hu ho (fun h => by rw [h] at hQ; exact hQ) (fun h => by rw [h] at hQ; exact hQ) 8 0 rfl (fun j h => absurd h (Nat.not_lt_zero _)))
/-- what a right command leaves -/
def c_st (r : Nat → Int32) (t : Nat) (bits : Int32) : Int32 := nI t <<< (nI 11 &&& nI 31) ||| bits ||| (if r (t * 18 + 2) = nI 0 then nI 0 else nI 256) ||| (if r (t * 18 + 1) = nI 0 then nI 0 else nI 8) ||| (if r (t * 18 + 3) = nI 0 then nI 0 else nI 4) ||| (if r (t * 18 + 11) = nI 0 then r (t * 18 + 4) else nI 0)
def c_er (r : Nat → Int32) (t : Nat) (bits : Int32) : Nat → Int32 := if bits &&& nI 1024 = nI 0 then r else upd r (t * 18 + 12) (r (t * 18 + 12) + nI 1)
def c_settle (r : Nat → Int32) (t : Nat) (c bits : Int32) : Nat → Int32 := upd (upd (c_er r t bits) (t * 18 + 13) (c_st r t bits)) (t * 18 + 14) c
theorem cu_settle2 {t : Nat} {c bits o : Int32} {I0 : z_I} (ht : t < 8) (ho : o = nI (t * 18)) (hI : ∀ k, k < 12 → I 3 (t * 18 + k) = I0 3 (t * 18 + k)) (hQ : Q (some (.int (c_st (I0 3) t bits))) (z_row I 3 (upd (upd (I 3) (t * 18 + 13) (c_st (I0 3) t bits)) (t * 18 + 14) c)) (z_R0 kp sp wd) J F cn) : z_WP (z_X0 L xs) z_P0 d m_Units_settle 28 [some (.ref 2), some (.int (nI t)), some (.int c), some (.int bits), some (.int o), none] [] I (z_R0 kp sp wd) J F cn 0 0 Q := by
  subst ho
  have e1 := hI 1 (by decide)
  have e2 := hI 2 (by decide)
  have e3 := hI 3 (by decide)
  have e4 := hI 4 (by decide)
  have e11 := hI 11 (by decide)
  refine z_WP_gos [] 1000 fun K C hK hC => ?_
  conv => whnf
  repeat ((first | refine And.intro (by (conv => arg 2; whnf); (try simp only [z_lit, nI_add, pk_mul, z_pr1, z_pr2]); exact z_in (by omega) (by decide)) ?_ | refine z_bt1 (by decide) ?_ | refine z_bf1 (by decide) ?_ | refine z_bt2 (by decide) ?_ | refine z_bf2 (by decide) ?_); conv => whnf)
  refine ⟨fun h1 => ?_, fun h1 => ?_⟩ <;> (conv => whnf) <;> (repeat ((first | refine And.intro (by (conv => arg 2; whnf); (try simp only [z_lit, nI_add, pk_mul, z_pr1, z_pr2]); exact z_in (by omega) (by decide)) ?_ | refine z_bt1 (by decide) ?_ | refine z_bf1 (by decide) ?_ | refine z_bt2 (by decide) ?_ | refine z_bf2 (by decide) ?_); conv => whnf)) <;> refine ⟨fun h2 => ?_, fun h2 => ?_⟩ <;> (conv => whnf) <;> (repeat ((first | refine And.intro (by (conv => arg 2; whnf); (try simp only [z_lit, nI_add, pk_mul, z_pr1, z_pr2]); exact z_in (by omega) (by decide)) ?_ | refine z_bt1 (by decide) ?_ | refine z_bf1 (by decide) ?_ | refine z_bt2 (by decide) ?_ | refine z_bf2 (by decide) ?_); conv => whnf)) <;> refine ⟨fun h3 => ?_, fun h3 => ?_⟩ <;> (conv => whnf) <;> (repeat ((first | refine And.intro (by (conv => arg 2; whnf); (try simp only [z_lit, nI_add, pk_mul, z_pr1, z_pr2]); exact z_in (by omega) (by decide)) ?_ | refine z_bt1 (by decide) ?_ | refine z_bf1 (by decide) ?_ | refine z_bt2 (by decide) ?_ | refine z_bf2 (by decide) ?_); conv => whnf)) <;> refine ⟨fun h4 => ?_, fun h4 => ?_⟩ <;> (conv => whnf) <;> (repeat ((first | refine And.intro (by (conv => arg 2; whnf); (try simp only [z_lit, nI_add, pk_mul, z_pr1, z_pr2]); exact z_in (by omega) (by decide)) ?_ | refine z_bt1 (by decide) ?_ | refine z_bf1 (by decide) ?_ | refine z_bt2 (by decide) ?_ | refine z_bf2 (by decide) ?_); conv => whnf))
  all_goals
    simp (disch := omega) only [z_lit, nI_add, pk_mul, nI_clamp] at h1 h2 h3 h4
    rw [e2] at h1
    rw [e1] at h2
    rw [e3] at h3
    rw [e11] at h4
    simp only [c_st, h1, h2, h3, h4, if_true, if_false] at hQ
    refine z_Qi hQ ?_ ?_
    · simp (disch := omega) only [z_lit, nI_add, pk_mul, z_pr1, z_pr2, nI_clamp, z_up_row, z_row_s, z_row_n, z_row_row, pk_us, pk_un]
      try rw [e4]
    · simp (disch := omega) only [z_lit, nI_add, pk_mul, z_pr1, z_pr2, nI_clamp, z_up_row, z_row_s, z_row_n, z_row_row, pk_us, pk_un]
      try rw [e4]
theorem cu_settle {t : Nat} {c bits : Int32} (ht : t < 8) (hQ : Q (some (.int (c_st (I 3) t bits))) (z_row I 3 (c_settle (I 3) t c bits)) (z_R0 kp sp wd) J F cn) : z_M (z_X0 L xs) z_P0 d m_Units_settle [.ref 2, .int (nI t), .int c, .int bits] I (z_R0 kp sp wd) J F cn Q := by
  refine z_WP_gos [28] 1000 fun K C hK hC => ?_
  conv => whnf
  refine ⟨fun h => ?_, fun h => ?_⟩ <;> (try simp (disch := omega) only [z_lit, nI_add, pk_mul, z_pr1, z_pr2, nI_clamp, z_up_row, z_row_s, z_row_n, z_row_row, pk_us, pk_un] at h) <;> (conv => whnf)
  · refine hK _ _ _ _ _ _ _ _ _ _ (cu_settle2 (I0 := I) ht (pk_mul _ _) (fun _ _ => rfl) ?_)
    unfold c_settle c_er at hQ
    rw [if_pos h] at hQ
    exact hQ
  · repeat ((first | refine And.intro (by (conv => arg 2; whnf); (try simp only [z_lit, nI_add, pk_mul, z_pr1, z_pr2]); exact z_in (by omega) (by decide)) ?_ | refine z_bt1 (by decide) ?_ | refine z_bf1 (by decide) ?_ | refine z_bt2 (by decide) ?_ | refine z_bf2 (by decide) ?_); conv => whnf)
    simp (disch := omega) only [z_lit, nI_add, pk_mul, z_pr1, z_pr2, nI_clamp, z_up_row, z_row_s, z_row_n, z_row_row, pk_us, pk_un]
    refine hK _ _ _ _ _ _ _ _ _ _ (cu_settle2 (I0 := I) ht rfl (fun k hk => ?_) ?_)
    · rw [z_row_s, pk_un (by omega)]
    · rw [z_row_s, z_row_row]
      unfold c_settle c_er at hQ
      rw [if_neg h] at hQ
      exact hQ
end
