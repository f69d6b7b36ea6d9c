/-! the model: what is told of a terminal, noise -/
def tpl (q : Nat) : Nat := if q = 0 then 31 else 32 + 8 * q
def tmost (q : Nat) : Nat := if q < 6 then 1 else if q < 8 then 3 else if q = 8 then 126 else 65535
theorem tmost_le (q : Nat) : tmost q ≤ 65535 := by
  unfold tmost
  by_cases h1 : q < 6
  · rw [if_pos h1]; decide
  · rw [if_neg h1]
    by_cases h2 : q < 8
    · rw [if_pos h2]; decide
    · rw [if_neg h2]
      by_cases h3 : q = 8
      · rw [if_pos h3]; decide
      · rw [if_neg h3]; decide
/-- what can be told -/
def tmv (t q v : Int32) (t' q' v' : Nat) : Prop := t = nI t' ∧ q = nI q' ∧ v = nI v' ∧ t' ≤ 8 ∧ q' ≤ 9 ∧ (t' = 8 → q' = 0) ∧ v' ≤ tmost q' ∧ (q' = 8 → v' % 2 = 0)
section
variable {L : Nat} {xs : Nat → Int32} {d : Nat} {kp sp wd : Value} {I : z_I} {s : z_sg} {R : z_R} {J : z_J} {F : z_F} {cn : Nat} {Q : z_Q}
theorem sp_place {I : z_I} {R : z_R} : ∀ {q : Nat}, q ≤ 9 → Q (some (.int (nI (tpl q)))) I R J F cn → z_M (z_X0 L xs) z_P0 d m_Mod_placeOf [.int (nI q)] I R J F cn Q := by
  intro q hq h
  rcases (show q = 0 ∨ q = 1 ∨ q = 2 ∨ q = 3 ∨ q = 4 ∨ q = 5 ∨ q = 6 ∨ q = 7 ∨ q = 8 ∨ q = 9 by omega) with z | z | z | z | z | z | z | z | z | z <;> subst z
  · refine z_WP_gos [1] 1000 fun K C hK hC => ?_
    conv => whnf
    refine hK _ _ _ _ _ _ _ _ _ _ (z_WP_ts 52 rfl (by decide) ?_)
    refine z_WP_gos [] 1000 fun K C hK hC => ?_
    conv => whnf
    exact h
  · refine z_WP_gos [1] 1000 fun K C hK hC => ?_
    conv => whnf
    refine hK _ _ _ _ _ _ _ _ _ _ (z_WP_ts 55 rfl (by decide) ?_)
    refine z_WP_gos [] 1000 fun K C hK hC => ?_
    conv => whnf
    exact h
  · refine z_WP_gos [1] 1000 fun K C hK hC => ?_
    conv => whnf
    refine hK _ _ _ _ _ _ _ _ _ _ (z_WP_ts 58 rfl (by decide) ?_)
    refine z_WP_gos [] 1000 fun K C hK hC => ?_
    conv => whnf
    exact h
  · refine z_WP_gos [1] 1000 fun K C hK hC => ?_
    conv => whnf
    refine hK _ _ _ _ _ _ _ _ _ _ (z_WP_ts 61 rfl (by decide) ?_)
    refine z_WP_gos [] 1000 fun K C hK hC => ?_
    conv => whnf
    exact h
  · refine z_WP_gos [1] 1000 fun K C hK hC => ?_
    conv => whnf
    refine hK _ _ _ _ _ _ _ _ _ _ (z_WP_ts 64 rfl (by decide) ?_)
    refine z_WP_gos [] 1000 fun K C hK hC => ?_
    conv => whnf
    exact h
  · refine z_WP_gos [1] 1000 fun K C hK hC => ?_
    conv => whnf
    refine hK _ _ _ _ _ _ _ _ _ _ (z_WP_ts 67 rfl (by decide) ?_)
    refine z_WP_gos [] 1000 fun K C hK hC => ?_
    conv => whnf
    exact h
  · refine z_WP_gos [1] 1000 fun K C hK hC => ?_
    conv => whnf
    refine hK _ _ _ _ _ _ _ _ _ _ (z_WP_ts 70 rfl (by decide) ?_)
    refine z_WP_gos [] 1000 fun K C hK hC => ?_
    conv => whnf
    exact h
  · refine z_WP_gos [1] 1000 fun K C hK hC => ?_
    conv => whnf
    refine hK _ _ _ _ _ _ _ _ _ _ (z_WP_ts 73 rfl (by decide) ?_)
    refine z_WP_gos [] 1000 fun K C hK hC => ?_
    conv => whnf
    exact h
  · refine z_WP_gos [1] 1000 fun K C hK hC => ?_
    conv => whnf
    refine hK _ _ _ _ _ _ _ _ _ _ (z_WP_ts 76 rfl (by decide) ?_)
    refine z_WP_gos [] 1000 fun K C hK hC => ?_
    conv => whnf
    exact h
  · refine z_WP_gos [1] 1000 fun K C hK hC => ?_
    conv => whnf
    refine hK _ _ _ _ _ _ _ _ _ _ (z_WP_ts 79 rfl (by decide) ?_)
    refine z_WP_gos [] 1000 fun K C hK hC => ?_
    conv => whnf
    exact h
theorem isIn_nat {v : Int32} {b : Nat} (hb : b < 2 ^ 31) (h : nI 0 ≤ v) (g : v ≤ nI b) : ∃ j : Nat, j ≤ b ∧ v = nI j := by
  obtain ⟨j, hj, e⟩ := nI_of (Int32.not_lt.mpr h)
  subst e
  refine ⟨j, ?_, rfl⟩
  apply Nat.le_of_not_lt; intro z
  exact nI_ge (a := b) (b := j) z hj g
theorem sp_terminal {t q v : Int32} (h1 : ∀ t' q' v', tmv t q v t' q' v' → Q (some (.int 1)) (z_ms I (m_w s (tpl q' + t') (nI v'))) (z_R0 kp sp wd) J F cn) (h0 : (∀ t' q' v', ¬ tmv t q v t' q' v') → Q (some (.int 0)) (z_ms I s) (z_R0 kp sp wd) J F cn) :
    z_M (z_X0 L xs) z_P0 (d + 1) m_Mod_terminal [.ref 40, .int t, .int q, .int v] (z_ms I s) (z_R0 kp sp wd) J F cn Q := by
  have bad : ((∀ t' q' v', ¬ tmv t q v t' q' v')) → ((0 : Int32) = 0 ∨ (0 : Int32) = 1) ∧ Q (some (.int 0)) (z_ms I s) (z_R0 kp sp wd) J F cn := fun h => ⟨Or.inl rfl, h0 h⟩
  refine z_WP_gos [32] 1000 fun K C hK hC => ?_
  conv => whnf
  refine hC _ _ _ _ _ _ _ _ _ _ (fun _ _ _ _ _ _ q => q) (sp_Mod_isIn (fun a b => ?_) (fun a => ?_))
  conv => whnf
  · obtain ⟨t', ht, et⟩ := isIn_nat (b := 8) (by decide) a b
    subst et
    have main : ∀ q', q' ≤ 9 → q = nI q' → (t' = 8 → q' = 0) → z_WP (z_X0 L xs) z_P0 (d + 1) m_Mod_terminal 32 [some (.ref 40), some (.int (nI t')), some (.int q), some (.int v), none] [] (z_ms I s) (z_R0 kp sp wd) J F cn 0 0 Q := by
      intro q' hq eq h8
      subst eq
      have hm : nI 0 ≤ v ∧ v ≤ nI (tmost q') → (q' = 8 → ¬ v &&& nI 1 = nI 1) → ((1 : Int32) = 0 ∨ (1 : Int32) = 1) ∧ Q (some (.int 1)) (z_ms I (m_w s (tpl q' + t') v)) (z_R0 kp sp wd) J F cn := by
        intro g e
        have hlt : tmost q' < 2 ^ 31 := by have := tmost_le q'; omega
        obtain ⟨v', hv, ev⟩ := isIn_nat hlt g.1 g.2
        refine ⟨Or.inr rfl, ?_⟩
        rw [ev]
        refine h1 t' q' v' ⟨rfl, rfl, ev, ht, hq, h8, hv, fun z => ?_⟩
        have := e z
        rw [ev, pk_andN (by omega) 1 (by decide)] at this
        rcases (show v' % 2 = 0 ∨ v' % 2 = 1 by omega) with y | y
        · exact y
        · exact absurd (by rw [show v' % 2 ^ 1 = v' % 2 from rfl, y]) this
      have nm : ¬ (nI 0 ≤ v ∧ v ≤ nI (tmost q')) → ((0 : Int32) = 0 ∨ (0 : Int32) = 1) ∧ Q (some (.int 0)) (z_ms I s) (z_R0 kp sp wd) J F cn := by
        intro g
        refine bad (fun a b c z => g ?_)
        obtain ⟨z1, z2, z3, z4, z5, z6, z7, z8⟩ := z
        have : q' = b := nI_inj9 (by omega) (by omega) z2
        subst this
        have hlt : tmost q' < 2 ^ 31 := by have := tmost_le q'; omega
        rw [z3]
        exact ⟨nI_pos' (by omega), nI_le z7 hlt⟩
      have no : q' = 8 → v &&& nI 1 = nI 1 → ((0 : Int32) = 0 ∨ (0 : Int32) = 1) ∧ Q (some (.int 0)) (z_ms I s) (z_R0 kp sp wd) J F cn := by
        intro g e
        refine bad (fun a b c z => ?_)
        obtain ⟨z1, z2, z3, z4, z5, z6, z7, z8⟩ := z
        have : q' = b := nI_inj9 (by omega) (by omega) z2
        subst this
        have hlt : tmost q' < 2 ^ 31 := by have := tmost_le q'; omega
        have ev := z8 g
        rw [z3, pk_andN (by omega) 1 (by decide)] at e
        have : c % 2 = 1 := nI_inj9 (by omega) (by omega) e
        omega
      have fin : ∀ lc, (q' = 8 → ¬ v &&& nI 1 = nI 1) → nI 0 ≤ v ∧ v ≤ nI (tmost q') → z_WP (z_X0 L xs) z_P0 (d + 1) m_Mod_terminal 92 [some (.ref 40), some (.int (nI t')), some (.int (nI q')), some (.int v), lc] [] (z_ms I s) (z_R0 kp sp wd) J F cn 0 0 Q := by
        intro lc e g
        have hp : tpl q' + t' < 2861 := by unfold tpl; split <;> omega
        have q1 := hm g e
        refine z_WP_gos [] 1000 fun K C hK hC => ?_
        conv => whnf
        refine hC _ _ _ _ _ _ _ _ _ _ (fun _ _ _ _ _ _ q => q) (sp_place hq ?_)
        conv => whnf
        repeat ((first | refine And.intro (by (conv => arg 2; whnf); (try simp only [z_lit, nI_add, pk_mul, z_pr1, z_pr2]); exact z_in (by omega) (by decide)) ?_ | refine z_bt1 (by decide) ?_ | refine z_bf1 (by decide) ?_ | refine z_bt2 (by decide) ?_ | refine z_bf2 (by decide) ?_); conv => whnf)
        refine ⟨Or.inr rfl, z_Qi q1.2 rfl ?_⟩
        unfold m_w
        simp (disch := omega) only [z_lit, nI_add, pk_mul, z_pr1, z_pr2, nI_clamp, z_m3_40, z_m3_41, z_m3_44, z_m3_u40, z_m3_u41, z_m3_u44, z_m3_m3, pk_us, pk_un]
      rcases (show q' = 0 ∨ q' = 1 ∨ q' = 2 ∨ q' = 3 ∨ q' = 4 ∨ q' = 5 ∨ q' = 6 ∨ q' = 7 ∨ q' = 8 ∨ q' = 9 by omega) with z | z | z | z | z | z | z | z | z | z <;> subst z
      · refine z_WP_gos [92] 1000 fun K C hK hC => ?_
        conv => whnf
        repeat ((first | refine And.intro (by (conv => arg 2; whnf); (try simp only [z_lit, nI_add, pk_mul, z_pr1, z_pr2]); exact z_in (by omega) (by decide)) ?_ | refine z_bt1 (by decide) ?_ | refine z_bf1 (by decide) ?_ | refine z_bt2 (by decide) ?_ | refine z_bf2 (by decide) ?_); conv => whnf)
        refine hC _ _ _ _ _ _ _ _ _ _ (fun _ _ _ _ _ _ q => q) (sp_Mod_isIn (fun a b => ?_) (fun a => ?_))
        conv => whnf
        · repeat ((first | refine And.intro (by (conv => arg 2; whnf); (try simp only [z_lit, nI_add, pk_mul, z_pr1, z_pr2]); exact z_in (by omega) (by decide)) ?_ | refine z_bt1 (by decide) ?_ | refine z_bf1 (by decide) ?_ | refine z_bt2 (by decide) ?_ | refine z_bf2 (by decide) ?_); conv => whnf)
          refine hK _ _ _ _ _ _ _ _ _ _ (fin _ (fun z => absurd z (by decide)) ⟨a, b⟩)
        · repeat ((first | refine And.intro (by (conv => arg 2; whnf); (try simp only [z_lit, nI_add, pk_mul, z_pr1, z_pr2]); exact z_in (by omega) (by decide)) ?_ | refine z_bt1 (by decide) ?_ | refine z_bf1 (by decide) ?_ | refine z_bt2 (by decide) ?_ | refine z_bf2 (by decide) ?_); conv => whnf)
          exact nm a
      · refine z_WP_gos [92] 1000 fun K C hK hC => ?_
        conv => whnf
        repeat ((first | refine And.intro (by (conv => arg 2; whnf); (try simp only [z_lit, nI_add, pk_mul, z_pr1, z_pr2]); exact z_in (by omega) (by decide)) ?_ | refine z_bt1 (by decide) ?_ | refine z_bf1 (by decide) ?_ | refine z_bt2 (by decide) ?_ | refine z_bf2 (by decide) ?_); conv => whnf)
        refine hC _ _ _ _ _ _ _ _ _ _ (fun _ _ _ _ _ _ q => q) (sp_Mod_isIn (fun a b => ?_) (fun a => ?_))
        conv => whnf
        · repeat ((first | refine And.intro (by (conv => arg 2; whnf); (try simp only [z_lit, nI_add, pk_mul, z_pr1, z_pr2]); exact z_in (by omega) (by decide)) ?_ | refine z_bt1 (by decide) ?_ | refine z_bf1 (by decide) ?_ | refine z_bt2 (by decide) ?_ | refine z_bf2 (by decide) ?_); conv => whnf)
          refine hK _ _ _ _ _ _ _ _ _ _ (fin _ (fun z => absurd z (by decide)) ⟨a, b⟩)
        · repeat ((first | refine And.intro (by (conv => arg 2; whnf); (try simp only [z_lit, nI_add, pk_mul, z_pr1, z_pr2]); exact z_in (by omega) (by decide)) ?_ | refine z_bt1 (by decide) ?_ | refine z_bf1 (by decide) ?_ | refine z_bt2 (by decide) ?_ | refine z_bf2 (by decide) ?_); conv => whnf)
          exact nm a
      · refine z_WP_gos [92] 1000 fun K C hK hC => ?_
        conv => whnf
        repeat ((first | refine And.intro (by (conv => arg 2; whnf); (try simp only [z_lit, nI_add, pk_mul, z_pr1, z_pr2]); exact z_in (by omega) (by decide)) ?_ | refine z_bt1 (by decide) ?_ | refine z_bf1 (by decide) ?_ | refine z_bt2 (by decide) ?_ | refine z_bf2 (by decide) ?_); conv => whnf)
        refine hC _ _ _ _ _ _ _ _ _ _ (fun _ _ _ _ _ _ q => q) (sp_Mod_isIn (fun a b => ?_) (fun a => ?_))
        conv => whnf
        · repeat ((first | refine And.intro (by (conv => arg 2; whnf); (try simp only [z_lit, nI_add, pk_mul, z_pr1, z_pr2]); exact z_in (by omega) (by decide)) ?_ | refine z_bt1 (by decide) ?_ | refine z_bf1 (by decide) ?_ | refine z_bt2 (by decide) ?_ | refine z_bf2 (by decide) ?_); conv => whnf)
          refine hK _ _ _ _ _ _ _ _ _ _ (fin _ (fun z => absurd z (by decide)) ⟨a, b⟩)
        · repeat ((first | refine And.intro (by (conv => arg 2; whnf); (try simp only [z_lit, nI_add, pk_mul, z_pr1, z_pr2]); exact z_in (by omega) (by decide)) ?_ | refine z_bt1 (by decide) ?_ | refine z_bf1 (by decide) ?_ | refine z_bt2 (by decide) ?_ | refine z_bf2 (by decide) ?_); conv => whnf)
          exact nm a
      · refine z_WP_gos [92] 1000 fun K C hK hC => ?_
        conv => whnf
        repeat ((first | refine And.intro (by (conv => arg 2; whnf); (try simp only [z_lit, nI_add, pk_mul, z_pr1, z_pr2]); exact z_in (by omega) (by decide)) ?_ | refine z_bt1 (by decide) ?_ | refine z_bf1 (by decide) ?_ | refine z_bt2 (by decide) ?_ | refine z_bf2 (by decide) ?_); conv => whnf)
        refine hC _ _ _ _ _ _ _ _ _ _ (fun _ _ _ _ _ _ q => q) (sp_Mod_isIn (fun a b => ?_) (fun a => ?_))
        conv => whnf
        · repeat ((first | refine And.intro (by (conv => arg 2; whnf); (try simp only [z_lit, nI_add, pk_mul, z_pr1, z_pr2]); exact z_in (by omega) (by decide)) ?_ | refine z_bt1 (by decide) ?_ | refine z_bf1 (by decide) ?_ | refine z_bt2 (by decide) ?_ | refine z_bf2 (by decide) ?_); conv => whnf)
          refine hK _ _ _ _ _ _ _ _ _ _ (fin _ (fun z => absurd z (by decide)) ⟨a, b⟩)
        · repeat ((first | refine And.intro (by (conv => arg 2; whnf); (try simp only [z_lit, nI_add, pk_mul, z_pr1, z_pr2]); exact z_in (by omega) (by decide)) ?_ | refine z_bt1 (by decide) ?_ | refine z_bf1 (by decide) ?_ | refine z_bt2 (by decide) ?_ | refine z_bf2 (by decide) ?_); conv => whnf)
          exact nm a
      · refine z_WP_gos [92] 1000 fun K C hK hC => ?_
        conv => whnf
        repeat ((first | refine And.intro (by (conv => arg 2; whnf); (try simp only [z_lit, nI_add, pk_mul, z_pr1, z_pr2]); exact z_in (by omega) (by decide)) ?_ | refine z_bt1 (by decide) ?_ | refine z_bf1 (by decide) ?_ | refine z_bt2 (by decide) ?_ | refine z_bf2 (by decide) ?_); conv => whnf)
        refine hC _ _ _ _ _ _ _ _ _ _ (fun _ _ _ _ _ _ q => q) (sp_Mod_isIn (fun a b => ?_) (fun a => ?_))
        conv => whnf
        · repeat ((first | refine And.intro (by (conv => arg 2; whnf); (try simp only [z_lit, nI_add, pk_mul, z_pr1, z_pr2]); exact z_in (by omega) (by decide)) ?_ | refine z_bt1 (by decide) ?_ | refine z_bf1 (by decide) ?_ | refine z_bt2 (by decide) ?_ | refine z_bf2 (by decide) ?_); conv => whnf)
          refine hK _ _ _ _ _ _ _ _ _ _ (fin _ (fun z => absurd z (by decide)) ⟨a, b⟩)
        · repeat ((first | refine And.intro (by (conv => arg 2; whnf); (try simp only [z_lit, nI_add, pk_mul, z_pr1, z_pr2]); exact z_in (by omega) (by decide)) ?_ | refine z_bt1 (by decide) ?_ | refine z_bf1 (by decide) ?_ | refine z_bt2 (by decide) ?_ | refine z_bf2 (by decide) ?_); conv => whnf)
          exact nm a
      · refine z_WP_gos [92] 1000 fun K C hK hC => ?_
        conv => whnf
        repeat ((first | refine And.intro (by (conv => arg 2; whnf); (try simp only [z_lit, nI_add, pk_mul, z_pr1, z_pr2]); exact z_in (by omega) (by decide)) ?_ | refine z_bt1 (by decide) ?_ | refine z_bf1 (by decide) ?_ | refine z_bt2 (by decide) ?_ | refine z_bf2 (by decide) ?_); conv => whnf)
        refine hC _ _ _ _ _ _ _ _ _ _ (fun _ _ _ _ _ _ q => q) (sp_Mod_isIn (fun a b => ?_) (fun a => ?_))
        conv => whnf
        · repeat ((first | refine And.intro (by (conv => arg 2; whnf); (try simp only [z_lit, nI_add, pk_mul, z_pr1, z_pr2]); exact z_in (by omega) (by decide)) ?_ | refine z_bt1 (by decide) ?_ | refine z_bf1 (by decide) ?_ | refine z_bt2 (by decide) ?_ | refine z_bf2 (by decide) ?_); conv => whnf)
          refine hK _ _ _ _ _ _ _ _ _ _ (fin _ (fun z => absurd z (by decide)) ⟨a, b⟩)
        · repeat ((first | refine And.intro (by (conv => arg 2; whnf); (try simp only [z_lit, nI_add, pk_mul, z_pr1, z_pr2]); exact z_in (by omega) (by decide)) ?_ | refine z_bt1 (by decide) ?_ | refine z_bf1 (by decide) ?_ | refine z_bt2 (by decide) ?_ | refine z_bf2 (by decide) ?_); conv => whnf)
          exact nm a
      · refine z_WP_gos [92] 1000 fun K C hK hC => ?_
        conv => whnf
        repeat ((first | refine And.intro (by (conv => arg 2; whnf); (try simp only [z_lit, nI_add, pk_mul, z_pr1, z_pr2]); exact z_in (by omega) (by decide)) ?_ | refine z_bt1 (by decide) ?_ | refine z_bf1 (by decide) ?_ | refine z_bt2 (by decide) ?_ | refine z_bf2 (by decide) ?_); conv => whnf)
        refine hC _ _ _ _ _ _ _ _ _ _ (fun _ _ _ _ _ _ q => q) (sp_Mod_isIn (fun a b => ?_) (fun a => ?_))
        conv => whnf
        · repeat ((first | refine And.intro (by (conv => arg 2; whnf); (try simp only [z_lit, nI_add, pk_mul, z_pr1, z_pr2]); exact z_in (by omega) (by decide)) ?_ | refine z_bt1 (by decide) ?_ | refine z_bf1 (by decide) ?_ | refine z_bt2 (by decide) ?_ | refine z_bf2 (by decide) ?_); conv => whnf)
          refine hK _ _ _ _ _ _ _ _ _ _ (fin _ (fun z => absurd z (by decide)) ⟨a, b⟩)
        · repeat ((first | refine And.intro (by (conv => arg 2; whnf); (try simp only [z_lit, nI_add, pk_mul, z_pr1, z_pr2]); exact z_in (by omega) (by decide)) ?_ | refine z_bt1 (by decide) ?_ | refine z_bf1 (by decide) ?_ | refine z_bt2 (by decide) ?_ | refine z_bf2 (by decide) ?_); conv => whnf)
          exact nm a
      · refine z_WP_gos [92] 1000 fun K C hK hC => ?_
        conv => whnf
        repeat ((first | refine And.intro (by (conv => arg 2; whnf); (try simp only [z_lit, nI_add, pk_mul, z_pr1, z_pr2]); exact z_in (by omega) (by decide)) ?_ | refine z_bt1 (by decide) ?_ | refine z_bf1 (by decide) ?_ | refine z_bt2 (by decide) ?_ | refine z_bf2 (by decide) ?_); conv => whnf)
        refine hC _ _ _ _ _ _ _ _ _ _ (fun _ _ _ _ _ _ q => q) (sp_Mod_isIn (fun a b => ?_) (fun a => ?_))
        conv => whnf
        · repeat ((first | refine And.intro (by (conv => arg 2; whnf); (try simp only [z_lit, nI_add, pk_mul, z_pr1, z_pr2]); exact z_in (by omega) (by decide)) ?_ | refine z_bt1 (by decide) ?_ | refine z_bf1 (by decide) ?_ | refine z_bt2 (by decide) ?_ | refine z_bf2 (by decide) ?_); conv => whnf)
          refine hK _ _ _ _ _ _ _ _ _ _ (fin _ (fun z => absurd z (by decide)) ⟨a, b⟩)
        · repeat ((first | refine And.intro (by (conv => arg 2; whnf); (try simp only [z_lit, nI_add, pk_mul, z_pr1, z_pr2]); exact z_in (by omega) (by decide)) ?_ | refine z_bt1 (by decide) ?_ | refine z_bf1 (by decide) ?_ | refine z_bt2 (by decide) ?_ | refine z_bf2 (by decide) ?_); conv => whnf)
          exact nm a
      · refine z_WP_gos [92] 1000 fun K C hK hC => ?_
        conv => whnf
        repeat ((first | refine And.intro (by (conv => arg 2; whnf); (try simp only [z_lit, nI_add, pk_mul, z_pr1, z_pr2]); exact z_in (by omega) (by decide)) ?_ | refine z_bt1 (by decide) ?_ | refine z_bf1 (by decide) ?_ | refine z_bt2 (by decide) ?_ | refine z_bf2 (by decide) ?_); conv => whnf)
        refine hC _ _ _ _ _ _ _ _ _ _ (fun _ _ _ _ _ _ q => q) (sp_Mod_isIn (fun a b => ?_) (fun a => ?_))
        conv => whnf
        · repeat ((first | refine And.intro (by (conv => arg 2; whnf); (try simp only [z_lit, nI_add, pk_mul, z_pr1, z_pr2]); exact z_in (by omega) (by decide)) ?_ | refine z_bt1 (by decide) ?_ | refine z_bf1 (by decide) ?_ | refine z_bt2 (by decide) ?_ | refine z_bf2 (by decide) ?_); conv => whnf)
          refine ⟨fun g => ?_, fun g => ?_⟩ <;> (try simp (disch := omega) only [z_lit, nI_add, pk_mul, z_pr1, z_pr2, nI_clamp, z_m3_40, z_m3_41, z_m3_44, z_m3_u40, z_m3_u41, z_m3_u44, z_m3_m3, pk_us, pk_un] at g) <;> (conv => whnf)
          · refine hK _ _ _ _ _ _ _ _ _ _ (fin _ (fun _ => g) ⟨a, b⟩)
          · exact no rfl g
        · repeat ((first | refine And.intro (by (conv => arg 2; whnf); (try simp only [z_lit, nI_add, pk_mul, z_pr1, z_pr2]); exact z_in (by omega) (by decide)) ?_ | refine z_bt1 (by decide) ?_ | refine z_bf1 (by decide) ?_ | refine z_bt2 (by decide) ?_ | refine z_bf2 (by decide) ?_); conv => whnf)
          exact nm a
      · refine z_WP_gos [92] 1000 fun K C hK hC => ?_
        conv => whnf
        repeat ((first | refine And.intro (by (conv => arg 2; whnf); (try simp only [z_lit, nI_add, pk_mul, z_pr1, z_pr2]); exact z_in (by omega) (by decide)) ?_ | refine z_bt1 (by decide) ?_ | refine z_bf1 (by decide) ?_ | refine z_bt2 (by decide) ?_ | refine z_bf2 (by decide) ?_); conv => whnf)
        refine hC _ _ _ _ _ _ _ _ _ _ (fun _ _ _ _ _ _ q => q) (sp_Mod_isIn (fun a b => ?_) (fun a => ?_))
        conv => whnf
        · repeat ((first | refine And.intro (by (conv => arg 2; whnf); (try simp only [z_lit, nI_add, pk_mul, z_pr1, z_pr2]); exact z_in (by omega) (by decide)) ?_ | refine z_bt1 (by decide) ?_ | refine z_bf1 (by decide) ?_ | refine z_bt2 (by decide) ?_ | refine z_bf2 (by decide) ?_); conv => whnf)
          refine hK _ _ _ _ _ _ _ _ _ _ (fin _ (fun z => absurd z (by decide)) ⟨a, b⟩)
        · repeat ((first | refine And.intro (by (conv => arg 2; whnf); (try simp only [z_lit, nI_add, pk_mul, z_pr1, z_pr2]); exact z_in (by omega) (by decide)) ?_ | refine z_bt1 (by decide) ?_ | refine z_bf1 (by decide) ?_ | refine z_bt2 (by decide) ?_ | refine z_bf2 (by decide) ?_); conv => whnf)
          exact nm a
    repeat ((first | refine And.intro (by (conv => arg 2; whnf); (try simp only [z_lit, nI_add, pk_mul, z_pr1, z_pr2]); exact z_in (by omega) (by decide)) ?_ | refine z_bt1 (by decide) ?_ | refine z_bf1 (by decide) ?_ | refine z_bt2 (by decide) ?_ | refine z_bf2 (by decide) ?_); conv => whnf)
    refine ⟨fun g => ?_, fun g => ?_⟩
    · have n8 : ¬ t' = 8 := fun z => g (by rw [z]; rfl)
      conv => whnf
      refine hC _ _ _ _ _ _ _ _ _ _ (fun _ _ _ _ _ _ q => q) (sp_Mod_isIn (fun c e => ?_) (fun c => ?_))
      conv => whnf
      · obtain ⟨q', hq, eq⟩ := isIn_nat (b := 9) (by decide) c e
        repeat ((first | refine And.intro (by (conv => arg 2; whnf); (try simp only [z_lit, nI_add, pk_mul, z_pr1, z_pr2]); exact z_in (by omega) (by decide)) ?_ | refine z_bt1 (by decide) ?_ | refine z_bf1 (by decide) ?_ | refine z_bt2 (by decide) ?_ | refine z_bf2 (by decide) ?_); conv => whnf)
        refine hK _ _ _ _ _ _ _ _ _ _ (main q' hq eq (fun z => absurd z n8))
      · repeat ((first | refine And.intro (by (conv => arg 2; whnf); (try simp only [z_lit, nI_add, pk_mul, z_pr1, z_pr2]); exact z_in (by omega) (by decide)) ?_ | refine z_bt1 (by decide) ?_ | refine z_bf1 (by decide) ?_ | refine z_bt2 (by decide) ?_ | refine z_bf2 (by decide) ?_); conv => whnf)
        refine bad (fun x y z w => c ?_)
        obtain ⟨z1, z2, z3, z4, z5, -⟩ := w
        rw [z2]
        exact ⟨nI_pos' (by omega), nI_le (b := 9) z5 (by decide)⟩
    · have n8 : t' = 8 := nI_inj9 (by omega) (by omega) g
      conv => whnf
      refine hC _ _ _ _ _ _ _ _ _ _ (fun _ _ _ _ _ _ q => q) (sp_Mod_isIn (fun c e => ?_) (fun c => ?_))
      conv => whnf
      · obtain ⟨q', hq, eq⟩ := isIn_nat (b := 0) (by decide) c e
        repeat ((first | refine And.intro (by (conv => arg 2; whnf); (try simp only [z_lit, nI_add, pk_mul, z_pr1, z_pr2]); exact z_in (by omega) (by decide)) ?_ | refine z_bt1 (by decide) ?_ | refine z_bf1 (by decide) ?_ | refine z_bt2 (by decide) ?_ | refine z_bf2 (by decide) ?_); conv => whnf)
        refine hK _ _ _ _ _ _ _ _ _ _ (main q' (by omega) eq (fun _ => by omega))
      · repeat ((first | refine And.intro (by (conv => arg 2; whnf); (try simp only [z_lit, nI_add, pk_mul, z_pr1, z_pr2]); exact z_in (by omega) (by decide)) ?_ | refine z_bt1 (by decide) ?_ | refine z_bf1 (by decide) ?_ | refine z_bt2 (by decide) ?_ | refine z_bf2 (by decide) ?_); conv => whnf)
        refine bad (fun x y z w => c ?_)
        obtain ⟨z1, z2, z3, z4, z5, z6, -⟩ := w
        have : t' = x := nI_inj9 (by omega) (by omega) z1
        rw [z2, z6 (by omega)]
        exact ⟨by decide, by decide⟩
  · repeat ((first | refine And.intro (by (conv => arg 2; whnf); (try simp only [z_lit, nI_add, pk_mul, z_pr1, z_pr2]); exact z_in (by omega) (by decide)) ?_ | refine z_bt1 (by decide) ?_ | refine z_bf1 (by decide) ?_ | refine z_bt2 (by decide) ?_ | refine z_bf2 (by decide) ?_); conv => whnf)
    refine bad (fun x y z w => a ?_)
    obtain ⟨z1, z2, z3, z4, -⟩ := w
    rw [z1]
    exact ⟨nI_pos' (by omega), nI_le (b := 8) z4 (by decide)⟩
end
