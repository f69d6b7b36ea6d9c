/-! the class: all times through a line -/
section
variable {L : Nat} {xs : Nat → Int32} {d : Nat} {kp sp wd : Value} {I : z_I} {s : z_sg} {R : z_R} {J : z_J} {F : z_F} {cn : Nat} {Q : z_Q}
theorem cp_quietTime {w : Nat → Int32} {i : Nat} (hp : pS I w) (hi : i < (w 8).toNatClampNeg) (h24 : (w 8).toNatClampNeg ≤ 24) (ho : ln_ok w i) (hQ : Q (some (.int (nI (s_q w i)))) I (z_R0 kp sp wd) J F cn) : z_M (z_X0 L xs) z_P0 (d + 1) m_Plan_quietTime [.ref 18, .int (nI i)] I (z_R0 kp sp wd) J F cn Q := by
  obtain ⟨b0, -, -, -, -, b5, -⟩ := hp.2 i hi
  have hk := ho.2.1
  have hn := ho.2.2.2.2.2.2.1
  unfold s_q at hQ
  unfold l_n at b5
  refine z_WP_gos [13] 1000 fun K C hK hC => ?_
  conv => whnf
  refine hC _ _ _ _ _ _ _ _ _ _ (fun _ _ _ _ _ _ q => q) (cp_told (f := 5) (by omega) (by decide) b5 ?_)
  conv => whnf
  refine hC _ _ _ _ _ _ _ _ _ _ (fun _ _ _ _ _ _ q => q) (cp_told (f := 0) (by omega) (by decide) b0 ?_)
  conv => whnf
  refine hK _ _ _ _ _ _ _ _ _ _ (?_)
  have h : lnn w i 0 = 0 ∨ lnn w i 0 = 1 ∨ lnn w i 0 = 2 ∨ lnn w i 0 = 3 ∨ lnn w i 0 = 4 ∨ lnn w i 0 = 5 := by omega
  rcases h with h | h | h | h | h | h <;> rw [h] at hQ ⊢ <;> simp only at hQ
  · refine z_WP_ts 48 rfl (by decide) ?_
    refine z_WP_gos [] 1000 fun K C hK hC => ?_
    conv => whnf
    refine z_Qi hQ ?_ rfl
    rw [if_neg (by decide), if_neg (by decide)]
    simp (disch := omega) only [z_lit, nI_add, pk_mul, z_pr1, z_pr2, nI_clamp, z_up_row, z_row_s, z_row_n, z_row_row, pk_us, pk_un]
  · refine z_WP_ts 73 rfl (by decide) ?_
    refine z_WP_gos [] 1000 fun K C hK hC => ?_
    conv => whnf
    exact hQ
  · refine z_WP_ts 56 rfl (by decide) ?_
    refine z_WP_gos [] 1000 fun K C hK hC => ?_
    conv => whnf
    exact hQ
  · refine z_WP_ts 73 rfl (by decide) ?_
    refine z_WP_gos [] 1000 fun K C hK hC => ?_
    conv => whnf
    exact hQ
  · have hc : lnn w i 10 < 32 := ho.2.2.2.2.2.2.2.2.2.2.2.2.2.2.2.1
    refine z_WP_ts 59 rfl (by decide) ?_
    rw [if_pos rfl]
    refine z_WP_gos [] 1000 fun K C hK hC => ?_
    conv => whnf
    refine ⟨fun g => ?_, fun g => ?_⟩
    · rw [if_neg (fun z => g (by rw [z]; rfl))] at hQ
      conv => whnf
      exact hQ
    · rw [if_pos (nI_inj9 (by omega) (by decide) g)] at hQ
      conv => whnf
      exact hQ
  · refine z_WP_ts 73 rfl (by decide) ?_
    refine z_WP_gos [] 1000 fun K C hK hC => ?_
    conv => whnf
    exact hQ
def hasS (r : Nat → Int64) (n : Nat) (A : Nat → Prop) : Prop := ∀ t, t < 64 * n → (lb r t = true ↔ A t)
theorem hasS_c {r : Nat → Int64} {n : Nat} {A B : Nat → Prop} (h : hasS r n A) (e : ∀ t, t < 64 * n → (A t ↔ B t)) : hasS r n B := fun t ht => (h t ht).trans (e t ht)
theorem lp_goFin {n : Nat} {A : Nat → Prop} {l2 l3 l4 l5 l6 : Int32} (hn : n ≤ 157) (hA : hasS (J 37) n A) (hQ2 : ∀ J', hasS (J' 36) n A → Q none I (z_R0 kp sp wd) J' F cn) :
    z_WP (z_X0 L xs) z_P0 (d + 2) m_Times_goThrough 164 [some (.ref 35), some (.ref 1), some (.int l2), some (.int l3), some (.int l4), some (.int l5), some (.int l6)] [] I (z_R0 kp sp wd) J F cn 0 0 Q := by
  refine z_WP_gos [] 1000 fun K C hK hC => ?_
  conv => whnf
  refine And.intro ⟨(by (try simp only [z_lit, nI_add, pk_mul]); exact nI_pos (by omega)), (by (try simp only [z_lit, nI_add, pk_mul]); exact nI_pos (by omega)), (by (try simp only [z_lit, nI_add, pk_mul]); exact nI_pos (by omega)), (by (try simp (disch := omega) only [z_lit, nI_clamp, nI_add, pk_mul]); exact (show _ ≤ (157 : Nat) by omega)), (by (try simp (disch := omega) only [z_lit, nI_clamp, nI_add, pk_mul]); exact (show _ ≤ (157 : Nat) by omega))⟩ ?_
  conv => whnf
  refine hQ2 _ fun t ht => ?_
  rw [← hA t ht]
  unfold lb z_cpy
  rw [z_row_s]
  show wbt (va_cpy (J 37) (J 36) 0 0 157 (t / 64)) (t % 64) = true ↔ _
  rw [pk_cpy_in (by omega) (by omega)]
  rw [show 0 + (t / 64 - 0) = t / 64 by omega]
theorem lp_go {w : Nat → Int32} {i M rt n : Nat} (hp : pS I w) (ht : tb_ok w) (hi : i < (w 8).toNatClampNeg) (h6 : I 1 6 = nI rt) (hr : rt ≤ 3) (hM9 : M ≤ 9999) (hsp : I 35 4 = nI n) (hn : n ≤ 157) (hM : M < 64 * n) {T : Nat → Prop}
    (hQ : ∀ J', hasS (J' 36) n T → Q none I (z_R0 kp sp wd) J' F cn) :
    ∀ j k (J : z_J) (O N : Nat → Prop), k + j = rt + 1 → hasS (J 38) n O → hasS (J 37) n N → (∀ x, O x → x + s_time w i ≤ M) → (j = 0 → ∀ x, ¬ O x) →
    (∀ t, t < 64 * n → ((N t ∨ ∃ x, O x ∧ rch M (s_time w i) (s_q w i) (decide (lnn w i 0 = 3)) j x t) ↔ T t)) →
    z_WP (z_X0 L xs) z_P0 (d + 2) m_Times_goThrough 76 [some (.ref 35), some (.ref 1), some (.int (nI i)), some (.int (nI (s_time w i))), some (.int (z_bi (decide (lnn w i 0 = 3)))), some (.int (nI M - nI (s_time w i))), some (.int (nI k))] [] I (z_R0 kp sp wd) J F cn 0 0 Q := by
  have h24 := ht.2.1
  have ho := ht.2.2 i hi
  obtain ⟨q1, q2, q3⟩ := s_q_ok ho
  have hlim := sub_nI (dm := s_time w i) hM9 q3
  intro j
  induction j with
  | zero =>
    intro k J O N hk hO hN hO1 hO2 hT
    refine z_WP_gos [76, 164] 1000 fun K C hK hC => ?_
    conv => whnf
    rw [h6]
    refine ⟨fun _ => ?_, fun g => absurd (nI_lt (by omega) (by omega)) g⟩
    conv => whnf
    refine hK _ _ _ _ _ _ _ _ _ _ (lp_goFin hn (hasS_c hN fun t h => ?_) hQ)
    rw [← hT t h]
    exact ⟨Or.inl, fun z => z.elim id fun ⟨x, a, _⟩ => (hO2 rfl x a).elim⟩
  | succ j ih =>
    intro k J O N hk hO hN hO1 hO2 hT
    refine z_WP_gos [76, 164] 1000 fun K C hK hC => ?_
    conv => whnf
    rw [h6]
    refine ⟨fun g => absurd g (nI_nlt (by omega) (by omega)), fun _ => ?_⟩
    conv => whnf
    refine hC _ _ _ _ _ _ _ _ _ _ (fun _ _ _ _ _ _ q => q) (ct_shift37 hsp hn (by omega) (fun x1 hx1 => ?_))
    conv => whnf
    have hN1 : hasS x1 n (fun t => N t ∨ ∃ x, O x ∧ t = x + s_time w i) := fun t h => by
      rw [hx1 t h]
      simp only [Bool.or_eq_true, Bool.and_eq_true, decide_eq_true_eq]
      rw [hN t h, hO (t - s_time w i) (by omega)]
      constructor
      · rintro (a | ⟨a, b⟩)
        · exact Or.inl a
        · exact Or.inr ⟨_, b, by omega⟩
      · rintro (a | ⟨x, a, b⟩)
        · exact Or.inl a
        · refine Or.inr ⟨by omega, ?_⟩
          rw [show t - s_time w i = x by omega]; exact a
    by_cases hal : lnn w i 0 = 3
    · rw [decide_eq_true hal]
      rw [decide_eq_true hal] at hT
      repeat ((first | refine And.intro (by (conv => arg 2; whnf); (try simp only [z_lit, nI_add, pk_mul, z_pr1, z_pr2]); exact z_in (by omega) (by decide)) ?_ | refine z_bt1 (by decide) ?_ | refine z_bf1 (by decide) ?_ | refine z_bt2 (by decide) ?_ | refine z_bf2 (by decide) ?_); conv => whnf)
      refine hK _ _ _ _ _ _ _ _ _ _ (lp_goFin hn ?_ hQ)
      rw [z_row_s]
      refine hasS_c hN1 fun t h => ?_
      rw [← hT t h]
      constructor
      · rintro (a | ⟨x, a, b⟩)
        · exact Or.inl a
        · refine Or.inr ⟨x, a, ?_⟩
          rw [rch_s, if_pos (hO1 x a)]
          exact Or.inl b
      · rintro (a | ⟨x, a, b⟩)
        · exact Or.inl a
        · rw [rch_s, if_pos (hO1 x a)] at b
          rcases b with b | ⟨b, _⟩
          · exact Or.inr ⟨x, a, b⟩
          · exact absurd b (by decide)
    · rw [decide_eq_false hal]
      rw [decide_eq_false hal] at hT ih
      repeat ((first | refine And.intro (by (conv => arg 2; whnf); (try simp only [z_lit, nI_add, pk_mul, z_pr1, z_pr2]); exact z_in (by omega) (by decide)) ?_ | refine z_bt1 (by decide) ?_ | refine z_bf1 (by decide) ?_ | refine z_bt2 (by decide) ?_ | refine z_bf2 (by decide) ?_); conv => whnf)
      refine hC _ _ _ _ _ _ _ _ _ _ (fun _ _ _ _ _ _ q => q) (ct_fill39 (fun r hr => ?_))
      conv => whnf
      refine hC _ _ _ _ _ _ _ _ _ _ (fun _ _ _ _ _ _ q => q) (cp_quietTime hp hi h24 ho ?_)
      conv => whnf
      refine hC _ _ _ _ _ _ _ _ _ _ (fun _ _ _ _ _ _ q => q) (ct_shift39 hsp hn (by omega) (fun x2 hx2 => ?_))
      conv => whnf
      have hQ2 : hasS x2 n (fun t => ∃ x, O x ∧ t = x + s_q w i) := fun t h => by
        rw [hx2 t h, z_row_s, z_row_n _ _ (show (38 : Nat) ≠ 39 by decide), z_row_n _ _ (show (38 : Nat) ≠ 37 by decide)]
        have hz : lb r t = false := by unfold lb; rw [hr _ (by omega), wbt_zero]
        rw [hz, Bool.false_or]
        simp only [Bool.and_eq_true, decide_eq_true_eq]
        rw [hO (t - s_q w i) (by omega)]
        constructor
        · rintro ⟨a, b⟩
          exact ⟨_, b, by omega⟩
        · rintro ⟨x, a, b⟩
          refine ⟨by omega, ?_⟩
          rw [show t - s_q w i = x by omega]; exact a
      simp (disch := omega) only [z_lit, nI_add, pk_mul, z_pr1, z_pr2, nI_clamp, z_up_row, z_row_s, z_row_n, z_row_row, pk_us, pk_un]
      rw [h6]
      refine ⟨fun g => ?_, fun g => ?_⟩
      · have hj : j = 0 := by
          have := (nI_leI (by omega) (by omega)).mp g
          omega
        subst hj
        conv => whnf
        refine hC _ _ _ _ _ _ _ _ _ _ (fun _ _ _ _ _ _ q => q) (ct_part39 hsp hn (by decide) (by decide) (fun o x3 v ho3 hx3 _ => ?_))
        conv => whnf
        simp (disch := omega) only [z_lit, nI_add, pk_mul, z_pr1, z_pr2, nI_clamp, z_up_row, z_row_s, z_row_n, z_row_row, pk_us, pk_un]
        refine hK _ _ _ _ _ _ _ _ _ _ (ih (k + 1) _ (fun _ => False) (fun t => (N t ∨ ∃ x, O x ∧ t = x + s_time w i) ∨ ∃ x, O x ∧ t = x + s_q w i) (by omega) ?_ ?_ (fun _ z => z.elim) (fun _ _ z => z) (fun t h => ?_))
        · rw [z_row_n _ _ (show (38 : Nat) ≠ 37 by decide), z_row_s]
          intro t h
          rw [ho3 t h, decide_eq_false (show ¬ (t : Int) ≤ (-1 : Int32).toInt from fun z => by rw [show (-1 : Int32).toInt = -1 from rfl] at z; omega)]
          simp
        · rw [z_row_s]
          intro t h
          rw [hx3 t h, decide_eq_false (show ¬ (t : Int) ≤ (-1 : Int32).toInt from fun z => by rw [show (-1 : Int32).toInt = -1 from rfl] at z; omega)]
          simp only [Bool.or_eq_true, Bool.and_eq_true, Bool.not_false, and_true]
          rw [z_row_s, z_row_n _ _ (show (37 : Nat) ≠ 39 by decide), z_row_s, hQ2 t h, hN1 t h]
        · rw [← hT t h]
          constructor
          · rintro ((( a | ⟨x, a, b⟩) | ⟨x, a, b⟩) | ⟨x, a, b⟩)
            · exact Or.inl a
            · exact Or.inr ⟨x, a, by rw [rch_s, if_pos (hO1 x a)]; exact Or.inl b⟩
            · exact Or.inr ⟨x, a, by rw [rch_s, if_pos (hO1 x a)]; exact Or.inr ⟨rfl, b⟩⟩
            · exact a.elim
          · rintro (a | ⟨x, a, b⟩)
            · exact Or.inl (Or.inl (Or.inl a))
            · rw [rch_s, if_pos (hO1 x a)] at b
              rcases b with b | ⟨_, b⟩
              · exact Or.inl (Or.inl (Or.inr ⟨x, a, b⟩))
              · exact Or.inl (Or.inr ⟨x, a, b⟩)
      · have hj : 0 < j := by
          rcases Nat.eq_zero_or_pos j with z | z
          · exact absurd (nI_le (by omega) (by omega)) g
          · exact z
        obtain ⟨j', rfl⟩ : ∃ j', j = j' + 1 := ⟨j - 1, by omega⟩
        conv => whnf
        refine hC _ _ _ _ _ _ _ _ _ _ (fun _ _ _ _ _ _ q => q) (ct_part39 hsp hn (by rw [hlim]; omega) (by rw [hlim]; omega) (fun o x3 v ho3 hx3 _ => ?_))
        conv => whnf
        have el : ∀ t : Nat, decide ((t : Int) ≤ (nI M - nI (s_time w i)).toInt) = decide (t + s_time w i ≤ M) := fun t => by
          congr 1
          apply propext
          rw [hlim]
          omega
        simp (disch := omega) only [z_lit, nI_add, pk_mul, z_pr1, z_pr2, nI_clamp, z_up_row, z_row_s, z_row_n, z_row_row, pk_us, pk_un]
        refine hK _ _ _ _ _ _ _ _ _ _ (ih (k + 1) _ (fun t => (∃ x, O x ∧ t = x + s_q w i) ∧ t + s_time w i ≤ M) (fun t => (N t ∨ ∃ x, O x ∧ t = x + s_time w i) ∨ ((∃ x, O x ∧ t = x + s_q w i) ∧ ¬ t + s_time w i ≤ M)) (by omega) ?_ ?_ (fun _ z => z.2) (fun z => by omega) (fun t h => ?_))
        · rw [z_row_n _ _ (show (38 : Nat) ≠ 37 by decide), z_row_s]
          intro t h
          rw [ho3 t h, el]
          simp only [Bool.and_eq_true, decide_eq_true_eq]
          rw [z_row_s, hQ2 t h]
        · rw [z_row_s]
          intro t h
          rw [hx3 t h, el]
          simp only [Bool.or_eq_true, Bool.and_eq_true, Bool.not_eq_true', decide_eq_false_iff_not]
          rw [z_row_s, z_row_n _ _ (show (37 : Nat) ≠ 39 by decide), z_row_s, hQ2 t h, hN1 t h]
        · rw [← hT t h]
          constructor
          · rintro (((a | ⟨x, a, b⟩) | ⟨⟨x, a, b⟩, c⟩) | ⟨y, ⟨⟨x, a, b⟩, c⟩, e⟩)
            · exact Or.inl a
            · exact Or.inr ⟨x, a, by rw [rch_s, if_pos (hO1 x a)]; exact Or.inl b⟩
            · refine Or.inr ⟨x, a, ?_⟩
              rw [rch_s, if_pos (hO1 x a)]
              refine Or.inr ⟨rfl, ?_⟩
              rw [rch_s, if_neg (by rw [← b]; exact c)]
              exact b
            · refine Or.inr ⟨x, a, ?_⟩
              rw [rch_s, if_pos (hO1 x a)]
              exact Or.inr ⟨rfl, by rw [← b]; exact e⟩
          · rintro (a | ⟨x, a, b⟩)
            · exact Or.inl (Or.inl (Or.inl a))
            · rw [rch_s, if_pos (hO1 x a)] at b
              rcases b with b | ⟨_, b⟩
              · exact Or.inl (Or.inl (Or.inr ⟨x, a, b⟩))
              · by_cases c : x + s_q w i + s_time w i ≤ M
                · exact Or.inr ⟨x + s_q w i, ⟨⟨x, a, rfl⟩, c⟩, b⟩
                · rw [rch_s, if_neg c] at b
                  exact Or.inl (Or.inr ⟨⟨x, a, b⟩, by rw [b]; exact c⟩)
end
