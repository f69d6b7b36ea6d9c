/-! the class: what is told of a terminal, noise -/
theorem tell8 : ∀ v : Fin 127, (nI v.val &&& nI 4294967169 = nI 0) ↔ v.val % 2 = 0 := by decide +kernel
section
variable {L : Nat} {xs : Nat → Int32} {d : Nat} {kp sp wd : Value} {I : z_I} {s : z_sg} {R : z_R} {J : z_J} {F : z_F} {cn : Nat} {Q : z_Q} {n k : Nat}
theorem cu_tell {t q v : Int32} (h1 : ∀ t' q' v', tmv t q v t' q' v' → Q (some (.int 1)) (z_row I 3 (upd (I 3) (t' * 18 + q') (nI v'))) (z_R0 kp sp wd) J F cn) (h0 : (∀ t' q' v', ¬ tmv t q v t' q' v') → Q (some (.int 0)) I (z_R0 kp sp wd) J F cn) :
    z_M (z_X0 L xs) z_P0 d m_Units_tell [.ref 2, .int t, .int q, .int v] I (z_R0 kp sp wd) J F cn Q := by
  have bad : ((∀ t' q' v', ¬ tmv t q v t' q' v')) → ((0 : Int32) = 0 ∨ (0 : Int32) = 1) ∧ Q (some (.int 0)) I (z_R0 kp sp wd) J F cn := fun h => ⟨Or.inl rfl, h0 h⟩
  refine z_WP_gos [32] 1000 fun K C hK hC => ?_
  conv => whnf
  refine ⟨fun a => ?_, fun a => ?_⟩
  · conv => whnf
    exact bad (fun x y z w => by rw [w.1] at a; exact nI_pos (by have := w.2.2.2.1; omega) a)
  · conv => whnf
    refine ⟨fun b => ?_, fun b => ?_⟩
    · conv => whnf
      exact bad (fun x y z w => by rw [w.1] at b; exact nI_nlt (a := 8) w.2.2.2.1 (by decide) b)
    · obtain ⟨t', ht, et⟩ := isIn_nat (b := 8) (by decide) (Int32.not_lt.mp a) (Int32.not_lt.mp b)
      subst et
      conv => whnf
      refine ⟨fun c => ?_, fun c => ?_⟩
      · conv => whnf
        exact bad (fun x y z w => by rw [w.2.1] at c; exact nI_pos (by have := w.2.2.2.2.1; omega) c)
      · conv => whnf
        refine ⟨fun e => ?_, fun e => ?_⟩
        · conv => whnf
          exact bad (fun x y z w => by rw [w.2.1] at e; exact nI_nlt (a := 9) w.2.2.2.2.1 (by decide) e)
        · obtain ⟨q', hq, eq⟩ := isIn_nat (b := 9) (by decide) (Int32.not_lt.mp c) (Int32.not_lt.mp e)
          subst eq
          have main : (t' = 8 → q' = 0) → z_WP (z_X0 L xs) z_P0 d m_Units_tell 32 [some (.ref 2), some (.int (nI t')), some (.int (nI q')), some (.int v)] [] I (z_R0 kp sp wd) J F cn 0 0 Q := by
            intro h8
            have neg : v < nI 0 → ((0 : Int32) = 0 ∨ (0 : Int32) = 1) ∧ Q (some (.int 0)) I (z_R0 kp sp wd) J F cn := fun g => bad (fun x y z w => by
              rw [w.2.2.1] at g
              exact nI_pos (by have := w.2.2.2.2.2.2.1; have := tmost_le y; omega) g)
            have big : nI (tmost q') < v → ((0 : Int32) = 0 ∨ (0 : Int32) = 1) ∧ Q (some (.int 0)) I (z_R0 kp sp wd) J F cn := fun g => bad (fun x y z w => by
              obtain ⟨w1, w2, w3, w4, w5, w6, w7, w8⟩ := w
              have : q' = y := nI_inj9 (by omega) (by omega) w2
              subst this
              rw [w3] at g
              exact nI_nlt (a := tmost q') w7 (by have := tmost_le q'; omega) g)
            have odd : q' = 8 → ¬ v &&& nI 4294967169 = nI 0 → ((0 : Int32) = 0 ∨ (0 : Int32) = 1) ∧ Q (some (.int 0)) I (z_R0 kp sp wd) J F cn := fun z g => bad (fun x y v' w => by
              obtain ⟨w1, w2, w3, w4, w5, w6, w7, w8⟩ := w
              have : q' = y := nI_inj9 (by omega) (by omega) w2
              subst this
              subst z
              rw [w3] at g
              have h127 : v' < 127 := by have : v' ≤ 126 := w7; omega
              exact g ((tell8 ⟨v', h127⟩).mpr (w8 rfl)))
            have fin : ¬ v < nI 0 → ¬ nI (tmost q') < v → (q' = 8 → v &&& nI 4294967169 = nI 0) → z_WP (z_X0 L xs) z_P0 d m_Units_tell 60 [some (.ref 2), some (.int (nI t')), some (.int (nI q')), some (.int v)] [] I (z_R0 kp sp wd) J F cn 0 0 Q := by
              intro g1 g2 g3
              obtain ⟨v', hv, ev⟩ := isIn_nat (b := tmost q') (by have := tmost_le q'; omega) (Int32.not_lt.mp g1) (Int32.not_lt.mp g2)
              subst ev
              have q1 := h1 t' q' v' ⟨rfl, rfl, rfl, ht, hq, h8, hv, fun z => by
                subst z
                have h127 : v' < 127 := by have : v' ≤ 126 := hv; omega
                exact (tell8 ⟨v', h127⟩).mp (g3 rfl)⟩
              refine z_WP_gos [] 1000 fun K C hK hC => ?_
              conv => whnf
              repeat ((first | refine And.intro (by (conv => arg 2; whnf); (try simp only [z_lit, nI_add, pk_mul, z_pr1, z_pr2]); exact z_in (by omega) (by decide)) ?_ | refine z_bt1 (by decide) ?_ | refine z_bf1 (by decide) ?_ | refine z_bt2 (by decide) ?_ | refine z_bf2 (by decide) ?_); conv => whnf)
              refine ⟨Or.inr rfl, z_Qi q1 rfl ?_⟩
              simp (disch := omega) only [z_lit, nI_add, pk_mul, z_pr1, z_pr2, nI_clamp, z_up_row, z_row_s, z_row_n, z_row_row, pk_us, pk_un]
            rcases (show q' = 0 ∨ q' = 1 ∨ q' = 2 ∨ q' = 3 ∨ q' = 4 ∨ q' = 5 ∨ q' = 6 ∨ q' = 7 ∨ q' = 8 ∨ q' = 9 by omega) with z | z | z | z | z | z | z | z | z | z <;> subst z
            · refine z_WP_gos [60] 1000 fun K C hK hC => ?_
              conv => whnf
              refine ⟨fun g => ?_, fun g => ?_⟩
              · conv => whnf
                exact neg g
              · conv => whnf
                refine And.intro (z_in (n := 0) (N := 10) (by decide) (by decide)) ?_
                conv => whnf
                refine ⟨fun g2 => ?_, fun g2 => ?_⟩
                · conv => whnf
                  exact big g2
                · conv => whnf
                  repeat ((first | refine And.intro (by (conv => arg 2; whnf); (try simp only [z_lit, nI_add, pk_mul, z_pr1, z_pr2]); exact z_in (by omega) (by decide)) ?_ | refine z_bt1 (by decide) ?_ | refine z_bf1 (by decide) ?_ | refine z_bt2 (by decide) ?_ | refine z_bf2 (by decide) ?_); conv => whnf)
                  refine hK _ _ _ _ _ _ _ _ _ _ (fin g g2 (fun z => absurd z (by decide)))
            · refine z_WP_gos [60] 1000 fun K C hK hC => ?_
              conv => whnf
              refine ⟨fun g => ?_, fun g => ?_⟩
              · conv => whnf
                exact neg g
              · conv => whnf
                refine And.intro (z_in (n := 1) (N := 10) (by decide) (by decide)) ?_
                conv => whnf
                refine ⟨fun g2 => ?_, fun g2 => ?_⟩
                · conv => whnf
                  exact big g2
                · conv => whnf
                  repeat ((first | refine And.intro (by (conv => arg 2; whnf); (try simp only [z_lit, nI_add, pk_mul, z_pr1, z_pr2]); exact z_in (by omega) (by decide)) ?_ | refine z_bt1 (by decide) ?_ | refine z_bf1 (by decide) ?_ | refine z_bt2 (by decide) ?_ | refine z_bf2 (by decide) ?_); conv => whnf)
                  refine hK _ _ _ _ _ _ _ _ _ _ (fin g g2 (fun z => absurd z (by decide)))
            · refine z_WP_gos [60] 1000 fun K C hK hC => ?_
              conv => whnf
              refine ⟨fun g => ?_, fun g => ?_⟩
              · conv => whnf
                exact neg g
              · conv => whnf
                refine And.intro (z_in (n := 2) (N := 10) (by decide) (by decide)) ?_
                conv => whnf
                refine ⟨fun g2 => ?_, fun g2 => ?_⟩
                · conv => whnf
                  exact big g2
                · conv => whnf
                  repeat ((first | refine And.intro (by (conv => arg 2; whnf); (try simp only [z_lit, nI_add, pk_mul, z_pr1, z_pr2]); exact z_in (by omega) (by decide)) ?_ | refine z_bt1 (by decide) ?_ | refine z_bf1 (by decide) ?_ | refine z_bt2 (by decide) ?_ | refine z_bf2 (by decide) ?_); conv => whnf)
                  refine hK _ _ _ _ _ _ _ _ _ _ (fin g g2 (fun z => absurd z (by decide)))
            · refine z_WP_gos [60] 1000 fun K C hK hC => ?_
              conv => whnf
              refine ⟨fun g => ?_, fun g => ?_⟩
              · conv => whnf
                exact neg g
              · conv => whnf
                refine And.intro (z_in (n := 3) (N := 10) (by decide) (by decide)) ?_
                conv => whnf
                refine ⟨fun g2 => ?_, fun g2 => ?_⟩
                · conv => whnf
                  exact big g2
                · conv => whnf
                  repeat ((first | refine And.intro (by (conv => arg 2; whnf); (try simp only [z_lit, nI_add, pk_mul, z_pr1, z_pr2]); exact z_in (by omega) (by decide)) ?_ | refine z_bt1 (by decide) ?_ | refine z_bf1 (by decide) ?_ | refine z_bt2 (by decide) ?_ | refine z_bf2 (by decide) ?_); conv => whnf)
                  refine hK _ _ _ _ _ _ _ _ _ _ (fin g g2 (fun z => absurd z (by decide)))
            · refine z_WP_gos [60] 1000 fun K C hK hC => ?_
              conv => whnf
              refine ⟨fun g => ?_, fun g => ?_⟩
              · conv => whnf
                exact neg g
              · conv => whnf
                refine And.intro (z_in (n := 4) (N := 10) (by decide) (by decide)) ?_
                conv => whnf
                refine ⟨fun g2 => ?_, fun g2 => ?_⟩
                · conv => whnf
                  exact big g2
                · conv => whnf
                  repeat ((first | refine And.intro (by (conv => arg 2; whnf); (try simp only [z_lit, nI_add, pk_mul, z_pr1, z_pr2]); exact z_in (by omega) (by decide)) ?_ | refine z_bt1 (by decide) ?_ | refine z_bf1 (by decide) ?_ | refine z_bt2 (by decide) ?_ | refine z_bf2 (by decide) ?_); conv => whnf)
                  refine hK _ _ _ _ _ _ _ _ _ _ (fin g g2 (fun z => absurd z (by decide)))
            · refine z_WP_gos [60] 1000 fun K C hK hC => ?_
              conv => whnf
              refine ⟨fun g => ?_, fun g => ?_⟩
              · conv => whnf
                exact neg g
              · conv => whnf
                refine And.intro (z_in (n := 5) (N := 10) (by decide) (by decide)) ?_
                conv => whnf
                refine ⟨fun g2 => ?_, fun g2 => ?_⟩
                · conv => whnf
                  exact big g2
                · conv => whnf
                  repeat ((first | refine And.intro (by (conv => arg 2; whnf); (try simp only [z_lit, nI_add, pk_mul, z_pr1, z_pr2]); exact z_in (by omega) (by decide)) ?_ | refine z_bt1 (by decide) ?_ | refine z_bf1 (by decide) ?_ | refine z_bt2 (by decide) ?_ | refine z_bf2 (by decide) ?_); conv => whnf)
                  refine hK _ _ _ _ _ _ _ _ _ _ (fin g g2 (fun z => absurd z (by decide)))
            · refine z_WP_gos [60] 1000 fun K C hK hC => ?_
              conv => whnf
              refine ⟨fun g => ?_, fun g => ?_⟩
              · conv => whnf
                exact neg g
              · conv => whnf
                refine And.intro (z_in (n := 6) (N := 10) (by decide) (by decide)) ?_
                conv => whnf
                refine ⟨fun g2 => ?_, fun g2 => ?_⟩
                · conv => whnf
                  exact big g2
                · conv => whnf
                  repeat ((first | refine And.intro (by (conv => arg 2; whnf); (try simp only [z_lit, nI_add, pk_mul, z_pr1, z_pr2]); exact z_in (by omega) (by decide)) ?_ | refine z_bt1 (by decide) ?_ | refine z_bf1 (by decide) ?_ | refine z_bt2 (by decide) ?_ | refine z_bf2 (by decide) ?_); conv => whnf)
                  refine hK _ _ _ _ _ _ _ _ _ _ (fin g g2 (fun z => absurd z (by decide)))
            · refine z_WP_gos [60] 1000 fun K C hK hC => ?_
              conv => whnf
              refine ⟨fun g => ?_, fun g => ?_⟩
              · conv => whnf
                exact neg g
              · conv => whnf
                refine And.intro (z_in (n := 7) (N := 10) (by decide) (by decide)) ?_
                conv => whnf
                refine ⟨fun g2 => ?_, fun g2 => ?_⟩
                · conv => whnf
                  exact big g2
                · conv => whnf
                  repeat ((first | refine And.intro (by (conv => arg 2; whnf); (try simp only [z_lit, nI_add, pk_mul, z_pr1, z_pr2]); exact z_in (by omega) (by decide)) ?_ | refine z_bt1 (by decide) ?_ | refine z_bf1 (by decide) ?_ | refine z_bt2 (by decide) ?_ | refine z_bf2 (by decide) ?_); conv => whnf)
                  refine hK _ _ _ _ _ _ _ _ _ _ (fin g g2 (fun z => absurd z (by decide)))
            · refine z_WP_gos [60] 1000 fun K C hK hC => ?_
              conv => whnf
              refine ⟨fun g => ?_, fun g => ?_⟩
              · conv => whnf
                exact neg g
              · conv => whnf
                refine And.intro (z_in (n := 8) (N := 10) (by decide) (by decide)) ?_
                conv => whnf
                refine ⟨fun g2 => ?_, fun g2 => ?_⟩
                · conv => whnf
                  exact big g2
                · conv => whnf
                  repeat ((first | refine And.intro (by (conv => arg 2; whnf); (try simp only [z_lit, nI_add, pk_mul, z_pr1, z_pr2]); exact z_in (by omega) (by decide)) ?_ | refine z_bt1 (by decide) ?_ | refine z_bf1 (by decide) ?_ | refine z_bt2 (by decide) ?_ | refine z_bf2 (by decide) ?_); conv => whnf)
                  refine ⟨fun g3 => ?_, fun g3 => ?_⟩
                  · conv => whnf
                    refine hK _ _ _ _ _ _ _ _ _ _ (fin g g2 (fun _ => g3))
                  · conv => whnf
                    exact odd rfl g3
            · refine z_WP_gos [60] 1000 fun K C hK hC => ?_
              conv => whnf
              refine ⟨fun g => ?_, fun g => ?_⟩
              · conv => whnf
                exact neg g
              · conv => whnf
                refine And.intro (z_in (n := 9) (N := 10) (by decide) (by decide)) ?_
                conv => whnf
                refine ⟨fun g2 => ?_, fun g2 => ?_⟩
                · conv => whnf
                  exact big g2
                · conv => whnf
                  repeat ((first | refine And.intro (by (conv => arg 2; whnf); (try simp only [z_lit, nI_add, pk_mul, z_pr1, z_pr2]); exact z_in (by omega) (by decide)) ?_ | refine z_bt1 (by decide) ?_ | refine z_bf1 (by decide) ?_ | refine z_bt2 (by decide) ?_ | refine z_bf2 (by decide) ?_); conv => whnf)
                  refine hK _ _ _ _ _ _ _ _ _ _ (fin g g2 (fun z => absurd z (by decide)))
          conv => whnf
          refine ⟨fun g => ?_, fun g => ?_⟩
          · have n8 : ¬ t' = 8 := fun z => g (by rw [z]; rfl)
            conv => whnf
            refine hK _ _ _ _ _ _ _ _ _ _ (main (fun z => absurd z n8))
          · have n8 : t' = 8 := nI_inj9 (by omega) (by omega) g
            conv => whnf
            refine ⟨fun g2 => ?_, fun g2 => ?_⟩
            · have q0 : q' = 0 := nI_inj9 (by omega) (by omega) g2
              conv => whnf
              refine hK _ _ _ _ _ _ _ _ _ _ (main (fun _ => q0))
            · conv => whnf
              refine bad (fun x y z w => g2 ?_)
              obtain ⟨w1, w2, w3, w4, w5, w6, -⟩ := w
              have : t' = x := nI_inj9 (by omega) (by omega) w1
              rw [w2, w6 (by omega)]; rfl
end
