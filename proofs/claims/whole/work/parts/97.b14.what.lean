/-! what a text says: what a line is to do, the class -/
def pm (k : Nat) : Nat → Nat
  | 0 => 0
  | 1 => 1
  | 2 => 2
  | 3 => 4
  | 4 => 5
  | 5 => if k = 4 then 10 else 3
  | 6 => 6
  | 7 => 7
  | 8 => 9
  | _ => 8
theorem pm_inj : ∀ k, k ≤ 5 → ∀ a, a < 10 → ∀ b, b < 10 → pm k a = pm k b → a = b := by decide
theorem pm_lt : ∀ k, k ≤ 5 → ∀ a, a < 10 → pm k a < 11 := by decide
def rwR (q g : Nat → Int32) (m k : Nat) : Prop := ∀ a, a < 10 → q (m * 11 + a) = g (14 * m + pm k a)
def cln (I0 I : z_I) (m k : Nat) (g : Nat → Int32) : Prop := fr [32, 34] I0 I ∧ (∀ j, j < m * 11 → I 34 j = I0 34 j) ∧ rwR (I 34) g m k
def cld (I0 I : z_I) : Prop := fr [32, 34] I0 I
theorem cln_w {I0 I : z_I} {m k a : Nat} {g : Nat → Int32} {v : Int32} (h : cln I0 I m k g) (hk : k ≤ 5) (ha : a < 10) : cln I0 (z_row I 34 (upd (I 34) (m * 11 + a) v)) m k (upd g (14 * m + pm k a) v) := by
  obtain ⟨h1, h2, h3⟩ := h
  refine ⟨fr_w h1 (by decide), fun j hj => by rw [z_row_s, pk_un (by omega)]; exact h2 j hj, fun b hb => ?_⟩
  rw [z_row_s]
  by_cases z : b = a
  · subst z; rw [pk_us, pk_us]
  · rw [pk_un (by omega), pk_un (fun y => z (pm_inj k hk b hb a ha (by omega)))]
    exact h3 b hb
theorem cln_r {I0 I I' : z_I} {m k : Nat} {g : Nat → Int32} (h : cln I0 I m k g) (hf : fr [32] I I') : cln I0 I' m k g := by
  have e : I' 34 = I 34 := hf 34 (by decide)
  exact ⟨fr_t h.1 (fr_m hf (by decide)), fun j hj => by rw [e]; exact h.2.1 j hj, by rw [e]; exact h.2.2⟩
theorem cld_r {I0 I I' : z_I} (h : fr [32, 34] I0 I) (hf : fr [32] I I') : fr [32, 34] I0 I' := fr_t h (fr_m hf (by decide))
section
variable {L : Nat} {xs : Nat → Int32} {d : Nat} {kp sp wd : Value} {I I0 : z_I} {s : z_sg} {R : z_R} {J : z_J} {F : z_F} {cn : Nat} {Q : z_Q} {n k m st c p : Nat} {t : Nat → Nat} {g g0 : Nat → Int32}
theorem cs_unitButD {u : Int32} (h : ddC (I 32) c p) (hQ : ∀ v, Q (some (.int v)) I (z_R0 kp sp wd) J F cn) : z_M (z_X0 L xs) z_P0 (d + 1) m_Reader_unitBut [.ref 32, .int u] I (z_R0 kp sp wd) J F cn Q := by
  refine z_WP_gos [] 1000 fun K C hK hC => ?_
  conv => whnf
  refine hC _ _ _ _ _ _ _ _ _ _ (fun _ _ _ _ _ _ q => q) (cs_numberD h ?_)
  conv => whnf
  refine ⟨fun _ => ?_, fun _ => ?_⟩
  · conv => whnf
    exact hQ _
  · conv => whnf
    refine hC _ _ _ _ _ _ _ _ _ _ (fun _ _ _ _ _ _ q => q) (cs_failD h ?_)
    conv => whnf
    exact hQ _
theorem cs_unitBut {u : Nat} (hT : rT I t n) (hn : n ≤ 500) (hu : u ≤ 7) (h : lvC t n kO2 vO2 (I 32) st) (hQ : okQ (if tkM t n st = 2 ∧ nI (tkV t n st) = nI u then p_bad 2 st else pnum t n m k 0 7 g st) (fun fr' st' => ∀ v I', fr' = upd g (14 * m + k) (nI v) → v ≤ 7 → fr [32] I I' → lvC t n kO2 vO2 (I' 32) st' → Q (some (.int (nI v))) I' (z_R0 kp sp (.retAddr 2)) J F cn) (fun c p => ∀ v I', fr [32] I I' → ddC (I' 32) c p → Q (some (.int v)) I' (z_R0 kp sp (.retAddr 2)) J F cn)) :
    z_M (z_X0 L xs) z_P0 (d + 8) m_Reader_unitBut [.ref 32, .int (nI u)] I (z_R0 kp sp (.retAddr 2)) J F cn Q := by
  have h8 := h.2.2.2.2.2.1
  have hv := tkV_lt2 hT h.1
  have key : okQ (pnum t n m k 0 7 g st) (fun fr' st' => (fr' = upd g (14 * m + k) (nI (tkV t n st)) ∧ tkM t n st = 2 ∧ tkV t n st ≤ 7 ∧ st' = nx t n st)) (fun c p => ¬ (tkM t n st = 2 ∧ tkV t n st ≤ 7) ∧ okQ (pnum t n m k 0 7 g st) (fun _ _ => False) (fun c' p' => c' = c ∧ p' = p)) := by
    unfold pnum
    by_cases a : tkM t n st = 2
    · rw [if_pos a]
      by_cases b : 0 ≤ tkV t n st ∧ tkV t n st ≤ 7
      · rw [if_pos b]; exact ⟨rfl, a, b.2, rfl⟩
      · rw [if_neg b]; exact ⟨fun z => b ⟨Nat.zero_le _, z.2⟩, rfl, rfl⟩
    · rw [if_neg a]; exact ⟨fun z => a z.1, rfl, rfl⟩
  refine z_WP_gos [] 1000 fun K C hK hC => ?_
  conv => whnf
  simp (disch := omega) only [z_lit, nI_add, pk_mul, z_pr1, z_pr2, nI_clamp, z_up_row, z_row_s, z_row_n, z_row_row, pk_us, pk_un]
  rw [h8]
  refine hC _ _ _ _ _ _ _ _ _ _ (fun _ _ _ _ _ _ q => q) (cs_number2 (m := m) (k := k) (fr0 := g) (lo := 0) (hi := 7) hT hn (by decide) (by decide) h (okQ_m key (fun fr2 st2 hq v I' e1 _ v2 ev em f' l' => ?_) (fun c p hq I' f' d' => ?_)))
  · obtain ⟨-, -, -, es⟩ := hq
    subst es
    have hb := tkE_b (t := t) h.1
    conv => whnf
    refine ⟨fun gg => ?_, fun gg => ?_⟩
    · have ne : ¬ (tkM t n st = 2 ∧ nI (tkV t n st) = nI u) := fun z => gg (by rw [ev]; exact z.2)
      rw [if_neg ne] at hQ
      unfold pnum at hQ
      rw [if_pos em, if_pos ⟨Nat.zero_le _, by omega⟩] at hQ
      conv => whnf
      exact hQ v I' (by rw [ev]) v2 f' l'
    · rw [if_pos ⟨em, by rw [← ev]; exact gg⟩] at hQ
      conv => whnf
      refine hC _ _ _ _ _ _ _ _ _ _ (fun _ _ _ _ _ _ q => q) (cs_fail (kO := kO2) (vO := vO2) (c := 2) (p := st) l' hn (by decide) (by decide) (fun I2 f2 d2 => ?_))
      conv => whnf
      exact hQ _ I2 (fr_t f' f2) d2
  · have ne : ¬ (tkM t n st = 2 ∧ nI (tkV t n st) = nI u) := fun z => hq.1 ⟨z.1, by rw [nI_inj9 (by omega) (by omega) z.2]; exact hu⟩
    rw [if_neg ne] at hQ
    have hb : ∀ v, Q (some (.int v)) I' (z_R0 kp sp (.retAddr 2)) J F cn := by
      have z := hq.2
      generalize pnum t n m k 0 7 g st = P at z hQ
      cases P with
      | inl x =>
        obtain ⟨rfl, rfl⟩ := z
        exact fun v => hQ v I' f' d'
      | inr x => exact z.elim
    conv => whnf
    refine ⟨fun _ => ?_, fun _ => ?_⟩
    · conv => whnf
      exact hb _
    · conv => whnf
      refine hC _ _ _ _ _ _ _ _ _ _ (fun _ _ _ _ _ _ q => q) (cs_failD d' ?_)
      conv => whnf
      exact hb _
theorem dW131 {l3 : Option Value} (hk : k ≤ 5) (hm : m < 24) (hD : ∀ I', fr [32, 34] I0 I' → ddC (I' 32) c p → Q none I' (z_R0 kp sp (.retAddr 2)) J F cn) (f : fr [32, 34] I0 I) (h : ddC (I 32) c p) : z_WP (z_X0 L xs) z_P0 (d + 9) m_Reader_readWhat 131 [some (.ref 32), some (.int (nI (m * 11))), some (.int (nI k)), l3] [] I (z_R0 kp sp (.retAddr 2)) J F cn 0 0 Q := by
  have hk' : k = 0 ∨ k = 1 ∨ k = 2 ∨ k = 3 ∨ k = 4 ∨ k = 5 := by omega
  rcases hk' with rfl | rfl | rfl | rfl | rfl | rfl
  · refine z_WP_gos [] 1000 fun K C hK hC => ?_
    conv => whnf
    repeat ((first | refine And.intro (by (conv => arg 2; whnf); (try simp only [z_lit, nI_add, pk_mul, z_pr1, z_pr2]); exact z_in (by omega) (by decide)) ?_ | refine z_bt1 (by decide) ?_ | refine z_bf1 (by decide) ?_ | refine z_bt2 (by decide) ?_ | refine z_bf2 (by decide) ?_); conv => whnf)
    refine hC _ _ _ _ _ _ _ _ _ _ (fun _ _ _ _ _ _ q => q) (cs_numberD h ?_)
    conv => whnf
    repeat ((first | refine And.intro (by (conv => arg 2; whnf); (try simp only [z_lit, nI_add, pk_mul, z_pr1, z_pr2]); exact z_in (by omega) (by decide)) ?_ | refine z_bt1 (by decide) ?_ | refine z_bf1 (by decide) ?_ | refine z_bt2 (by decide) ?_ | refine z_bf2 (by decide) ?_); conv => whnf)
    simp (disch := omega) only [z_lit, nI_add, pk_mul, z_pr1, z_pr2, nI_clamp, z_up_row, z_row_s, z_row_n, z_row_row, pk_us, pk_un]
    exact hD _ (fr_w f (by decide)) (by rw [z_row_n _ _ (by decide)]; exact h)
  · refine z_WP_gos [] 1000 fun K C hK hC => ?_
    conv => whnf
    repeat ((first | refine And.intro (by (conv => arg 2; whnf); (try simp only [z_lit, nI_add, pk_mul, z_pr1, z_pr2]); exact z_in (by omega) (by decide)) ?_ | refine z_bt1 (by decide) ?_ | refine z_bf1 (by decide) ?_ | refine z_bt2 (by decide) ?_ | refine z_bf2 (by decide) ?_); conv => whnf)
    refine hC _ _ _ _ _ _ _ _ _ _ (fun _ _ _ _ _ _ q => q) (cs_numberD h ?_)
    conv => whnf
    repeat ((first | refine And.intro (by (conv => arg 2; whnf); (try simp only [z_lit, nI_add, pk_mul, z_pr1, z_pr2]); exact z_in (by omega) (by decide)) ?_ | refine z_bt1 (by decide) ?_ | refine z_bf1 (by decide) ?_ | refine z_bt2 (by decide) ?_ | refine z_bf2 (by decide) ?_); conv => whnf)
    simp (disch := omega) only [z_lit, nI_add, pk_mul, z_pr1, z_pr2, nI_clamp, z_up_row, z_row_s, z_row_n, z_row_row, pk_us, pk_un]
    exact hD _ (fr_w f (by decide)) (by rw [z_row_n _ _ (by decide)]; exact h)
  · refine z_WP_gos [] 1000 fun K C hK hC => ?_
    conv => whnf
    repeat ((first | refine And.intro (by (conv => arg 2; whnf); (try simp only [z_lit, nI_add, pk_mul, z_pr1, z_pr2]); exact z_in (by omega) (by decide)) ?_ | refine z_bt1 (by decide) ?_ | refine z_bf1 (by decide) ?_ | refine z_bt2 (by decide) ?_ | refine z_bf2 (by decide) ?_); conv => whnf)
    refine hC _ _ _ _ _ _ _ _ _ _ (fun _ _ _ _ _ _ q => q) (cs_numberD h ?_)
    conv => whnf
    repeat ((first | refine And.intro (by (conv => arg 2; whnf); (try simp only [z_lit, nI_add, pk_mul, z_pr1, z_pr2]); exact z_in (by omega) (by decide)) ?_ | refine z_bt1 (by decide) ?_ | refine z_bf1 (by decide) ?_ | refine z_bt2 (by decide) ?_ | refine z_bf2 (by decide) ?_); conv => whnf)
    simp (disch := omega) only [z_lit, nI_add, pk_mul, z_pr1, z_pr2, nI_clamp, z_up_row, z_row_s, z_row_n, z_row_row, pk_us, pk_un]
    exact hD _ (fr_w f (by decide)) (by rw [z_row_n _ _ (by decide)]; exact h)
  · refine z_WP_gos [] 1000 fun K C hK hC => ?_
    conv => whnf
    repeat ((first | refine And.intro (by (conv => arg 2; whnf); (try simp only [z_lit, nI_add, pk_mul, z_pr1, z_pr2]); exact z_in (by omega) (by decide)) ?_ | refine z_bt1 (by decide) ?_ | refine z_bf1 (by decide) ?_ | refine z_bt2 (by decide) ?_ | refine z_bf2 (by decide) ?_); conv => whnf)
    refine hC _ _ _ _ _ _ _ _ _ _ (fun _ _ _ _ _ _ q => q) (cs_numberD h ?_)
    conv => whnf
    repeat ((first | refine And.intro (by (conv => arg 2; whnf); (try simp only [z_lit, nI_add, pk_mul, z_pr1, z_pr2]); exact z_in (by omega) (by decide)) ?_ | refine z_bt1 (by decide) ?_ | refine z_bf1 (by decide) ?_ | refine z_bt2 (by decide) ?_ | refine z_bf2 (by decide) ?_); conv => whnf)
    simp (disch := omega) only [z_lit, nI_add, pk_mul, z_pr1, z_pr2, nI_clamp, z_up_row, z_row_s, z_row_n, z_row_row, pk_us, pk_un]
    exact hD _ (fr_w f (by decide)) (by rw [z_row_n _ _ (by decide)]; exact h)
  · refine z_WP_gos [] 1000 fun K C hK hC => ?_
    conv => whnf
    repeat ((first | refine And.intro (by (conv => arg 2; whnf); (try simp only [z_lit, nI_add, pk_mul, z_pr1, z_pr2]); exact z_in (by omega) (by decide)) ?_ | refine z_bt1 (by decide) ?_ | refine z_bf1 (by decide) ?_ | refine z_bt2 (by decide) ?_ | refine z_bf2 (by decide) ?_); conv => whnf)
    refine hC _ _ _ _ _ _ _ _ _ _ (fun _ _ _ _ _ _ q => q) (cs_numberD h ?_)
    conv => whnf
    repeat ((first | refine And.intro (by (conv => arg 2; whnf); (try simp only [z_lit, nI_add, pk_mul, z_pr1, z_pr2]); exact z_in (by omega) (by decide)) ?_ | refine z_bt1 (by decide) ?_ | refine z_bf1 (by decide) ?_ | refine z_bt2 (by decide) ?_ | refine z_bf2 (by decide) ?_); conv => whnf)
    simp (disch := omega) only [z_lit, nI_add, pk_mul, z_pr1, z_pr2, nI_clamp, z_up_row, z_row_s, z_row_n, z_row_row, pk_us, pk_un]
    exact hD _ (fr_w f (by decide)) (by rw [z_row_n _ _ (by decide)]; exact h)
  · refine z_WP_gos [] 1000 fun K C hK hC => ?_
    conv => whnf
    repeat ((first | refine And.intro (by (conv => arg 2; whnf); (try simp only [z_lit, nI_add, pk_mul, z_pr1, z_pr2]); exact z_in (by omega) (by decide)) ?_ | refine z_bt1 (by decide) ?_ | refine z_bf1 (by decide) ?_ | refine z_bt2 (by decide) ?_ | refine z_bf2 (by decide) ?_); conv => whnf)
    exact hD I f h
theorem dW91 {l3 : Option Value} (hk : k ≤ 5) (hm : m < 24) (hD : ∀ I', fr [32, 34] I0 I' → ddC (I' 32) c p → Q none I' (z_R0 kp sp (.retAddr 2)) J F cn) (f : fr [32, 34] I0 I) (h : ddC (I 32) c p) : z_WP (z_X0 L xs) z_P0 (d + 9) m_Reader_readWhat 91 [some (.ref 32), some (.int (nI (m * 11))), some (.int (nI k)), l3] [] I (z_R0 kp sp (.retAddr 2)) J F cn 0 0 Q := by
  by_cases z : k = 2
  · subst z
    refine z_WP_gos [131] 1000 fun K C hK hC => ?_
    conv => whnf
    repeat ((first | refine And.intro (by (conv => arg 2; whnf); (try simp only [z_lit, nI_add, pk_mul, z_pr1, z_pr2]); exact z_in (by omega) (by decide)) ?_ | refine z_bt1 (by decide) ?_ | refine z_bf1 (by decide) ?_ | refine z_bt2 (by decide) ?_ | refine z_bf2 (by decide) ?_); conv => whnf)
    refine hC _ _ _ _ _ _ _ _ _ _ (fun _ _ _ _ _ _ q => q) (cs_unitButD h (fun v => ?_))
    conv => whnf
    repeat ((first | refine And.intro (by (conv => arg 2; whnf); (try simp only [z_lit, nI_add, pk_mul, z_pr1, z_pr2]); exact z_in (by omega) (by decide)) ?_ | refine z_bt1 (by decide) ?_ | refine z_bf1 (by decide) ?_ | refine z_bt2 (by decide) ?_ | refine z_bf2 (by decide) ?_); conv => whnf)
    simp (disch := omega) only [z_lit, nI_add, pk_mul, z_pr1, z_pr2, nI_clamp, z_up_row, z_row_s, z_row_n, z_row_row, pk_us, pk_un]
    have h' : ddC ((z_row I 34 (upd (I 34) (m * 11 + 3) v)) 32) c p := by rw [z_row_n _ _ (by decide)]; exact h
    refine hC _ _ _ _ _ _ _ _ _ _ (fun _ _ _ _ _ _ q => q) (cs_numberD h' ?_)
    conv => whnf
    repeat ((first | refine And.intro (by (conv => arg 2; whnf); (try simp only [z_lit, nI_add, pk_mul, z_pr1, z_pr2]); exact z_in (by omega) (by decide)) ?_ | refine z_bt1 (by decide) ?_ | refine z_bf1 (by decide) ?_ | refine z_bt2 (by decide) ?_ | refine z_bf2 (by decide) ?_); conv => whnf)
    simp (disch := omega) only [z_lit, nI_add, pk_mul, z_pr1, z_pr2, nI_clamp, z_up_row, z_row_s, z_row_n, z_row_row, pk_us, pk_un]
    refine hK _ _ _ _ _ _ _ _ _ _ (dW131 (by decide) hm hD (fr_w f (by decide)) (by rw [z_row_n _ _ (by decide)]; exact h))
  · refine z_WP_gos [131] 1000 fun K C hK hC => ?_
    conv => whnf
    refine ⟨fun _ => ?_, fun y => absurd (nI_inj9 (b := 2) (by omega) (by omega) y) z⟩
    conv => whnf
    refine hK _ _ _ _ _ _ _ _ _ _ (dW131 hk hm hD f h)
theorem dW71 {l3 : Option Value} (hk : k ≤ 5) (hm : m < 24) (hD : ∀ I', fr [32, 34] I0 I' → ddC (I' 32) c p → Q none I' (z_R0 kp sp (.retAddr 2)) J F cn) (f : fr [32, 34] I0 I) (h : ddC (I 32) c p) : z_WP (z_X0 L xs) z_P0 (d + 9) m_Reader_readWhat 71 [some (.ref 32), some (.int (nI (m * 11))), some (.int (nI k)), l3] [] I (z_R0 kp sp (.retAddr 2)) J F cn 0 0 Q := by
  by_cases z : 4 ≤ k
  · refine z_WP_gos [91] 1000 fun K C hK hC => ?_
    conv => whnf
    refine ⟨fun _ => ?_, fun y => absurd (nI_le (a := 4) z (by omega)) y⟩
    conv => whnf
    refine hK _ _ _ _ _ _ _ _ _ _ (dW91 hk hm hD f h)
  · refine z_WP_gos [91] 1000 fun K C hK hC => ?_
    conv => whnf
    refine ⟨fun y => absurd y (nI_ge (b := 4) (by omega) (by decide)), fun _ => ?_⟩
    conv => whnf
    refine hC _ _ _ _ _ _ _ _ _ _ (fun _ _ _ _ _ _ q => q) (cs_numberD h ?_)
    conv => whnf
    repeat ((first | refine And.intro (by (conv => arg 2; whnf); (try simp only [z_lit, nI_add, pk_mul, z_pr1, z_pr2]); exact z_in (by omega) (by decide)) ?_ | refine z_bt1 (by decide) ?_ | refine z_bf1 (by decide) ?_ | refine z_bt2 (by decide) ?_ | refine z_bf2 (by decide) ?_); conv => whnf)
    simp (disch := omega) only [z_lit, nI_add, pk_mul, z_pr1, z_pr2, nI_clamp, z_up_row, z_row_s, z_row_n, z_row_row, pk_us, pk_un]
    refine hK _ _ _ _ _ _ _ _ _ _ (dW91 hk hm hD (fr_w f (by decide)) (by rw [z_row_n _ _ (by decide)]; exact h))
end
