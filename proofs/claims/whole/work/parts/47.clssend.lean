/-! SEND -/
theorem dec01 {x : Int32} (h : v01 x) : decide (x = nI 0) = !decide (x = nI 1) := by rcases h with h | h <;> subst h <;> decide
theorem s_cmd_all : ∀ (t : Fin 32) (a : Fin 2) (b : Fin 7) (c : Fin 32), s_cmd (nI t.val) (nI a.val) (nI b.val) (nI c.val) = nI (2048 * t.val + 1024 * a.val + 32 * b.val + c.val) := by decide +kernel
theorem s_cmd_b {t a b c : Nat} (ht : t < 32) (ha : a < 2) (hb : b < 7) (hc : c < 32) : b16 (s_cmd (nI t) (nI a) (nI b) (nI c)) := ⟨2048 * t + 1024 * a + 32 * b + c, by omega, s_cmd_all ⟨t, ht⟩ ⟨a, ha⟩ ⟨b, hb⟩ ⟨c, hc⟩⟩
theorem xR_30 {I I' : z_I} {F : z_F} {s s' : z_sg} {n k bus : Nat} {f0 : Int32} (h : xR I F s n k bus f0) (hI : ∀ b, b ≠ 30 → I' b = I b) (h1 : s'.1 = s.1) (h2 : s'.2.1 = s.2.1) : xR I' F s' n k bus f0 := by
  obtain ⟨d1, d2, d3, d4⟩ := h.2.2.2.1
  refine xR_of h (fun b hb => hI b (by omega)) (fun j _ => by rw [h2]) (wR_of h.2.1 (fun b _ _ => hI b (by omega)) (fun j _ => by rw [h2])) (by rw [hI 29 (by omega)]) (by rw [hI 29 (by omega)]) ?_ ?_ ?_
  · rw [hI 29 (by omega), h1, d3]
  · rw [hI 29 (by omega), h1, d4]
  · rw [h1]; exact h.2.2.2.2.2
/-- what a status tells -/
def stb (w : Nat → Int32) (t : Nat) (st : Int32) : Prop := (st &&& nI 1024 = nI 0 ↔ w (176 + t) = nI 0) ∧ (st &&& nI 8 = nI 0 ↔ w (40 + t) = nI 0) ∧ (st &&& nI 256 = nI 0 ↔ w (48 + t) = nI 0)
theorem stb_of {s s' : z_sg} {t : Nat} {c e a k : Int32} (ht : t < 8) (ho : uW s.2.1) (h : stt s s' t c e a k) (he : v01 e) (ha : v01 a) (hk : v01 k) : stb s'.2.1 t (s'.2.1 (136 + t)) := by
  have q := s_stat_b (w := s.2.1) (e := e) (a := a) (k := k) ht ho he ha hk
  obtain ⟨h1, h2, h3, h4, h5, h6, h7, h8, h9⟩ := h
  unfold stb
  rw [h3, q.2.1, q.2.2.1, q.2.2.2.1, h5, h1 (40 + t) (by omega) (by omega) (by omega) (by omega) (by omega) (by omega), h1 (48 + t) (by omega) (by omega) (by omega) (by omega) (by omega) (by omega)]
  exact ⟨Iff.rfl, Iff.rfl, Iff.rfl⟩
theorem stb_c {w w' : Nat → Int32} {t : Nat} {st : Int32} (h : stb w t st) (h1 : w' (176 + t) = w (176 + t)) (h2 : w' (40 + t) = w (40 + t)) (h3 : w' (48 + t) = w (48 + t)) : stb w' t st := by
  unfold stb at h ⊢; rw [h1, h2, h3]; exact h
theorem out_j {w : Nat → Int32} {t : Nat} {st : Int32} (hw : v01 (w (176 + t))) (hw2 : v01 (w (40 + t))) (h : stb w t st) : c_out (nI 0) st = s_judged w t := by
  unfold c_out s_judged
  rw [if_pos rfl]
  by_cases a : w (176 + t) = nI 0
  · rw [if_pos (h.1.mpr a), if_neg (fun z => absurd (a.symm.trans z) (by decide))]
    by_cases b : w (40 + t) = nI 0
    · rw [if_pos (h.2.1.mpr b), if_neg (fun z => absurd (b.symm.trans z) (by decide))]
    · rw [if_neg (fun z => b (h.2.1.mp z)), if_pos ((v01_n hw2).mp b)]
  · rw [if_neg (fun z => a (h.1.mp z)), if_pos ((v01_n hw).mp a)]
theorem out_n {st : Int32} : ¬ c_out (nI 0) st = nI 1 ∧ ¬ c_out (nI 0) st = nI 2 := by
  unfold c_out
  rw [if_pos rfl]
  by_cases a : st &&& nI 1024 = nI 0
  · rw [if_pos a]
    by_cases b : st &&& nI 8 = nI 0
    · rw [if_pos b]; decide
    · rw [if_neg b]; decide
  · rw [if_neg a]; decide
theorem out_2 {tu st : Int32} (h : ¬ tu = nI 0) : c_out tu st = nI 2 := by unfold c_out; rw [if_neg h]
def m_ans (s : z_sg) (bus t many : Nat) : z_sg × Int32 := bif s_shut s.2.1 t bus then (m_quiet s, nI 1) else ((m_answers s bus t many).1, if (m_answers s bus t many).2 = nI 0 then s_judged (m_answers s bus t many).1.2.1 t else nI 2)
theorem m_answers_eq {s : z_sg} {bus t many : Nat} : m_answers s bus t many = (if (m_lays (m_eight s) bus (nI t) many).2 = nI 0 ∧ s.2.1 (48 + t) = nI 1 then m_want (m_lays (m_eight s) bus (nI t) many).1 t else (m_lays (m_eight s) bus (nI t) many).1, (m_lays (m_eight s) bus (nI t) many).2) := rfl
section
variable {L : Nat} {xs : Nat → Int32} {d : Nat} {kp sp wd : Value} {I : z_I} {s : z_sg} {R : z_R} {J : z_J} {F : z_F} {cn : Nat} {Q : z_Q} {n k bus : Nat} {f0 : Int32}
/-- an answer, and who is wanted by it -/
theorem ct_ah {t many : Nat} (h : xR I F s n k bus f0) (hb : bus < 2) (ht : t < 8) (hm : many ≤ 9) (h1 : 1 ≤ many) (hn : n + 10 < 2 ^ 30) (hk : k < 2 ^ 30) (hy : ∀ j, j < many → I 30 j = s.2.2 j ∧ b16 (s.2.2 j)) (hst : stb s.2.1 t (I 30 0))
    {C : z_C} (hC : z_CM (z_M (z_X0 L xs) z_P0) C) {Qa : z_Q} (hA : ∀ o I', C (d + 3) m_Trial_heedService [.ref 29, .int (nI t), .int o] I' (z_R0 kp sp wd) J F cn Q → Qa (some (.int o)) I' (z_R0 kp sp wd) J F cn)
    (hQ : ∀ I' n' k', xR I' F (m_ans s bus t many).1 n' k' bus f0 → n' ≤ n + 10 → k' ≤ k + 1 → I' 30 = I 30 → fr cT I I' → Q (some (.int (m_ans s bus t many).2)) I' (z_R0 kp sp wd) J F cn) :
    z_M (z_X0 L xs) z_P0 (d + 3) m_Trial_answer [.ref 29, .int (nI t), .int (nI many)] I (z_R0 kp sp wd) J F cn Qa := by
  have hW := h.2.2.2.2.1
  refine ct_answer (sh := s_shut s.2.1 t bus) h hb hm h1 hn hk hy (fun d Q q => cu_isShut ht h.1.1 q) (fun hs I' x e f => hA _ _ ?_) (fun hs I' x e f => hA _ _ ?_)
  · unfold m_ans at hQ
    rw [hs] at hQ
    exact hC _ _ _ _ _ _ _ _ _ _ (fun _ _ _ _ _ _ q => q) (ct_heed x (fun _ => hQ I' n k x (by omega) (by omega) e f) (fun a => absurd rfl a))
  · have hj : ∀ j, 31 ≤ j → j < 2220 → (m_lays (m_eight s) bus (nI t) many).1.2.1 j = s.2.1 j := fun j a b => m_lays_lo hb (by omega)
    unfold m_ans at hQ
    rw [hs, m_answers_eq] at hQ
    simp only [cond_false] at hQ
    by_cases g : (m_lays (m_eight s) bus (nI t) many).2 = nI 0
    · have hst' : stb (m_lays (m_eight s) bus (nI t) many).1.2.1 t (I 30 0) := stb_c hst (hj _ (by omega) (by omega)) (hj _ (by omega) (by omega)) (hj _ (by omega) (by omega))
      have v1 := hW.2.1 (176 + t) (by omega) (by omega)
      have v2 := hW.1.2.1 (40 + t) (by omega) (by omega)
      have v3 := hW.1.2.1 (48 + t) (by omega) (by omega)
      rw [← hj (176 + t) (by omega) (by omega)] at v1
      rw [← hj (40 + t) (by omega) (by omega)] at v2
      have oj := out_j v1 v2 hst'
      have on := @out_n (I 30 0)
      rw [g, oj]
      rw [oj] at on
      refine hC _ _ _ _ _ _ _ _ _ _ (fun _ _ _ _ _ _ q => q) (ct_heed x (fun z => ?_) (fun a b c I'' x'' e'' f'' => ?_))
      · have z' : s.2.1 (48 + t) = nI 0 := by
          rcases z with z | z
          · exact absurd z (fun z => z.elim on.1 on.2)
          · rw [e] at z; exact hst.2.2.mp z
        rw [if_neg (fun q => absurd (z'.symm.trans q.2) (by decide)), if_pos g] at hQ
        exact hQ I' _ _ x (by omega) (by omega) e f
      · have z' : s.2.1 (48 + t) = nI 1 := by
          rw [e] at c
          exact (v01_n v3).mp (fun q => c (hst.2.2.mpr q))
        rw [if_pos ⟨g, z'⟩, if_pos g] at hQ
        exact hQ I'' _ _ x'' (by omega) (by omega) (e''.trans e) (fr_t f f'')
    · rw [out_2 g]
      rw [if_neg (fun q => g q.1), if_neg g] at hQ
      exact hC _ _ _ _ _ _ _ _ _ _ (fun _ _ _ _ _ _ q => q) (ct_heed x (fun _ => hQ I' _ _ x (by omega) (by omega) e f) (fun _ b => absurd rfl b))
theorem ct_readySend {t u m : Nat} {tt : Int32} (hu : u < 6) (hm : m ≤ 8) (hQ : Q none (z_row I 30 (va_cpy (I 4) (upd (I 30) 0 (s_cmd tt (nI 0) (nI (u + 1)) (nI m))) (1152 + 8 * u) 1 m)) (z_R0 kp sp wd) J F cn) : z_M (z_X0 L xs) z_P0 (d + 1) m_Trial_readySend [.ref 29, .int tt, .int (nI (u + 1)), .int (nI m)] I (z_R0 kp sp wd) J F cn Q := by
  refine z_WP_gos [] 1000 fun K C hK hC => ?_
  conv => whnf
  refine hC _ _ _ _ _ _ _ _ _ _ (fun _ _ _ _ _ _ q => q) (ct_encode ?_)
  conv => whnf
  repeat ((first | refine And.intro (by (conv => arg 2; whnf); (try simp only [z_lit, nI_add, pk_mul, z_pr1, z_pr2]); exact z_in (by omega) (by decide)) ?_ | refine z_bt1 (by decide) ?_ | refine z_bf1 (by decide) ?_ | refine z_bt2 (by decide) ?_ | refine z_bf2 (by decide) ?_); conv => whnf)
  refine hC _ _ _ _ _ _ _ _ _ _ (fun _ _ _ _ _ _ q => q) (cu_sendSpot ?_)
  conv => whnf
  refine And.intro ⟨(by (try simp only [z_lit, nI_add, pk_mul]); exact nI_pos (by omega)), (by (try simp only [z_lit, nI_add, pk_mul]); exact nI_pos (by omega)), (by (try simp only [z_lit, nI_add, pk_mul]); exact nI_pos (by omega)), (by (try simp (disch := omega) only [z_lit, nI_clamp, nI_add, pk_mul]); exact (show _ ≤ (1200 : Nat) by omega)), (by (try simp (disch := omega) only [z_lit, nI_clamp, nI_add, pk_mul]); exact (show _ ≤ (9 : Nat) by omega))⟩ ?_
  conv => whnf
  refine z_Qv hQ ?_
  simp (disch := omega) only [z_lit, nI_clamp, z_cpy, z_up_row, z_row_s, z_row_n, z_row_row]
/-- what lies ready to be laid, in both -/
theorem ready_y {t u m : Nat} {c : Int32} (h : xR I F s n k bus f0) (hu : u < 6) (hm : m ≤ 8) (hc : b16 c) : ∀ j, j < 1 + m → (z_row I 30 (va_cpy (I 4) (upd (I 30) 0 c) (1152 + 8 * u) 1 m)) 30 j = (m_ready (s.1, s.2.1, upd s.2.2 0 c) u m).2.2 j ∧ b16 ((m_ready (s.1, s.2.1, upd s.2.2 0 c) u m).2.2 j) := by
  intro j hj
  rw [z_row_s]
  unfold m_ready
  simp only
  by_cases e : j = 0
  · subst e
    rw [pk_cpy_out (by omega), pk_cpy_out (by omega), pk_us, pk_us]
    exact ⟨rfl, hc⟩
  · rw [pk_cpy_in (by omega) (by omega), pk_cpy_in (by omega) (by omega), h.1.2.1 _ (by omega)]
    rw [show 192 + (1152 + 8 * u + (j - 1)) = 1344 + 8 * u + (j - 1) by omega]
    exact ⟨rfl, h.2.2.2.2.1.2.2.1 _ (by omega)⟩
/-- the answer to SEND -/
theorem tl_send {t u m : Nat} {tu c e a x : Int32} {s0 s1 : z_sg} (h : xR I F s1 n k bus f0) (hb : bus < 2) (ht : t < 8) (hn : n + 10 < 2 ^ 30) (hk : k < 2 ^ 30) (hs : stt s0 s1 t c e a x) (ho : uW s0.2.1) (he : v01 e) (ha : v01 a) (hx : v01 x) (hI : I 30 0 = s1.2.1 (136 + t))
    (hQ : ∀ I' n' k', xR I' F (m_ans (s1.1, s1.2.1, upd s1.2.2 0 (s1.2.1 (136 + t))) bus t 1).1 n' k' bus f0 → n' ≤ n + 10 → k' ≤ k + 1 → fr cT I I' → Q (some (.int (m_ans (s1.1, s1.2.1, upd s1.2.2 0 (s1.2.1 (136 + t))) bus t 1).2)) I' (z_R0 kp sp wd) J F cn) :
    z_WP (z_X0 L xs) z_P0 (d + 4) m_Trial_send 88 [some (.ref 29), some (.int (nI t)), some (.int (nI (u + 1))), some (.int (nI m)), some (.int c), some (.int tu)] [] I (z_R0 kp sp wd) J F cn 0 0 Q := by
  have hst := stb_of ht ho hs he ha hx
  refine z_WP_gos [] 1000 fun K C hK hC => ?_
  conv => whnf
  refine hC _ _ _ _ _ _ _ _ _ _ (fun _ _ _ _ _ _ q => q) (ct_ah (s := (s1.1, s1.2.1, upd s1.2.2 0 (s1.2.1 (136 + t)))) (t := t) (many := 1) h hb ht (by omega) (by omega) hn hk (fun j hj => ?_) (by rw [hI]; exact hst) hC (fun o I' q => q) (fun I' n' k' x' n1 k1 e' f' => ?_))
  · obtain rfl : j = 0 := by omega
    simp only [pk_us]
    exact ⟨hI, h.2.2.2.2.1.2.2.1 _ (by omega)⟩
  · exact hQ I' n' k' x' n1 k1 f'
theorem m_ends_eq {s : z_sg} {bus t : Nat} : (m_ends s bus t).2 = (m_ans ((m_last s t).1, (m_last s t).2.1, upd (m_last s t).2.2 0 ((m_last s t).2.1 (136 + t))) bus t 1).2 ∧ (m_ends s bus t).1.1 = (m_ans ((m_last s t).1, (m_last s t).2.1, upd (m_last s t).2.2 0 ((m_last s t).2.1 (136 + t))) bus t 1).1.1 ∧ (m_ends s bus t).1.2.1 = (m_ans ((m_last s t).1, (m_last s t).2.1, upd (m_last s t).2.2 0 ((m_last s t).2.1 (136 + t))) bus t 1).1.2.1 := by
  unfold m_ends m_ans
  simp only
  cases s_shut (m_last s t).2.1 t bus <;> exact ⟨rfl, rfl, rfl⟩
theorem xR_y {s s' : z_sg} (h : xR I F s n k bus f0) (h1 : s'.1 = s.1) (h2 : s'.2.1 = s.2.1) : xR I F s' n k bus f0 := xR_30 h (fun _ _ => rfl) h1 h2
theorem cpy_rel {r w : Nat → Int32} {s2 : z_sg} {a b m j : Nat} (h : ∀ j, j < 1200 → r j = w (192 + j)) (ho : ∀ j, 192 ≤ j → s2.2.1 j = w j) (hj : j < 1200) (ha : a + m ≤ 1200) (hb : b + m ≤ 1200) : va_cpy r r a b m j = (m_copy s2 (192 + a) (192 + b) m).2.1 (192 + j) := by
  unfold m_copy
  simp only
  by_cases e : b ≤ j ∧ j < b + m
  · rw [pk_cpy_in e.1 e.2, pk_cpy_in (by omega) (by omega), h _ (by omega), ho _ (by omega)]
    congr 1; omega
  · rw [pk_cpy_out (by omega), pk_cpy_out (by omega), h _ hj, ho _ (by omega)]
theorem cpy_b16 {s2 : z_sg} {a b m j : Nat} (h : ∀ j, 192 ≤ j → j < 1392 → b16 (s2.2.1 j)) (ha : 192 ≤ a) (ha2 : a + m ≤ 1392) (h1 : 192 ≤ j) (h2 : j < 1392) : b16 ((m_copy s2 a b m).2.1 j) := by
  unfold m_copy
  simp only
  by_cases e : b ≤ j ∧ j < b + m
  · rw [pk_cpy_in e.1 e.2]; exact h _ (by omega) (by omega)
  · rw [pk_cpy_out (by omega)]; exact h _ h1 h2
theorem ct_send {t u m : Nat} (h : xR I F s n k bus f0) (hb : bus < 2) (ht : t < 8) (hu : u < 6) (hm : m ≤ 8) (hn : n + 30 < 2 ^ 30) (hk : k + 2 < 2 ^ 30)
    (hQ : ∀ I' n' k', xR I' F (m_sends s bus t u m).1 n' k' bus f0 → n' ≤ n + 20 → k' ≤ k + 2 → fr cT I I' → Q (some (.int (m_sends s bus t u m).2)) I' (z_R0 kp sp wd) J F cn) :
    z_M (z_X0 L xs) z_P0 (d + 4) m_Trial_send [.ref 29, .int (nI t), .int (nI (u + 1)), .int (nI m)] I (z_R0 kp sp wd) J F cn Q := by
  have hc : b16 (s_cmd (nI t) (nI 0) (nI (u + 1)) (nI m)) := s_cmd_b (by omega) (by omega) (by omega) (by omega)
  unfold m_sends at hQ
  simp only at hQ
  generalize hcc : s_cmd (nI t) (nI 0) (nI (u + 1)) (nI m) = c at hc hQ
  refine z_WP_gos [88] 1000 fun K C hK hC => ?_
  conv => whnf
  refine hC _ _ _ _ _ _ _ _ _ _ (fun _ _ _ _ _ _ q => q) (ct_readySend (t := t) hu hm ?_)
  conv => whnf
  repeat ((first | refine And.intro (by (conv => arg 2; whnf); (try simp only [z_lit, nI_add, pk_mul, z_pr1, z_pr2]); exact z_in (by omega) (by decide)) ?_ | refine z_bt1 (by decide) ?_ | refine z_bf1 (by decide) ?_ | refine z_bt2 (by decide) ?_ | refine z_bf2 (by decide) ?_); conv => whnf)
  have hy := ready_y (u := u) (m := m) (t := t) h hu hm hc
  simp (disch := omega) only [z_lit, nI_add, pk_mul, z_pr1, z_pr2, nI_clamp, z_up_row, z_row_s, z_row_n, z_row_row, pk_us, pk_un]
  rw [pk_cpy_out (by omega), pk_us, Nat.add_comm m 1, hcc]
  have x0 : xR (z_row I 30 (va_cpy (I 4) (upd (I 30) 0 c) (1152 + 8 * u) 1 m)) F (m_ready (s.1, s.2.1, upd s.2.2 0 c) u m) n k bus f0 := xR_30 h (fun b hb => z_row_n _ _ hb) rfl rfl
  have f0' : fr cT I (z_row I 30 (va_cpy (I 4) (upd (I 30) 0 c) (1152 + 8 * u) 1 m)) := fr_w fr_r (by decide)
  rw [show s.2.1 3 = (m_ready (s.1, s.2.1, upd s.2.2 0 c) u m).2.1 3 from rfl] at hQ
  generalize m_ready (s.1, s.2.1, upd s.2.2 0 c) u m = s0 at *
  generalize z_row I 30 (va_cpy (I 4) (upd (I 30) 0 c) (1152 + 8 * u) 1 m) = I0 at *
  refine hC _ _ _ _ _ _ _ _ _ _ (fun _ _ _ _ _ _ q => q) (ct_say (s := s0) (many := 1 + m) x0 hb (by omega) (by omega) (by omega) hy (fun I1 x1 e1 f1 => ?_))
  conv => whnf
  have f1' := fr_t f0' f1
  generalize m_lays s0 bus (s0.2.1 3) (1 + m) = r at *
  obtain ⟨r1, tu⟩ := r
  simp only at x1 hQ ⊢
  refine hC _ _ _ _ _ _ _ _ _ _ (fun _ _ _ _ _ _ q => q) (ct_reaches x1 ht ?_)
  conv => whnf
  rw [dec01 (v01_and tu), Bool.and_comm] 
  cases hh : (s_hear r1.2.1 t bus && !decide (tu &&& nI 1 = nI 1))
  · rw [hh] at hQ
    repeat ((first | refine And.intro (by (conv => arg 2; whnf); (try simp only [z_lit, nI_add, pk_mul, z_pr1, z_pr2]); exact z_in (by omega) (by decide)) ?_ | refine z_bt1 (by decide) ?_ | refine z_bf1 (by decide) ?_ | refine z_bt2 (by decide) ?_ | refine z_bf2 (by decide) ?_); conv => whnf)
    refine hC _ _ _ _ _ _ _ _ _ _ (fun _ _ _ _ _ _ q => q) (ct_noAnswer x1 (fun I2 x2 e2 f2 => ?_))
    conv => whnf
    exact hQ I2 _ _ x2 (by omega) (by omega) (fr_t f1' f2)
  · rw [hh] at hQ
    simp only [cond_true] at hQ
    have hW := x1.2.2.2.2.1
    have hs2 := stt_begins (s := r1) (t := t) (c := c) ht
    have o2 : ∀ j, 192 ≤ j → (m_begins r1 t c).2.1 j = r1.2.1 j := fun j hj => m_begins_o (by omega) (by omega) (by omega) (by omega)
    have z0 : v01 (nI 0) := Or.inl rfl
    have z1 : v01 (nI 1) := Or.inr rfl
    have fin : ∀ (s3 : z_sg) (e : Int32) (I2 : z_I), v01 e → stt r1 s3 t c e (nI 0) (nI 0) → I2 3 = c_settle (I1 3) t c (s_bt e (nI 0) (nI 0)) → (∀ b, b ≠ 3 → b ≠ 4 → b ≠ 30 → I2 b = I1 b) → (∀ j, j < 1200 → I2 4 j = s3.2.1 (192 + j)) → (∀ j, 192 ≤ j → j < 1392 → b16 (s3.2.1 j)) → (∀ j, 1392 ≤ j → s3.2.1 j = r1.2.1 j) → I2 30 0 = c_st (I1 3) t (s_bt e (nI 0) (nI 0)) → (∀ I' n' k', xR I' F (m_ends s3 bus t).1 n' k' bus f0 → n' ≤ n + 20 → k' ≤ k + 2 → fr cT I I' → Q (some (.int (m_ends s3 bus t).2)) I' (z_R0 kp sp wd) J F cn) → fr cT I I2 → z_WP (z_X0 L xs) z_P0 (d + 4) m_Trial_send 88 [some (.ref 29), some (.int (nI t)), some (.int (nI (u + 1))), some (.int (nI m)), some (.int c), some (.int tu)] [] I2 (z_R0 kp sp wd) J F cn 0 0 Q := by
      intro s3 e I2 he hs3 q3 qI q4 qb qw q30 hQ fI
      have hs1 := stt_last ht hs3
      have o3 : ∀ j, 192 ≤ j → (m_last s3 t).2.1 j = s3.2.1 j := fun j hj => m_last_o (by omega)
      have x2 : xR I2 F (m_last s3 t) _ _ bus f0 := xR_stt x1 ht hs1 hc he z0 z0 q3 qI (fun j hj => by rw [o3 _ (by omega)]; exact q4 j hj) (fun j h1 h2 => by rw [o3 _ (by omega)]; exact qb j h1 h2) (fun j hj => by rw [o3 _ (by omega)]; exact qw j hj)
      have q30' : I2 30 0 = (m_last s3 t).2.1 (136 + t) := by rw [q30, hs1.2.2.1]; exact c_st_eq ht x1.1.1 hW.1
      refine tl_send x2 hb ht (by omega) (by omega) hs1 hW.1 he z0 z0 q30' (fun I' n' k' x' n1 k1 f' => ?_)
      have me := m_ends_eq (s := s3) (bus := bus) (t := t)
      rw [← me.1]
      exact hQ I' n' k' (xR_y x' me.2.1 me.2.2) (by omega) (by omega) (fr_t fI f')
    have lg : s_legal (m_begins r1 t c).2.1 t u = s_legal r1.2.1 t u := by unfold s_legal; rw [m_begins_o (by omega) (by omega) (by omega) (by omega)]
    have by' : (m_begins r1 t c).2.1 (40 + t) = r1.2.1 (40 + t) := m_begins_o (by omega) (by omega) (by omega) (by omega)
    have w4 : ∀ j, j < 1200 → I1 4 j = r1.2.1 (192 + j) := x1.1.2.1
    repeat ((first | refine And.intro (by (conv => arg 2; whnf); (try simp only [z_lit, nI_add, pk_mul, z_pr1, z_pr2]); exact z_in (by omega) (by decide)) ?_ | refine z_bt1 (by decide) ?_ | refine z_bf1 (by decide) ?_ | refine z_bt2 (by decide) ?_ | refine z_bf2 (by decide) ?_); conv => whnf)
    refine ⟨fun g => ?_, fun g => ?_⟩ <;> (try simp (disch := omega) only [z_lit, nI_add, pk_mul, z_pr1, z_pr2, nI_clamp, z_up_row, z_row_s, z_row_n, z_row_row, pk_us, pk_un] at g) <;> (conv => whnf)
    · rw [if_pos g] at hQ
      refine hC _ _ _ _ _ _ _ _ _ _ (fun _ _ _ _ _ _ q => q) (cu_sendSpot ?_)
      conv => whnf
      unfold m_taken at hQ
      rw [lg, by'] at hQ
      refine hC _ _ _ _ _ _ _ _ _ _ (fun _ _ _ _ _ _ q => q) (cu_take (from' := 1152 + 8 * u) (u := u) ht hu hm (by omega) x1.1.1 hW.1 (fun hl => ?_) (fun hl hbz => ?_) (fun hl hbz => ?_)) <;> (conv => whnf) <;> (repeat ((first | refine And.intro (by (conv => arg 2; whnf); (try simp only [z_lit, nI_add, pk_mul, z_pr1, z_pr2]); exact z_in (by omega) (by decide)) ?_ | refine z_bt1 (by decide) ?_ | refine z_bf1 (by decide) ?_ | refine z_bt2 (by decide) ?_ | refine z_bf2 (by decide) ?_); conv => whnf))
      · rw [hl] at hQ
        simp (disch := omega) only [z_lit, nI_add, pk_mul, z_pr1, z_pr2, nI_clamp, z_up_row, z_row_s, z_row_n, z_row_row, pk_us, pk_un]
        refine hK _ _ _ _ _ _ _ _ _ _ (fin (m_errs (m_begins r1 t c) t) (nI 1) _ z1 (stt_errs ht hs2) rfl (fun b h1 h2 h3 => ?_) (fun j hj => ?_) (fun j h1 h2 => ?_) (fun j hj => ?_) rfl hQ (fr_t f1' (fr_w (fr_w fr_r (by decide)) (by decide))))
        · rw [z_row_n _ _ h3, z_row_n _ _ h1]
        · rw [m_errs_o (by omega) (by omega) (by omega), o2 _ (by omega)]; exact w4 j hj
        · rw [m_errs_o (by omega) (by omega) (by omega), o2 _ (by omega)]; exact hW.2.2.1 j (by omega)
        · rw [m_errs_o (by omega) (by omega) (by omega), o2 _ (by omega)]
      · rw [hl, hbz] at hQ
        simp (disch := omega) only [z_lit, nI_add, pk_mul, z_pr1, z_pr2, nI_clamp, z_up_row, z_row_s, z_row_n, z_row_row, pk_us, pk_un]
        refine hK _ _ _ _ _ _ _ _ _ _ (fin (m_begins r1 t c) (nI 0) _ z0 hs2 rfl (fun b h1 h2 h3 => ?_) (fun j hj => ?_) (fun j h1 h2 => ?_) (fun j hj => ?_) rfl hQ (fr_t f1' (fr_w (fr_w fr_r (by decide)) (by decide))))
        · rw [z_row_n _ _ h3, z_row_n _ _ h1]
        · rw [o2 _ (by omega)]; exact w4 j hj
        · rw [o2 _ (by omega)]; exact hW.2.2.1 j (by omega)
        · rw [o2 _ (by omega)]
      · rw [hl, hbz] at hQ
        simp (disch := omega) only [z_lit, nI_add, pk_mul, z_pr1, z_pr2, nI_clamp, z_up_row, z_row_s, z_row_n, z_row_row, pk_us, pk_un]
        refine hK _ _ _ _ _ _ _ _ _ _ (fin (m_copy (m_begins r1 t c) (1344 + 8 * u) (576 + 8 * (6 * t + u)) m) (nI 0) _ z0 (stt_copy hs2 ht (by omega)) rfl (fun b h1 h2 h3 => ?_) (fun j hj => ?_) (fun j h1 h2 => ?_) (fun j hj => ?_) rfl hQ (fr_t f1' (fr_w (fr_w (fr_w fr_r (by decide)) (by decide)) (by decide))))
        · rw [z_row_n _ _ h3, z_row_n _ _ h1, z_row_n _ _ h2]
        · rw [show 1344 + 8 * u = 192 + (1152 + 8 * u) by omega, show 576 + 8 * (6 * t + u) = 192 + (384 + 8 * (6 * t + u)) by omega]
          exact cpy_rel w4 (fun j hj => o2 j hj) hj (by omega) (by omega)
        · exact cpy_b16 (fun j h1 h2 => by rw [o2 _ h1]; exact hW.2.2.1 j (by omega)) (by omega) (by omega) h1 h2
        · rw [m_copy_o (by omega), o2 _ (by omega)]
    · rw [if_neg g] at hQ
      refine hC _ _ _ _ _ _ _ _ _ _ (fun _ _ _ _ _ _ q => q) (cu_settle ht ?_)
      conv => whnf
      have x2 : xR (z_row I1 3 (c_settle (I1 3) t c (nI 1024))) F (m_errs (m_begins r1 t c) t) _ _ bus f0 := xR_stt x1 ht (stt_errs ht hs2) hc z1 z0 z0 rfl (fun b h1 _ _ => z_row_n _ _ h1) (fun j hj => ?_) (fun j h1 h2 => ?_) (fun j hj => ?_)
      · refine hC _ _ _ _ _ _ _ _ _ _ (fun _ _ _ _ _ _ q => q) (ct_noAnswer x2 (fun I3 x3 e3 f3 => ?_))
        conv => whnf
        exact hQ I3 _ _ x3 (by omega) (by omega) (fr_t (fr_t f1' (fr_w fr_r (by decide))) f3)
      · rw [m_errs_o (by omega) (by omega) (by omega), o2 _ (by omega)]; exact x1.1.2.1 j hj
      · rw [m_errs_o (by omega) (by omega) (by omega), o2 _ (by omega)]; exact hW.2.2.1 j (by omega)
      · rw [m_errs_o (by omega) (by omega) (by omega), o2 _ (by omega)]
end
