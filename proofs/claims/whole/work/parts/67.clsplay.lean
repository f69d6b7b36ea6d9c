/-! the class's tries of a line -/
def lR (I : z_I) (F : z_F) (s : z_sg) (n k : Nat) : Prop := yR I F s n k ∧ gW s.2.1 ∧ (I 1 5 = s.2.1 0 ∧ I 1 6 = s.2.1 1 ∧ I 1 10 = s.1 4) ∧ pS I s.2.1 ∧ tb_ok s.2.1 ∧ ∃ rt, rt ≤ 3 ∧ s.2.1 1 = nI rt
/-- the cells that tries of lines write, but for one number of the world's -/
def lF (I I' : z_I) : Prop := fr (1 :: cT) I I' ∧ ∀ j, j ≠ 10 → I' 1 j = I 1 j
theorem lF_r {I : z_I} : lF I I := ⟨fr_r, fun _ _ => rfl⟩
theorem lF_t {I I' I'' : z_I} (h : lF I I') (g : lF I' I'') : lF I I'' := ⟨fr_t h.1 g.1, fun j hj => (g.2 j hj).trans (h.2 j hj)⟩
theorem try1_gW {s : z_sg} {i bus : Nat} (ho : ln_ok s.2.1 i) (hb : bus < 2) (h : gW s.2.1) : gW (m_try1 s i bus).1.2.1 :=
  ⟨fun c hc => by rw [try1_o ho hb (by omega)]; exact h.1 c hc, try1_fok ho hb h.2⟩
theorem tb_c {w w' : Nat → Int32} (h : tb_ok w) (h8 : w' 8 = w 8) (hw : ∀ i f, i < 24 → f < 11 → w' (1584 + 14 * i + f) = w (1584 + 14 * i + f)) : tb_ok w' := by
  obtain ⟨a, b, c⟩ := h
  have hl : ∀ i f, i < 24 → f < 11 → lnn w' i f = lnn w i f := fun i f x y => by unfold lnn; rw [hw i f x y]
  refine ⟨by rw [h8]; exact a, by rw [h8]; exact b, fun i hi => ?_⟩
  rw [h8] at hi
  have i24 : i < 24 := by omega
  have q := c i hi
  unfold ln_ok at q ⊢
  refine ⟨fun f hf => by rw [hw i f i24 hf, hl i f i24 hf]; exact q.1 f hf, ?_⟩
  rw [hl i 0 i24 (by omega), hl i 1 i24 (by omega), hl i 2 i24 (by omega), hl i 3 i24 (by omega), hl i 4 i24 (by omega), hl i 5 i24 (by omega), hl i 6 i24 (by omega), hl i 7 i24 (by omega), hl i 8 i24 (by omega), hl i 9 i24 (by omega), hl i 10 i24 (by omega)]
  exact q.2
section
variable {L : Nat} {xs : Nat → Int32} {d : Nat} {kp sp wd : Value} {I : z_I} {s : z_sg} {R : z_R} {J : z_J} {F : z_F} {cn : Nat} {Q : z_Q} {n k bus : Nat} {f0 : Int32}
theorem cf_hasTime {v : Int32} (h10 : I 1 10 = s.1 4) (h5 : I 1 5 = s.2.1 0) (hQ : Q (some (.int (z_bi (!s_much s v)))) I (z_R0 kp sp wd) J F cn) : z_M (z_X0 L xs) z_P0 d m_Frames_hasTimeFor [.ref 31, .int v] I (z_R0 kp sp wd) J F cn Q := by
  unfold s_much at hQ
  rw [Bool.not_not] at hQ
  refine z_WP_gos [] 1000 fun K C hK hC => ?_
  conv => whnf
  refine ⟨fun h => ?_, fun h => ?_⟩
  · rw [h10, h5] at h
    conv => whnf
    exact z_Q0 hQ (decide_eq_false (Int32.not_le.mpr h))
  · rw [h10, h5] at h
    conv => whnf
    exact z_Q1 hQ (decide_eq_true (Int32.not_lt.mp h))
/-- behind a try: the frame's time -/
theorem lR_try {I' : z_I} {F' : z_F} {i n' k' tr : Nat} {b o : Int32} (h : lR I F s n k) (hi : i < (s.2.1 8).toNatClampNeg) (hb : bus < 2) (x : yR I' F' (m_try1 s i bus).1 n' k') (t : yT I' s (m_try1 s i bus).1) (f : fr cT I I') : lR (z_row I' 1 (upd (I' 1) 10 (I' 1 10 + I' 29 6))) F' (m_set3 (m_try1 s i bus).1 o tr b) n' k' ∧ lF I (z_row I' 1 (upd (I' 1) 10 (I' 1 10 + I' 29 6))) := by
  obtain ⟨a, g, ⟨c5, c6, c10⟩, p, tb, rt⟩ := h
  have ho := tb.2.2 i hi
  have i24 : i < 24 := by have := tb.2.1; omega
  have o1 : ∀ j, j ≤ 4 ∨ (6 ≤ j ∧ j ≤ 9) ∨ (31 ≤ j ∧ j < 48) ∨ (56 ≤ j ∧ j < 112) ∨ (192 ≤ j ∧ j < 576) ∨ (1344 ≤ j ∧ j < 1536) ∨ (1584 ≤ j ∧ j < 2220) ∨ 2572 ≤ j → (m_try1 s i bus).1.2.1 j = s.2.1 j := fun j hj => try1_o ho hb hj
  have i1 : I' 1 = I 1 := f 1 (by decide)
  obtain ⟨y1, y2, ⟨y3, y4⟩, y5, y6, y7⟩ := x
  have j1 : ∀ b, b ≠ 1 → (z_row I' 1 (upd (I' 1) 10 (I' 1 10 + I' 29 6))) b = I' b := fun b hb => z_row_n _ _ hb
  refine ⟨⟨⟨uRel_of y1 (fun b h1 h2 => j1 b (by omega)) (fun _ _ => rfl), wR_of y2 (fun b h1 h2 => j1 b (by omega)) (fun _ _ => rfl), ⟨y3, y4⟩, y5, y6, y7⟩, try1_gW ho hb g, ⟨?_, ?_, ?_⟩, ?_, ?_, ?_⟩, ?_, fun j hj => ?_⟩
  · show I' 1 5 = (m_try1 s i bus).1.2.1 0
    rw [i1, o1 0 (by omega)]; exact c5
  · show I' 1 6 = (m_try1 s i bus).1.2.1 1
    rw [i1, o1 1 (by omega)]; exact c6
  · show upd (I' 1) 10 (I' 1 10 + I' 29 6) 10 = (m_try1 s i bus).1.1 4
    rw [pk_us, i1, c10]; exact t.symm
  · refine pS_c p ?_ ?_ (o1 8 (by omega)) tb.2.1 (fun i f a b => o1 _ (by omega))
    · rw [j1 18 (by omega), f 18 (by decide)]
    · rw [j1 19 (by omega), f 19 (by decide)]
  · exact tb_c tb (o1 8 (by omega)) (fun i f a b => o1 _ (by omega))
  · obtain ⟨r, h1, h2⟩ := rt
    exact ⟨r, h1, by rw [show (m_set3 (m_try1 s i bus).1 o tr b).2.1 = (m_try1 s i bus).1.2.1 from rfl, o1 1 (by omega)]; exact h2⟩
  · exact fr_w (fr_m f (fun b hb => List.mem_cons_of_mem _ hb)) (by decide)
  · rw [z_row_s, pk_un hj, i1]
theorem lp_play {i : Nat} : ∀ fu (s : z_sg) bus tr (cb o : Int32) I F n k, fu + tr = 4 → tr ≤ 3 → lR I F s n k → i < (s.2.1 8).toNatClampNeg → bus < 2 → s.1 27 = nI tr → (∃ rt, tr ≤ rt ∧ rt ≤ 3 ∧ s.2.1 1 = nI rt) → (o = nI 1 ∨ o = nI 2) → cb = (if tr = 0 then nI bus else nI (1 - bus)) → (tr = 0 → s_much s (nI (s_time s.2.1 i)) = false) → (tr ≠ 0 → s.1 26 = o ∧ s.1 28 = cb) → n + 30 * fu + 60 < 2 ^ 30 → k + 5 * fu + 6 < 2 ^ 30 →
    (∀ I' F' n' k' tr' cb' o', lR I' F' (m_lp i fu s bus tr) n' k' → lF I I' → 1 ≤ tr' → tr' ≤ 4 → (m_lp i fu s bus tr).1 26 = o' → (m_lp i fu s bus tr).1 27 = nI tr' → (m_lp i fu s bus tr).1 28 = cb' → (lnn s.2.1 i 0 = 5 → o' = nI 0 → (I' 30 0 &&& nI 2 = nI 0 ↔ (m_lp i fu s bus tr).1 6 = nI 0)) → n' ≤ n + 30 * fu → k' ≤ k + 5 * fu → (∀ b, b ≠ 8 → F' b = F b) → z_WP (z_X0 L xs) z_P0 (d + 6) m_Frames_playLine 184 [some (.ref 31), some (.int (nI i)), some (.ref 18), some (.int (nI (s_time s.2.1 i))), some (.int cb'), some (.int (nI tr')), some (.int o')] [] I' (z_R0 kp sp wd) J F' cn 0 0 Q) →
    z_WP (z_X0 L xs) z_P0 (d + 6) m_Frames_playLine 64 [some (.ref 31), some (.int (nI i)), some (.ref 18), some (.int (nI (s_time s.2.1 i))), some (.int cb), some (.int (nI tr)), some (.int o)] [] I (z_R0 kp sp wd) J F cn 0 0 Q := by
  intro fu
  induction fu with
  | zero => intro s bus tr cb o I F n k h1 h2; omega
  | succ fu ih =>
    intro s bus tr cb o I F n k h1 h2 h hi hb h27 hrt hlo hcb h0 hne hn hk hQ
    obtain ⟨rt, hr1, hr2, hr3⟩ := hrt
    obtain ⟨a, g, ⟨c5, c6, c10⟩, p, tb, -⟩ := id h
    have ho := tb.2.2 i hi
    have i24 : i < 24 := by have := tb.2.1; omega
    obtain ⟨e0, e1, e2, e3, e4, e5, -⟩ := p.2 i hi
    have o1 : ∀ j, j ≤ 4 ∨ (6 ≤ j ∧ j ≤ 9) ∨ (31 ≤ j ∧ j < 48) ∨ (56 ≤ j ∧ j < 112) ∨ (192 ≤ j ∧ j < 576) ∨ (1344 ≤ j ∧ j < 1536) ∨ (1584 ≤ j ∧ j < 2220) ∨ 2572 ≤ j → (m_try1 s i bus).1.2.1 j = s.2.1 j := fun j hj => try1_o ho hb hj
    unfold m_lp at hQ
    have main : s_much s (nI (s_time s.2.1 i)) = false → z_WP (z_X0 L xs) z_P0 (d + 6) m_Frames_playLine 96 [some (.ref 31), some (.int (nI i)), some (.ref 18), some (.int (nI (s_time s.2.1 i))), some (.int cb), some (.int (nI tr)), some (.int o)] [] I (z_R0 kp sp wd) J F cn 0 0 Q := by
      intro hm
      rw [hm] at hQ
      simp only [cond_false] at hQ
      have bk : ∀ I0, I0 = I → z_WP (z_X0 L xs) z_P0 (d + 6) m_Frames_playLine 110 [some (.ref 31), some (.int (nI i)), some (.ref 18), some (.int (nI (s_time s.2.1 i))), some (.int cb), some (.int (nI tr)), some (.int o)] [.int (nI bus)] I0 (z_R0 kp sp wd) J F cn 0 0 Q := by
        intro I0 hI0
        subst hI0
        refine z_WP_gos [64] 1000 fun K C hK hC => ?_
        conv => whnf
        refine hC _ _ _ _ _ _ _ _ _ _ (fun _ _ _ _ _ _ q => q) (cp_told (f := 0) i24 (by decide) e0 ?_)
        conv => whnf
        refine hC _ _ _ _ _ _ _ _ _ _ (fun _ _ _ _ _ _ q => q) (cp_told (f := 1) i24 (by decide) e1 ?_)
        conv => whnf
        refine hC _ _ _ _ _ _ _ _ _ _ (fun _ _ _ _ _ _ q => q) (cp_told (f := 2) i24 (by decide) e2 ?_)
        conv => whnf
        refine hC _ _ _ _ _ _ _ _ _ _ (fun _ _ _ _ _ _ q => q) (cp_told (f := 5) i24 (by decide) e5 ?_)
        conv => whnf
        refine hC _ _ _ _ _ _ _ _ _ _ (fun _ _ _ _ _ _ q => q) (cp_told (f := 3) i24 (by decide) e3 ?_)
        conv => whnf
        refine hC _ _ _ _ _ _ _ _ _ _ (fun _ _ _ _ _ _ q => q) (cp_told (f := 4) i24 (by decide) e4 ?_)
        conv => whnf
        refine hC _ _ _ _ _ _ _ _ _ _ (fun _ _ _ _ _ _ q => q) (ca_try1 i24 ho a g hb (by omega) (by omega) (fun I1 F1 n1 k1 x1 t1 hn1 hk1 f1 fF tk => ?_))
        conv => whnf
        simp (disch := omega) only [z_lit, nI_add, pk_mul, z_pr1, z_pr2, nI_clamp, z_up_row, z_row_s, z_row_n, z_row_row, pk_us, pk_un]
        obtain ⟨q1, q2⟩ := lR_try (o := (m_try1 s i bus).2) (tr := tr + 1) (b := nI bus) h hi hb x1 t1 f1
        have st : s_time (m_set3 (m_try1 s i bus).1 (m_try1 s i bus).2 (tr + 1) (nI bus)).2.1 i = s_time s.2.1 i := s_time_c (fun j a b => o1 j (by omega)) i24
        have lk : lnn (m_set3 (m_try1 s i bus).1 (m_try1 s i bus).2 (tr + 1) (nI bus)).2.1 i 0 = lnn s.2.1 i 0 := lnn_c (fun j a b => o1 j (by omega)) i24 (by omega)
        have w1 : (m_set3 (m_try1 s i bus).1 (m_try1 s i bus).2 (tr + 1) (nI bus)).2.1 1 = nI rt := by
          show (m_try1 s i bus).1.2.1 1 = _
          rw [o1 1 (by omega), hr3]
        have w8 : (m_set3 (m_try1 s i bus).1 (m_try1 s i bus).2 (tr + 1) (nI bus)).2.1 8 = s.2.1 8 := o1 8 (by omega)
        refine hK _ _ _ _ _ _ _ _ _ _ ?_
        rw [hr3] at hQ
        generalize hI2 : z_row I1 1 (upd (I1 1) 10 (I1 1 10 + I1 29 6)) = I2 at q1 q2 ⊢
        have e30 : I2 30 = I1 30 := by rw [← hI2]; exact z_row_n _ _ (by omega)
        have f26 : (m_set3 (m_try1 s i bus).1 (m_try1 s i bus).2 (tr + 1) (nI bus)).1 26 = (m_try1 s i bus).2 := rfl
        have f6 : (m_set3 (m_try1 s i bus).1 (m_try1 s i bus).2 (tr + 1) (nI bus)).1 6 = (m_try1 s i bus).1.1 6 := rfl
        by_cases hag : (s_lost (m_try1 s i bus).2 && decide (nI (tr + 1) ≤ nI rt)) = true
        · rw [hag] at hQ
          simp only [cond_true] at hQ
          rw [Bool.and_eq_true, decide_eq_true_eq] at hag
          have htr : tr + 1 ≤ rt := by
            apply Nat.le_of_not_lt; intro z
            exact nI_ge (a := rt) (b := tr + 1) z (by omega) hag.2
          have hl : (m_try1 s i bus).2 = nI 1 ∨ (m_try1 s i bus).2 = nI 2 := by
            have := hag.1; unfold s_lost at this; simpa using this
          have ih' := ih (m_set3 (m_try1 s i bus).1 (m_try1 s i bus).2 (tr + 1) (nI bus)) (1 - bus) (tr + 1) (nI bus) (m_try1 s i bus).2 I2 F1 n1 k1 (by omega) (by omega) q1 (by rw [w8]; exact hi) (by omega) rfl ⟨rt, htr, hr2, w1⟩ hl (by rw [if_neg (by omega)]; congr 1; omega) (fun z => by omega) (fun _ => ⟨rfl, rfl⟩) (by omega) (by omega)
          rw [st, lk] at ih'
          exact ih' (fun I' F' n' k' tr' cb' o' a1 a2 a3 a4 a5 a6 a7 a8 a9 b1 b2 => hQ I' F' n' k' tr' cb' o' a1 (lF_t q2 a2) a3 a4 a5 a6 a7 a8 (by omega) (by omega) (fun b hb => (b2 b hb).trans (fF b hb)))
        · have hag' : (s_lost (m_try1 s i bus).2 && decide (nI (tr + 1) ≤ nI rt)) = false := by simpa using hag
          rw [hag'] at hQ
          simp only [cond_false] at hQ
          have q := hQ I2 F1 n1 k1 (tr + 1) (nI bus) (m_try1 s i bus).2 q1 q2 (by omega) (by omega) rfl rfl rfl (fun z y => by rw [e30, f6]; exact tk z y) (by omega) (by omega) fF
          have c6' : I2 1 6 = nI rt := by rw [q1.2.2.1.2.1, w1]
          generalize (m_try1 s i bus).2 = ov at *
          clear q1 hQ ih x1 tk
          refine z_WP_gos [184] 1000 fun K C hK hC => ?_
          conv => whnf
          simp (disch := omega) only [z_lit, nI_add, pk_mul, z_pr1, z_pr2, nI_clamp, z_up_row, z_row_s, z_row_n, z_row_row, pk_us, pk_un]
          refine ⟨fun z => ?_, fun z => ?_⟩
          · conv => whnf
            refine hK _ _ _ _ _ _ _ _ _ _ (q)
          · have z' : decide (nI (tr + 1) ≤ nI rt) = true := decide_eq_true (by rw [c6'] at z; exact Int32.not_lt.mp z)
            rw [z', Bool.and_true] at hag'
            unfold s_lost at hag'
            simp only [Bool.or_eq_false_iff, decide_eq_false_iff_not] at hag'
            have g1 := hag'.1
            have g2 := hag'.2
            repeat ((first | refine And.intro (by (conv => arg 2; whnf); (try simp only [z_lit, nI_add, pk_mul, z_pr1, z_pr2]); exact z_in (by omega) (by decide)) ?_ | refine z_bt1 (by decide) ?_ | refine z_bf1 (by decide) ?_ | refine z_bt2 (by decide) ?_ | refine z_bf2 (by decide) ?_ | refine z_bt1 (by first | exact g1 | exact g2) ?_ | refine z_bf1 (by first | exact g1 | exact g2) ?_ | refine z_bt2 (by first | exact g1 | exact g2) ?_ | refine z_bf2 (by first | exact g1 | exact g2) ?_); conv => whnf)
            refine hK _ _ _ _ _ _ _ _ _ _ (q)
      by_cases htr : tr = 0
      · subst htr
        rw [if_pos rfl] at hcb
        subst hcb
        refine z_WP_gos [110] 1000 fun K C hK hC => ?_
        conv => whnf
        repeat ((first | refine And.intro (by (conv => arg 2; whnf); (try simp only [z_lit, nI_add, pk_mul, z_pr1, z_pr2]); exact z_in (by omega) (by decide)) ?_ | refine z_bt1 (by decide) ?_ | refine z_bf1 (by decide) ?_ | refine z_bt2 (by decide) ?_ | refine z_bf2 (by decide) ?_); conv => whnf)
        refine hK _ _ _ _ _ _ _ _ _ _ (bk I rfl)
      · rw [if_neg htr] at hcb
        have hne0 : ¬ nI tr = nI 0 := nI_ne (by omega) (by omega) htr
        have eb : nI 1 - cb = nI bus := by
          rw [hcb, pk_sub (by omega)]; congr 1; omega
        refine z_WP_gos [110] 1000 fun K C hK hC => ?_
        conv => whnf
        repeat ((first | refine And.intro (by (conv => arg 2; whnf); (try simp only [z_lit, nI_add, pk_mul, z_pr1, z_pr2]); exact z_in (by omega) (by decide)) ?_ | refine z_bt1 (by decide) ?_ | refine z_bf1 (by decide) ?_ | refine z_bt2 (by decide) ?_ | refine z_bf2 (by decide) ?_ | refine z_bt1 (by first | exact hne0) ?_ | refine z_bf1 (by first | exact hne0) ?_ | refine z_bt2 (by first | exact hne0) ?_ | refine z_bf2 (by first | exact hne0) ?_); conv => whnf)
        simp only [z_lit]
        rw [eb]
        refine hK _ _ _ _ _ _ _ _ _ _ (bk I rfl)
    have ex : s_much s (nI (s_time s.2.1 i)) = true → z_WP (z_X0 L xs) z_P0 (d + 6) m_Frames_playLine 184 [some (.ref 31), some (.int (nI i)), some (.ref 18), some (.int (nI (s_time s.2.1 i))), some (.int cb), some (.int (nI tr)), some (.int o)] [] I (z_R0 kp sp wd) J F cn 0 0 Q := by
      intro hm
      have htr : tr ≠ 0 := fun z => by rw [h0 z] at hm; exact absurd hm (by decide)
      rw [hm] at hQ
      simp only [cond_true] at hQ
      obtain ⟨a1, a2⟩ := hne htr
      refine hQ I F n k tr cb o h lF_r (by omega) (by omega) a1 h27 a2 (fun _ z => ?_) (by omega) (by omega) (fun _ _ => rfl)
      rcases hlo with y | y <;> rw [y] at z <;> exact absurd z (by decide)
    clear hQ
    refine z_WP_gos [96, 184] 1000 fun K C hK hC => ?_
    conv => whnf
    refine ⟨fun z => absurd z ?_, fun _ => ?_⟩
    · rw [c6, hr3]; exact nI_nlt hr1 (by omega)
    rcases hlo with z | z <;> subst z
    · conv => whnf
      repeat ((first | refine And.intro (by (conv => arg 2; whnf); (try simp only [z_lit, nI_add, pk_mul, z_pr1, z_pr2]); exact z_in (by omega) (by decide)) ?_ | refine z_bt1 (by decide) ?_ | refine z_bf1 (by decide) ?_ | refine z_bt2 (by decide) ?_ | refine z_bf2 (by decide) ?_); conv => whnf)
      refine hC _ _ _ _ _ _ _ _ _ _ (fun _ _ _ _ _ _ q => q) (cf_hasTime (s := s) c10 c5 ?_)
      conv => whnf
      cases hm : s_much s (nI (s_time s.2.1 i))
      · repeat ((first | refine And.intro (by (conv => arg 2; whnf); (try simp only [z_lit, nI_add, pk_mul, z_pr1, z_pr2]); exact z_in (by omega) (by decide)) ?_ | refine z_bt1 (by decide) ?_ | refine z_bf1 (by decide) ?_ | refine z_bt2 (by decide) ?_ | refine z_bf2 (by decide) ?_); conv => whnf)
        refine hK _ _ _ _ _ _ _ _ _ _ (main hm)
      · repeat ((first | refine And.intro (by (conv => arg 2; whnf); (try simp only [z_lit, nI_add, pk_mul, z_pr1, z_pr2]); exact z_in (by omega) (by decide)) ?_ | refine z_bt1 (by decide) ?_ | refine z_bf1 (by decide) ?_ | refine z_bt2 (by decide) ?_ | refine z_bf2 (by decide) ?_); conv => whnf)
        refine hK _ _ _ _ _ _ _ _ _ _ (ex hm)
    · conv => whnf
      repeat ((first | refine And.intro (by (conv => arg 2; whnf); (try simp only [z_lit, nI_add, pk_mul, z_pr1, z_pr2]); exact z_in (by omega) (by decide)) ?_ | refine z_bt1 (by decide) ?_ | refine z_bf1 (by decide) ?_ | refine z_bt2 (by decide) ?_ | refine z_bf2 (by decide) ?_); conv => whnf)
      refine hC _ _ _ _ _ _ _ _ _ _ (fun _ _ _ _ _ _ q => q) (cf_hasTime (s := s) c10 c5 ?_)
      conv => whnf
      cases hm : s_much s (nI (s_time s.2.1 i))
      · repeat ((first | refine And.intro (by (conv => arg 2; whnf); (try simp only [z_lit, nI_add, pk_mul, z_pr1, z_pr2]); exact z_in (by omega) (by decide)) ?_ | refine z_bt1 (by decide) ?_ | refine z_bf1 (by decide) ?_ | refine z_bt2 (by decide) ?_ | refine z_bf2 (by decide) ?_); conv => whnf)
        refine hK _ _ _ _ _ _ _ _ _ _ (main hm)
      · repeat ((first | refine And.intro (by (conv => arg 2; whnf); (try simp only [z_lit, nI_add, pk_mul, z_pr1, z_pr2]); exact z_in (by omega) (by decide)) ?_ | refine z_bt1 (by decide) ?_ | refine z_bf1 (by decide) ?_ | refine z_bt2 (by decide) ?_ | refine z_bf2 (by decide) ?_); conv => whnf)
        refine hK _ _ _ _ _ _ _ _ _ _ (ex hm)
end
