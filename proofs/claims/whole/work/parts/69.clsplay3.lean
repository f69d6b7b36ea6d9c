/-! the class's lines, whole -/
section
variable {L : Nat} {xs : Nat → Int32} {d : Nat} {kp sp wd : Value} {I : z_I} {s : z_sg} {R : z_R} {J : z_J} {F : z_F} {cn : Nat} {Q : z_Q} {n k bus : Nat} {f0 : Int32}
theorem lR_f {s' : z_sg} {I' : z_I} (h : lR I F s n k) (hI : ∀ b, b ≠ 31 → I' b = I b) (hw : s'.2.1 = s.2.1) (h4 : s'.1 4 = s.1 4) (h6 : s'.1 6 = s.1 6) (h7 : s'.1 7 = s.1 7) : lR I' F s' n k := by
  obtain ⟨⟨y1, y2, ⟨y3, y4⟩, y5, y6, y7⟩, g, ⟨c5, c6, c10⟩, p, tb, rt, hrt, ert⟩ := h
  have i1 : I' 1 = I 1 := hI 1 (by omega)
  refine ⟨⟨uRel_of y1 (fun b _ _ => hI b (by omega)) (fun j hj => by rw [hw]), wR_of y2 (fun b _ _ => hI b (by omega)) (fun j hj => by rw [hw]), ⟨by rw [i1, hw]; exact y3, by rw [i1, hw]; exact y4⟩, by rw [hI 29 (by omega), h7]; exact y5, by rw [hw]; exact y6, by rw [h6]; exact y7⟩, by rw [hw]; exact g, ⟨by rw [i1, hw]; exact c5, by rw [i1, hw]; exact c6, by rw [i1, h4]; exact c10⟩, ?_, by rw [hw]; exact tb, rt, hrt, by rw [hw]; exact ert⟩
  rw [hw]
  exact ⟨by rw [hI 18 (by omega)]; exact p.1, by rw [hI 19 (by omega)]; exact p.2⟩
/-- who is to have control behind this frame: the class's word for it, the model's, the controller -/
def hh (v p c : Int32) : Prop := (v = -1 ∧ p = c) ∨ (v = p ∧ ¬ p = c ∧ ∃ t : Nat, t ≤ 8 ∧ p = nI t)
/-- what a line leaves, in both -/
def nR (I I' : z_I) (F : z_F) (T : z_sg) (o n k ln : Nat) : Prop := lR I' F T n k ∧ pD I' T.2.1 ∧ jR (I' 27) (I' 28) T.2.1 ln ∧ hh (I' 31 2) (T.1 24) (T.2.1 3) ∧ I' 31 3 = (if o = 0 then I 31 3 + nI 1 else I 31 3) ∧ I' 31 4 = (if o = 0 then I 31 4 else I 31 4 + nI 1) ∧ I' 31 5 = I 31 5 ∧ pF I I'
theorem en_225 {i o tr ln : Nat} {need cb : Int32} (h : lR I F s n k) (hD : pD I s.2.1) (hJ : jR (I 27) (I 28) s.2.1 ln) (hln : ln < 2 ^ 30) (hi : i < (s.2.1 8).toNatClampNeg) (h24 : hh (I 31 2) (s.1 24) (s.2.1 3)) (h26 : s.1 26 = nI o) (ho : o ≤ 7) (h27 : s.1 27 = nI tr) (htr : tr ≤ 4) (h28 : s.1 28 = if tr = 0 then -1 else cb)
    (hQ : ∀ I', nR I I' F (m_nt s i o) o n k (ln + 1) → Q none I' (z_R0 kp sp wd) J F cn) :
    z_WP (z_X0 L xs) z_P0 (d + 6) m_Frames_playLine 225 [some (.ref 31), some (.int (nI i)), some (.ref 18), some (.int need), some (.int cb), some (.int (nI tr)), some (.int (nI o))] [] I (z_R0 kp sp wd) J F cn 0 0 Q := by
  have i24 : i < 24 := by have := h.2.2.2.2.1.2.1; omega
  obtain ⟨j0, j1, j3, j4, j5, j6⟩ := id hJ
  have hfr : I 1 7 = s.2.1 2 := h.1.2.2.1.1
  have fin : ∀ b', b' = s.1 28 → Q none (z_row (r_jour (r_note I i o) i (nI tr) b' (nI o) ln) 31 (if o = 0 then upd (I 31) 3 (I 31 3 + nI 1) else upd (I 31) 4 (I 31 4 + nI 1))) (z_R0 kp sp wd) J F cn := by
    intro b' hb'
    subst hb'
    unfold r_jour r_note
    refine hQ _ ⟨nt_yR i24 ho h (fun b a1 a2 a3 a4 a5 a6 => ?_), nt_pD hi h.2.2.2.2.1.2.1 ho j5 hln hD rfl rfl rfl, ?_, ?_, ?_, ?_, ?_, ?_, fun j hj => rfl⟩
    · rw [z_row_n _ _ a6, z_row_n _ _ a5, z_row_n _ _ a4, z_row_n _ _ a3, z_row_n _ _ a1, z_row_n _ _ a2]
    · have q := nt_jR (i := i) i24 ho hln h26 hJ hfr
      rw [h27] at q
      exact q
    · rw [z_row_s, nt_o i24 ho (by omega) (by omega) (by omega)]
      split
      · rw [pk_un (by omega)]; exact h24
      · rw [pk_un (by omega)]; exact h24
    · rw [z_row_s]
      split
      · rw [pk_us]
      · rw [pk_un (by omega)]
    · rw [z_row_s]
      split
      · rw [pk_un (by omega)]
      · rw [pk_us]
    · rw [z_row_s]
      split
      · rw [pk_un (by omega)]
      · rw [pk_un (by omega)]
    · exact fr_w (fr_w (fr_w (fr_w (fr_w (fr_w fr_r (by decide)) (by decide)) (by decide)) (by decide)) (by decide)) (by decide)
  refine z_WP_gos [] 1000 fun K C hK hC => ?_
  conv => whnf
  refine hC _ _ _ _ _ _ _ _ _ _ (fun _ _ _ _ _ _ q => q) (cp_note i24 ho ?_)
  conv => whnf
  by_cases z : tr = 0
  · subst z
    rw [if_pos rfl] at h28
    repeat ((first | refine And.intro (by (conv => arg 2; whnf); (try simp only [z_lit, nI_add, pk_mul, z_pr1, z_pr2]); exact z_in (by omega) (by decide)) ?_ | refine z_bt1 (by decide) ?_ | refine z_bf1 (by decide) ?_ | refine z_bt2 (by decide) ?_ | refine z_bf2 (by decide) ?_); conv => whnf)
    refine hC _ _ _ _ _ _ _ _ _ _ (fun _ _ _ _ _ _ q => q) (cf_noteLine (ln := ln) ho j0 j1 j3 j4 ?_)
    conv => whnf
    exact fin _ h28.symm
  · rw [if_neg z] at h28
    have hne0 : ¬ nI tr = nI 0 := nI_ne (by omega) (by omega) z
    repeat ((first | refine And.intro (by (conv => arg 2; whnf); (try simp only [z_lit, nI_add, pk_mul, z_pr1, z_pr2]); exact z_in (by omega) (by decide)) ?_ | refine z_bt1 (by decide) ?_ | refine z_bf1 (by decide) ?_ | refine z_bt2 (by decide) ?_ | refine z_bf2 (by decide) ?_ | refine z_bt1 (by first | exact hne0) ?_ | refine z_bf1 (by first | exact hne0) ?_ | refine z_bt2 (by first | exact hne0) ?_ | refine z_bf2 (by first | exact hne0) ?_); conv => whnf)
    refine hC _ _ _ _ _ _ _ _ _ _ (fun _ _ _ _ _ _ q => q) (cf_noteLine (ln := ln) ho j0 j1 j3 j4 ?_)
    conv => whnf
    exact fin _ h28.symm
theorem en_play {i o tr ln : Nat} {need cb : Int32} (h : lR I F s n k) (hD : pD I s.2.1) (hJ : jR (I 27) (I 28) s.2.1 ln) (hln : ln < 2 ^ 30) (hi : i < (s.2.1 8).toNatClampNeg) (h24 : hh (I 31 2) (s.1 24) (s.2.1 3)) (h26 : s.1 26 = nI o) (ho : o ≤ 7) (h27 : s.1 27 = nI tr) (htr : tr ≤ 4) (h28 : s.1 28 = if tr = 0 then -1 else cb) (tk : lnn s.2.1 i 0 = 5 → o = 0 → (I 30 0 &&& nI 2 = nI 0 ↔ s.1 6 = nI 0)) (hnc : lnn s.2.1 i 0 = 5 → o = 0 → ¬ nI (lnn s.2.1 i 1) = s.2.1 3)
    (hQ : ∀ I' o2, o2 ≤ 7 → (m_hd s (lnn s.2.1 i 0) (lnn s.2.1 i 1)).1 26 = nI o2 → nR I I' F (m_nt (m_hd s (lnn s.2.1 i 0) (lnn s.2.1 i 1)) i o2) o2 n k (ln + 1) → Q none I' (z_R0 kp sp wd) J F cn) :
    z_WP (z_X0 L xs) z_P0 (d + 6) m_Frames_playLine 184 [some (.ref 31), some (.int (nI i)), some (.ref 18), some (.int need), some (.int cb), some (.int (nI tr)), some (.int (nI o))] [] I (z_R0 kp sp wd) J F cn 0 0 Q := by
  obtain ⟨-, -, -, p, tb, -⟩ := id h
  have ho1 := tb.2.2 i hi
  have hk := ho1.2.1
  have i24 : i < 24 := by have := tb.2.1; omega
  obtain ⟨e0, e1, -⟩ := p.2 i hi
  have v6 : v01 (s.1 6) := h.1.2.2.2.2.2
  unfold m_hd at hQ
  refine z_WP_gos [225] 1000 fun K C hK hC => ?_
  conv => whnf
  refine hC _ _ _ _ _ _ _ _ _ _ (fun _ _ _ _ _ _ q => q) (cp_told (f := 0) i24 (by decide) e0 ?_)
  conv => whnf
  refine ⟨fun g5 => ?_, fun g5 => ?_⟩ <;> (try simp (disch := omega) only [z_lit, nI_add, pk_mul, z_pr1, z_pr2, nI_clamp, z_up_row, z_row_s, z_row_n, z_row_row, pk_us, pk_un] at g5) <;> (conv => whnf)
  · have n5 : ¬ lnn s.2.1 i 0 = 5 := fun z => g5 (by rw [z])
    rw [if_neg (fun z => n5 z.1)] at hQ
    refine hK _ _ _ _ _ _ _ _ _ _ (en_225 h hD hJ hln hi h24 h26 ho h27 htr h28 (fun I' q => hQ I' o ho h26 q))
  · have n5 : lnn s.2.1 i 0 = 5 := nI_inj9 (by omega) (by omega) g5
    refine ⟨fun g0 => ?_, fun g0 => ?_⟩ <;> (try simp (disch := omega) only [z_lit, nI_add, pk_mul, z_pr1, z_pr2, nI_clamp, z_up_row, z_row_s, z_row_n, z_row_row, pk_us, pk_un] at g0) <;> (conv => whnf)
    · rw [if_neg (fun z => g0 (by rw [← h26]; exact z.2))] at hQ
      refine hK _ _ _ _ _ _ _ _ _ _ (en_225 h hD hJ hln hi h24 h26 ho h27 htr h28 (fun I' q => hQ I' o ho h26 q))
    · have o0 : o = 0 := nI_inj9 (by omega) (by omega) g0
      subst o0
      rw [if_pos ⟨n5, h26⟩] at hQ
      have tk' := tk n5 rfl
      refine hC _ _ _ _ _ _ _ _ _ _ (fun _ _ _ _ _ _ q => q) (ct_takes ?_)
      conv => whnf
      by_cases z : s.1 6 = nI 0
      · rw [decide_eq_true (tk'.mpr z)]
        rw [if_neg (fun y => absurd (z.symm.trans y) (by decide))] at hQ
        repeat ((first | refine And.intro (by (conv => arg 2; whnf); (try simp only [z_lit, nI_add, pk_mul, z_pr1, z_pr2]); exact z_in (by omega) (by decide)) ?_ | refine z_bt1 (by decide) ?_ | refine z_bf1 (by decide) ?_ | refine z_bt2 (by decide) ?_ | refine z_bf2 (by decide) ?_); conv => whnf)
        refine hK _ _ _ _ _ _ _ _ _ _ (en_225 (s := m_f s 26 (nI 5)) (o := 5) (lR_f h (fun _ _ => rfl) rfl rfl rfl rfl) hD hJ hln hi h24 rfl (by omega) h27 htr h28 (fun I' q => hQ I' 5 (by omega) rfl q))
      · rw [decide_eq_false (fun y => z (tk'.mp y))]
        rw [if_pos ((v01_n v6).mp z)] at hQ
        repeat ((first | refine And.intro (by (conv => arg 2; whnf); (try simp only [z_lit, nI_add, pk_mul, z_pr1, z_pr2]); exact z_in (by omega) (by decide)) ?_ | refine z_bt1 (by decide) ?_ | refine z_bf1 (by decide) ?_ | refine z_bt2 (by decide) ?_ | refine z_bf2 (by decide) ?_); conv => whnf)
        refine hC _ _ _ _ _ _ _ _ _ _ (fun _ _ _ _ _ _ q => q) (cp_told (f := 1) i24 (by decide) e1 ?_)
        conv => whnf
        simp (disch := omega) only [z_lit, nI_add, pk_mul, z_pr1, z_pr2, nI_clamp, z_up_row, z_row_s, z_row_n, z_row_row, pk_us, pk_un]
        have hi2 : ∀ b, b ≠ 31 → (z_row I 31 (upd (I 31) 2 (nI (lnn s.2.1 i 1)))) b = I b := fun b hb => z_row_n _ _ hb
        refine hK _ _ _ _ _ _ _ _ _ _ (en_225 (s := m_f s 24 (nI (lnn s.2.1 i 1))) (o := 0) (lR_f h hi2 rfl rfl rfl rfl) hD hJ hln hi (Or.inr ⟨rfl, hnc n5 rfl, lnn s.2.1 i 1, ho1.2.2.1, rfl⟩) h26 (by omega) h27 htr h28 (fun I' q => hQ I' 0 (by omega) h26 ?_))
        obtain ⟨q1, q2, q3, q4, q5, q6, q7, q8, q9⟩ := q
        exact ⟨q1, q2, q3, q4, q5, q6, q7, fr_t (fr_w fr_r (by decide)) q8, q9⟩
theorem to184 {i : Nat} {need cb : Int32} (rt : Nat) (hrt : rt ≤ 3) (c6 : I 1 6 = nI rt) (o : Nat) (h1 : ¬ nI o = nI 1) (h2 : ¬ nI o = nI 2) (hQ : z_WP (z_X0 L xs) z_P0 (d + 6) m_Frames_playLine 184 [some (.ref 31), some (.int (nI i)), some (.ref 18), some (.int need), some (.int cb), some (.int (nI 0)), some (.int (nI o))] [] I (z_R0 kp sp wd) J F cn 0 0 Q) :
    z_WP (z_X0 L xs) z_P0 (d + 6) m_Frames_playLine 64 [some (.ref 31), some (.int (nI i)), some (.ref 18), some (.int need), some (.int cb), some (.int (nI 0)), some (.int (nI o))] [] I (z_R0 kp sp wd) J F cn 0 0 Q := by
  refine z_WP_gos [184] 1000 fun K C hK hC => ?_
  conv => whnf
  refine ⟨fun z => absurd z ?_, fun _ => ?_⟩
  · rw [c6]; exact nI_nlt (by omega) (by omega)
  conv => whnf
  repeat ((first | refine And.intro (by (conv => arg 2; whnf); (try simp only [z_lit, nI_add, pk_mul, z_pr1, z_pr2]); exact z_in (by omega) (by decide)) ?_ | refine z_bt1 (by decide) ?_ | refine z_bf1 (by decide) ?_ | refine z_bt2 (by decide) ?_ | refine z_bf2 (by decide) ?_ | refine z_bt1 (by first | exact h1 | exact h2) ?_ | refine z_bf1 (by first | exact h1 | exact h2) ?_ | refine z_bt2 (by first | exact h1 | exact h2) ?_ | refine z_bf2 (by first | exact h1 | exact h2) ?_); conv => whnf)
  refine hK _ _ _ _ _ _ _ _ _ _ (hQ)
theorem lp_f24 {i : Nat} (hi : i < 24) : ∀ fu (s : z_sg) bus tr, ln_ok s.2.1 i → bus < 2 → (m_lp i fu s bus tr).1 24 = s.1 24
  | 0, s, bus, tr, ho, hb => rfl
  | fu + 1, s, bus, tr, ho, hb => by
    unfold m_lp
    cases s_much s (nI (s_time s.2.1 i))
    · simp only [cond_false]
      have k1 : m_kept s (m_set3 (m_try1 s i bus).1 (m_try1 s i bus).2 (tr + 1) (nI bus)) := kept_try ho hb
      have e : (m_set3 (m_try1 s i bus).1 (m_try1 s i bus).2 (tr + 1) (nI bus)).1 24 = s.1 24 := try1_f (i := i) (bus := bus) ho (by omega)
      cases s_lost (m_try1 s i bus).2 && decide (nI (tr + 1) ≤ s.2.1 1)
      · exact e
      · exact (lp_f24 hi fu _ (1 - bus) (tr + 1) (ln_ok_c (kept_ln k1) hi ho) (by omega)).trans e
    · rfl
/-- a line of a frame, in the model -/
def m_stp (s : z_sg) (i : Nat) : z_sg := m_f (m_nt (m_goes (m_f s 29 (s.1 29 + nI 1)) i) i (s_out (m_goes (m_f s 29 (s.1 29 + nI 1)) i))) 30 (s.1 30 + z_bi (decide (s_out (m_goes (m_f s 29 (s.1 29 + nI 1)) i) = 0)))
/-- between the lines of a frame -/
def zR (I : z_I) (F : z_F) (s : z_sg) (n k ln : Nat) : Prop := lR I F s n k ∧ pD I s.2.1 ∧ jR (I 27) (I 28) s.2.1 ln ∧ hh (I 31 2) (s.1 24) (s.2.1 3) ∧ I 31 3 = s.1 30 ∧ I 31 4 + s.1 30 = s.1 29 ∧ I 31 5 = s.1 25
theorem cf_playLine {i ln : Nat} (h : zR I F s n k ln) (hi : i < (s.2.1 8).toNatClampNeg) (hn : n + 200 < 2 ^ 30) (hk : k + 40 < 2 ^ 30) (hln : ln < 2 ^ 30)
    (hQ : ∀ I' F' n' k', zR I' F' (m_stp s i) n' k' (ln + 1) → n' ≤ n + 120 → k' ≤ k + 20 → pF I I' → (∀ b, b ≠ 8 → F' b = F b) → Q none I' (z_R0 kp sp wd) J F' cn) :
    z_M (z_X0 L xs) z_P0 (d + 6) m_Frames_playLine [.ref 31, .int (nI i)] I (z_R0 kp sp wd) J F cn Q := by
  obtain ⟨hl, hD, hJ, h24, h30, h29, h25⟩ := h
  obtain ⟨-, -, ⟨c5, c6, c10⟩, p, tb, rt, hrt, ert⟩ := id hl
  have ho1 := tb.2.2 i hi
  have i24 : i < 24 := by have := tb.2.1; omega
  obtain ⟨-, -, -, -, -, -, -, -, -, e9, e10⟩ := p.2 i hi
  have c8 : I 1 8 = s.2.1 3 := hl.1.2.2.1.2
  have hb := ln_b ho1
  -- the end, for any row that the tries left
  have fin : ∀ (S : z_sg) I1 F1 n1 k1 o tr cb, (∀ j, j ≤ 4 ∨ (6 ≤ j ∧ j ≤ 9) ∨ (31 ≤ j ∧ j < 48) ∨ (56 ≤ j ∧ j < 112) ∨ (192 ≤ j ∧ j < 576) ∨ (1344 ≤ j ∧ j < 1536) ∨ (1584 ≤ j ∧ j < 2220) ∨ 2572 ≤ j → S.2.1 j = s.2.1 j) → S.1 30 = s.1 30 → S.1 29 = s.1 29 + nI 1 → S.1 25 = s.1 25 → lR I1 F1 S n1 k1 → lF I I1 → hh (I 31 2) (S.1 24) (s.2.1 3) → (lnn s.2.1 i 0 = 5 → o = 0 → ¬ nI (lnn s.2.1 i 1) = s.2.1 3) → S.1 26 = nI o → o ≤ 7 → S.1 27 = nI tr → tr ≤ 4 → S.1 28 = (if tr = 0 then -1 else cb) → (lnn s.2.1 i 0 = 5 → o = 0 → (I1 30 0 &&& nI 2 = nI 0 ↔ S.1 6 = nI 0)) → n1 ≤ n + 120 → k1 ≤ k + 20 → (∀ b, b ≠ 8 → F1 b = F b) → m_hd S (lnn s.2.1 i 0) (lnn s.2.1 i 1) = m_goes (m_f s 29 (s.1 29 + nI 1)) i → z_WP (z_X0 L xs) z_P0 (d + 6) m_Frames_playLine 184 [some (.ref 31), some (.int (nI i)), some (.ref 18), some (.int (nI (s_time s.2.1 i))), some (.int cb), some (.int (nI tr)), some (.int (nI o))] [] I1 (z_R0 kp sp wd) J F1 cn 0 0 Q := by
    intro S I1 F1 n1 k1 o tr cb kept s30 s29 s25 x1 f1 p24 pnc s26 ho s27 htr s28 tk hn1 hk1 fF hgo
    have kw := kept
    have l0 : lnn S.2.1 i 0 = lnn s.2.1 i 0 := lnn_c (fun j a b => kw j (by omega)) i24 (by omega)
    have l1 : lnn S.2.1 i 1 = lnn s.2.1 i 1 := lnn_c (fun j a b => kw j (by omega)) i24 (by omega)
    have w8 : S.2.1 8 = s.2.1 8 := kw 8 (by omega)
    have g31 : I1 31 = I 31 := f1.1 31 (by decide)
    have D1 : pD I1 S.2.1 := by
      refine ⟨fun i' hi' => ?_, fun j hj => ?_⟩
      · rw [w8] at hi'
        have i24' : i' < 24 := by have := tb.2.1; omega
        rw [f1.1 21 (by decide), f1.1 22 (by decide), kw _ (by omega), kw _ (by omega), kw _ (by omega), kw _ (by omega)]
        exact hD.1 i' hi'
      · rw [f1.1 20 (by decide), kw _ (by omega)]; exact hD.2 j hj
    have J1 : jR (I1 27) (I1 28) S.2.1 ln := by
      obtain ⟨j0, j1, j3, j4, j5, j6⟩ := hJ
      rw [f1.1 27 (by decide), f1.1 28 (by decide)]
      exact ⟨j0, j1, j3, j4, by rw [kw 9 (by omega)]; exact j5, fun j hj => by rw [kw _ (by omega)]; exact j6 j hj⟩
    refine en_play (s := S) x1 D1 J1 hln (by rw [w8]; exact hi) (by rw [g31, kw 3 (by omega)]; exact p24) s26 ho s27 htr s28 (by rw [l0]; exact tk) (by rw [l0, l1, kw 3 (by omega)]; exact pnc) (fun I' o2 h2 e2 q => ?_)
    rw [l0, l1, hgo] at e2 q
    obtain ⟨q1, q2, q3, q4, q5, q6, q7, q8⟩ := q
    have gk := goes_kept (s := m_f s 29 (s.1 29 + nI 1)) i24 ho1
    have g30 : (m_goes (m_f s 29 (s.1 29 + nI 1)) i).1 30 = s.1 30 := gk.2 30 (by omega) (by omega) (by omega) (by omega) (by omega)
    have g29 : (m_goes (m_f s 29 (s.1 29 + nI 1)) i).1 29 = s.1 29 + nI 1 := gk.2 29 (by omega) (by omega) (by omega) (by omega) (by omega)
    have g25 : (m_goes (m_f s 29 (s.1 29 + nI 1)) i).1 25 = s.1 25 := gk.2 25 (by omega) (by omega) (by omega) (by omega) (by omega)
    have eo : s_out (m_goes (m_f s 29 (s.1 29 + nI 1)) i) = o2 := by unfold s_out; rw [e2, nI_clamp (by omega)]
    have est : m_stp s i = m_f (m_nt (m_goes (m_f s 29 (s.1 29 + nI 1)) i) i o2) 30 (s.1 30 + z_bi (decide (o2 = 0))) := by unfold m_stp; rw [eo]
    refine hQ I' F1 n1 k1 ?_ hn1 hk1 (pF_t (pF_l f1) q8) fF
    rw [est]
    refine ⟨lR_f q1 (fun _ _ => rfl) rfl rfl rfl rfl, q2, q3, q4, ?_, ?_, ?_⟩
    · show I' 31 3 = s.1 30 + z_bi (decide (o2 = 0))
      rw [q5, g31, h30]
      by_cases z : o2 = 0
      · rw [if_pos z, decide_eq_true z]; rfl
      · rw [if_neg z, decide_eq_false z]; exact (Int32.add_zero _).symm
    · show I' 31 4 + (s.1 30 + z_bi (decide (o2 = 0))) = (m_goes (m_f s 29 (s.1 29 + nI 1)) i).1 29
      rw [q6, g31, g29, ← h29]
      by_cases z : o2 = 0
      · rw [if_pos z, decide_eq_true z, ← Int32.add_assoc]; rfl
      · rw [if_neg z, decide_eq_false z]
        show I 31 4 + nI 1 + (s.1 30 + nI 0) = _
        rw [show s.1 30 + nI 0 = s.1 30 from Int32.add_zero _, Int32.add_assoc, Int32.add_comm (nI 1), ← Int32.add_assoc]
    · show I' 31 5 = (m_goes (m_f s 29 (s.1 29 + nI 1)) i).1 25
      rw [q7, g31, g25]; exact h25
  have x7 : lR I F (m_in (m_f s 29 (s.1 29 + nI 1)) (nI 7)) n k := lR_f hl (fun _ _ => rfl) rfl rfl rfl rfl
  have x6 : lR I F (m_in (m_in (m_f s 29 (s.1 29 + nI 1)) (nI 7)) (nI 6)) n k := lR_f hl (fun _ _ => rfl) rfl rfl rfl rfl
  have goe : m_goes (m_f s 29 (s.1 29 + nI 1)) i = bif s_toC s.2.1 i then m_in (m_f s 29 (s.1 29 + nI 1)) (nI 7) else m_hd (m_lp i 4 (m_in (m_in (m_f s 29 (s.1 29 + nI 1)) (nI 7)) (nI 6)) (lnn s.2.1 i 8) 0) (lnn s.2.1 i 0) (lnn s.2.1 i 1) := rfl
  refine z_WP_gos [64] 1000 fun K C hK hC => ?_
  conv => whnf
  refine hC _ _ _ _ _ _ _ _ _ _ (fun _ _ _ _ _ _ q => q) (cp_told (f := 10) i24 (by decide) e10 ?_)
  conv => whnf
  refine hC _ _ _ _ _ _ _ _ _ _ (fun _ _ _ _ _ _ q => q) (cp_told (f := 9) i24 (by decide) e9 ?_)
  conv => whnf
  rw [c8]
  refine hC _ _ _ _ _ _ _ _ _ _ (fun _ _ _ _ _ _ q => q) (cp_touches p hi tb.2.1 ho1 ?_)
  conv => whnf
  cases hc : s_toC s.2.1 i <;> rw [hc] at goe
  · simp only [cond_false] at goe
    have hnt : lnn s.2.1 i 0 = 5 → ¬ nI (lnn s.2.1 i 1) = s.2.1 3 := fun z y => by
      unfold s_toC at hc
      rw [decide_eq_false (by omega), decide_eq_true y] at hc
      simp at hc
    repeat ((first | refine And.intro (by (conv => arg 2; whnf); (try simp only [z_lit, nI_add, pk_mul, z_pr1, z_pr2]); exact z_in (by omega) (by decide)) ?_ | refine z_bt1 (by decide) ?_ | refine z_bf1 (by decide) ?_ | refine z_bt2 (by decide) ?_ | refine z_bf2 (by decide) ?_); conv => whnf)
    refine hC _ _ _ _ _ _ _ _ _ _ (fun _ _ _ _ _ _ q => q) (cf_hasTime (s := s) c10 c5 ?_)
    conv => whnf
    cases hm : s_much s (nI (s_time s.2.1 i))
    · repeat ((first | refine And.intro (by (conv => arg 2; whnf); (try simp only [z_lit, nI_add, pk_mul, z_pr1, z_pr2]); exact z_in (by omega) (by decide)) ?_ | refine z_bt1 (by decide) ?_ | refine z_bf1 (by decide) ?_ | refine z_bt2 (by decide) ?_ | refine z_bf2 (by decide) ?_); conv => whnf)
      refine hK _ _ _ _ _ _ _ _ _ _ ?_
      refine lp_play 4 (m_in (m_in (m_f s 29 (s.1 29 + nI 1)) (nI 7)) (nI 6)) (lnn s.2.1 i 8) 0 (nI (lnn s.2.1 i 8)) (nI 1) I F n k rfl (by omega) x6 hi hb rfl ⟨rt, by omega, hrt, ert⟩ (Or.inl rfl) (by rw [if_pos rfl]) (fun _ => hm) (fun z => absurd rfl z) (by omega) (by omega) (fun I' F' n' k' tr' cb' o' a1 a2 a3 a4 a5 a6 a7 a8 a9 b1 b2 => ?_)
      have kp1 := lp_kept i24 4 (m_in (m_in (m_f s 29 (s.1 29 + nI 1)) (nI 7)) (nI 6)) (lnn s.2.1 i 8) 0 ho1 hb
      obtain ⟨o, ho, eo⟩ := lp_oc i24 4 (m_in (m_in (m_f s 29 (s.1 29 + nI 1)) (nI 7)) (nI 6)) (lnn s.2.1 i 8) 0 ho1 hb ⟨6, by omega, rfl⟩
      have k24 := lp_f24 i24 4 (m_in (m_in (m_f s 29 (s.1 29 + nI 1)) (nI 7)) (nI 6)) (lnn s.2.1 i 8) 0 ho1 hb
      rw [a5] at eo
      subst eo
      refine fin (m_lp i 4 (m_in (m_in (m_f s 29 (s.1 29 + nI 1)) (nI 7)) (nI 6)) (lnn s.2.1 i 8) 0) I' F' n' k' o tr' cb' kp1.1 ?_ ?_ ?_ a1 a2 ?_ (fun z _ => hnt z) a5 ho a6 a4 ?_ (fun z y => a8 z (by rw [y])) (by omega) (by omega) b2 goe.symm
      · exact kp1.2 30 (by omega) (by omega) (by omega) (by omega) (by omega)
      · exact kp1.2 29 (by omega) (by omega) (by omega) (by omega) (by omega)
      · exact kp1.2 25 (by omega) (by omega) (by omega) (by omega) (by omega)
      · rw [k24]; exact h24
      · rw [if_neg (by omega)]; exact a7
    · have hlp : m_lp i 4 (m_in (m_in (m_f s 29 (s.1 29 + nI 1)) (nI 7)) (nI 6)) (lnn s.2.1 i 8) 0 = m_in (m_in (m_f s 29 (s.1 29 + nI 1)) (nI 7)) (nI 6) := by
        unfold m_lp
        rw [show s_much (m_in (m_in (m_f s 29 (s.1 29 + nI 1)) (nI 7)) (nI 6)) (nI (s_time (m_in (m_in (m_f s 29 (s.1 29 + nI 1)) (nI 7)) (nI 6)).2.1 i)) = s_much s (nI (s_time s.2.1 i)) from rfl, hm]
        rfl
      rw [hlp] at goe
      repeat ((first | refine And.intro (by (conv => arg 2; whnf); (try simp only [z_lit, nI_add, pk_mul, z_pr1, z_pr2]); exact z_in (by omega) (by decide)) ?_ | refine z_bt1 (by decide) ?_ | refine z_bf1 (by decide) ?_ | refine z_bt2 (by decide) ?_ | refine z_bf2 (by decide) ?_); conv => whnf)
      refine hK _ _ _ _ _ _ _ _ _ _ (to184 rt hrt (by rw [c6, ert]) 6 (by decide) (by decide) ?_)
      exact fin (m_in (m_in (m_f s 29 (s.1 29 + nI 1)) (nI 7)) (nI 6)) I F n k 6 0 _ (fun _ _ => rfl) rfl rfl rfl x6 lF_r h24 (fun _ z => absurd z (by decide)) rfl (by omega) rfl (by omega) (by rw [if_pos rfl]; rfl) (fun _ z => absurd z (by decide)) (by omega) (by omega) (fun _ _ => rfl) goe.symm
  · simp only [cond_true] at goe
    repeat ((first | refine And.intro (by (conv => arg 2; whnf); (try simp only [z_lit, nI_add, pk_mul, z_pr1, z_pr2]); exact z_in (by omega) (by decide)) ?_ | refine z_bt1 (by decide) ?_ | refine z_bf1 (by decide) ?_ | refine z_bt2 (by decide) ?_ | refine z_bf2 (by decide) ?_); conv => whnf)
    have hhd : m_hd (m_in (m_f s 29 (s.1 29 + nI 1)) (nI 7)) (lnn s.2.1 i 0) (lnn s.2.1 i 1) = m_in (m_f s 29 (s.1 29 + nI 1)) (nI 7) := by
      unfold m_hd
      rw [if_neg (fun z => absurd (show nI 7 = nI 0 from z.2) (by decide))]
    refine hK _ _ _ _ _ _ _ _ _ _ (to184 rt hrt (by rw [c6, ert]) 7 (by decide) (by decide) ?_)
    exact fin (m_in (m_f s 29 (s.1 29 + nI 1)) (nI 7)) I F n k 7 0 _ (fun _ _ => rfl) rfl rfl rfl x7 lF_r h24 (fun _ z => absurd z (by decide)) rfl (by omega) rfl (by omega) (by rw [if_pos rfl]; rfl) (fun _ z => absurd z (by decide)) (by omega) (by omega) (fun _ _ => rfl) (by rw [hhd]; exact goe.symm)
end
