/-! the best phases: the class -/
def pkf (pk : Nat) (V : Nat → Nat) : Nat → Nat
  | 0 => pk
  | q + 1 => min (pkf pk V q) (V q)
theorem pkf_s {pk q : Nat} {V : Nat → Nat} : pkf pk V (q + 1) = min (pkf pk V q) (V q) := rfl
theorem pkf_mnf {pk : Nat} {V : Nat → Nat} : ∀ {p}, 0 < p → pkf pk V p = min pk (mnf V p)
  | 0, h => by omega
  | p + 1, _ => by
    rw [pkf_s, mnf_s]
    by_cases z : p = 0
    · subst z; rw [if_pos rfl]; rfl
    · rw [if_neg z, pkf_mnf (by omega), Nat.min_assoc]
theorem pkf_le {pk : Nat} {V : Nat → Nat} : ∀ q, pkf pk V q ≤ pk
  | 0 => Nat.le_refl _
  | q + 1 => Nat.le_trans (Nat.min_le_left _ _) (pkf_le q)
theorem nI_back {a T : Nat} : nI (a + T) + -nI T = nI a := by
  rw [← nI_add, ← Int32.sub_eq_add_neg, Int32.add_sub_cancel]
section
variable {L : Nat} {xs : Nat → Int32} {d : Nat} {kp sp wd : Value} {I : z_I} {s : z_sg} {R : z_R} {J : z_J} {F : z_F} {cn : Nat} {Q : z_Q} {n k : Nat}
theorem lp_seek1 {w : Nat → Int32} {l : List Nat} {a1 a2 : Int32} {a4 a5 a6 : Option Value} (hp : pS I w) (ht : tb_ok w)
    (hQ : ∀ i' j', i' + j' = (w 8).toNatClampNeg → alf w j' i' = l → (0 < j' → ¬ lnn w i' 9 = 0) → z_WP (z_X0 L xs) z_P0 (d + 1) m_Plan_seek 26 [some (.ref 18), some (.int a1), some (.int a2), some (.int (nI i')), a4, a5, a6] [] I (z_R0 kp sp wd) J F cn 0 0 Q) :
    ∀ j i, i + j = (w 8).toNatClampNeg → alf w j i = l → z_WP (z_X0 L xs) z_P0 (d + 1) m_Plan_seek 2 [some (.ref 18), some (.int a1), some (.int a2), some (.int (nI i)), a4, a5, a6] [] I (z_R0 kp sp wd) J F cn 0 0 Q := by
  have h24 := ht.2.1
  have p5 := hp.1
  rw [ht.1] at p5
  intro j
  induction j with
  | zero =>
    intro i hi he
    refine z_WP_gos [2, 26] 1000 fun K C hK hC => ?_
    conv => whnf
    simp (disch := omega) only [z_lit, nI_add, pk_mul, z_pr1, z_pr2, nI_clamp, z_up_row, z_row_s, z_row_n, z_row_row, pk_us, pk_un]
    rw [p5]
    refine ⟨fun _ => ?_, fun h => absurd (nI_le (a := (w 8).toNatClampNeg) (b := i) (by omega) (by omega)) h⟩
    conv => whnf
    refine hK _ _ _ _ _ _ _ _ _ _ (hQ i 0 hi he (fun z => absurd z (Nat.lt_irrefl _)))
  | succ j ih =>
    intro i hi he
    have ho := ht.2.2 i (by omega)
    have h9 := ho.2.2.2.2.2.2.2.2.2.2.2.2.2.2.1
    obtain ⟨-, -, -, -, -, -, -, -, b8, -⟩ := hp.2 i (by omega)
    refine z_WP_gos [2, 26] 1000 fun K C hK hC => ?_
    conv => whnf
    simp (disch := omega) only [z_lit, nI_add, pk_mul, z_pr1, z_pr2, nI_clamp, z_up_row, z_row_s, z_row_n, z_row_row, pk_us, pk_un]
    rw [p5]
    refine ⟨fun h => absurd h (nI_ge (by omega) (by omega)), fun _ => ?_⟩
    conv => whnf
    refine hC _ _ _ _ _ _ _ _ _ _ (fun _ _ _ _ _ _ q => q) (cp_told (f := 8) (by omega) (by omega) b8 ?_)
    conv => whnf
    refine ⟨fun g => ?_, fun g => ?_⟩
    · have g9 : ¬ lnn w i 9 = 0 := fun z => g (by rw [z]; rfl)
      conv => whnf
      refine hK _ _ _ _ _ _ _ _ _ _ (hQ i (j + 1) hi he (fun _ => g9))
    · have g9 : lnn w i 9 = 0 := nI_inj9 (by omega) (by omega) g
      rw [alf_s, if_pos g9] at he
      conv => whnf
      simp (disch := omega) only [z_lit, nI_add, pk_mul, z_pr1, z_pr2, nI_clamp, z_up_row, z_row_s, z_row_n, z_row_row, pk_us, pk_un]
      refine hK _ _ _ _ _ _ _ _ _ _ (ih (i + 1) (by omega) he)
theorem cp_seek {w : Nat → Int32} (ht : tb_ok w) : ∀ (l : List Nat) (fm j dp : Nat) (I : z_I) (g : Nat → Nat) (pk d : Nat) (Q : z_Q), pS I w → fm + j = (w 8).toNatClampNeg → alf w j fm = l → dp + l.length ≤ 4 → (∀ f, f < 8 → I 24 f = nI (g f) ∧ g f + 300 * l.length < 2 ^ 20) → I 18 7 = nI pk → pk < 2 ^ 20 →
    (∀ I', fr [18, 24] I I' → (∀ j, j ≠ 7 → I' 18 j = I 18 j) → I' 18 7 = nI (min pk (ckl w l g)) → (∀ f, f < 8 → I' 24 f = nI (g f)) → Q none I' (z_R0 kp sp wd) J F cn) →
    z_M (z_X0 L xs) z_P0 (d + l.length + 2) m_Plan_seek [.ref 18, .int (nI fm), .int (nI dp)] I (z_R0 kp sp wd) J F cn Q := by
  have h24 := ht.2.1
  intro l
  induction l with
  | nil =>
    intro fm j dp I g pk d Q hp hj he hd hg h7 hpk hQ
    have p5 := hp.1
    rw [ht.1] at p5
    have hg' : ∀ f, f < 8 → I 24 f = nI (g f) ∧ g f < 2 ^ 30 := fun f hf => ⟨(hg f hf).1, by have := (hg f hf).2; omega⟩
    have hmx : mxf g 8 ≤ 2 ^ 20 := mxf_le fun f hf => by have := (hg f hf).2; omega
    have q := hQ
    rw [show ckl w [] g = mxf g 8 from rfl] at q
    refine z_WP_gos [2] 1000 fun K C hK hC => ?_
    conv => whnf
    refine hK _ _ _ _ _ _ _ _ _ _ (lp_seek1 hp ht (fun i' j' hij hal hnz => ?_) j fm hj he)
    have j0 : j' = 0 := by
      rcases Nat.eq_zero_or_pos j' with z | z
      · exact z
      · obtain ⟨jj, rfl⟩ : ∃ jj, j' = jj + 1 := ⟨j' - 1, by omega⟩
        rw [alf_s, if_neg (hnz z)] at hal
        cases hal
    have ei : i' = (w 8).toNatClampNeg := by omega
    refine z_WP_gos [] 1000 fun K C hK hC => ?_
    conv => whnf
    refine hC _ _ _ _ _ _ _ _ _ _ (fun _ _ _ _ _ _ q => q) (cp_great24 hg' ?_)
    conv => whnf
    simp (disch := omega) only [z_lit, nI_add, pk_mul, z_pr1, z_pr2, nI_clamp, z_up_row, z_row_s, z_row_n, z_row_row, pk_us, pk_un]
    rw [h7]
    generalize mxf g 8 = mx at *
    refine ⟨fun g1 => ?_, fun g1 => ?_⟩
    · have g1' : pk ≤ mx := (nI_leI (by omega) (by omega)).mp g1
      conv => whnf
      exact q I fr_r (fun _ _ => rfl) (by rw [Nat.min_eq_left g1']; exact h7) (fun f hf => (hg f hf).1)
    · have g1' : mx < pk := by
        rcases Nat.lt_or_ge mx pk with y | y
        · exact y
        · exact absurd (nI_le y (by omega)) g1
      have hd4 : nI dp ≤ 4 := nI_le (b := 4) (by simp at hd; omega) (by decide)
      conv => whnf
      refine ⟨fun _ => ?_, fun z => absurd hd4 z⟩
      conv => whnf
      simp (disch := omega) only [z_lit, nI_add, pk_mul, z_pr1, z_pr2, nI_clamp, z_up_row, z_row_s, z_row_n, z_row_row, pk_us, pk_un]
      rw [p5]
      refine ⟨fun z => absurd z (nI_nlt (by omega) (by omega)), fun _ => ?_⟩
      conv => whnf
      simp (disch := omega) only [z_lit, nI_add, pk_mul, z_pr1, z_pr2, nI_clamp, z_up_row, z_row_s, z_row_n, z_row_row, pk_us, pk_un]
      refine q _ (fr_w fr_r (by decide)) (fun j hj => ?_) ?_ (fun f hf => ?_)
      · rw [z_row_s, pk_un hj]
      · rw [z_row_s, pk_us, Nat.min_eq_right (by omega)]
      · rw [z_row_n _ _ (by decide)]; exact (hg f hf).1
  | cons a r ihl =>
    intro fm j dp I g pk d Q hp hj he hd hg h7 hpk hQ
    rw [List.length_cons] at hd hg ⊢
    have p5 := hp.1
    rw [ht.1] at p5
    have hg' : ∀ f, f < 8 → I 24 f = nI (g f) ∧ g f < 2 ^ 30 := fun f hf => ⟨(hg f hf).1, by have := (hg f hf).2; omega⟩
    have hmx : mxf g 8 ≤ 2 ^ 20 := mxf_le fun f hf => by have := (hg f hf).2; omega
    have hin : ∀ i, i ∈ a :: r → i < (w 8).toNatClampNeg := fun i hi => by
      rw [← he] at hi
      have := alf_in hi; omega
    have hge := ckl_ge (w := w) (a :: r) (g := g) (fun i hi => (pp8 (ht.2.2 i (hin i hi))).1)
    have ho := ht.2.2 a (hin a List.mem_cons_self)
    have a24 : a < 24 := by have := hin a List.mem_cons_self; omega
    have pp := pp8 ho
    have tl := s_time_le ho
    obtain ⟨-, -, -, -, -, -, b6, -, -, -, b10⟩ := hp.2 a (hin a List.mem_cons_self)
    refine z_WP_gos [2] 1000 fun K C hK hC => ?_
    conv => whnf
    refine hK _ _ _ _ _ _ _ _ _ _ (lp_seek1 hp ht (fun i' j' hij hal hnz => ?_) j fm hj he)
    obtain ⟨jj, rfl⟩ : ∃ jj, j' = jj + 1 := by
      rcases Nat.eq_zero_or_pos j' with z | z
      · subst z; cases hal
      · exact ⟨j' - 1, by omega⟩
    rw [alf_s, if_neg (hnz (by omega))] at hal
    have ha := (List.cons.inj hal).1
    have hal2 := (List.cons.inj hal).2
    subst ha
    have lp : ∀ jq q I', q + jq = lnn w i' 6 → fr [18, 24] I I' → (∀ j, j ≠ 7 → I' 18 j = I 18 j) → I' 18 7 = nI (pkf pk (fun q => ckl w r (pil w g i' q)) q) → (∀ f, f < 8 → I' 24 f = nI (g f)) → ∀ l4, z_WP (z_X0 L xs) z_P0 (d + (r.length + 1) + 2) m_Plan_seek 78 [some (.ref 18), some (.int (nI fm)), some (.int (nI dp)), some (.int (nI i')), l4, some (.int (nI (s_time w i'))), some (.int (nI q))] [] I' (z_R0 kp sp wd) J F cn 0 0 Q := by
      intro jq
      induction jq with
      | zero =>
        intro q I' hq f e18 e7 e24 l4
        have b6' : I' 19 (i' * 11 + 6) = nI (lnn w i' 6) := by rw [f 19 (by decide)]; exact b6
        rw [show q = lnn w i' 6 by omega, pkf_mnf pp.1] at e7
        refine z_WP_gos [78] 1000 fun K C hK hC => ?_
        conv => whnf
        refine hC _ _ _ _ _ _ _ _ _ _ (fun _ _ _ _ _ _ q => q) (cp_told (f := 6) a24 (by omega) b6' ?_)
        conv => whnf
        refine ⟨fun _ => ?_, fun h => absurd (nI_le (a := lnn w i' 6) (b := q) (by omega) (by omega)) h⟩
        conv => whnf
        exact hQ I' f e18 e7 e24
      | succ jq ihq =>
        intro q I' hq f e18 e7 e24 l4
        have b6' : I' 19 (i' * 11 + 6) = nI (lnn w i' 6) := by rw [f 19 (by decide)]; exact b6
        have ihq' := fun I' => ihq (q + 1) I' (by omega)
        rw [pkf_s] at ihq'
        have pkl := pkf_le (pk := pk) (V := fun q => ckl w r (pil w g i' q)) q
        refine z_WP_gos [78] 1000 fun K C hK hC => ?_
        conv => whnf
        refine hC _ _ _ _ _ _ _ _ _ _ (fun _ _ _ _ _ _ q => q) (cp_told (f := 6) a24 (by omega) b6' ?_)
        conv => whnf
        refine ⟨fun h => absurd h (nI_ge (by omega) (by omega)), fun _ => ?_⟩
        conv => whnf
        refine hC _ _ _ _ _ _ _ _ _ _ (fun _ _ _ _ _ _ q => q) (cp_pile24 (p := lnn w i' 6) a24 b6' pp.1 pp.2 (by omega) ?_)
        conv => whnf
        have h1 : ∀ f, f < 8 → plc (I' 24) (lnn w i' 6) q (nI (s_time w i')) 8 f = nI (pil w g i' q f) := fun f hf => by
          unfold plc pil
          by_cases y : f % lnn w i' 6 = q
          · rw [if_pos ⟨hf, hf, y⟩, if_pos y, e24 f hf, nI_add]
          · rw [if_neg fun h => y h.2.2, if_neg y, e24 f hf, Nat.add_zero]
        have f1 : fr [18, 24] I (z_row I' 24 (plc (I' 24) (lnn w i' 6) q (nI (s_time w i')) 8)) := fr_w f (by decide)
        have hp1 : pS (z_row I' 24 (plc (I' 24) (lnn w i' 6) q (nI (s_time w i')) 8)) w := pS_c hp (by rw [z_row_n _ _ (by decide), e18 5 (by decide)]) (f1 19 (by decide)) rfl h24 (fun _ _ _ _ => rfl)
        simp (disch := omega) only [z_lit, nI_add, pk_mul, z_pr1, z_pr2, nI_clamp, z_up_row, z_row_s, z_row_n, z_row_row, pk_us, pk_un]
        refine hC _ _ _ _ _ _ _ _ _ _ (fun _ _ _ _ _ _ q => q) (ihl (i' + 1) jj (dp + 1) _ (pil w g i' q) (pkf pk (fun q => ckl w r (pil w g i' q)) q) d _ hp1 (by omega) hal2 (by omega) (fun f hf => ⟨?_, ?_⟩) ?_ (by omega) (fun I2 f2 g18 g7 g24 => ?_))
        · rw [z_row_s]; exact h1 f hf
        · have := (hg f hf).2
          unfold pil
          split <;> omega
        · rw [z_row_n _ _ (by decide)]; exact e7
        conv => whnf
        have b6'' : I2 19 (i' * 11 + 6) = nI (lnn w i' 6) := by rw [f2 19 (by decide), z_row_n _ _ (by decide)]; exact b6'
        refine hC _ _ _ _ _ _ _ _ _ _ (fun _ _ _ _ _ _ q => q) (cp_pile24 (p := lnn w i' 6) a24 b6'' pp.1 pp.2 (by omega) ?_)
        conv => whnf
        simp (disch := omega) only [z_lit, nI_add, pk_mul, z_pr1, z_pr2, nI_clamp, z_up_row, z_row_s, z_row_n, z_row_row, pk_us, pk_un]
        refine hK _ _ _ _ _ _ _ _ _ _ (ihq' _ (fr_w (fr_t f1 f2) (by decide)) (fun j hj => ?_) ?_ (fun f hf => ?_) _)
        · rw [z_row_n _ _ (by decide), g18 j hj, z_row_n _ _ (by decide)]; exact e18 j hj
        · rw [z_row_n _ _ (by decide)]; exact g7
        · rw [z_row_s]
          unfold plc
          have e := g24 f hf
          unfold pil at e
          by_cases y : f % lnn w i' 6 = q
          · rw [if_pos y] at e
            rw [if_pos ⟨hf, hf, y⟩, e]; exact nI_back
          · rw [if_neg y] at e
            rw [if_neg fun h => y h.2.2, e]; rfl
    refine z_WP_gos [78] 1000 fun K C hK hC => ?_
    conv => whnf
    refine hC _ _ _ _ _ _ _ _ _ _ (fun _ _ _ _ _ _ q => q) (cp_great24 hg' ?_)
    conv => whnf
    simp (disch := omega) only [z_lit, nI_add, pk_mul, z_pr1, z_pr2, nI_clamp, z_up_row, z_row_s, z_row_n, z_row_row, pk_us, pk_un]
    rw [h7]
    refine ⟨fun g1 => ?_, fun g1 => ?_⟩
    · have g1' : pk ≤ mxf g 8 := (nI_leI (by omega) (by omega)).mp g1
      conv => whnf
      exact hQ I fr_r (fun _ _ => rfl) (by rw [Nat.min_eq_left (Nat.le_trans g1' hge)]; exact h7) (fun f hf => (hg f hf).1)
    · have hd4 : nI dp ≤ 4 := nI_le (b := 4) (by omega) (by decide)
      conv => whnf
      refine ⟨fun _ => ?_, fun z => absurd hd4 z⟩
      conv => whnf
      simp (disch := omega) only [z_lit, nI_add, pk_mul, z_pr1, z_pr2, nI_clamp, z_up_row, z_row_s, z_row_n, z_row_row, pk_us, pk_un]
      rw [p5]
      refine ⟨fun _ => ?_, fun z => absurd (nI_lt (hin i' List.mem_cons_self) (by omega)) z⟩
      conv => whnf
      refine hC _ _ _ _ _ _ _ _ _ _ (fun _ _ _ _ _ _ q => q) (cp_told (f := 10) a24 (by omega) b10 ?_)
      conv => whnf
      refine hK _ _ _ _ _ _ _ _ _ _ (lp (lnn w i' 6) 0 I (by omega) fr_r (fun _ _ => rfl) h7 (fun f hf => (hg f hf).1) _)
end
