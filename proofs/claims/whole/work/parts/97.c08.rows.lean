/-! rows of longs: filled, parted, shifted -/
theorem z_upJ (M : z_J) (a i : Nat) (v : Int64) : z_up M a i v = z_row M a (upl (M a) i v) := rfl
theorem z_row_idJ {α : Type} (M : Nat → α) (a : Nat) : z_row M a (M a) = M := by
  funext b; unfold z_row; split
  · next h => rw [h]
  · rfl
theorem z_row4 {M : z_J} {a b : Nat} {o x o' x' : Nat → Int64} (h : a ≠ b) : z_row (z_row (z_row (z_row M a o) b x) a o') b x' = z_row (z_row M a o') b x' := by
  funext c; unfold z_row
  by_cases h1 : c = b
  · rw [if_pos h1, if_pos h1]
  · rw [if_neg h1, if_neg h1]
    by_cases h2 : c = a
    · rw [if_pos h2, if_neg (h2 ▸ h1), if_pos h2]
    · rw [if_neg h2, if_neg h1, if_neg h2, if_neg h2]
theorem lim_sub {lim : Int32} {m : Nat} (h1 : -10000 ≤ lim.toInt) (h2 : lim.toInt ≤ 10000) (hm : m ≤ 20000) : (lim - nI m).toInt = lim.toInt - (m : Int) := by
  rw [Int32.toInt_sub, nI_toInt (by omega)]
  exact Int.bmod_eq_of_le (by omega) (by omega)
theorem nI_subN {a b : Nat} (h : b ≤ a) : nI a - nI b = nI (a - b) := by
  have e : nI a = nI (a - b) + nI b := by rw [nI_add]; congr 1; omega
  rw [e, Int32.add_sub_cancel]
theorem lb_w {r : Nat → Int64} {i t : Nat} (h : t / 64 = i) : lb r t = wbt (r i) (t % 64) := by unfold lb; rw [h]
/-- one long of part -/
def ptI (fr x0 o x : Nat → Int64) (lim : Int) (n i : Nat) (ab : Int64) : Prop :=
  (∀ t, t < 64 * i → lb o t = (lb fr t && decide ((t : Int) ≤ lim))) ∧ (∀ t, t < 64 * n → lb x t = (lb x0 t || (decide (t < 64 * i) && lb fr t && !decide ((t : Int) ≤ lim)))) ∧
  ((∀ b, b < 64 → wbt ab b = false) ↔ ∀ t, t < 64 * i → lb fr t = true → (t : Int) ≤ lim)
theorem ptI_s {fr x0 o x : Nat → Int64} {lim : Int} {n i : Nat} {ab v : Int64} (h : ptI fr x0 o x lim n i ab) (hi : i < n) (hv : ∀ b, b < 64 → wbt v b = decide ((b : Int) ≤ lim - ((i * 64 : Nat) : Int))) :
    ptI fr x0 (upl o i (fr i &&& v)) (upl x i (x i ||| (fr i &&& ((fr i &&& v) ^^^ (-1))))) lim n (i + 1) (ab ||| (fr i &&& ((fr i &&& v) ^^^ (-1)))) := by
  obtain ⟨h1, h2, h3⟩ := h
  have key : ∀ t, t / 64 = i → (wbt (fr i) (t % 64) = lb fr t ∧ wbt v (t % 64) = decide ((t : Int) ≤ lim)) := fun t ht => by
    refine ⟨(lb_w ht).symm, ?_⟩
    rw [hv _ (by omega)]
    congr 1
    apply propext
    omega
  have keyn : ∀ t, t / 64 = i → wbt (fr i &&& ((fr i &&& v) ^^^ (-1))) (t % 64) = (lb fr t && !decide ((t : Int) ≤ lim)) := fun t ht => by
    obtain ⟨a, b⟩ := key t ht
    rw [wbt_and, wbt_not (by omega), wbt_and, a, b]
    cases lb fr t <;> simp
  refine ⟨fun t ht => ?_, fun t ht => ?_, ?_⟩
  · rw [lb_upl]
    by_cases z : t / 64 = i
    · obtain ⟨a, b⟩ := key t z
      rw [if_pos z, wbt_and, a, b]
    · rw [if_neg z, h1 t (by omega)]
  · rw [lb_upl]
    by_cases z : t / 64 = i
    · rw [if_pos z, wbt_or, keyn t z, ← lb_w z, h2 t ht, decide_eq_false (show ¬ t < 64 * i by omega), decide_eq_true (show t < 64 * (i + 1) by omega)]
      simp
    · rw [if_neg z, h2 t ht, show decide (t < 64 * i) = decide (t < 64 * (i + 1)) by congr 1; apply propext; omega]
  · constructor
    · intro g t ht ht2
      by_cases z : t / 64 = i
      · have g2 := g (t % 64) (by omega)
        rw [wbt_or, keyn t z, ht2] at g2
        simp at g2
        exact g2.2
      · refine h3.mp (fun b hb => ?_) t (by omega) ht2
        have g2 := g b hb
        rw [wbt_or] at g2
        exact (Bool.or_eq_false_iff.mp g2).1
    · intro g b hb
      rw [wbt_or]
      have e : (64 * i + b) / 64 = i := by omega
      have k := keyn (64 * i + b) e
      rw [show (64 * i + b) % 64 = b by omega] at k
      rw [h3.mpr (fun t ht => g t (by omega)) b hb, k]
      cases hx : lb fr (64 * i + b)
      · rfl
      · rw [decide_eq_true (g _ (by omega) hx)]; rfl
/-- one long of shift -/
def shI (fr x0 x : Nat → Int64) (sb n i : Nat) : Prop := ∀ t, t < 64 * n → lb x t = (lb x0 t || (decide (sb ≤ t) && decide (t - sb < 64 * i) && lb fr (t - sb)))
theorem shI_s {fr x0 x x' : Nat → Int64} {sb n i : Nat} (h : shI fr x0 x sb n i) (hx : ∀ t, t < 64 * n → lb x' t = (lb x t || (if t / 64 = i + sb / 64 then (!decide (t % 64 < sb % 64) && wbt (fr i) (t % 64 - sb % 64)) else if t / 64 = i + sb / 64 + 1 ∧ 0 < sb % 64 then wbt (fr i) (64 - sb % 64 + t % 64) else false))) : shI fr x0 x' sb n (i + 1) := fun t ht => by
  rw [hx t ht, h t ht]
  by_cases z : t / 64 = i + sb / 64
  · rw [if_pos z]
    by_cases y : t % 64 < sb % 64
    · rw [decide_eq_true y]
      by_cases u : sb ≤ t
      · rw [decide_eq_true (show t - sb < 64 * i by omega), decide_eq_true (show t - sb < 64 * (i + 1) by omega)]
        simp
      · rw [decide_eq_false u]; simp
    · rw [decide_eq_false y, decide_eq_true (show sb ≤ t by omega), decide_eq_false (show ¬ t - sb < 64 * i by omega), decide_eq_true (show t - sb < 64 * (i + 1) by omega), lb_w (r := fr) (t := t - sb) (i := i) (by omega), show (t - sb) % 64 = t % 64 - sb % 64 by omega]
      simp
  · rw [if_neg z]
    by_cases y : t / 64 = i + sb / 64 + 1 ∧ 0 < sb % 64
    · rw [if_pos y]
      by_cases u : t % 64 < sb % 64
      · rw [decide_eq_true (show sb ≤ t by omega), decide_eq_false (show ¬ t - sb < 64 * i by omega), decide_eq_true (show t - sb < 64 * (i + 1) by omega), lb_w (r := fr) (t := t - sb) (i := i) (by omega), show (t - sb) % 64 = 64 - sb % 64 + t % 64 by omega]
        simp
      · rw [wbt_ge (show 64 ≤ 64 - sb % 64 + t % 64 by omega), decide_eq_false (show ¬ t - sb < 64 * i by omega), decide_eq_false (show ¬ t - sb < 64 * (i + 1) by omega)]
        simp
    · rw [if_neg y, Bool.or_false]
      by_cases u : sb ≤ t
      · rw [decide_eq_true u]
        by_cases k : t - sb < 64 * i
        · rw [decide_eq_true k, decide_eq_true (show t - sb < 64 * (i + 1) by omega)]
        · rw [decide_eq_false k, decide_eq_false (show ¬ t - sb < 64 * (i + 1) by omega)]
      · rw [decide_eq_false u]; simp
section
variable {L : Nat} {xs : Nat → Int32} {d : Nat} {kp sp wd : Value} {I : z_I} {s : z_sg} {R : z_R} {J : z_J} {F : z_F} {cn : Nat} {Q : z_Q}
theorem lp_fill36 (hQ : ∀ r, (∀ i, i < 157 → r i = 0) → Q none I R (z_row J 36 r) F cn) :
    ∀ j k r, k + j = 157 → (∀ i, i < k → r i = 0) → z_WP (z_X0 L xs) z_P0 d m_Arrays_fill_JJV 6 [some (.ref 36), some (.long 0), none, some (.int (nI k)), some (.int (nI 157))] [] I R (z_row J 36 r) F cn 0 0 Q := by
  intro j
  induction j with
  | zero =>
    intro k r hk hr
    obtain rfl : k = 157 := by omega
    refine z_WP_gos [6] 1000 fun K C hK hC => ?_
    conv => whnf
    repeat ((first | refine And.intro (by (conv => arg 2; whnf); (try simp only [z_lit, nI_add, pk_mul, z_pr1, z_pr2]); exact z_in (by omega) (by decide)) ?_ | refine z_bt1 (by decide) ?_ | refine z_bf1 (by decide) ?_ | refine z_bt2 (by decide) ?_ | refine z_bf2 (by decide) ?_); conv => whnf)
    exact hQ r hr
  | succ j ih =>
    intro k r hk hr
    refine z_WP_gos [6] 1000 fun K C hK hC => ?_
    conv => whnf
    refine ⟨fun h => absurd h (nI_ge (b := 157) (by omega) (by omega)), fun _ => ?_⟩
    conv => whnf
    repeat ((first | refine And.intro (by (conv => arg 2; whnf); (try simp only [z_lit, nI_add, pk_mul, z_pr1, z_pr2]); exact z_in (by omega) (by decide)) ?_ | refine z_bt1 (by decide) ?_ | refine z_bf1 (by decide) ?_ | refine z_bt2 (by decide) ?_ | refine z_bf2 (by decide) ?_); conv => whnf)
    simp (disch := omega) only [z_lit, nI_add, pk_mul, z_pr1, z_pr2, nI_clamp, z_up_row, z_row_s, z_row_n, z_row_row, pk_us, pk_un]
    rw [z_upJ, z_row_s, z_row_row]
    refine hK _ _ _ _ _ _ _ _ _ _ (ih (k + 1) _ (by omega) (fun i hi => ?_))
    unfold upl
    split
    · rfl
    · exact hr i (by omega)
theorem ct_fill36 (hQ : ∀ r, (∀ i, i < 157 → r i = 0) → Q none I R (z_row J 36 r) F cn) : z_M (z_X0 L xs) z_P0 d m_Arrays_fill_JJV [.ref 36, .long 0] I R J F cn Q := by
  refine z_WP_gos [6] 1000 fun K C hK hC => ?_
  conv => whnf
  have r := lp_fill36 (L := L) (xs := xs) (d := d) (J := J) hQ 157 0 (J 36) (by omega) (fun i h => absurd h (Nat.not_lt_zero _))
  rw [z_row_idJ] at r
  refine hK _ _ _ _ _ _ _ _ _ _ (r)
theorem lp_fill37 (hQ : ∀ r, (∀ i, i < 157 → r i = 0) → Q none I R (z_row J 37 r) F cn) :
    ∀ j k r, k + j = 157 → (∀ i, i < k → r i = 0) → z_WP (z_X0 L xs) z_P0 d m_Arrays_fill_JJV 6 [some (.ref 37), some (.long 0), none, some (.int (nI k)), some (.int (nI 157))] [] I R (z_row J 37 r) F cn 0 0 Q := by
  intro j
  induction j with
  | zero =>
    intro k r hk hr
    obtain rfl : k = 157 := by omega
    refine z_WP_gos [6] 1000 fun K C hK hC => ?_
    conv => whnf
    repeat ((first | refine And.intro (by (conv => arg 2; whnf); (try simp only [z_lit, nI_add, pk_mul, z_pr1, z_pr2]); exact z_in (by omega) (by decide)) ?_ | refine z_bt1 (by decide) ?_ | refine z_bf1 (by decide) ?_ | refine z_bt2 (by decide) ?_ | refine z_bf2 (by decide) ?_); conv => whnf)
    exact hQ r hr
  | succ j ih =>
    intro k r hk hr
    refine z_WP_gos [6] 1000 fun K C hK hC => ?_
    conv => whnf
    refine ⟨fun h => absurd h (nI_ge (b := 157) (by omega) (by omega)), fun _ => ?_⟩
    conv => whnf
    repeat ((first | refine And.intro (by (conv => arg 2; whnf); (try simp only [z_lit, nI_add, pk_mul, z_pr1, z_pr2]); exact z_in (by omega) (by decide)) ?_ | refine z_bt1 (by decide) ?_ | refine z_bf1 (by decide) ?_ | refine z_bt2 (by decide) ?_ | refine z_bf2 (by decide) ?_); conv => whnf)
    simp (disch := omega) only [z_lit, nI_add, pk_mul, z_pr1, z_pr2, nI_clamp, z_up_row, z_row_s, z_row_n, z_row_row, pk_us, pk_un]
    rw [z_upJ, z_row_s, z_row_row]
    refine hK _ _ _ _ _ _ _ _ _ _ (ih (k + 1) _ (by omega) (fun i hi => ?_))
    unfold upl
    split
    · rfl
    · exact hr i (by omega)
theorem ct_fill37 (hQ : ∀ r, (∀ i, i < 157 → r i = 0) → Q none I R (z_row J 37 r) F cn) : z_M (z_X0 L xs) z_P0 d m_Arrays_fill_JJV [.ref 37, .long 0] I R J F cn Q := by
  refine z_WP_gos [6] 1000 fun K C hK hC => ?_
  conv => whnf
  have r := lp_fill37 (L := L) (xs := xs) (d := d) (J := J) hQ 157 0 (J 37) (by omega) (fun i h => absurd h (Nat.not_lt_zero _))
  rw [z_row_idJ] at r
  refine hK _ _ _ _ _ _ _ _ _ _ (r)
theorem lp_fill39 (hQ : ∀ r, (∀ i, i < 157 → r i = 0) → Q none I R (z_row J 39 r) F cn) :
    ∀ j k r, k + j = 157 → (∀ i, i < k → r i = 0) → z_WP (z_X0 L xs) z_P0 d m_Arrays_fill_JJV 6 [some (.ref 39), some (.long 0), none, some (.int (nI k)), some (.int (nI 157))] [] I R (z_row J 39 r) F cn 0 0 Q := by
  intro j
  induction j with
  | zero =>
    intro k r hk hr
    obtain rfl : k = 157 := by omega
    refine z_WP_gos [6] 1000 fun K C hK hC => ?_
    conv => whnf
    repeat ((first | refine And.intro (by (conv => arg 2; whnf); (try simp only [z_lit, nI_add, pk_mul, z_pr1, z_pr2]); exact z_in (by omega) (by decide)) ?_ | refine z_bt1 (by decide) ?_ | refine z_bf1 (by decide) ?_ | refine z_bt2 (by decide) ?_ | refine z_bf2 (by decide) ?_); conv => whnf)
    exact hQ r hr
  | succ j ih =>
    intro k r hk hr
    refine z_WP_gos [6] 1000 fun K C hK hC => ?_
    conv => whnf
    refine ⟨fun h => absurd h (nI_ge (b := 157) (by omega) (by omega)), fun _ => ?_⟩
    conv => whnf
    repeat ((first | refine And.intro (by (conv => arg 2; whnf); (try simp only [z_lit, nI_add, pk_mul, z_pr1, z_pr2]); exact z_in (by omega) (by decide)) ?_ | refine z_bt1 (by decide) ?_ | refine z_bf1 (by decide) ?_ | refine z_bt2 (by decide) ?_ | refine z_bf2 (by decide) ?_); conv => whnf)
    simp (disch := omega) only [z_lit, nI_add, pk_mul, z_pr1, z_pr2, nI_clamp, z_up_row, z_row_s, z_row_n, z_row_row, pk_us, pk_un]
    rw [z_upJ, z_row_s, z_row_row]
    refine hK _ _ _ _ _ _ _ _ _ _ (ih (k + 1) _ (by omega) (fun i hi => ?_))
    unfold upl
    split
    · rfl
    · exact hr i (by omega)
theorem ct_fill39 (hQ : ∀ r, (∀ i, i < 157 → r i = 0) → Q none I R (z_row J 39 r) F cn) : z_M (z_X0 L xs) z_P0 d m_Arrays_fill_JJV [.ref 39, .long 0] I R J F cn Q := by
  refine z_WP_gos [6] 1000 fun K C hK hC => ?_
  conv => whnf
  have r := lp_fill39 (L := L) (xs := xs) (d := d) (J := J) hQ 157 0 (J 39) (by omega) (fun i h => absurd h (Nat.not_lt_zero _))
  rw [z_row_idJ] at r
  refine hK _ _ _ _ _ _ _ _ _ _ (r)
theorem lp_part36 {lim : Int32} {n : Nat} (hsp : I 35 4 = nI n) (hn : n ≤ 157) (h1 : -10000 ≤ lim.toInt) (h2 : lim.toInt ≤ 10000)
    (hQ : ∀ o x v, (∀ t, t < 64 * n → lb o t = (lb (J 36) t && decide ((t : Int) ≤ lim.toInt))) → (∀ t, t < 64 * n → lb x t = (lb (J 37) t || (lb (J 36) t && !decide ((t : Int) ≤ lim.toInt)))) → ((v = 0 ∧ ∀ t, t < 64 * n → lb (J 36) t = true → (t : Int) ≤ lim.toInt) ∨ (v = 1 ∧ ∃ t, t < 64 * n ∧ lb (J 36) t = true ∧ ¬ (t : Int) ≤ lim.toInt)) → Q (some (.int v)) I (z_R0 kp sp wd) (z_row (z_row J 38 o) 37 x) F cn) :
    ∀ j i o x ab l6 l7, i + j = n → ptI (J 36) (J 37) o x lim.toInt n i ab → z_WP (z_X0 L xs) z_P0 (d + 1) m_Times_part 5 [some (.ref 35), some (.ref 36), some (.int lim), some (.long ab), none, some (.int (nI i)), l6, l7] [] I (z_R0 kp sp wd) (z_row (z_row J 38 o) 37 x) F cn 0 0 Q := by
  intro j
  induction j with
  | zero =>
    intro i o x ab l6 l7 hi hp
    obtain rfl : i = n := by omega
    obtain ⟨p1, p2, p3⟩ := hp
    have r := hQ o x
    have e2 : ∀ t, t < 64 * i → lb x t = (lb (J 37) t || (lb (J 36) t && !decide ((t : Int) ≤ lim.toInt))) := fun t ht => by
      rw [p2 t ht, decide_eq_true ht, Bool.true_and]
    refine z_WP_gos [5] 1000 fun K C hK hC => ?_
    conv => whnf
    rw [hsp]
    refine ⟨fun _ => ?_, fun g => absurd (Int32.le_refl _) g⟩
    conv => whnf
    refine ⟨fun g => ?_, fun g => ?_⟩
    · conv => whnf
      exact ⟨Or.inl rfl, r 0 p1 e2 (Or.inl ⟨rfl, p3.mp (wbt_eq0.mp (lcmp0.mp g))⟩)⟩
    · conv => whnf
      refine ⟨Or.inr rfl, r 1 p1 e2 (Or.inr ⟨rfl, Classical.byContradiction fun z => g ?_⟩)⟩
      refine lcmp0.mpr (wbt_eq0.mpr (p3.mpr fun t ht ht2 => Classical.byContradiction fun y => z ⟨t, ht, ht2, y⟩))
  | succ j ih =>
    intro i o x ab l6 l7 hi hp
    refine z_WP_gos [5] 1000 fun K C hK hC => ?_
    conv => whnf
    rw [hsp]
    refine ⟨fun g => absurd g (nI_ge (by omega) (by omega)), fun _ => ?_⟩
    conv => whnf
    repeat ((first | refine And.intro (by (conv => arg 2; whnf); (try simp only [z_lit, nI_add, pk_mul, z_pr1, z_pr2]); exact z_in (by omega) (by decide)) ?_ | refine z_bt1 (by decide) ?_ | refine z_bf1 (by decide) ?_ | refine z_bt2 (by decide) ?_ | refine z_bf2 (by decide) ?_); conv => whnf)
    simp (disch := omega) only [z_lit, nI_add, pk_mul, z_pr1, z_pr2, nI_clamp, z_up_row, z_row_s, z_row_n, z_row_row, pk_us, pk_un]
    have e := lim_sub (m := i * 64) h1 h2 (by omega)
    refine hC _ _ _ _ _ _ _ _ _ _ (fun _ _ _ _ _ _ q => q) (ct_upTo (by rw [e]; omega) (by rw [e]; omega) (fun v hv => ?_))
    conv => whnf
    rw [e] at hv
    repeat ((first | refine And.intro (by (conv => arg 2; whnf); (try simp only [z_lit, nI_add, pk_mul, z_pr1, z_pr2]); exact z_in (by omega) (by decide)) ?_ | refine z_bt1 (by decide) ?_ | refine z_bf1 (by decide) ?_ | refine z_bt2 (by decide) ?_ | refine z_bf2 (by decide) ?_); conv => whnf)
    simp (disch := omega) only [z_lit, nI_add, pk_mul, z_pr1, z_pr2, nI_clamp, z_up_row, z_row_s, z_row_n, z_row_row, pk_us, pk_un]
    rw [z_upJ, z_upJ]
    rw [z_row4 (by decide)]
    simp (disch := omega) only [z_lit, nI_add, pk_mul, z_pr1, z_pr2, nI_clamp, z_up_row, z_row_s, z_row_n, z_row_row, pk_us, pk_un]
    refine hK _ _ _ _ _ _ _ _ _ _ (ih (i + 1) _ _ _ _ _ (by omega) (ptI_s hp (by omega) hv))
theorem ct_part36 {lim : Int32} {n : Nat} (hsp : I 35 4 = nI n) (hn : n ≤ 157) (h1 : -10000 ≤ lim.toInt) (h2 : lim.toInt ≤ 10000)
    (hQ : ∀ o x v, (∀ t, t < 64 * n → lb o t = (lb (J 36) t && decide ((t : Int) ≤ lim.toInt))) → (∀ t, t < 64 * n → lb x t = (lb (J 37) t || (lb (J 36) t && !decide ((t : Int) ≤ lim.toInt)))) → ((v = 0 ∧ ∀ t, t < 64 * n → lb (J 36) t = true → (t : Int) ≤ lim.toInt) ∨ (v = 1 ∧ ∃ t, t < 64 * n ∧ lb (J 36) t = true ∧ ¬ (t : Int) ≤ lim.toInt)) → Q (some (.int v)) I (z_R0 kp sp wd) (z_row (z_row J 38 o) 37 x) F cn) :
    z_M (z_X0 L xs) z_P0 (d + 1) m_Times_part [.ref 35, .ref 36, .int lim] I (z_R0 kp sp wd) J F cn Q := by
  refine z_WP_gos [5] 1000 fun K C hK hC => ?_
  conv => whnf
  have r := lp_part36 (L := L) (xs := xs) (d := d) (J := J) hsp hn h1 h2 hQ n 0 (J 38) (J 37) 0 none none (by omega) ⟨fun t h => by omega, fun t h => by rw [decide_eq_false (show ¬ t < 64 * 0 by omega)]; simp, ⟨fun _ t h => by omega, fun _ b _ => wbt_zero⟩⟩
  rw [z_row_idJ, z_row_idJ] at r
  refine hK _ _ _ _ _ _ _ _ _ _ (r)
theorem lp_part39 {lim : Int32} {n : Nat} (hsp : I 35 4 = nI n) (hn : n ≤ 157) (h1 : -10000 ≤ lim.toInt) (h2 : lim.toInt ≤ 10000)
    (hQ : ∀ o x v, (∀ t, t < 64 * n → lb o t = (lb (J 39) t && decide ((t : Int) ≤ lim.toInt))) → (∀ t, t < 64 * n → lb x t = (lb (J 37) t || (lb (J 39) t && !decide ((t : Int) ≤ lim.toInt)))) → ((v = 0 ∧ ∀ t, t < 64 * n → lb (J 39) t = true → (t : Int) ≤ lim.toInt) ∨ (v = 1 ∧ ∃ t, t < 64 * n ∧ lb (J 39) t = true ∧ ¬ (t : Int) ≤ lim.toInt)) → Q (some (.int v)) I (z_R0 kp sp wd) (z_row (z_row J 38 o) 37 x) F cn) :
    ∀ j i o x ab l6 l7, i + j = n → ptI (J 39) (J 37) o x lim.toInt n i ab → z_WP (z_X0 L xs) z_P0 (d + 1) m_Times_part 5 [some (.ref 35), some (.ref 39), some (.int lim), some (.long ab), none, some (.int (nI i)), l6, l7] [] I (z_R0 kp sp wd) (z_row (z_row J 38 o) 37 x) F cn 0 0 Q := by
  intro j
  induction j with
  | zero =>
    intro i o x ab l6 l7 hi hp
    obtain rfl : i = n := by omega
    obtain ⟨p1, p2, p3⟩ := hp
    have r := hQ o x
    have e2 : ∀ t, t < 64 * i → lb x t = (lb (J 37) t || (lb (J 39) t && !decide ((t : Int) ≤ lim.toInt))) := fun t ht => by
      rw [p2 t ht, decide_eq_true ht, Bool.true_and]
    refine z_WP_gos [5] 1000 fun K C hK hC => ?_
    conv => whnf
    rw [hsp]
    refine ⟨fun _ => ?_, fun g => absurd (Int32.le_refl _) g⟩
    conv => whnf
    refine ⟨fun g => ?_, fun g => ?_⟩
    · conv => whnf
      exact ⟨Or.inl rfl, r 0 p1 e2 (Or.inl ⟨rfl, p3.mp (wbt_eq0.mp (lcmp0.mp g))⟩)⟩
    · conv => whnf
      refine ⟨Or.inr rfl, r 1 p1 e2 (Or.inr ⟨rfl, Classical.byContradiction fun z => g ?_⟩)⟩
      refine lcmp0.mpr (wbt_eq0.mpr (p3.mpr fun t ht ht2 => Classical.byContradiction fun y => z ⟨t, ht, ht2, y⟩))
  | succ j ih =>
    intro i o x ab l6 l7 hi hp
    refine z_WP_gos [5] 1000 fun K C hK hC => ?_
    conv => whnf
    rw [hsp]
    refine ⟨fun g => absurd g (nI_ge (by omega) (by omega)), fun _ => ?_⟩
    conv => whnf
    repeat ((first | refine And.intro (by (conv => arg 2; whnf); (try simp only [z_lit, nI_add, pk_mul, z_pr1, z_pr2]); exact z_in (by omega) (by decide)) ?_ | refine z_bt1 (by decide) ?_ | refine z_bf1 (by decide) ?_ | refine z_bt2 (by decide) ?_ | refine z_bf2 (by decide) ?_); conv => whnf)
    simp (disch := omega) only [z_lit, nI_add, pk_mul, z_pr1, z_pr2, nI_clamp, z_up_row, z_row_s, z_row_n, z_row_row, pk_us, pk_un]
    have e := lim_sub (m := i * 64) h1 h2 (by omega)
    refine hC _ _ _ _ _ _ _ _ _ _ (fun _ _ _ _ _ _ q => q) (ct_upTo (by rw [e]; omega) (by rw [e]; omega) (fun v hv => ?_))
    conv => whnf
    rw [e] at hv
    repeat ((first | refine And.intro (by (conv => arg 2; whnf); (try simp only [z_lit, nI_add, pk_mul, z_pr1, z_pr2]); exact z_in (by omega) (by decide)) ?_ | refine z_bt1 (by decide) ?_ | refine z_bf1 (by decide) ?_ | refine z_bt2 (by decide) ?_ | refine z_bf2 (by decide) ?_); conv => whnf)
    simp (disch := omega) only [z_lit, nI_add, pk_mul, z_pr1, z_pr2, nI_clamp, z_up_row, z_row_s, z_row_n, z_row_row, pk_us, pk_un]
    rw [z_upJ, z_upJ]
    rw [z_row4 (by decide)]
    simp (disch := omega) only [z_lit, nI_add, pk_mul, z_pr1, z_pr2, nI_clamp, z_up_row, z_row_s, z_row_n, z_row_row, pk_us, pk_un]
    refine hK _ _ _ _ _ _ _ _ _ _ (ih (i + 1) _ _ _ _ _ (by omega) (ptI_s hp (by omega) hv))
theorem ct_part39 {lim : Int32} {n : Nat} (hsp : I 35 4 = nI n) (hn : n ≤ 157) (h1 : -10000 ≤ lim.toInt) (h2 : lim.toInt ≤ 10000)
    (hQ : ∀ o x v, (∀ t, t < 64 * n → lb o t = (lb (J 39) t && decide ((t : Int) ≤ lim.toInt))) → (∀ t, t < 64 * n → lb x t = (lb (J 37) t || (lb (J 39) t && !decide ((t : Int) ≤ lim.toInt)))) → ((v = 0 ∧ ∀ t, t < 64 * n → lb (J 39) t = true → (t : Int) ≤ lim.toInt) ∨ (v = 1 ∧ ∃ t, t < 64 * n ∧ lb (J 39) t = true ∧ ¬ (t : Int) ≤ lim.toInt)) → Q (some (.int v)) I (z_R0 kp sp wd) (z_row (z_row J 38 o) 37 x) F cn) :
    z_M (z_X0 L xs) z_P0 (d + 1) m_Times_part [.ref 35, .ref 39, .int lim] I (z_R0 kp sp wd) J F cn Q := by
  refine z_WP_gos [5] 1000 fun K C hK hC => ?_
  conv => whnf
  have r := lp_part39 (L := L) (xs := xs) (d := d) (J := J) hsp hn h1 h2 hQ n 0 (J 38) (J 37) 0 none none (by omega) ⟨fun t h => by omega, fun t h => by rw [decide_eq_false (show ¬ t < 64 * 0 by omega)]; simp, ⟨fun _ t h => by omega, fun _ b _ => wbt_zero⟩⟩
  rw [z_row_idJ, z_row_idJ] at r
  refine hK _ _ _ _ _ _ _ _ _ _ (r)
theorem lp_shift37 {sb n : Nat} (hsp : I 35 4 = nI n) (hn : n ≤ 157) (hsb : sb ≤ 300) (hQ : ∀ x, (∀ t, t < 64 * n → lb x t = (lb (J 37) t || (decide (sb ≤ t) && lb (J 38) (t - sb)))) → Q none I (z_R0 kp sp wd) (z_row J 37 x) F cn) :
    ∀ j i x, n ≤ i + sb / 64 + j → i ≤ n → shI (J 38) (J 37) x sb n i → z_WP (z_X0 L xs) z_P0 d m_Times_shift 15 [some (.ref 35), some (.ref 38), some (.int (nI sb)), some (.ref 37), some (.int (nI (sb / 64))), some (.int (nI (sb % 64))), some (.int (nI i))] [] I (z_R0 kp sp wd) (z_row J 37 x) F cn 0 0 Q := by
  intro j
  induction j with
  | zero =>
    intro i x hj hi hs
    refine z_WP_gos [15] 1000 fun K C hK hC => ?_
    conv => whnf
    simp (disch := omega) only [z_lit, nI_add, pk_mul, z_pr1, z_pr2, nI_clamp, z_up_row, z_row_s, z_row_n, z_row_row, pk_us, pk_un]
    rw [hsp]
    refine ⟨fun _ => ?_, fun g => absurd (nI_le (by omega) (by omega)) g⟩
    conv => whnf
    refine hQ x fun t ht => ?_
    rw [hs t ht]
    by_cases u : sb ≤ t
    · rw [decide_eq_true (show t - sb < 64 * i by omega), Bool.and_true]
    · rw [decide_eq_false u]; simp
  | succ j ih =>
    intro i x hj hi hs
    by_cases hx : n ≤ i + sb / 64
    · refine z_WP_gos [15] 1000 fun K C hK hC => ?_
      conv => whnf
      simp (disch := omega) only [z_lit, nI_add, pk_mul, z_pr1, z_pr2, nI_clamp, z_up_row, z_row_s, z_row_n, z_row_row, pk_us, pk_un]
      rw [hsp]
      refine ⟨fun _ => ?_, fun g => absurd (nI_le (by omega) (by omega)) g⟩
      conv => whnf
      refine hQ x fun t ht => ?_
      rw [hs t ht]
      by_cases u : sb ≤ t
      · rw [decide_eq_true (show t - sb < 64 * i by omega), Bool.and_true]
      · rw [decide_eq_false u]; simp
    · have ih' := fun x => ih (i + 1) x (by omega) (by omega)
      refine z_WP_gos [15, 85] 1000 fun K C hK hC => ?_
      conv => whnf
      simp (disch := omega) only [z_lit, nI_add, pk_mul, z_pr1, z_pr2, nI_clamp, z_up_row, z_row_s, z_row_n, z_row_row, pk_us, pk_un]
      rw [hsp]
      refine ⟨fun g => absurd g (nI_ge (by omega) (by omega)), fun _ => ?_⟩
      conv => whnf
      repeat ((first | refine And.intro (by (conv => arg 2; whnf); (try simp only [z_lit, nI_add, pk_mul, z_pr1, z_pr2]); exact z_in (by omega) (by decide)) ?_ | refine z_bt1 (by decide) ?_ | refine z_bf1 (by decide) ?_ | refine z_bt2 (by decide) ?_ | refine z_bf2 (by decide) ?_); conv => whnf)
      simp (disch := omega) only [z_lit, nI_add, pk_mul, z_pr1, z_pr2, nI_clamp, z_up_row, z_row_s, z_row_n, z_row_row, pk_us, pk_un]
      rw [z_upJ, z_row_row]
      simp (disch := omega) only [z_lit, nI_add, pk_mul, z_pr1, z_pr2, nI_clamp, z_up_row, z_row_s, z_row_n, z_row_row, pk_us, pk_un]
      have go : ∀ x', shI (J 38) (J 37) x' sb n (i + 1) → z_WP (z_X0 L xs) z_P0 d m_Times_shift 85 [some (.ref 35), some (.ref 38), some (.int (nI sb)), some (.ref 37), some (.int (nI (sb / 64))), some (.int (nI (sb % 64))), some (.int (nI i))] [] I (z_R0 kp sp wd) (z_row J 37 x') F cn 0 0 Q := fun x' hx' => by
        refine z_WP_gos [15] 1000 fun K C hK hC => ?_
        conv => whnf
        simp (disch := omega) only [z_lit, nI_add, pk_mul, z_pr1, z_pr2, nI_clamp, z_up_row, z_row_s, z_row_n, z_row_row, pk_us, pk_un]
        refine hK _ _ _ _ _ _ _ _ _ _ (ih' x' hx')
      refine ⟨fun g => ?_, fun g => ?_⟩
      · have r0 : sb % 64 = 0 := by
          rcases Nat.eq_zero_or_pos (sb % 64) with z | z
          · exact z
          · exact absurd g (nI_ge (a := 0) z (by omega))
        conv => whnf
        refine hK _ _ _ _ _ _ _ _ _ _ (go _ (shI_s hs fun t ht => ?_))
        rw [lb_upl]
        by_cases z : t / 64 = i + sb / 64
        · rw [if_pos z, if_pos z, wbt_or, wbt_shl (by omega), ← lb_w z, decide_eq_true (show t % 64 < 64 by omega), Bool.true_and]
        · rw [if_neg z, if_neg z, if_neg (by omega), Bool.or_false]
      · have r0 : 0 < sb % 64 := Nat.pos_of_ne_zero fun z => g (by rw [z]; exact Int32.le_refl _)
        conv => whnf
        simp (disch := omega) only [z_lit, nI_add, pk_mul, z_pr1, z_pr2, nI_clamp, z_up_row, z_row_s, z_row_n, z_row_row, pk_us, pk_un]
        rw [hsp]
        refine ⟨fun g2 => ?_, fun g2 => ?_⟩
        · have r1 : n ≤ i + sb / 64 + 1 := (nI_leI (by omega) (by omega)).mp g2
          conv => whnf
          refine hK _ _ _ _ _ _ _ _ _ _ (go _ (shI_s hs fun t ht => ?_))
          rw [lb_upl]
          by_cases z : t / 64 = i + sb / 64
          · rw [if_pos z, if_pos z, wbt_or, wbt_shl (by omega), ← lb_w z, decide_eq_true (show t % 64 < 64 by omega), Bool.true_and]
          · rw [if_neg z, if_neg z, if_neg (by omega), Bool.or_false]
        · have r1 : ¬ n ≤ i + sb / 64 + 1 := fun z => g2 (nI_le z (by omega))
          conv => whnf
          repeat ((first | refine And.intro (by (conv => arg 2; whnf); (try simp only [z_lit, nI_add, pk_mul, z_pr1, z_pr2]); exact z_in (by omega) (by decide)) ?_ | refine z_bt1 (by decide) ?_ | refine z_bf1 (by decide) ?_ | refine z_bt2 (by decide) ?_ | refine z_bf2 (by decide) ?_); conv => whnf)
          simp (disch := omega) only [z_lit, nI_add, pk_mul, z_pr1, z_pr2, nI_clamp, z_up_row, z_row_s, z_row_n, z_row_row, pk_us, pk_un]
          rw [z_upJ, z_row_row]
          simp (disch := omega) only [z_lit, nI_add, pk_mul, z_pr1, z_pr2, nI_clamp, z_up_row, z_row_s, z_row_n, z_row_row, pk_us, pk_un]
          rw [show nI 64 - nI (sb % 64) = nI (64 - sb % 64) from nI_subN (by omega)]
          refine hK _ _ _ _ _ _ _ _ _ _ (go _ (shI_s hs fun t ht => ?_))
          rw [lb_upl]
          by_cases y : t / 64 = i + sb / 64 + 1
          · rw [if_pos y, if_neg (by omega), if_pos ⟨y, r0⟩, wbt_or, wbt_shr (by omega)]
            congr 1
            rw [lb_w y]
            unfold upl
            rw [if_neg (by omega)]
          · rw [if_neg y, lb_upl]
            by_cases z : t / 64 = i + sb / 64
            · rw [if_pos z, if_pos z, wbt_or, wbt_shl (by omega), ← lb_w z, decide_eq_true (show t % 64 < 64 by omega), Bool.true_and]
            · rw [if_neg z, if_neg z, if_neg (by omega), Bool.or_false]
theorem ct_shift37 {sb n : Nat} (hsp : I 35 4 = nI n) (hn : n ≤ 157) (hsb : sb ≤ 300) (hQ : ∀ x, (∀ t, t < 64 * n → lb x t = (lb (J 37) t || (decide (sb ≤ t) && lb (J 38) (t - sb)))) → Q none I (z_R0 kp sp wd) (z_row J 37 x) F cn) :
    z_M (z_X0 L xs) z_P0 d m_Times_shift [.ref 35, .ref 38, .int (nI sb), .ref 37] I (z_R0 kp sp wd) J F cn Q := by
  have r := lp_shift37 (L := L) (xs := xs) (d := d) (J := J) hsp hn hsb hQ n 0 (J 37) (by omega) (by omega) (fun t ht => by rw [decide_eq_false (show ¬ t - sb < 64 * 0 by omega)]; simp)
  rw [z_row_idJ] at r
  refine z_WP_gos [15] 1000 fun K C hK hC => ?_
  conv => whnf
  simp (disch := omega) only [z_lit, nI_add, pk_mul, z_pr1, z_pr2, nI_clamp, z_up_row, z_row_s, z_row_n, z_row_row, pk_us, pk_un]
  rw [nI_shr6 (by omega), nI_and63 (by omega)]
  refine hK _ _ _ _ _ _ _ _ _ _ (r)
theorem lp_shift39 {sb n : Nat} (hsp : I 35 4 = nI n) (hn : n ≤ 157) (hsb : sb ≤ 300) (hQ : ∀ x, (∀ t, t < 64 * n → lb x t = (lb (J 39) t || (decide (sb ≤ t) && lb (J 38) (t - sb)))) → Q none I (z_R0 kp sp wd) (z_row J 39 x) F cn) :
    ∀ j i x, n ≤ i + sb / 64 + j → i ≤ n → shI (J 38) (J 39) x sb n i → z_WP (z_X0 L xs) z_P0 d m_Times_shift 15 [some (.ref 35), some (.ref 38), some (.int (nI sb)), some (.ref 39), some (.int (nI (sb / 64))), some (.int (nI (sb % 64))), some (.int (nI i))] [] I (z_R0 kp sp wd) (z_row J 39 x) F cn 0 0 Q := by
  intro j
  induction j with
  | zero =>
    intro i x hj hi hs
    refine z_WP_gos [15] 1000 fun K C hK hC => ?_
    conv => whnf
    simp (disch := omega) only [z_lit, nI_add, pk_mul, z_pr1, z_pr2, nI_clamp, z_up_row, z_row_s, z_row_n, z_row_row, pk_us, pk_un]
    rw [hsp]
    refine ⟨fun _ => ?_, fun g => absurd (nI_le (by omega) (by omega)) g⟩
    conv => whnf
    refine hQ x fun t ht => ?_
    rw [hs t ht]
    by_cases u : sb ≤ t
    · rw [decide_eq_true (show t - sb < 64 * i by omega), Bool.and_true]
    · rw [decide_eq_false u]; simp
  | succ j ih =>
    intro i x hj hi hs
    by_cases hx : n ≤ i + sb / 64
    · refine z_WP_gos [15] 1000 fun K C hK hC => ?_
      conv => whnf
      simp (disch := omega) only [z_lit, nI_add, pk_mul, z_pr1, z_pr2, nI_clamp, z_up_row, z_row_s, z_row_n, z_row_row, pk_us, pk_un]
      rw [hsp]
      refine ⟨fun _ => ?_, fun g => absurd (nI_le (by omega) (by omega)) g⟩
      conv => whnf
      refine hQ x fun t ht => ?_
      rw [hs t ht]
      by_cases u : sb ≤ t
      · rw [decide_eq_true (show t - sb < 64 * i by omega), Bool.and_true]
      · rw [decide_eq_false u]; simp
    · have ih' := fun x => ih (i + 1) x (by omega) (by omega)
      refine z_WP_gos [15, 85] 1000 fun K C hK hC => ?_
      conv => whnf
      simp (disch := omega) only [z_lit, nI_add, pk_mul, z_pr1, z_pr2, nI_clamp, z_up_row, z_row_s, z_row_n, z_row_row, pk_us, pk_un]
      rw [hsp]
      refine ⟨fun g => absurd g (nI_ge (by omega) (by omega)), fun _ => ?_⟩
      conv => whnf
      repeat ((first | refine And.intro (by (conv => arg 2; whnf); (try simp only [z_lit, nI_add, pk_mul, z_pr1, z_pr2]); exact z_in (by omega) (by decide)) ?_ | refine z_bt1 (by decide) ?_ | refine z_bf1 (by decide) ?_ | refine z_bt2 (by decide) ?_ | refine z_bf2 (by decide) ?_); conv => whnf)
      simp (disch := omega) only [z_lit, nI_add, pk_mul, z_pr1, z_pr2, nI_clamp, z_up_row, z_row_s, z_row_n, z_row_row, pk_us, pk_un]
      rw [z_upJ, z_row_row]
      simp (disch := omega) only [z_lit, nI_add, pk_mul, z_pr1, z_pr2, nI_clamp, z_up_row, z_row_s, z_row_n, z_row_row, pk_us, pk_un]
      have go : ∀ x', shI (J 38) (J 39) x' sb n (i + 1) → z_WP (z_X0 L xs) z_P0 d m_Times_shift 85 [some (.ref 35), some (.ref 38), some (.int (nI sb)), some (.ref 39), some (.int (nI (sb / 64))), some (.int (nI (sb % 64))), some (.int (nI i))] [] I (z_R0 kp sp wd) (z_row J 39 x') F cn 0 0 Q := fun x' hx' => by
        refine z_WP_gos [15] 1000 fun K C hK hC => ?_
        conv => whnf
        simp (disch := omega) only [z_lit, nI_add, pk_mul, z_pr1, z_pr2, nI_clamp, z_up_row, z_row_s, z_row_n, z_row_row, pk_us, pk_un]
        refine hK _ _ _ _ _ _ _ _ _ _ (ih' x' hx')
      refine ⟨fun g => ?_, fun g => ?_⟩
      · have r0 : sb % 64 = 0 := by
          rcases Nat.eq_zero_or_pos (sb % 64) with z | z
          · exact z
          · exact absurd g (nI_ge (a := 0) z (by omega))
        conv => whnf
        refine hK _ _ _ _ _ _ _ _ _ _ (go _ (shI_s hs fun t ht => ?_))
        rw [lb_upl]
        by_cases z : t / 64 = i + sb / 64
        · rw [if_pos z, if_pos z, wbt_or, wbt_shl (by omega), ← lb_w z, decide_eq_true (show t % 64 < 64 by omega), Bool.true_and]
        · rw [if_neg z, if_neg z, if_neg (by omega), Bool.or_false]
      · have r0 : 0 < sb % 64 := Nat.pos_of_ne_zero fun z => g (by rw [z]; exact Int32.le_refl _)
        conv => whnf
        simp (disch := omega) only [z_lit, nI_add, pk_mul, z_pr1, z_pr2, nI_clamp, z_up_row, z_row_s, z_row_n, z_row_row, pk_us, pk_un]
        rw [hsp]
        refine ⟨fun g2 => ?_, fun g2 => ?_⟩
        · have r1 : n ≤ i + sb / 64 + 1 := (nI_leI (by omega) (by omega)).mp g2
          conv => whnf
          refine hK _ _ _ _ _ _ _ _ _ _ (go _ (shI_s hs fun t ht => ?_))
          rw [lb_upl]
          by_cases z : t / 64 = i + sb / 64
          · rw [if_pos z, if_pos z, wbt_or, wbt_shl (by omega), ← lb_w z, decide_eq_true (show t % 64 < 64 by omega), Bool.true_and]
          · rw [if_neg z, if_neg z, if_neg (by omega), Bool.or_false]
        · have r1 : ¬ n ≤ i + sb / 64 + 1 := fun z => g2 (nI_le z (by omega))
          conv => whnf
          repeat ((first | refine And.intro (by (conv => arg 2; whnf); (try simp only [z_lit, nI_add, pk_mul, z_pr1, z_pr2]); exact z_in (by omega) (by decide)) ?_ | refine z_bt1 (by decide) ?_ | refine z_bf1 (by decide) ?_ | refine z_bt2 (by decide) ?_ | refine z_bf2 (by decide) ?_); conv => whnf)
          simp (disch := omega) only [z_lit, nI_add, pk_mul, z_pr1, z_pr2, nI_clamp, z_up_row, z_row_s, z_row_n, z_row_row, pk_us, pk_un]
          rw [z_upJ, z_row_row]
          simp (disch := omega) only [z_lit, nI_add, pk_mul, z_pr1, z_pr2, nI_clamp, z_up_row, z_row_s, z_row_n, z_row_row, pk_us, pk_un]
          rw [show nI 64 - nI (sb % 64) = nI (64 - sb % 64) from nI_subN (by omega)]
          refine hK _ _ _ _ _ _ _ _ _ _ (go _ (shI_s hs fun t ht => ?_))
          rw [lb_upl]
          by_cases y : t / 64 = i + sb / 64 + 1
          · rw [if_pos y, if_neg (by omega), if_pos ⟨y, r0⟩, wbt_or, wbt_shr (by omega)]
            congr 1
            rw [lb_w y]
            unfold upl
            rw [if_neg (by omega)]
          · rw [if_neg y, lb_upl]
            by_cases z : t / 64 = i + sb / 64
            · rw [if_pos z, if_pos z, wbt_or, wbt_shl (by omega), ← lb_w z, decide_eq_true (show t % 64 < 64 by omega), Bool.true_and]
            · rw [if_neg z, if_neg z, if_neg (by omega), Bool.or_false]
theorem ct_shift39 {sb n : Nat} (hsp : I 35 4 = nI n) (hn : n ≤ 157) (hsb : sb ≤ 300) (hQ : ∀ x, (∀ t, t < 64 * n → lb x t = (lb (J 39) t || (decide (sb ≤ t) && lb (J 38) (t - sb)))) → Q none I (z_R0 kp sp wd) (z_row J 39 x) F cn) :
    z_M (z_X0 L xs) z_P0 d m_Times_shift [.ref 35, .ref 38, .int (nI sb), .ref 39] I (z_R0 kp sp wd) J F cn Q := by
  have r := lp_shift39 (L := L) (xs := xs) (d := d) (J := J) hsp hn hsb hQ n 0 (J 39) (by omega) (by omega) (fun t ht => by rw [decide_eq_false (show ¬ t - sb < 64 * 0 by omega)]; simp)
  rw [z_row_idJ] at r
  refine z_WP_gos [15] 1000 fun K C hK hC => ?_
  conv => whnf
  simp (disch := omega) only [z_lit, nI_add, pk_mul, z_pr1, z_pr2, nI_clamp, z_up_row, z_row_s, z_row_n, z_row_row, pk_us, pk_un]
  rw [nI_shr6 (by omega), nI_and63 (by omega)]
  refine hK _ _ _ _ _ _ _ _ _ _ (r)
end
