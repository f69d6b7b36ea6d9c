/-! the class's buses -/
def z_pos (v : Int32) : Bool := decide (0 < v)
/-- the noises to come, in the model and in the class -/
def nsl (w : Nat → Int32) (b : Nat) : List Int32 := ((List.range 8).map fun k => w (15 + 8 * b + k)).filter z_pos
def ncl (r : Nat → Int32) (b p : Nat) : List Int32 := (List.range p).map fun k => r (b * 8 + k)
def z_ne (x v : Int32) : Bool := !decide (v = x)
def z_is (x v : Int32) : Bool := decide (v = x)
theorem ncl_s {r : Nat → Int32} {b p : Nat} : ncl r b (p + 1) = ncl r b p ++ [r (b * 8 + p)] := by
  unfold ncl; rw [List.range_succ, List.map_append]; rfl
theorem ncl_c {r r' : Nat → Int32} {b p : Nat} (h : ∀ k, k < p → r' (b * 8 + k) = r (b * 8 + k)) : ncl r' b p = ncl r b p := by
  unfold ncl
  exact List.map_congr_left fun k hk => h k (List.mem_range.mp hk)
theorem fl_a {x v : Int32} {l : List Int32} : (l ++ [v]).filter (z_ne x) = l.filter (z_ne x) ++ (if v = x then [] else [v]) := by
  rw [List.filter_append]
  by_cases h : v = x <;> simp [z_ne, h]
theorem an_a {x v : Int32} {l : List Int32} : (l ++ [v]).any (z_is x) = (l.any (z_is x) || decide (v = x)) := by
  rw [List.any_append]; simp [z_is]
theorem nsl_f {f g : Nat → Int32} {x : Int32} (hg : ∀ k, g k = if f k = x then nI 0 else f k) : ∀ l : List Nat, (l.map g).filter z_pos = ((l.map f).filter z_pos).filter (z_ne x)
  | [] => rfl
  | k :: l => by
    have ih := nsl_f hg l
    simp only [List.map_cons, List.filter_cons, hg k]
    by_cases h : f k = x
    · rw [if_pos h, ih]
      have : z_pos (nI 0) = false := by decide
      rw [this]
      by_cases h2 : z_pos (f k) = true
      · rw [if_neg (by decide), if_pos h2, List.filter_cons]
        simp [z_ne, h]
      · rw [if_neg (by decide), if_neg h2]
    · rw [if_neg h, ih]
      by_cases h2 : z_pos (f k) = true
      · rw [if_pos h2, if_pos h2, List.filter_cons]
        simp [z_ne, h]
      · rw [if_neg h2, if_neg h2]
theorem nsl_a {f : Nat → Int32} {x : Int32} (hx : z_pos x = true) : ∀ l : List Nat, ((l.map f).filter z_pos).any (z_is x) = l.any fun k => decide (f k = x)
  | [] => rfl
  | k :: l => by
    have ih := nsl_a (f := f) hx l
    simp only [List.map_cons, List.filter_cons, List.any_cons]
    by_cases h2 : z_pos (f k) = true
    · rw [if_pos h2, List.any_cons, ih]; rfl
    · rw [if_neg h2, ih]
      have : ¬ f k = x := fun z => h2 (z ▸ hx)
      simp [this]
section
variable {L : Nat} {xs : Nat → Int32} {d : Nat} {kp sp wd : Value} {I : z_I} {w : Nat → Int32} {R : z_R} {J : z_J} {F : z_F} {cn : Nat} {Q : z_Q}
theorem lp_struck {bus p : Nat} {x : Int32} (hb : bus < 2) (hp : p ≤ 8) (h13 : I 13 bus = nI p)
    (hQ : ∀ r' p', p' ≤ 8 → ncl r' bus p' = (ncl (I 12) bus p).filter (z_ne x) → (∀ j, j < bus * 8 ∨ bus * 8 + 8 ≤ j → r' j = I 12 j) → Q (some (.int (z_bi ((ncl (I 12) bus p).any (z_is x))))) (z_row (z_row I 12 r') 13 (upd (I 13) bus (nI p'))) (z_R0 kp sp wd) J F cn) :
    ∀ n k, k + n = p → ∀ left (r : Nat → Int32) (lc : Option Value), left ≤ k → ncl r bus left = (ncl (I 12) bus k).filter (z_ne x) → (∀ j, j < bus * 8 ∨ bus * 8 + left ≤ j → r j = I 12 j) →
    z_WP (z_X0 L xs) z_P0 d m_Wires_isStruck 8 [some (.ref 10), some (.int (nI bus)), some (.int x), some (.int (z_bi ((ncl (I 12) bus k).any (z_is x)))), some (.int (nI left)), some (.int (nI k)), lc] [] (z_row I 12 r) (z_R0 kp sp wd) J F cn 0 0 Q := by
  intro n
  induction n with
  | zero =>
    intro k hk left r lc hl h1 h2
    obtain rfl : k = p := by omega
    refine z_WP_gos [8] 1000 fun K C hK hC => ?_
    conv => whnf
    repeat ((first | refine And.intro (by (conv => arg 2; whnf); (try simp only [z_lit, nI_add, pk_mul, z_pr1, z_pr2]); exact z_in (by omega) (by decide)) ?_ | refine z_bt1 (by decide) ?_ | refine z_bf1 (by decide) ?_ | refine z_bt2 (by decide) ?_ | refine z_bf2 (by decide) ?_); conv => whnf)
    refine ⟨fun _ => ?_, fun h => absurd ?_ h⟩
    · conv => whnf
      repeat ((first | refine And.intro (by (conv => arg 2; whnf); (try simp only [z_lit, nI_add, pk_mul, z_pr1, z_pr2]); exact z_in (by omega) (by decide)) ?_ | refine z_bt1 (by decide) ?_ | refine z_bf1 (by decide) ?_ | refine z_bt2 (by decide) ?_ | refine z_bf2 (by decide) ?_); conv => whnf)
      refine ⟨z_bi_01 _, ?_⟩
      refine z_Qi (hQ r left (by omega) h1 (fun j hj => h2 j (by omega))) rfl ?_
      simp (disch := omega) only [z_lit, nI_add, pk_mul, z_pr1, z_pr2, nI_clamp, z_up_row, z_row_s, z_row_n, z_row_row, pk_us, pk_un]
    · simp (disch := omega) only [z_lit, nI_add, pk_mul, z_pr1, z_pr2, nI_clamp, z_up_row, z_row_s, z_row_n, z_row_row, pk_us, pk_un]
      rw [h13]
      exact Int32.le_refl _
  | succ n ih =>
    intro k hk left r lc hl h1 h2
    have hr : r (bus * 8 + k) = I 12 (bus * 8 + k) := h2 _ (by omega)
    have e1 : ncl (I 12) bus (k + 1) = ncl (I 12) bus k ++ [I 12 (bus * 8 + k)] := ncl_s
    refine z_WP_gos [8] 1000 fun K C hK hC => ?_
    conv => whnf
    repeat ((first | refine And.intro (by (conv => arg 2; whnf); (try simp only [z_lit, nI_add, pk_mul, z_pr1, z_pr2]); exact z_in (by omega) (by decide)) ?_ | refine z_bt1 (by decide) ?_ | refine z_bf1 (by decide) ?_ | refine z_bt2 (by decide) ?_ | refine z_bf2 (by decide) ?_); conv => whnf)
    refine ⟨fun h => absurd h ?_, fun _ => ?_⟩
    · simp (disch := omega) only [z_lit, nI_add, pk_mul, z_pr1, z_pr2, nI_clamp, z_up_row, z_row_s, z_row_n, z_row_row, pk_us, pk_un]
      rw [h13]
      exact nI_ge (by omega) (by omega)
    conv => whnf
    repeat ((first | refine And.intro (by (conv => arg 2; whnf); (try simp only [z_lit, nI_add, pk_mul, z_pr1, z_pr2]); exact z_in (by omega) (by decide)) ?_ | refine z_bt1 (by decide) ?_ | refine z_bf1 (by decide) ?_ | refine z_bt2 (by decide) ?_ | refine z_bf2 (by decide) ?_); conv => whnf)
    refine ⟨fun h => ?_, fun h => ?_⟩ <;> (try simp (disch := omega) only [z_lit, nI_add, pk_mul, z_pr1, z_pr2, nI_clamp, z_up_row, z_row_s, z_row_n, z_row_row, pk_us, pk_un] at h) <;> (conv => whnf)
    · rw [hr] at h
      repeat ((first | refine And.intro (by (conv => arg 2; whnf); (try simp only [z_lit, nI_add, pk_mul, z_pr1, z_pr2]); exact z_in (by omega) (by decide)) ?_ | refine z_bt1 (by decide) ?_ | refine z_bf1 (by decide) ?_ | refine z_bt2 (by decide) ?_ | refine z_bf2 (by decide) ?_); conv => whnf)
      simp (disch := omega) only [z_lit, nI_add, pk_mul, z_pr1, z_pr2, nI_clamp, z_up_row, z_row_s, z_row_n, z_row_row, pk_us, pk_un]
      rw [hr]
      refine hK _ _ _ _ _ _ _ _ _ _ (?_)
      have q := ih (k + 1) (by omega) (left + 1) (upd r (bus * 8 + left) (I 12 (bus * 8 + k))) (some (.int (I 12 (bus * 8 + k)))) (by omega) ?_ ?_
      · rw [e1, an_a, decide_eq_false h, Bool.or_false] at q
        exact q
      · rw [e1, fl_a, if_neg h, ncl_s, pk_us, ← h1]
        congr 1
        exact ncl_c fun j hj => pk_un (by omega)
      · intro j hj
        rw [pk_un (by omega)]
        exact h2 j (by omega)
    · rw [hr] at h
      simp (disch := omega) only [z_lit, nI_add, pk_mul, z_pr1, z_pr2, nI_clamp, z_up_row, z_row_s, z_row_n, z_row_row, pk_us, pk_un]
      rw [hr]
      refine hK _ _ _ _ _ _ _ _ _ _ (?_)
      have q := ih (k + 1) (by omega) left r (some (.int (I 12 (bus * 8 + k)))) (by omega) ?_ h2
      · rw [e1, an_a, decide_eq_true h, Bool.or_true] at q
        exact q
      · rw [e1, fl_a, if_pos h, List.append_nil]
        exact h1
theorem cw_struck {bus p : Nat} {x : Int32} {r12 r13 : Nat → Int32} (e12 : I 12 = r12) (e13 : I 13 = r13) (hb : bus < 2) (hp : p ≤ 8) (h13 : r13 bus = nI p)
    (hQ : ∀ r' p', p' ≤ 8 → ncl r' bus p' = (ncl r12 bus p).filter (z_ne x) → (∀ j, j < bus * 8 ∨ bus * 8 + 8 ≤ j → r' j = r12 j) → Q (some (.int (z_bi ((ncl r12 bus p).any (z_is x))))) (z_row (z_row I 12 r') 13 (upd r13 bus (nI p'))) (z_R0 kp sp wd) J F cn) :
    z_M (z_X0 L xs) z_P0 d m_Wires_isStruck [.ref 10, .int (nI bus), .int x] I (z_R0 kp sp wd) J F cn Q := by
  subst e12 e13
  have e : z_row I 12 (I 12) = I := by
    funext b; unfold z_row; by_cases h : b = 12
    · subst h; rw [if_pos rfl]
    · rw [if_neg h]
  refine z_WP_gos [8] 1000 fun K C hK hC => ?_
  conv => whnf
  refine hK _ _ _ _ _ _ _ _ _ _ (?_)
  have q := lp_struck (L := L) (xs := xs) (d := d) hb hp h13 hQ p 0 (by omega) 0 (I 12) none (by omega) rfl (fun _ _ => rfl)
  rw [e] at q
  exact q
theorem cw_claim14 {n : Nat} {rx : Nat → Int32} (er : I 14 = rx) (h0 : rx 0 = nI 64) (h1 : rx 1 = nI 4) (h3 : rx 3 = nI (n % 64)) (h4 : rx 4 = nI n) (hQ : Q (some (.int (nI (n % 64 * 4)))) (z_row I 14 (upd (upd rx 3 (nI ((n + 1) % 64))) 4 (nI (n + 1)))) (z_R0 kp sp wd) J F cn) : z_M (z_X0 L xs) z_P0 d m_Ring_claim [.ref 14] I (z_R0 kp sp wd) J F cn Q := by
  subst er
  have hm : n % 64 < 64 := Nat.mod_lt _ (by decide)
  refine z_WP_gos [] 1000 fun K C hK hC => ?_
  conv => whnf
  refine ⟨fun h => ?_, fun h => ?_⟩ <;> (try simp (disch := omega) only [z_lit, nI_add, pk_mul, z_pr1, z_pr2, nI_clamp, z_up_row, z_row_s, z_row_n, z_row_row, pk_us, pk_un] at h) <;> (conv => whnf)
  · rw [h0, h3, nI_add] at h
    simp (disch := omega) only [z_lit, nI_add, pk_mul, z_pr1, z_pr2, nI_clamp, z_up_row, z_row_s, z_row_n, z_row_row, pk_us, pk_un]
    rw [h3, h1, h4]
    refine z_Qi hQ (by simp only [z_lit, nI_add, pk_mul]) ?_
    have : n % 64 + 1 < 64 := by
      apply Nat.lt_of_not_le; intro z
      exact nI_nlt z (by omega) h
    rw [show (n + 1) % 64 = n % 64 + 1 by omega]
    simp only [nI_add]
  · rw [h0, h3, nI_add] at h
    simp (disch := omega) only [z_lit, nI_add, pk_mul, z_pr1, z_pr2, nI_clamp, z_up_row, z_row_s, z_row_n, z_row_row, pk_us, pk_un]
    rw [h3, h1, h4]
    refine z_Qi hQ (by simp only [z_lit, nI_add, pk_mul]) ?_
    have : ¬ n % 64 + 1 < 64 := fun z => h (nI_lt z (by decide))
    rw [show (n + 1) % 64 = 0 by omega]
    simp only [nI_add]
theorem cw_claim16 {n : Nat} {rx : Nat → Int32} (er : I 16 = rx) (h0 : rx 0 = nI 40) (h1 : rx 1 = nI 1) (h3 : rx 3 = nI (n % 40)) (h4 : rx 4 = nI n) (hQ : Q (some (.int (nI (n % 40 * 1)))) (z_row I 16 (upd (upd rx 3 (nI ((n + 1) % 40))) 4 (nI (n + 1)))) (z_R0 kp sp wd) J F cn) : z_M (z_X0 L xs) z_P0 d m_Ring_claim [.ref 16] I (z_R0 kp sp wd) J F cn Q := by
  subst er
  have hm : n % 40 < 40 := Nat.mod_lt _ (by decide)
  refine z_WP_gos [] 1000 fun K C hK hC => ?_
  conv => whnf
  refine ⟨fun h => ?_, fun h => ?_⟩ <;> (try simp (disch := omega) only [z_lit, nI_add, pk_mul, z_pr1, z_pr2, nI_clamp, z_up_row, z_row_s, z_row_n, z_row_row, pk_us, pk_un] at h) <;> (conv => whnf)
  · rw [h0, h3, nI_add] at h
    simp (disch := omega) only [z_lit, nI_add, pk_mul, z_pr1, z_pr2, nI_clamp, z_up_row, z_row_s, z_row_n, z_row_row, pk_us, pk_un]
    rw [h3, h1, h4]
    refine z_Qi hQ (by simp only [z_lit, nI_add, pk_mul]) ?_
    have : n % 40 + 1 < 40 := by
      apply Nat.lt_of_not_le; intro z
      exact nI_nlt z (by omega) h
    rw [show (n + 1) % 40 = n % 40 + 1 by omega]
    simp only [nI_add]
  · rw [h0, h3, nI_add] at h
    simp (disch := omega) only [z_lit, nI_add, pk_mul, z_pr1, z_pr2, nI_clamp, z_up_row, z_row_s, z_row_n, z_row_row, pk_us, pk_un]
    rw [h3, h1, h4]
    refine z_Qi hQ (by simp only [z_lit, nI_add, pk_mul]) ?_
    have : ¬ n % 40 + 1 < 40 := fun z => h (nI_lt z (by decide))
    rw [show (n + 1) % 40 = 0 by omega]
    simp only [nI_add]
theorem cw_claim27 {n : Nat} {rx : Nat → Int32} (er : I 27 = rx) (h0 : rx 0 = nI 60) (h1 : rx 1 = nI 5) (h3 : rx 3 = nI (n % 60)) (h4 : rx 4 = nI n) (hQ : Q (some (.int (nI (n % 60 * 5)))) (z_row I 27 (upd (upd rx 3 (nI ((n + 1) % 60))) 4 (nI (n + 1)))) (z_R0 kp sp wd) J F cn) : z_M (z_X0 L xs) z_P0 d m_Ring_claim [.ref 27] I (z_R0 kp sp wd) J F cn Q := by
  subst er
  have hm : n % 60 < 60 := Nat.mod_lt _ (by decide)
  refine z_WP_gos [] 1000 fun K C hK hC => ?_
  conv => whnf
  refine ⟨fun h => ?_, fun h => ?_⟩ <;> (try simp (disch := omega) only [z_lit, nI_add, pk_mul, z_pr1, z_pr2, nI_clamp, z_up_row, z_row_s, z_row_n, z_row_row, pk_us, pk_un] at h) <;> (conv => whnf)
  · rw [h0, h3, nI_add] at h
    simp (disch := omega) only [z_lit, nI_add, pk_mul, z_pr1, z_pr2, nI_clamp, z_up_row, z_row_s, z_row_n, z_row_row, pk_us, pk_un]
    rw [h3, h1, h4]
    refine z_Qi hQ (by simp only [z_lit, nI_add, pk_mul]) ?_
    have : n % 60 + 1 < 60 := by
      apply Nat.lt_of_not_le; intro z
      exact nI_nlt z (by omega) h
    rw [show (n + 1) % 60 = n % 60 + 1 by omega]
    simp only [nI_add]
  · rw [h0, h3, nI_add] at h
    simp (disch := omega) only [z_lit, nI_add, pk_mul, z_pr1, z_pr2, nI_clamp, z_up_row, z_row_s, z_row_n, z_row_row, pk_us, pk_un]
    rw [h3, h1, h4]
    refine z_Qi hQ (by simp only [z_lit, nI_add, pk_mul]) ?_
    have : ¬ n % 60 + 1 < 60 := fun z => h (nI_lt z (by decide))
    rw [show (n + 1) % 60 = 0 by omega]
    simp only [nI_add]
end
