/-! rows filled; loads piled up -/
def fil (v : Int32) (r : Nat → Int32) (k : Nat) : Nat → Int32 := fun j => if j < k then v else r j
theorem fil_0 {v : Int32} {r : Nat → Int32} : fil v r 0 = r := funext fun j => if_neg (Nat.not_lt_zero _)
theorem fil_s {v : Int32} {r : Nat → Int32} {k : Nat} : upd (fil v r k) k v = fil v r (k + 1) := funext fun j => by
  unfold fil
  by_cases h : j = k
  · subst h; rw [pk_us, if_pos (Nat.lt_succ_self _)]
  · rw [pk_un h]
    by_cases h2 : j < k
    · rw [if_pos h2, if_pos (by omega)]
    · rw [if_neg h2, if_neg (by omega)]
theorem fil_i {v : Int32} {r : Nat → Int32} {k j : Nat} (h : j < k) : fil v r k j = v := if_pos h
theorem z_row_id {I : z_I} {a : Nat} : z_row I a (I a) = I := funext fun b => by
  by_cases h : b = a
  · subst h; exact z_row_s _ _ _
  · exact z_row_n _ _ h
def plc (r : Nat → Int32) (p q : Nat) (t : Int32) (c : Nat) : Nat → Int32 := fun f => if f < c ∧ f < 8 ∧ f % p = q then r f + t else r f
theorem plc_0 {r : Nat → Int32} {p q : Nat} {t : Int32} : plc r p q t q = r := funext fun f => if_neg fun h => by
  have := Nat.mod_le f p
  omega
theorem plc_8 {r : Nat → Int32} {p q c : Nat} {t : Int32} (h : 8 ≤ c) : plc r p q t c = plc r p q t 8 := funext fun f => by
  unfold plc
  by_cases z : f < 8
  · by_cases y : f % p = q
    · rw [if_pos ⟨by omega, z, y⟩, if_pos ⟨z, z, y⟩]
    · rw [if_neg fun h => y h.2.2, if_neg fun h => y h.2.2]
  · rw [if_neg fun h => z h.2.1, if_neg fun h => z h.2.1]
theorem plc_s {r : Nat → Int32} {p q c : Nat} {t : Int32} (hp : 0 < p) (hc : c % p = q) (h8 : c < 8) : upd (plc r p q t c) c (plc r p q t c c + t) = plc r p q t (c + p) := funext fun f => by
  have e : plc r p q t c c = r c := if_neg fun h => by omega
  rw [e]
  by_cases h : f = c
  · subst h
    rw [pk_us]
    unfold plc
    rw [if_pos ⟨by omega, h8, hc⟩]
  · rw [pk_un h]
    unfold plc
    by_cases y : f % p = q
    · by_cases z : f < c
      · by_cases x : f < 8
        · rw [if_pos ⟨z, x, y⟩, if_pos ⟨by omega, x, y⟩]
        · rw [if_neg fun h => x h.2.1, if_neg fun h => x h.2.1]
      · rw [if_neg fun h => z h.1, if_neg fun h' => ?_]
        have h1 := Nat.div_add_mod f p
        have h2 := Nat.div_add_mod c p
        have h3 : c / p ≤ f / p := Nat.div_le_div_right (by omega)
        have h4 : f / p < c / p + 1 := by
          apply Nat.lt_of_mul_lt_mul_left (a := p)
          rw [Nat.mul_add, Nat.mul_one]
          omega
        have h5 : f / p = c / p := by omega
        rw [h5] at h1
        omega
    · rw [if_neg fun h => y h.2.2, if_neg fun h => y h.2.2]
section
variable {L : Nat} {xs : Nat → Int32} {d : Nat} {kp sp wd : Value} {I : z_I} {s : z_sg} {R : z_R} {J : z_J} {F : z_F} {cn : Nat} {Q : z_Q} {n k : Nat}
theorem lp_fill20 {v : Int32} (hQ : Q none (z_row I 20 (fil v (I 20) 192)) (z_R0 kp sp wd) J F cn) :
    ∀ j k, k + j = 192 → z_WP (z_X0 L xs) z_P0 d m_Arrays_fill 5 [some (.ref 20), some (.int v), some (.int (nI k)), some (.int (nI 192))] [] (z_row I 20 (fil v (I 20) k)) (z_R0 kp sp wd) J F cn 0 0 Q := by
  intro j
  induction j with
  | zero =>
    intro k hk
    obtain rfl : k = 192 := by omega
    refine z_WP_gos [5] 1000 fun K C hK hC => ?_
    conv => whnf
    repeat ((first | refine And.intro (by (conv => arg 2; whnf); (try simp only [z_lit, nI_add, pk_mul, z_pr1, z_pr2]); exact z_in (by omega) (by decide)) ?_ | refine z_bt1 (by decide) ?_ | refine z_bf1 (by decide) ?_ | refine z_bt2 (by decide) ?_ | refine z_bf2 (by decide) ?_); conv => whnf)
    exact hQ
  | succ j ih =>
    intro k hk
    have ih' := ih (k + 1) (by omega)
    rw [← fil_s] at ih'
    refine z_WP_gos [5] 1000 fun K C hK hC => ?_
    conv => whnf
    refine ⟨fun h => absurd h (nI_ge (b := 192) (by omega) (by omega)), fun _ => ?_⟩
    conv => whnf
    repeat ((first | refine And.intro (by (conv => arg 2; whnf); (try simp only [z_lit, nI_add, pk_mul, z_pr1, z_pr2]); exact z_in (by omega) (by decide)) ?_ | refine z_bt1 (by decide) ?_ | refine z_bf1 (by decide) ?_ | refine z_bt2 (by decide) ?_ | refine z_bf2 (by decide) ?_); conv => whnf)
    simp (disch := omega) only [z_lit, nI_add, pk_mul, z_pr1, z_pr2, nI_clamp, z_up_row, z_row_s, z_row_n, z_row_row, pk_us, pk_un]
    refine hK _ _ _ _ _ _ _ _ _ _ (ih')
theorem ca_fill20 {v : Int32} (hQ : Q none (z_row I 20 (fil v (I 20) 192)) (z_R0 kp sp wd) J F cn) : z_M (z_X0 L xs) z_P0 d m_Arrays_fill [.ref 20, .int v] I (z_R0 kp sp wd) J F cn Q := by
  have lp := lp_fill20 (L := L) (xs := xs) (d := d) hQ 192 0 rfl
  rw [fil_0, z_row_id] at lp
  refine z_WP_gos [5] 1000 fun K C hK hC => ?_
  conv => whnf
  refine hK _ _ _ _ _ _ _ _ _ _ (lp)
theorem lp_fill21 {v : Int32} (hQ : Q none (z_row I 21 (fil v (I 21) 24)) (z_R0 kp sp wd) J F cn) :
    ∀ j k, k + j = 24 → z_WP (z_X0 L xs) z_P0 d m_Arrays_fill 5 [some (.ref 21), some (.int v), some (.int (nI k)), some (.int (nI 24))] [] (z_row I 21 (fil v (I 21) k)) (z_R0 kp sp wd) J F cn 0 0 Q := by
  intro j
  induction j with
  | zero =>
    intro k hk
    obtain rfl : k = 24 := by omega
    refine z_WP_gos [5] 1000 fun K C hK hC => ?_
    conv => whnf
    repeat ((first | refine And.intro (by (conv => arg 2; whnf); (try simp only [z_lit, nI_add, pk_mul, z_pr1, z_pr2]); exact z_in (by omega) (by decide)) ?_ | refine z_bt1 (by decide) ?_ | refine z_bf1 (by decide) ?_ | refine z_bt2 (by decide) ?_ | refine z_bf2 (by decide) ?_); conv => whnf)
    exact hQ
  | succ j ih =>
    intro k hk
    have ih' := ih (k + 1) (by omega)
    rw [← fil_s] at ih'
    refine z_WP_gos [5] 1000 fun K C hK hC => ?_
    conv => whnf
    refine ⟨fun h => absurd h (nI_ge (b := 24) (by omega) (by omega)), fun _ => ?_⟩
    conv => whnf
    repeat ((first | refine And.intro (by (conv => arg 2; whnf); (try simp only [z_lit, nI_add, pk_mul, z_pr1, z_pr2]); exact z_in (by omega) (by decide)) ?_ | refine z_bt1 (by decide) ?_ | refine z_bf1 (by decide) ?_ | refine z_bt2 (by decide) ?_ | refine z_bf2 (by decide) ?_); conv => whnf)
    simp (disch := omega) only [z_lit, nI_add, pk_mul, z_pr1, z_pr2, nI_clamp, z_up_row, z_row_s, z_row_n, z_row_row, pk_us, pk_un]
    refine hK _ _ _ _ _ _ _ _ _ _ (ih')
theorem ca_fill21 {v : Int32} (hQ : Q none (z_row I 21 (fil v (I 21) 24)) (z_R0 kp sp wd) J F cn) : z_M (z_X0 L xs) z_P0 d m_Arrays_fill [.ref 21, .int v] I (z_R0 kp sp wd) J F cn Q := by
  have lp := lp_fill21 (L := L) (xs := xs) (d := d) hQ 24 0 rfl
  rw [fil_0, z_row_id] at lp
  refine z_WP_gos [5] 1000 fun K C hK hC => ?_
  conv => whnf
  refine hK _ _ _ _ _ _ _ _ _ _ (lp)
theorem lp_fill22 {v : Int32} (hQ : Q none (z_row I 22 (fil v (I 22) 24)) (z_R0 kp sp wd) J F cn) :
    ∀ j k, k + j = 24 → z_WP (z_X0 L xs) z_P0 d m_Arrays_fill 5 [some (.ref 22), some (.int v), some (.int (nI k)), some (.int (nI 24))] [] (z_row I 22 (fil v (I 22) k)) (z_R0 kp sp wd) J F cn 0 0 Q := by
  intro j
  induction j with
  | zero =>
    intro k hk
    obtain rfl : k = 24 := by omega
    refine z_WP_gos [5] 1000 fun K C hK hC => ?_
    conv => whnf
    repeat ((first | refine And.intro (by (conv => arg 2; whnf); (try simp only [z_lit, nI_add, pk_mul, z_pr1, z_pr2]); exact z_in (by omega) (by decide)) ?_ | refine z_bt1 (by decide) ?_ | refine z_bf1 (by decide) ?_ | refine z_bt2 (by decide) ?_ | refine z_bf2 (by decide) ?_); conv => whnf)
    exact hQ
  | succ j ih =>
    intro k hk
    have ih' := ih (k + 1) (by omega)
    rw [← fil_s] at ih'
    refine z_WP_gos [5] 1000 fun K C hK hC => ?_
    conv => whnf
    refine ⟨fun h => absurd h (nI_ge (b := 24) (by omega) (by omega)), fun _ => ?_⟩
    conv => whnf
    repeat ((first | refine And.intro (by (conv => arg 2; whnf); (try simp only [z_lit, nI_add, pk_mul, z_pr1, z_pr2]); exact z_in (by omega) (by decide)) ?_ | refine z_bt1 (by decide) ?_ | refine z_bf1 (by decide) ?_ | refine z_bt2 (by decide) ?_ | refine z_bf2 (by decide) ?_); conv => whnf)
    simp (disch := omega) only [z_lit, nI_add, pk_mul, z_pr1, z_pr2, nI_clamp, z_up_row, z_row_s, z_row_n, z_row_row, pk_us, pk_un]
    refine hK _ _ _ _ _ _ _ _ _ _ (ih')
theorem ca_fill22 {v : Int32} (hQ : Q none (z_row I 22 (fil v (I 22) 24)) (z_R0 kp sp wd) J F cn) : z_M (z_X0 L xs) z_P0 d m_Arrays_fill [.ref 22, .int v] I (z_R0 kp sp wd) J F cn Q := by
  have lp := lp_fill22 (L := L) (xs := xs) (d := d) hQ 24 0 rfl
  rw [fil_0, z_row_id] at lp
  refine z_WP_gos [5] 1000 fun K C hK hC => ?_
  conv => whnf
  refine hK _ _ _ _ _ _ _ _ _ _ (lp)
theorem lp_fill23 {v : Int32} (hQ : Q none (z_row I 23 (fil v (I 23) 8)) (z_R0 kp sp wd) J F cn) :
    ∀ j k, k + j = 8 → z_WP (z_X0 L xs) z_P0 d m_Arrays_fill 5 [some (.ref 23), some (.int v), some (.int (nI k)), some (.int (nI 8))] [] (z_row I 23 (fil v (I 23) k)) (z_R0 kp sp wd) J F cn 0 0 Q := by
  intro j
  induction j with
  | zero =>
    intro k hk
    obtain rfl : k = 8 := by omega
    refine z_WP_gos [5] 1000 fun K C hK hC => ?_
    conv => whnf
    repeat ((first | refine And.intro (by (conv => arg 2; whnf); (try simp only [z_lit, nI_add, pk_mul, z_pr1, z_pr2]); exact z_in (by omega) (by decide)) ?_ | refine z_bt1 (by decide) ?_ | refine z_bf1 (by decide) ?_ | refine z_bt2 (by decide) ?_ | refine z_bf2 (by decide) ?_); conv => whnf)
    exact hQ
  | succ j ih =>
    intro k hk
    have ih' := ih (k + 1) (by omega)
    rw [← fil_s] at ih'
    refine z_WP_gos [5] 1000 fun K C hK hC => ?_
    conv => whnf
    refine ⟨fun h => absurd h (nI_ge (b := 8) (by omega) (by omega)), fun _ => ?_⟩
    conv => whnf
    repeat ((first | refine And.intro (by (conv => arg 2; whnf); (try simp only [z_lit, nI_add, pk_mul, z_pr1, z_pr2]); exact z_in (by omega) (by decide)) ?_ | refine z_bt1 (by decide) ?_ | refine z_bf1 (by decide) ?_ | refine z_bt2 (by decide) ?_ | refine z_bf2 (by decide) ?_); conv => whnf)
    simp (disch := omega) only [z_lit, nI_add, pk_mul, z_pr1, z_pr2, nI_clamp, z_up_row, z_row_s, z_row_n, z_row_row, pk_us, pk_un]
    refine hK _ _ _ _ _ _ _ _ _ _ (ih')
theorem ca_fill23 {v : Int32} (hQ : Q none (z_row I 23 (fil v (I 23) 8)) (z_R0 kp sp wd) J F cn) : z_M (z_X0 L xs) z_P0 d m_Arrays_fill [.ref 23, .int v] I (z_R0 kp sp wd) J F cn Q := by
  have lp := lp_fill23 (L := L) (xs := xs) (d := d) hQ 8 0 rfl
  rw [fil_0, z_row_id] at lp
  refine z_WP_gos [5] 1000 fun K C hK hC => ?_
  conv => whnf
  refine hK _ _ _ _ _ _ _ _ _ _ (lp)
theorem lp_fill24 {v : Int32} (hQ : Q none (z_row I 24 (fil v (I 24) 8)) (z_R0 kp sp wd) J F cn) :
    ∀ j k, k + j = 8 → z_WP (z_X0 L xs) z_P0 d m_Arrays_fill 5 [some (.ref 24), some (.int v), some (.int (nI k)), some (.int (nI 8))] [] (z_row I 24 (fil v (I 24) k)) (z_R0 kp sp wd) J F cn 0 0 Q := by
  intro j
  induction j with
  | zero =>
    intro k hk
    obtain rfl : k = 8 := by omega
    refine z_WP_gos [5] 1000 fun K C hK hC => ?_
    conv => whnf
    repeat ((first | refine And.intro (by (conv => arg 2; whnf); (try simp only [z_lit, nI_add, pk_mul, z_pr1, z_pr2]); exact z_in (by omega) (by decide)) ?_ | refine z_bt1 (by decide) ?_ | refine z_bf1 (by decide) ?_ | refine z_bt2 (by decide) ?_ | refine z_bf2 (by decide) ?_); conv => whnf)
    exact hQ
  | succ j ih =>
    intro k hk
    have ih' := ih (k + 1) (by omega)
    rw [← fil_s] at ih'
    refine z_WP_gos [5] 1000 fun K C hK hC => ?_
    conv => whnf
    refine ⟨fun h => absurd h (nI_ge (b := 8) (by omega) (by omega)), fun _ => ?_⟩
    conv => whnf
    repeat ((first | refine And.intro (by (conv => arg 2; whnf); (try simp only [z_lit, nI_add, pk_mul, z_pr1, z_pr2]); exact z_in (by omega) (by decide)) ?_ | refine z_bt1 (by decide) ?_ | refine z_bf1 (by decide) ?_ | refine z_bt2 (by decide) ?_ | refine z_bf2 (by decide) ?_); conv => whnf)
    simp (disch := omega) only [z_lit, nI_add, pk_mul, z_pr1, z_pr2, nI_clamp, z_up_row, z_row_s, z_row_n, z_row_row, pk_us, pk_un]
    refine hK _ _ _ _ _ _ _ _ _ _ (ih')
theorem ca_fill24 {v : Int32} (hQ : Q none (z_row I 24 (fil v (I 24) 8)) (z_R0 kp sp wd) J F cn) : z_M (z_X0 L xs) z_P0 d m_Arrays_fill [.ref 24, .int v] I (z_R0 kp sp wd) J F cn Q := by
  have lp := lp_fill24 (L := L) (xs := xs) (d := d) hQ 8 0 rfl
  rw [fil_0, z_row_id] at lp
  refine z_WP_gos [5] 1000 fun K C hK hC => ?_
  conv => whnf
  refine hK _ _ _ _ _ _ _ _ _ _ (lp)
theorem lp_pile23 {i p q : Nat} {t : Int32} (hp : 0 < p) (hp8 : p ≤ 8) (hQ : Q none (z_row I 23 (plc (I 23) p q t 8)) (z_R0 kp sp wd) J F cn) :
    ∀ j c, 8 ≤ c + j → c % p = q → c < 16 → z_WP (z_X0 L xs) z_P0 (d + 1) m_Plan_pile 16 [some (.ref 18), some (.ref 23), some (.int (nI i)), some (.int (nI q)), some (.int t), some (.int (nI p)), some (.int (nI c))] [] (z_row I 23 (plc (I 23) p q t c)) (z_R0 kp sp wd) J F cn 0 0 Q := by
  intro j
  induction j with
  | zero =>
    intro c hc hq h16
    rw [plc_8 (by omega)]
    refine z_WP_gos [16] 1000 fun K C hK hC => ?_
    conv => whnf
    refine ⟨fun _ => ?_, fun h => absurd (nI_le (a := 8) (b := c) (by omega) (by omega)) h⟩
    conv => whnf
    exact hQ
  | succ j ih =>
    intro c hc hq h16
    by_cases z : 8 ≤ c
    · rw [plc_8 z]
      refine z_WP_gos [16] 1000 fun K C hK hC => ?_
      conv => whnf
      refine ⟨fun _ => ?_, fun h => absurd (nI_le (a := 8) (b := c) (by omega) (by omega)) h⟩
      conv => whnf
      exact hQ
    · have ih' := ih (c + p) (by omega) (by rw [Nat.add_mod_right]; exact hq) (by omega)
      rw [← plc_s hp hq (by omega)] at ih'
      refine z_WP_gos [16] 1000 fun K C hK hC => ?_
      conv => whnf
      refine ⟨fun h => absurd h (nI_ge (b := 8) (by omega) (by omega)), fun _ => ?_⟩
      conv => whnf
      repeat ((first | refine And.intro (by (conv => arg 2; whnf); (try simp only [z_lit, nI_add, pk_mul, z_pr1, z_pr2]); exact z_in (by omega) (by decide)) ?_ | refine z_bt1 (by decide) ?_ | refine z_bf1 (by decide) ?_ | refine z_bt2 (by decide) ?_ | refine z_bf2 (by decide) ?_); conv => whnf)
      simp (disch := omega) only [z_lit, nI_add, pk_mul, z_pr1, z_pr2, nI_clamp, z_up_row, z_row_s, z_row_n, z_row_row, pk_us, pk_un]
      refine hK _ _ _ _ _ _ _ _ _ _ (ih')
theorem cp_pile23 {i p q : Nat} {t : Int32} (hi : i < 24) (e6 : I 19 (i * 11 + 6) = nI p) (hp : 0 < p) (hp8 : p ≤ 8) (hq : q < p) (hQ : Q none (z_row I 23 (plc (I 23) p q t 8)) (z_R0 kp sp wd) J F cn) : z_M (z_X0 L xs) z_P0 (d + 1) m_Plan_pile [.ref 18, .ref 23, .int (nI i), .int (nI q), .int t] I (z_R0 kp sp wd) J F cn Q := by
  have lp := lp_pile23 (L := L) (xs := xs) (d := d) (i := i) hp hp8 hQ 8 q (by omega) (Nat.mod_eq_of_lt hq) (by omega)
  rw [plc_0, z_row_id] at lp
  refine z_WP_gos [16] 1000 fun K C hK hC => ?_
  conv => whnf
  refine hC _ _ _ _ _ _ _ _ _ _ (fun _ _ _ _ _ _ q => q) (cp_told (f := 6) hi (by omega) e6 ?_)
  conv => whnf
  refine hC _ _ _ _ _ _ _ _ _ _ (fun _ _ _ _ _ _ q => q) (cm_max ?_)
  conv => whnf
  have e : (if nI p ≤ 1 then 1 else nI p) = nI p := by
    by_cases z : p = 1
    · subst z; rfl
    · exact if_neg (nI_ge (a := 1) (b := p) (by omega) (by omega))
  rw [e]
  refine hK _ _ _ _ _ _ _ _ _ _ (lp)
theorem lp_pile24 {i p q : Nat} {t : Int32} (hp : 0 < p) (hp8 : p ≤ 8) (hQ : Q none (z_row I 24 (plc (I 24) p q t 8)) (z_R0 kp sp wd) J F cn) :
    ∀ j c, 8 ≤ c + j → c % p = q → c < 16 → z_WP (z_X0 L xs) z_P0 (d + 1) m_Plan_pile 16 [some (.ref 18), some (.ref 24), some (.int (nI i)), some (.int (nI q)), some (.int t), some (.int (nI p)), some (.int (nI c))] [] (z_row I 24 (plc (I 24) p q t c)) (z_R0 kp sp wd) J F cn 0 0 Q := by
  intro j
  induction j with
  | zero =>
    intro c hc hq h16
    rw [plc_8 (by omega)]
    refine z_WP_gos [16] 1000 fun K C hK hC => ?_
    conv => whnf
    refine ⟨fun _ => ?_, fun h => absurd (nI_le (a := 8) (b := c) (by omega) (by omega)) h⟩
    conv => whnf
    exact hQ
  | succ j ih =>
    intro c hc hq h16
    by_cases z : 8 ≤ c
    · rw [plc_8 z]
      refine z_WP_gos [16] 1000 fun K C hK hC => ?_
      conv => whnf
      refine ⟨fun _ => ?_, fun h => absurd (nI_le (a := 8) (b := c) (by omega) (by omega)) h⟩
      conv => whnf
      exact hQ
    · have ih' := ih (c + p) (by omega) (by rw [Nat.add_mod_right]; exact hq) (by omega)
      rw [← plc_s hp hq (by omega)] at ih'
      refine z_WP_gos [16] 1000 fun K C hK hC => ?_
      conv => whnf
      refine ⟨fun h => absurd h (nI_ge (b := 8) (by omega) (by omega)), fun _ => ?_⟩
      conv => whnf
      repeat ((first | refine And.intro (by (conv => arg 2; whnf); (try simp only [z_lit, nI_add, pk_mul, z_pr1, z_pr2]); exact z_in (by omega) (by decide)) ?_ | refine z_bt1 (by decide) ?_ | refine z_bf1 (by decide) ?_ | refine z_bt2 (by decide) ?_ | refine z_bf2 (by decide) ?_); conv => whnf)
      simp (disch := omega) only [z_lit, nI_add, pk_mul, z_pr1, z_pr2, nI_clamp, z_up_row, z_row_s, z_row_n, z_row_row, pk_us, pk_un]
      refine hK _ _ _ _ _ _ _ _ _ _ (ih')
theorem cp_pile24 {i p q : Nat} {t : Int32} (hi : i < 24) (e6 : I 19 (i * 11 + 6) = nI p) (hp : 0 < p) (hp8 : p ≤ 8) (hq : q < p) (hQ : Q none (z_row I 24 (plc (I 24) p q t 8)) (z_R0 kp sp wd) J F cn) : z_M (z_X0 L xs) z_P0 (d + 1) m_Plan_pile [.ref 18, .ref 24, .int (nI i), .int (nI q), .int t] I (z_R0 kp sp wd) J F cn Q := by
  have lp := lp_pile24 (L := L) (xs := xs) (d := d) (i := i) hp hp8 hQ 8 q (by omega) (Nat.mod_eq_of_lt hq) (by omega)
  rw [plc_0, z_row_id] at lp
  refine z_WP_gos [16] 1000 fun K C hK hC => ?_
  conv => whnf
  refine hC _ _ _ _ _ _ _ _ _ _ (fun _ _ _ _ _ _ q => q) (cp_told (f := 6) hi (by omega) e6 ?_)
  conv => whnf
  refine hC _ _ _ _ _ _ _ _ _ _ (fun _ _ _ _ _ _ q => q) (cm_max ?_)
  conv => whnf
  have e : (if nI p ≤ 1 then 1 else nI p) = nI p := by
    by_cases z : p = 1
    · subst z; rfl
    · exact if_neg (nI_ge (a := 1) (b := p) (by omega) (by omega))
  rw [e]
  refine hK _ _ _ _ _ _ _ _ _ _ (lp)
end
