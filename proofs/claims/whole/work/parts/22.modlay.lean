/-! the model's talks -/
section
variable {L : Nat} {xs : Nat → Int32} {d : Nat} {kp sp wd : Value} {I : z_I} {f w y : Nat → Int32} {R : z_R} {J : z_J} {F : z_F} {cn : Nat} {Q : z_Q}
def s_held1 (w : Nat → Int32) (bus t : Nat) : Bool := decide (w (88 + t) >>> (nI bus &&& nI 31) &&& nI 1 = nI 1) && decide (w (31 + t) = nI 1) && !decide (nI t = w 3)
def s_held (w : Nat → Int32) (bus : Nat) : Bool := (List.range 8).any (s_held1 w bus)
theorem s_held_f {w : Nat → Int32} {bus : Nat} (h : ∀ j, j < 8 → s_held1 w bus j = false) : s_held w bus = false := by
  unfold s_held
  rw [List.any_eq_false]
  intro x hx
  rw [h x (List.mem_range.mp hx)]
  exact Bool.false_ne_true
theorem s_held_t {w : Nat → Int32} {bus j : Nat} (hj : j < 8) (h : s_held1 w bus j = true) : s_held w bus = true := List.any_eq_true.mpr ⟨j, List.mem_range.mpr hj, h⟩
theorem lp_Mod_isHeld {bus : Nat} (hb : bus < 2) (h1 : s_held w bus = true → Q (some (.int 1)) (z_m3 I f w y) (z_R0 kp sp wd) J F cn) (h0 : s_held w bus = false → Q (some (.int 0)) (z_m3 I f w y) (z_R0 kp sp wd) J F cn) :
    ∀ n t, t + n = 8 → (∀ j, j < t → s_held1 w bus j = false) → z_WP (z_X0 L xs) z_P0 d m_Mod_isHeld 2 [some (.ref 40), some (.int (nI bus)), some (.int (nI t))] [] (z_m3 I f w y) (z_R0 kp sp wd) J F cn 0 0 Q := by
  intro n
  induction n with
  | zero =>
    intro t ht hj
    obtain rfl : t = 8 := by omega
    refine z_WP_gos [2] 1000 fun K C hK hC => ?_
    conv => whnf
    refine ⟨fun _ => ?_, fun h => absurd (by decide) h⟩
    conv => whnf
    exact ⟨Or.inl rfl, h0 (s_held_f hj)⟩
  | succ n ih =>
    intro t ht hj
    have next : s_held1 w bus t = false → z_WP (z_X0 L xs) z_P0 d m_Mod_isHeld 2 [some (.ref 40), some (.int (nI bus)), some (.int (nI (t + 1)))] [] (z_m3 I f w y) (z_R0 kp sp wd) J F cn 0 0 Q := fun h => ih (t + 1) (by omega) (fun j h2 => by
      rcases Nat.lt_succ_iff_lt_or_eq.mp h2 with h3 | rfl
      · exact hj j h3
      · exact h)
    refine z_WP_gos [2] 1000 fun K C hK hC => ?_
    conv => whnf
    refine ⟨fun h => absurd h (nI_ge (a := t) (b := 8) (by omega) (by decide)), fun _ => ?_⟩
    conv => whnf
    repeat ((first | refine And.intro (by (conv => arg 2; whnf); (try simp only [z_lit, nI_add, pk_mul, z_pr1, z_pr2]); exact z_in (by omega) (by decide)) ?_ | refine z_bt1 (by decide) ?_ | refine z_bf1 (by decide) ?_ | refine z_bt2 (by decide) ?_ | refine z_bf2 (by decide) ?_); conv => whnf)
    have inc : nI t + 1 = nI (t + 1) := nI_1 t
    refine ⟨fun h => ?_, fun h => ?_⟩
    · conv => whnf
      rw [inc]
      refine hK _ _ _ _ _ _ _ _ _ _ (next ?_)
      simp (disch := omega) only [z_lit, nI_add, pk_mul, z_pr1, z_pr2, nI_clamp, z_m3_40, z_m3_41, z_m3_44, z_m3_u40, z_m3_u41, z_m3_u44, z_m3_m3, pk_us, pk_un] at h
      simp [s_held1, h]
    · conv => whnf
      repeat ((first | refine And.intro (by (conv => arg 2; whnf); (try simp only [z_lit, nI_add, pk_mul, z_pr1, z_pr2]); exact z_in (by omega) (by decide)) ?_ | refine z_bt1 (by decide) ?_ | refine z_bf1 (by decide) ?_ | refine z_bt2 (by decide) ?_ | refine z_bf2 (by decide) ?_); conv => whnf)
      refine ⟨fun g => ?_, fun g => ?_⟩
      · conv => whnf
        rw [inc]
        refine hK _ _ _ _ _ _ _ _ _ _ (next ?_)
        simp (disch := omega) only [z_lit, nI_add, pk_mul, z_pr1, z_pr2, nI_clamp, z_m3_40, z_m3_41, z_m3_44, z_m3_u40, z_m3_u41, z_m3_u44, z_m3_m3, pk_us, pk_un] at g
        simp [s_held1, g]
      · conv => whnf
        repeat ((first | refine And.intro (by (conv => arg 2; whnf); (try simp only [z_lit, nI_add, pk_mul, z_pr1, z_pr2]); exact z_in (by omega) (by decide)) ?_ | refine z_bt1 (by decide) ?_ | refine z_bf1 (by decide) ?_ | refine z_bt2 (by decide) ?_ | refine z_bf2 (by decide) ?_); conv => whnf)
        refine ⟨fun e => ?_, fun e => ?_⟩
        · conv => whnf
          rw [inc]
          refine hK _ _ _ _ _ _ _ _ _ _ (next ?_)
          simp (disch := omega) only [z_lit, nI_add, pk_mul, z_pr1, z_pr2, nI_clamp, z_m3_40, z_m3_41, z_m3_44, z_m3_u40, z_m3_u41, z_m3_u44, z_m3_m3, pk_us, pk_un] at e
          simp [s_held1, e]
        · conv => whnf
          refine ⟨Or.inr rfl, h1 (s_held_t (j := t) (by omega) ?_)⟩
          simp (disch := omega) only [z_lit, nI_add, pk_mul, z_pr1, z_pr2, nI_clamp, z_m3_40, z_m3_41, z_m3_44, z_m3_u40, z_m3_u41, z_m3_u44, z_m3_m3, pk_us, pk_un] at h g e
          simp [s_held1, h, g, e]
theorem sp_Mod_isHeld {bus : Nat} (hb : bus < 2) (h1 : s_held w bus = true → Q (some (.int 1)) (z_m3 I f w y) (z_R0 kp sp wd) J F cn) (h0 : s_held w bus = false → Q (some (.int 0)) (z_m3 I f w y) (z_R0 kp sp wd) J F cn) : z_M (z_X0 L xs) z_P0 d m_Mod_isHeld [.ref 40, .int (nI bus)] (z_m3 I f w y) (z_R0 kp sp wd) J F cn Q := by
  refine z_WP_gos [2] 1000 fun K C hK hC => ?_
  conv => whnf
  refine hK _ _ _ _ _ _ _ _ _ _ (lp_Mod_isHeld hb h1 h0 8 0 rfl (fun j h => absurd h (Nat.not_lt_zero _)))
/-- which of the eight places is struck -/
def s_hitk (w : Nat → Int32) (bus k : Nat) : Bool := (List.range k).any fun j => decide (w (15 + 8 * bus + j) = w (13 + bus))
def s_clr (w : Nat → Int32) (bus k : Nat) : Nat → Int32 := fun j => if 15 + 8 * bus ≤ j ∧ j < 15 + 8 * bus + k ∧ w j = w (13 + bus) then nI 0 else w j
theorem s_clr_at {w : Nat → Int32} {bus k : Nat} : s_clr w bus k (15 + 8 * bus + k) = w (15 + 8 * bus + k) := if_neg (by omega)
theorem s_clr_13 {w : Nat → Int32} {bus k : Nat} (h : bus < 2) : s_clr w bus k (13 + bus) = w (13 + bus) := if_neg (by omega)
theorem s_clr_0 {w : Nat → Int32} {bus : Nat} : s_clr w bus 0 = w := by
  funext j; exact if_neg (by omega)
theorem s_clr_t {w : Nat → Int32} {bus k : Nat} (h : w (15 + 8 * bus + k) = w (13 + bus)) : upd (s_clr w bus k) (15 + 8 * bus + k) (nI 0) = s_clr w bus (k + 1) := by
  funext j
  by_cases hj : j = 15 + 8 * bus + k
  · subst hj
    rw [pk_us]
    exact (if_pos ⟨by omega, by omega, h⟩).symm
  · rw [pk_un hj]
    unfold s_clr
    by_cases h2 : 15 + 8 * bus ≤ j ∧ j < 15 + 8 * bus + k ∧ w j = w (13 + bus)
    · rw [if_pos h2, if_pos ⟨h2.1, by omega, h2.2.2⟩]
    · rw [if_neg h2, if_neg (fun z => h2 ⟨z.1, by omega, z.2.2⟩)]
theorem s_clr_f {w : Nat → Int32} {bus k : Nat} (h : ¬ w (15 + 8 * bus + k) = w (13 + bus)) : s_clr w bus k = s_clr w bus (k + 1) := by
  funext j
  unfold s_clr
  by_cases h2 : 15 + 8 * bus ≤ j ∧ j < 15 + 8 * bus + k ∧ w j = w (13 + bus)
  · rw [if_pos h2, if_pos ⟨h2.1, by omega, h2.2.2⟩]
  · rw [if_neg h2, if_neg (fun z => h2 ⟨z.1, (by
      rcases Nat.lt_or_eq_of_le (Nat.le_of_lt_succ z.2.1) with q | q
      · exact q
      · subst q; exact absurd z.2.2 h), z.2.2⟩)]
theorem s_hitk_t {w : Nat → Int32} {bus k : Nat} (h : w (15 + 8 * bus + k) = w (13 + bus)) : s_hitk w bus (k + 1) = true := List.any_eq_true.mpr ⟨k, List.mem_range.mpr (Nat.lt_succ_self k), decide_eq_true h⟩
theorem s_hitk_f {w : Nat → Int32} {bus k : Nat} (h : ¬ w (15 + 8 * bus + k) = w (13 + bus)) : s_hitk w bus (k + 1) = s_hitk w bus k := by
  unfold s_hitk
  rw [List.range_succ, List.any_append]
  simp [h]
def z_bi (b : Bool) : Int32 := bif b then 1 else 0
theorem z_bi_01 (b : Bool) : z_bi b = 0 ∨ z_bi b = 1 := by cases b <;> simp [z_bi]
theorem lp_Mod_isNoise {bus : Nat} (hb : bus < 2) (hQ : Q (some (.int (z_bi (s_hitk w bus 8)))) (z_m3 I f (s_clr w bus 8) y) (z_R0 kp sp wd) J F cn) :
    ∀ n k, k + n = 8 → z_WP (z_X0 L xs) z_P0 d m_Mod_isNoise 10 [some (.ref 40), some (.int (nI bus)), some (.int (z_bi (s_hitk w bus k))), some (.int (nI (15 + 8 * bus + k)))] [] (z_m3 I f (s_clr w bus k) y) (z_R0 kp sp wd) J F cn 0 0 Q := by
  intro n
  induction n with
  | zero =>
    intro k hk
    obtain rfl : k = 8 := by omega
    refine z_WP_gos [10] 1000 fun K C hK hC => ?_
    conv => whnf
    refine ⟨fun _ => ?_, fun h => absurd ?_ h⟩
    · conv => whnf
      exact ⟨z_bi_01 _, hQ⟩
    · simp only [z_lit, nI_add, pk_mul]
      exact nI_le (by omega) (by omega)
  | succ n ih =>
    intro k hk
    have inc : nI (15 + 8 * bus + k) + 1 = nI (15 + 8 * bus + (k + 1)) := nI_1 _
    refine z_WP_gos [10] 1000 fun K C hK hC => ?_
    conv => whnf
    refine ⟨fun h => absurd h ?_, fun _ => ?_⟩
    · simp only [z_lit, nI_add, pk_mul]
      exact nI_ge (by omega) (by omega)
    conv => whnf
    repeat ((first | refine And.intro (by (conv => arg 2; whnf); (try simp only [z_lit, nI_add, pk_mul, z_pr1, z_pr2]); exact z_in (by omega) (by decide)) ?_ | refine z_bt1 (by decide) ?_ | refine z_bf1 (by decide) ?_ | refine z_bt2 (by decide) ?_ | refine z_bf2 (by decide) ?_); conv => whnf)
    refine ⟨fun h => ?_, fun h => ?_⟩
    · simp (disch := omega) only [z_lit, nI_add, pk_mul, z_pr1, z_pr2, nI_clamp, z_m3_40, z_m3_41, z_m3_44, z_m3_u40, z_m3_u41, z_m3_u44, z_m3_m3, pk_us, pk_un] at h
      rw [s_clr_at, s_clr_13 hb] at h
      conv => whnf
      repeat ((first | refine And.intro (by (conv => arg 2; whnf); (try simp only [z_lit, nI_add, pk_mul, z_pr1, z_pr2]); exact z_in (by omega) (by decide)) ?_ | refine z_bt1 (by decide) ?_ | refine z_bf1 (by decide) ?_ | refine z_bt2 (by decide) ?_ | refine z_bf2 (by decide) ?_); conv => whnf)
      rw [inc]
      simp (disch := omega) only [z_lit, nI_add, pk_mul, z_pr1, z_pr2, nI_clamp, z_m3_40, z_m3_41, z_m3_44, z_m3_u40, z_m3_u41, z_m3_u44, z_m3_m3, pk_us, pk_un]
      rw [s_clr_t h]
      refine hK _ _ _ _ _ _ _ _ _ _ (?_)
      have e := ih (k + 1) (by omega)
      rw [s_hitk_t h] at e
      exact e
    · simp (disch := omega) only [z_lit, nI_add, pk_mul, z_pr1, z_pr2, nI_clamp, z_m3_40, z_m3_41, z_m3_44, z_m3_u40, z_m3_u41, z_m3_u44, z_m3_m3, pk_us, pk_un] at h
      rw [s_clr_at, s_clr_13 hb] at h
      conv => whnf
      rw [inc]
      refine hK _ _ _ _ _ _ _ _ _ _ (?_)
      rw [s_clr_f h, ← s_hitk_f h]
      exact ih (k + 1) (by omega)
theorem sp_Mod_isNoise {bus : Nat} (hb : bus < 2) (hQ : Q (some (.int (z_bi (s_hitk w bus 8)))) (z_m3 I f (s_clr w bus 8) y) (z_R0 kp sp wd) J F cn) : z_M (z_X0 L xs) z_P0 d m_Mod_isNoise [.ref 40, .int (nI bus)] (z_m3 I f w y) (z_R0 kp sp wd) J F cn Q := by
  refine z_WP_gos [10] 1000 fun K C hK hC => ?_
  conv => whnf
  refine hK _ _ _ _ _ _ _ _ _ _ (?_)
  have e := lp_Mod_isNoise (L := L) (xs := xs) (d := d) hb hQ 8 0 rfl
  rw [s_clr_0] at e
  simp only [z_lit, nI_add, pk_mul]
  exact e
def s_ones (v : Int32) : Nat → Int32
  | 0 => nI 0
  | k + 1 => s_ones v k + (v >>> (nI k &&& nI 31) &&& nI 1)
def s_odd (v : Int32) : Int32 := if s_ones v 16 - s_ones v 16 / nI 2 * nI 2 = nI 0 then nI 1 else nI 0
theorem lp_Mod_oddBit {v : Int32} (hQ : Q (some (.int (s_odd v))) I R J F cn) :
    ∀ n k, k + n = 16 → z_WP (z_X0 L xs) z_P0 d m_Mod_oddBit 4 [some (.int v), some (.int (s_ones v k)), some (.int (nI k))] [] I R J F cn 0 0 Q := by
  intro n
  induction n with
  | zero =>
    intro k hk
    obtain rfl : k = 16 := by omega
    refine z_WP_gos [4] 1000 fun K C hK hC => ?_
    conv => whnf
    refine ⟨fun _ => ?_, fun h => absurd (by decide) h⟩
    conv => whnf
    refine ⟨by decide, ?_⟩
    conv => whnf
    refine ⟨fun h => ?_, fun h => ?_⟩
    · conv => whnf
      refine z_Qi hQ ?_ rfl
      exact (if_neg h).symm
    · conv => whnf
      refine z_Qi hQ ?_ rfl
      exact (if_pos h).symm
  | succ n ih =>
    intro k hk
    refine z_WP_gos [4] 1000 fun K C hK hC => ?_
    conv => whnf
    refine ⟨fun h => absurd h (nI_ge (a := k) (b := 16) (by omega) (by decide)), fun _ => ?_⟩
    conv => whnf
    refine hK _ _ _ _ _ _ _ _ _ _ (?_)
    have e := ih (k + 1) (by omega)
    rw [← nI_1 k] at e
    exact e
theorem sp_Mod_oddBit {v : Int32} (hQ : Q (some (.int (s_odd v))) I R J F cn) : z_M (z_X0 L xs) z_P0 d m_Mod_oddBit [.int v] I R J F cn Q := by
  refine z_WP_gos [4] 1000 fun K C hK hC => ?_
  conv => whnf
  refine hK _ _ _ _ _ _ _ _ _ _ (lp_Mod_oddBit hQ 16 0 rfl)
/-- a word is heard -/
def s_hears0 (w : Nat → Int32) (n r : Nat) (bus who bits tu : Int32) : Nat → Int32 :=
  upd (upd (upd (upd (upd w (2316 + 4 * r) bus) (2316 + 4 * r + 1) who) (2316 + 4 * r + 2) bits) (2316 + 4 * r + 3) (if tu = nI 0 then s_odd bits else nI 1 - s_odd bits)) 2315 (nI (n + 1))
def s_hears (w : Nat → Int32) (n : Nat) (bus who bits tu : Int32) : Nat → Int32 := s_hears0 w n (n % 64) bus who bits tu
theorem sp_Mod_hears {n : Nat} {bus who bits tu : Int32} (hn : w 2315 = nI n) (hn2 : n < 2 ^ 30) (hQ : Q none (z_m3 I f (s_hears w n bus who bits tu) y) (z_R0 kp sp wd) J F cn) : z_M (z_X0 L xs) z_P0 (d + 1) m_Mod_hears [.ref 40, .int bus, .int who, .int bits, .int tu] (z_m3 I f w y) (z_R0 kp sp wd) J F cn Q := by
  have hrem : nI n - nI n / nI 64 * nI 64 = nI (n % 64) := pk_rem (by omega) (by decide) (by decide)
  have hm : n % 64 < 64 := Nat.mod_lt _ (by decide)
  unfold s_hears at hQ
  generalize n % 64 = r at hrem hm hQ
  refine z_WP_gos [] 1000 fun K C hK hC => ?_
  conv => whnf
  repeat ((first | refine And.intro (by (conv => arg 2; whnf); (try simp only [z_lit, nI_add, pk_mul, z_pr1, z_pr2]); exact z_in (by omega) (by decide)) ?_ | refine z_bt1 (by decide) ?_ | refine z_bf1 (by decide) ?_ | refine z_bt2 (by decide) ?_ | refine z_bf2 (by decide) ?_); conv => whnf)
  refine ⟨by decide, ?_⟩
  conv => whnf
  simp (disch := omega) only [z_lit, nI_add, pk_mul, z_pr1, z_pr2, nI_clamp, z_m3_40, z_m3_41, z_m3_44, z_m3_u40, z_m3_u41, z_m3_u44, z_m3_m3, pk_us, pk_un]
  rw [hn, hrem]
  simp (disch := omega) only [z_lit, nI_add, pk_mul, z_pr1, z_pr2, nI_clamp, z_m3_40, z_m3_41, z_m3_44, z_m3_u40, z_m3_u41, z_m3_u44, z_m3_m3, pk_us, pk_un]
  repeat ((first | refine And.intro (by (conv => arg 2; whnf); (try simp only [z_lit, nI_add, pk_mul, z_pr1, z_pr2]); exact z_in (by omega) (by decide)) ?_ | refine z_bt1 (by decide) ?_ | refine z_bf1 (by decide) ?_ | refine z_bt2 (by decide) ?_ | refine z_bf2 (by decide) ?_); conv => whnf)
  refine ⟨fun h => ?_, fun h => ?_⟩
  · conv => whnf
    refine hC _ _ _ _ _ _ _ _ _ _ (fun _ _ _ _ _ _ q => q) (sp_Mod_oddBit ?_)
    conv => whnf
    repeat ((first | refine And.intro (by (conv => arg 2; whnf); (try simp only [z_lit, nI_add, pk_mul, z_pr1, z_pr2]); exact z_in (by omega) (by decide)) ?_ | refine z_bt1 (by decide) ?_ | refine z_bf1 (by decide) ?_ | refine z_bt2 (by decide) ?_ | refine z_bf2 (by decide) ?_); conv => whnf)
    refine z_Qv hQ ?_
    simp (disch := omega) only [z_lit, nI_add, pk_mul, z_pr1, z_pr2, nI_clamp, z_m3_40, z_m3_41, z_m3_44, z_m3_u40, z_m3_u41, z_m3_u44, z_m3_m3, pk_us, pk_un]
    rw [hn]
    simp only [s_hears0, z_lit, nI_add] at h ⊢
    rw [if_pos h]
  · conv => whnf
    refine hC _ _ _ _ _ _ _ _ _ _ (fun _ _ _ _ _ _ q => q) (sp_Mod_oddBit ?_)
    conv => whnf
    repeat ((first | refine And.intro (by (conv => arg 2; whnf); (try simp only [z_lit, nI_add, pk_mul, z_pr1, z_pr2]); exact z_in (by omega) (by decide)) ?_ | refine z_bt1 (by decide) ?_ | refine z_bf1 (by decide) ?_ | refine z_bt2 (by decide) ?_ | refine z_bf2 (by decide) ?_); conv => whnf)
    refine z_Qv hQ ?_
    simp (disch := omega) only [z_lit, nI_add, pk_mul, z_pr1, z_pr2, nI_clamp, z_m3_40, z_m3_41, z_m3_44, z_m3_u40, z_m3_u41, z_m3_u44, z_m3_m3, pk_us, pk_un]
    rw [hn]
    simp only [s_hears0, z_lit, nI_add] at h ⊢
    rw [if_neg h]
def s_trails (w : Nat → Int32) (n : Nat) (v : Int32) : Nat → Int32 := upd (upd w (2220 + n % 40) v) 10 (nI (n + 1))
theorem sp_Mod_trails {n : Nat} {v : Int32} (hn : w 10 = nI n) (hn2 : n < 2 ^ 30) (hQ : Q none (z_m3 I f (s_trails w n v) y) (z_R0 kp sp wd) J F cn) : z_M (z_X0 L xs) z_P0 d m_Mod_trails [.ref 40, .int v] (z_m3 I f w y) (z_R0 kp sp wd) J F cn Q := by
  have hrem : nI n - nI n / nI 40 * nI 40 = nI (n % 40) := pk_rem (by omega) (by decide) (by decide)
  have hm : n % 40 < 40 := Nat.mod_lt _ (by decide)
  unfold s_trails at hQ
  generalize n % 40 = r at hrem hm hQ
  refine z_WP_gos [] 1000 fun K C hK hC => ?_
  conv => whnf
  repeat ((first | refine And.intro (by (conv => arg 2; whnf); (try simp only [z_lit, nI_add, pk_mul, z_pr1, z_pr2]); exact z_in (by omega) (by decide)) ?_ | refine z_bt1 (by decide) ?_ | refine z_bf1 (by decide) ?_ | refine z_bt2 (by decide) ?_ | refine z_bf2 (by decide) ?_); conv => whnf)
  refine ⟨by decide, ?_⟩
  conv => whnf
  simp (disch := omega) only [z_lit, nI_add, pk_mul, z_pr1, z_pr2, nI_clamp, z_m3_40, z_m3_41, z_m3_44, z_m3_u40, z_m3_u41, z_m3_u44, z_m3_m3, pk_us, pk_un]
  rw [hn, hrem]
  simp (disch := omega) only [z_lit, nI_add, pk_mul, z_pr1, z_pr2, nI_clamp, z_m3_40, z_m3_41, z_m3_44, z_m3_u40, z_m3_u41, z_m3_u44, z_m3_m3, pk_us, pk_un]
  repeat ((first | refine And.intro (by (conv => arg 2; whnf); (try simp only [z_lit, nI_add, pk_mul, z_pr1, z_pr2]); exact z_in (by omega) (by decide)) ?_ | refine z_bt1 (by decide) ?_ | refine z_bf1 (by decide) ?_ | refine z_bt2 (by decide) ?_ | refine z_bf2 (by decide) ?_); conv => whnf)
  refine z_Qv hQ ?_
  simp (disch := omega) only [z_lit, nI_add, pk_mul, z_pr1, z_pr2, nI_clamp, z_m3_40, z_m3_41, z_m3_44, z_m3_u40, z_m3_u41, z_m3_u44, z_m3_m3, pk_us, pk_un]
  rw [hn]
  simp only [nI_add]
/-- one word of a talk -/
def s_lay1 (w : Nat → Int32) (n bus : Nat) (who bits : Int32) (held : Bool) : (Nat → Int32) × Bool :=
  let w1 := upd w (13 + bus) (w (13 + bus) + nI 1)
  let b := s_hitk w1 bus 8 || held
  let w3 := s_hears (s_clr w1 bus 8) n (nI bus) who bits (z_bi b)
  (upd w3 (2305 + 5 * bus) (w3 (2305 + 5 * bus) + z_bi b), b)
def s_lays (w y : Nat → Int32) (n bus : Nat) (who : Int32) (held : Bool) : Nat → (Nat → Int32) × Int32
  | 0 => (w, nI 0)
  | k + 1 => ((s_lay1 (s_lays w y n bus who held k).1 (n + k) bus who (y k) held).1, (s_lays w y n bus who held k).2 ||| (bif (s_lay1 (s_lays w y n bus who held k).1 (n + k) bus who (y k) held).2 then nI 1 <<< (nI k &&& nI 31) else nI 0))
theorem s_clr_hi {w : Nat → Int32} {bus k j : Nat} (h : bus < 2) (hk : k ≤ 8) (hj : 31 ≤ j ∨ j < 15) : s_clr w bus k j = w j := if_neg (by omega)
theorem s_hears_lo {w : Nat → Int32} {n j : Nat} {bus who bits tu : Int32} (hj : j < 2315 ∨ 2572 ≤ j) : s_hears w n bus who bits tu j = w j := by
  have : n % 64 < 64 := Nat.mod_lt _ (by decide)
  unfold s_hears s_hears0
  rw [pk_un (by omega), pk_un (by omega), pk_un (by omega), pk_un (by omega), pk_un (by omega)]
theorem s_hears_n {w : Nat → Int32} {n : Nat} {bus who bits tu : Int32} : s_hears w n bus who bits tu 2315 = nI (n + 1) := by unfold s_hears s_hears0; exact pk_us
theorem s_lay1_n {w : Nat → Int32} {n bus : Nat} {who bits : Int32} {held : Bool} (h : bus < 2) : (s_lay1 w n bus who bits held).1 2315 = nI (n + 1) := by
  unfold s_lay1
  simp only
  rw [pk_un (by omega), s_hears_n]
theorem s_lays_n {w y : Nat → Int32} {n bus : Nat} {who : Int32} {held : Bool} (h : bus < 2) (hn : w 2315 = nI n) : ∀ k, (s_lays w y n bus who held k).1 2315 = nI (n + k)
  | 0 => hn
  | k + 1 => s_lay1_n h
theorem lp_Mod_lays {n bus many : Nat} {who : Int32} {held : Bool} (hb : bus < 2) (hm : many ≤ 10) (hn : w 2315 = nI n) (hn2 : n + 10 < 2 ^ 30)
    (hQ : z_WP (z_X0 L xs) z_P0 (d + 2) m_Mod_lays 145 [some (.ref 40), some (.int (nI bus)), some (.int who), some (.int (nI many)), some (.int (z_bi held)), some (.int (s_lays w y n bus who held many).2), some (.int (nI many)), none] [] (z_m3 I f (s_lays w y n bus who held many).1 y) (z_R0 kp sp wd) J F cn 0 0 Q)
    (hQ2 : ∀ v, z_WP (z_X0 L xs) z_P0 (d + 2) m_Mod_lays 145 [some (.ref 40), some (.int (nI bus)), some (.int who), some (.int (nI many)), some (.int (z_bi held)), some (.int (s_lays w y n bus who held many).2), some (.int (nI many)), some (.int v)] [] (z_m3 I f (s_lays w y n bus who held many).1 y) (z_R0 kp sp wd) J F cn 0 0 Q) :
    ∀ j k (lc : Option Value), k + j = many → (lc = none ∨ ∃ v, lc = some (.int v)) → z_WP (z_X0 L xs) z_P0 (d + 2) m_Mod_lays 32 [some (.ref 40), some (.int (nI bus)), some (.int who), some (.int (nI many)), some (.int (z_bi held)), some (.int (s_lays w y n bus who held k).2), some (.int (nI k)), lc] [] (z_m3 I f (s_lays w y n bus who held k).1 y) (z_R0 kp sp wd) J F cn 0 0 Q := by
  intro j
  induction j with
  | zero =>
    intro k lc hk hlc
    obtain rfl : k = many := by omega
    refine z_WP_gos [32, 145] 1000 fun K C hK hC => ?_
    conv => whnf
    refine ⟨fun _ => ?_, fun h => absurd (Int32.le_refl _) h⟩
    rcases hlc with rfl | ⟨v, rfl⟩
    · conv => whnf
      refine hK _ _ _ _ _ _ _ _ _ _ (hQ)
    · conv => whnf
      refine hK _ _ _ _ _ _ _ _ _ _ (hQ2 v)
  | succ j ih =>
    intro k lc hk hlc
    have hW := s_lays_n (y := y) (who := who) (held := held) hb hn k
    have hnext : ∀ v, z_WP (z_X0 L xs) z_P0 (d + 2) m_Mod_lays 32 [some (.ref 40), some (.int (nI bus)), some (.int who), some (.int (nI many)), some (.int (z_bi held)), some (.int (s_lays w y n bus who held (k + 1)).2), some (.int (nI (k + 1))), some (.int v)] [] (z_m3 I f (s_lays w y n bus who held (k + 1)).1 y) (z_R0 kp sp wd) J F cn 0 0 Q := fun v => ih (k + 1) _ (by omega) (Or.inr ⟨v, rfl⟩)
    simp only [s_lays] at hnext
    generalize (s_lays w y n bus who held k).1 = W at hW hnext ⊢
    generalize (s_lays w y n bus who held k).2 = tu at hnext ⊢
    unfold s_lay1 at hnext
    simp only at hnext
    have hin : ∀ (lc : Option Value), z_WP (z_X0 L xs) z_P0 (d + 2) m_Mod_lays 32 [some (.ref 40), some (.int (nI bus)), some (.int who), some (.int (nI many)), some (.int (z_bi held)), some (.int tu), some (.int (nI k)), lc] [] (z_m3 I f W y) (z_R0 kp sp wd) J F cn 0 0 Q := by
      intro lc
      have hc : s_clr (upd W (13 + bus) (W (13 + bus) + nI 1)) bus 8 2315 = nI (n + k) := by
        rw [s_clr_hi hb (by omega) (by omega), pk_un (by omega)]; exact hW
      cases hh : s_hitk (upd W (13 + bus) (W (13 + bus) + nI 1)) bus 8 <;> cases held <;> rw [hh] at hnext
      all_goals
        refine z_WP_gos [32, 145] 1000 fun K C hK hC => ?_
        conv => whnf
        refine ⟨fun h => absurd h (nI_ge (by omega) (by omega)), fun _ => ?_⟩
        conv => whnf
        repeat ((first | refine And.intro (by (conv => arg 2; whnf); (try simp only [z_lit, nI_add, pk_mul, z_pr1, z_pr2]); exact z_in (by omega) (by decide)) ?_ | refine z_bt1 (by decide) ?_ | refine z_bf1 (by decide) ?_ | refine z_bt2 (by decide) ?_ | refine z_bf2 (by decide) ?_); conv => whnf)
        simp (disch := omega) only [z_lit, nI_add, pk_mul, z_pr1, z_pr2, nI_clamp, z_m3_40, z_m3_41, z_m3_44, z_m3_u40, z_m3_u41, z_m3_u44, z_m3_m3, pk_us, pk_un]
        refine hC _ _ _ _ _ _ _ _ _ _ (fun _ _ _ _ _ _ q => q) (sp_Mod_isNoise hb ?_)
        conv => whnf
        rw [hh]
        repeat ((first | refine And.intro (by (conv => arg 2; whnf); (try simp only [z_lit, nI_add, pk_mul, z_pr1, z_pr2]); exact z_in (by omega) (by decide)) ?_ | refine z_bt1 (by decide) ?_ | refine z_bf1 (by decide) ?_ | refine z_bt2 (by decide) ?_ | refine z_bf2 (by decide) ?_); conv => whnf)
        refine hC _ _ _ _ _ _ _ _ _ _ (fun _ _ _ _ _ _ q => q) (sp_Mod_hears hc (by omega) ?_)
        conv => whnf
        repeat ((first | refine And.intro (by (conv => arg 2; whnf); (try simp only [z_lit, nI_add, pk_mul, z_pr1, z_pr2]); exact z_in (by omega) (by decide)) ?_ | refine z_bt1 (by decide) ?_ | refine z_bf1 (by decide) ?_ | refine z_bt2 (by decide) ?_ | refine z_bf2 (by decide) ?_); conv => whnf)
        simp (disch := omega) only [z_lit, nI_add, pk_mul, z_pr1, z_pr2, nI_clamp, z_m3_40, z_m3_41, z_m3_44, z_m3_u40, z_m3_u41, z_m3_u44, z_m3_m3, pk_us, pk_un]
        refine hK _ _ _ _ _ _ _ _ _ _ (hnext _)
    exact hin lc
end
