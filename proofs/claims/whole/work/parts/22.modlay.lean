/-! the model's talks -/
section
variable {L : Nat} {xs : Nat → Int32} {d : Nat} {kp sp wd : Value} {I : z_I} {f w y : Nat → Int32} {R : z_R} {J : z_J} {F : z_F} {cn : Nat} {Q : z_Q}
def s_held1 (w : Nat → Int32) (bus t : Nat) : Bool := decide (w (88 + t) >>> (nI bus &&& nI 31) &&& nI 1 = nI 1) && decide (w (31 + t) = nI 1) && !decide (nI t = w 3)
def s_held (w : Nat → Int32) (bus : Nat) : Bool := (List.range 8).any (s_held1 w bus)
theorem s_held_f {w : Nat → Int32} {bus : Nat} (h : ∀ j, j < 8 → s_held1 w bus j = false) : s_held w bus = false := by
  unfold s_held
  rw [List.any_eq_false]
  intro x hx
  rw [h x (List.mem_range.mp hx)]
  exact Bool.false_ne_true
theorem s_held_t {w : Nat → Int32} {bus j : Nat} (hj : j < 8) (h : s_held1 w bus j = true) : s_held w bus = true := List.any_eq_true.mpr ⟨j, List.mem_range.mpr hj, h⟩
theorem lp_Mod_isHeld {bus : Nat} (hb : bus < 2) (h1 : s_held w bus = true → Q (some (.int 1)) (z_m3 I f w y) (z_R0 kp sp wd) J F cn) (h0 : s_held w bus = false → Q (some (.int 0)) (z_m3 I f w y) (z_R0 kp sp wd) J F cn) :
    ∀ n t, t + n = 8 → (∀ j, j < t → s_held1 w bus j = false) → z_WP (z_X0 L xs) z_P0 d m_Mod_isHeld 2 [some (.ref 40), some (.int (nI bus)), some (.int (nI t))] [] (z_m3 I f w y) (z_R0 kp sp wd) J F cn 0 0 Q := by
  intro n
  induction n with
  | zero =>
    intro t ht hj
    obtain rfl : t = 8 := by omega
    refine z_WP_gos [2] 1000 fun K C hK hC => ?_
    conv => whnf
    refine ⟨fun _ => ?_, fun h => absurd (by decide) h⟩
    conv => whnf
    exact ⟨Or.inl rfl, h0 (s_held_f hj)⟩
  | succ n ih =>
    intro t ht hj
    have next : s_held1 w bus t = false → z_WP (z_X0 L xs) z_P0 d m_Mod_isHeld 2 [some (.ref 40), some (.int (nI bus)), some (.int (nI (t + 1)))] [] (z_m3 I f w y) (z_R0 kp sp wd) J F cn 0 0 Q := fun h => ih (t + 1) (by omega) (fun j h2 => by
      rcases Nat.lt_succ_iff_lt_or_eq.mp h2 with h3 | rfl
      · exact hj j h3
      · exact h)
    refine z_WP_gos [2] 1000 fun K C hK hC => ?_
    conv => whnf
    refine ⟨fun h => absurd h (nI_ge (a := t) (b := 8) (by omega) (by decide)), fun _ => ?_⟩
    conv => whnf
    repeat (refine And.intro (by (conv => arg 2; whnf); (try simp only [z_lit, nI_add, pk_mul]); exact z_in (by omega) (by decide)) ?_; conv => whnf)
    have inc : nI t + 1 = nI (t + 1) := nI_1 t
    refine ⟨fun h => ?_, fun h => ?_⟩
    · conv => whnf
      rw [inc]
      refine hK _ _ _ _ _ _ _ _ _ _ (next ?_)
      simp (disch := omega) only [z_lit, nI_add, pk_mul, nI_clamp, z_m3_40, z_m3_41, z_m3_44, z_m3_u40, z_m3_u41, z_m3_u44, z_m3_m3, pk_us, pk_un] at h
      simp [s_held1, h]
    · conv => whnf
      repeat (refine And.intro (by (conv => arg 2; whnf); (try simp only [z_lit, nI_add, pk_mul]); exact z_in (by omega) (by decide)) ?_; conv => whnf)
      refine ⟨fun g => ?_, fun g => ?_⟩
      · conv => whnf
        rw [inc]
        refine hK _ _ _ _ _ _ _ _ _ _ (next ?_)
        simp (disch := omega) only [z_lit, nI_add, pk_mul, nI_clamp, z_m3_40, z_m3_41, z_m3_44, z_m3_u40, z_m3_u41, z_m3_u44, z_m3_m3, pk_us, pk_un] at g
        simp [s_held1, g]
      · conv => whnf
        repeat (refine And.intro (by (conv => arg 2; whnf); (try simp only [z_lit, nI_add, pk_mul]); exact z_in (by omega) (by decide)) ?_; conv => whnf)
        refine ⟨fun e => ?_, fun e => ?_⟩
        · conv => whnf
          rw [inc]
          refine hK _ _ _ _ _ _ _ _ _ _ (next ?_)
          simp (disch := omega) only [z_lit, nI_add, pk_mul, nI_clamp, z_m3_40, z_m3_41, z_m3_44, z_m3_u40, z_m3_u41, z_m3_u44, z_m3_m3, pk_us, pk_un] at e
          simp [s_held1, e]
        · conv => whnf
          refine ⟨Or.inr rfl, h1 (s_held_t (j := t) (by omega) ?_)⟩
          simp (disch := omega) only [z_lit, nI_add, pk_mul, nI_clamp, z_m3_40, z_m3_41, z_m3_44, z_m3_u40, z_m3_u41, z_m3_u44, z_m3_m3, pk_us, pk_un] at h g e
          simp [s_held1, h, g, e]
theorem sp_Mod_isHeld {bus : Nat} (hb : bus < 2) (h1 : s_held w bus = true → Q (some (.int 1)) (z_m3 I f w y) (z_R0 kp sp wd) J F cn) (h0 : s_held w bus = false → Q (some (.int 0)) (z_m3 I f w y) (z_R0 kp sp wd) J F cn) : z_M (z_X0 L xs) z_P0 d m_Mod_isHeld [.ref 40, .int (nI bus)] (z_m3 I f w y) (z_R0 kp sp wd) J F cn Q := by
  refine z_WP_gos [2] 1000 fun K C hK hC => ?_
  conv => whnf
  refine hK _ _ _ _ _ _ _ _ _ _ (lp_Mod_isHeld hb h1 h0 8 0 rfl (fun j h => absurd h (Nat.not_lt_zero _)))
end
