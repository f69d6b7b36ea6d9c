/-! the model's messages: to all -/
def s_cmdA (u n : Nat) : Int32 := s_cmd (nI 31) (nI 0) (nI (u + 1)) (nI n)
def m_alls (s : z_sg) (t : Nat) : z_sg := m_last (s.1, upd s.2.1 (184 + t) (nI 1), s.2.2) t
def m_all1 (s : z_sg) (bus t u n : Nat) (tu : Int32) : z_sg :=
  bif s_hear s.2.1 t bus && !decide (tu &&& nI 1 = nI 1) then
    let s1 := m_begins s t (s_cmdA u n)
    bif decide (tu = nI 0) && s_legal s1.2.1 t u then
      if s1.2.1 (40 + t) = nI 0 then m_alls (m_copy s1 (1344 + 8 * u) (576 + 8 * (6 * t + u)) n) t else s1
    else m_errs s1 t
  else s
def m_all (s : z_sg) (bus u n : Nat) (tu : Int32) : Nat → z_sg
  | 0 => s
  | k + 1 => m_all1 (m_all s bus u n tu k) bus k u n tu
def m_tellsAll (s : z_sg) (bus u n : Nat) : z_sg × Int32 :=
  let r := m_lays (m_ready (s.1, s.2.1, upd s.2.2 0 (s_cmdA u n)) u n) bus (s.2.1 3) (1 + n)
  (m_all r.1 bus u n r.2 8, bif s_held s.2.1 bus then nI 2 else nI 0)
section
variable {L : Nat} {xs : Nat → Int32} {d : Nat} {kp sp wd : Value} {I : z_I} {s : z_sg} {R : z_R} {J : z_J} {F : z_F} {cn : Nat} {Q : z_Q}
theorem lp_all1 {bus t u n : Nat} {tu he : Int32} (ht : t < 8) (hu : u < 6) (hn : n ≤ 8)
    (hQ : ∀ lc, z_WP (z_X0 L xs) z_P0 (d + 3) m_Mod_tellsAll 46 [some (.ref 40), some (.int (nI bus)), some (.int (nI (u + 1))), some (.int (nI n)), some (.int he), some (.int tu), some (.int (nI (t + 1))), lc] [] (z_ms I (m_alls (m_copy s (1344 + 8 * u) (576 + 8 * (6 * t + u)) n) t)) (z_R0 kp sp wd) J F cn 0 0 Q) :
    ∀ j k, k + j = n → z_WP (z_X0 L xs) z_P0 (d + 3) m_Mod_tellsAll 128 [some (.ref 40), some (.int (nI bus)), some (.int (nI (u + 1))), some (.int (nI n)), some (.int he), some (.int tu), some (.int (nI t)), some (.int (nI k))] [] (z_ms I (m_copy s (1344 + 8 * u) (576 + 8 * (6 * t + u)) k)) (z_R0 kp sp wd) J F cn 0 0 Q := by
  intro j
  induction j with
  | zero =>
    intro k hk
    obtain rfl : k = n := by omega
    unfold m_alls at hQ
    generalize m_copy s (1344 + 8 * u) (576 + 8 * (6 * t + u)) k = s1 at hQ ⊢
    refine z_WP_gos [128, 46] 1000 fun K C hK hC => ?_
    conv => whnf
    refine ⟨fun _ => ?_, fun h => absurd (Int32.le_refl _) h⟩
    conv => whnf
    repeat ((first | refine And.intro (by (conv => arg 2; whnf); (try simp only [z_lit, nI_add, pk_mul, z_pr1, z_pr2]); exact z_in (by omega) (by decide)) ?_ | refine z_bt1 (by decide) ?_ | refine z_bf1 (by decide) ?_ | refine z_bt2 (by decide) ?_ | refine z_bf2 (by decide) ?_); conv => whnf)
    simp (disch := omega) only [z_lit, nI_add, pk_mul, z_pr1, z_pr2, nI_clamp, z_m3_40, z_m3_41, z_m3_44, z_m3_u40, z_m3_u41, z_m3_u44, z_m3_m3, pk_us, pk_un]
    refine hC _ _ _ _ _ _ _ _ _ _ (fun _ _ _ _ _ _ q => q) (sp_tellsLast (s := (s1.1, upd s1.2.1 (184 + t) (nI 1), s1.2.2)) ht ?_)
    conv => whnf
    simp (disch := omega) only [z_lit, nI_add, pk_mul, z_pr1, z_pr2, nI_clamp, z_m3_40, z_m3_41, z_m3_44, z_m3_u40, z_m3_u41, z_m3_u44, z_m3_m3, pk_us, pk_un]
    refine hK _ _ _ _ _ _ _ _ _ _ (hQ _)
  | succ j ih =>
    intro k hk
    have e := ih (k + 1) (by omega)
    unfold m_copy at e ⊢
    rw [← z_cpy_u] at e
    refine z_WP_gos [128, 46] 1000 fun K C hK hC => ?_
    conv => whnf
    refine ⟨fun h => absurd h (nI_ge (by omega) (by omega)), fun _ => ?_⟩
    conv => whnf
    refine hC _ _ _ _ _ _ _ _ _ _ (fun _ _ _ _ _ _ q => q) (sp_at0 ?_)
    conv => whnf
    repeat ((first | refine And.intro (by (conv => arg 2; whnf); (try simp only [z_lit, nI_add, pk_mul, z_pr1, z_pr2]); exact z_in (by omega) (by decide)) ?_ | refine z_bt1 (by decide) ?_ | refine z_bf1 (by decide) ?_ | refine z_bt2 (by decide) ?_ | refine z_bf2 (by decide) ?_); conv => whnf)
    simp (disch := omega) only [z_lit, nI_add, pk_mul, z_pr1, z_pr2, nI_clamp, z_m3_40, z_m3_41, z_m3_44, z_m3_u40, z_m3_u41, z_m3_u44, z_m3_m3, pk_us, pk_un]
    rw [pk_cpy_out (by omega)]
    refine hK _ _ _ _ _ _ _ _ _ _ (e)
theorem lp_all {bus u n : Nat} {tu : Int32} {he : Bool} (hb : bus < 2) (hu : u < 6) (hn : n ≤ 8)
    (hQ : Q (some (.int (bif he then nI 2 else nI 0))) (z_ms I (m_all s bus u n tu 8)) (z_R0 kp sp wd) J F cn) :
    ∀ j k lc, k + j = 8 → z_WP (z_X0 L xs) z_P0 (d + 3) m_Mod_tellsAll 46 [some (.ref 40), some (.int (nI bus)), some (.int (nI (u + 1))), some (.int (nI n)), some (.int (z_bi he)), some (.int tu), some (.int (nI k)), lc] [] (z_ms I (m_all s bus u n tu k)) (z_R0 kp sp wd) J F cn 0 0 Q := by
  intro j
  induction j with
  | zero =>
    intro k lc hk
    obtain rfl : k = 8 := by omega
    refine z_WP_gos [128, 46] 1000 fun K C hK hC => ?_
    conv => whnf
    repeat ((first | refine And.intro (by (conv => arg 2; whnf); (try simp only [z_lit, nI_add, pk_mul, z_pr1, z_pr2]); exact z_in (by omega) (by decide)) ?_ | refine z_bt1 (by decide) ?_ | refine z_bf1 (by decide) ?_ | refine z_bt2 (by decide) ?_ | refine z_bf2 (by decide) ?_); conv => whnf)
    cases he with
    | true =>
      repeat ((first | refine And.intro (by (conv => arg 2; whnf); (try simp only [z_lit, nI_add, pk_mul, z_pr1, z_pr2]); exact z_in (by omega) (by decide)) ?_ | refine z_bt1 (by decide) ?_ | refine z_bf1 (by decide) ?_ | refine z_bt2 (by decide) ?_ | refine z_bf2 (by decide) ?_); conv => whnf)
      exact hQ
    | false =>
      repeat ((first | refine And.intro (by (conv => arg 2; whnf); (try simp only [z_lit, nI_add, pk_mul, z_pr1, z_pr2]); exact z_in (by omega) (by decide)) ?_ | refine z_bt1 (by decide) ?_ | refine z_bf1 (by decide) ?_ | refine z_bt2 (by decide) ?_ | refine z_bf2 (by decide) ?_); conv => whnf)
      exact hQ
  | succ j ih =>
    intro k lc hk
    have e := fun lc => ih (k + 1) lc (by omega)
    unfold m_all at e
    have hk8 : k < 8 := by omega
    generalize m_all s bus u n tu k = s0 at e ⊢
    unfold m_all1 at e
    simp only at e
    refine z_WP_gos [128, 46] 1000 fun K C hK hC => ?_
    conv => whnf
    refine ⟨fun h => absurd h (nI_ge (a := k) (b := 8) (by omega) (by omega)), fun _ => ?_⟩
    conv => whnf
    refine hC _ _ _ _ _ _ _ _ _ _ (fun _ _ _ _ _ _ q => q) (sp_hear (by omega) hb ?_)
    conv => whnf
    cases hl : s_hear s0.2.1 k bus with
    | false =>
      rw [hl] at e
      repeat ((first | refine And.intro (by (conv => arg 2; whnf); (try simp only [z_lit, nI_add, pk_mul, z_pr1, z_pr2]); exact z_in (by omega) (by decide)) ?_ | refine z_bt1 (by decide) ?_ | refine z_bf1 (by decide) ?_ | refine z_bt2 (by decide) ?_ | refine z_bf2 (by decide) ?_); conv => whnf)
      simp (disch := omega) only [z_lit, nI_add, pk_mul, z_pr1, z_pr2, nI_clamp, z_m3_40, z_m3_41, z_m3_44, z_m3_u40, z_m3_u41, z_m3_u44, z_m3_m3, pk_us, pk_un]
      refine hK _ _ _ _ _ _ _ _ _ _ (e _)
    | true =>
      rw [hl] at e
      repeat ((first | refine And.intro (by (conv => arg 2; whnf); (try simp only [z_lit, nI_add, pk_mul, z_pr1, z_pr2]); exact z_in (by omega) (by decide)) ?_ | refine z_bt1 (by decide) ?_ | refine z_bf1 (by decide) ?_ | refine z_bt2 (by decide) ?_ | refine z_bf2 (by decide) ?_); conv => whnf)
      refine ⟨fun h => ?_, fun h => ?_⟩ <;> (try simp (disch := omega) only [z_lit, nI_add, pk_mul, z_pr1, z_pr2, nI_clamp, z_m3_40, z_m3_41, z_m3_44, z_m3_u40, z_m3_u41, z_m3_u44, z_m3_m3, pk_us, pk_un] at h) <;> (conv => whnf)
      · rw [decide_eq_false h] at e
        simp only [Bool.not_false, Bool.and_true, cond_true] at e
        refine hC _ _ _ _ _ _ _ _ _ _ (fun _ _ _ _ _ _ q => q) (sp_cmd ?_)
        conv => whnf
        refine hC _ _ _ _ _ _ _ _ _ _ (fun _ _ _ _ _ _ q => q) (sp_begins (c := s_cmdA u n) hk8 ?_)
        conv => whnf
        generalize m_begins s0 k (s_cmdA u n) = s1 at e ⊢
        refine ⟨fun g => ?_, fun g => ?_⟩ <;> (try simp (disch := omega) only [z_lit, nI_add, pk_mul, z_pr1, z_pr2, nI_clamp, z_m3_40, z_m3_41, z_m3_44, z_m3_u40, z_m3_u41, z_m3_u44, z_m3_m3, pk_us, pk_un] at g) <;> (conv => whnf)
        · rw [decide_eq_false g] at e
          simp only [Bool.false_and, cond_false] at e
          refine hC _ _ _ _ _ _ _ _ _ _ (fun _ _ _ _ _ _ q => q) (sp_errs hk8 ?_)
          conv => whnf
          simp (disch := omega) only [z_lit, nI_add, pk_mul, z_pr1, z_pr2, nI_clamp, z_m3_40, z_m3_41, z_m3_44, z_m3_u40, z_m3_u41, z_m3_u44, z_m3_m3, pk_us, pk_un]
          refine hK _ _ _ _ _ _ _ _ _ _ (e _)
        · rw [decide_eq_true g] at e
          simp only [Bool.true_and] at e
          refine hC _ _ _ _ _ _ _ _ _ _ (fun _ _ _ _ _ _ q => q) (sp_legal hk8 ?_)
          conv => whnf
          cases hg : s_legal s1.2.1 k u with
          | false =>
            rw [hg] at e
            repeat ((first | refine And.intro (by (conv => arg 2; whnf); (try simp only [z_lit, nI_add, pk_mul, z_pr1, z_pr2]); exact z_in (by omega) (by decide)) ?_ | refine z_bt1 (by decide) ?_ | refine z_bf1 (by decide) ?_ | refine z_bt2 (by decide) ?_ | refine z_bf2 (by decide) ?_); conv => whnf)
            refine hC _ _ _ _ _ _ _ _ _ _ (fun _ _ _ _ _ _ q => q) (sp_errs hk8 ?_)
            conv => whnf
            simp (disch := omega) only [z_lit, nI_add, pk_mul, z_pr1, z_pr2, nI_clamp, z_m3_40, z_m3_41, z_m3_44, z_m3_u40, z_m3_u41, z_m3_u44, z_m3_m3, pk_us, pk_un]
            refine hK _ _ _ _ _ _ _ _ _ _ (e _)
          | true =>
            rw [hg] at e
            simp only [cond_true] at e
            repeat ((first | refine And.intro (by (conv => arg 2; whnf); (try simp only [z_lit, nI_add, pk_mul, z_pr1, z_pr2]); exact z_in (by omega) (by decide)) ?_ | refine z_bt1 (by decide) ?_ | refine z_bf1 (by decide) ?_ | refine z_bt2 (by decide) ?_ | refine z_bf2 (by decide) ?_); conv => whnf)
            refine ⟨fun q => ?_, fun q => ?_⟩ <;> (try simp (disch := omega) only [z_lit, nI_add, pk_mul, z_pr1, z_pr2, nI_clamp, z_m3_40, z_m3_41, z_m3_44, z_m3_u40, z_m3_u41, z_m3_u44, z_m3_m3, pk_us, pk_un] at q) <;> (conv => whnf)
            · rw [if_neg q] at e
              simp (disch := omega) only [z_lit, nI_add, pk_mul, z_pr1, z_pr2, nI_clamp, z_m3_40, z_m3_41, z_m3_44, z_m3_u40, z_m3_u41, z_m3_u44, z_m3_m3, pk_us, pk_un]
              refine hK _ _ _ _ _ _ _ _ _ _ (e _)
            · rw [if_pos q] at e
              refine hK _ _ _ _ _ _ _ _ _ _ (?_)
              have e2 := lp_all1 (L := L) (xs := xs) (d := d) (bus := bus) (tu := tu) (he := z_bi he) (s := s1) hk8 hu hn e n 0 (by omega)
              rw [m_copy_0] at e2
              exact e2
      · rw [decide_eq_true h] at e
        simp (disch := omega) only [z_lit, nI_add, pk_mul, z_pr1, z_pr2, nI_clamp, z_m3_40, z_m3_41, z_m3_44, z_m3_u40, z_m3_u41, z_m3_u44, z_m3_m3, pk_us, pk_un]
        refine hK _ _ _ _ _ _ _ _ _ _ (e _)
theorem sp_tellsAll {bus u n B : Nat} (hb : bus < 2) (hu : u < 6) (hn : n ≤ 8) (hs : m_ok s B) (hB : B + 60 < 2 ^ 29) (hQ : Q (some (.int (m_tellsAll s bus u n).2)) (z_ms I (m_tellsAll s bus u n).1) (z_R0 kp sp wd) J F cn) : z_M (z_X0 L xs) z_P0 (d + 3) m_Mod_tellsAll [.ref 40, .int (nI bus), .int (nI (u + 1)), .int (nI n)] (z_ms I s) (z_R0 kp sp wd) J F cn Q := by
  unfold m_tellsAll at hQ
  simp only at hQ
  have tail : ∀ he, s_held s.2.1 bus = he → z_WP (z_X0 L xs) z_P0 (d + 3) m_Mod_tellsAll 5 [some (.ref 40), some (.int (nI bus)), some (.int (nI (u + 1))), some (.int (nI n)), none, none, none, none] [.int (z_bi he)] (z_ms I s) (z_R0 kp sp wd) J F cn 0 0 Q := by
    intro he hh
    rw [hh] at hQ
    refine z_WP_gos [46] 1000 fun K C hK hC => ?_
    conv => whnf
    refine hC _ _ _ _ _ _ _ _ _ _ (fun _ _ _ _ _ _ q => q) (sp_cmd ?_)
    conv => whnf
    repeat ((first | refine And.intro (by (conv => arg 2; whnf); (try simp only [z_lit, nI_add, pk_mul, z_pr1, z_pr2]); exact z_in (by omega) (by decide)) ?_ | refine z_bt1 (by decide) ?_ | refine z_bf1 (by decide) ?_ | refine z_bt2 (by decide) ?_ | refine z_bf2 (by decide) ?_); conv => whnf)
    simp (disch := omega) only [z_lit, nI_add, pk_mul, z_pr1, z_pr2, nI_clamp, z_m3_40, z_m3_41, z_m3_44, z_m3_u40, z_m3_u41, z_m3_u44, z_m3_m3, pk_us, pk_un]
    refine hC _ _ _ _ _ _ _ _ _ _ (fun _ _ _ _ _ _ q => q) (sp_saysSend (s := (s.1, s.2.1, upd s.2.2 0 (s_cmdA u n))) hu hn ?_)
    conv => whnf
    repeat ((first | refine And.intro (by (conv => arg 2; whnf); (try simp only [z_lit, nI_add, pk_mul, z_pr1, z_pr2]); exact z_in (by omega) (by decide)) ?_ | refine z_bt1 (by decide) ?_ | refine z_bf1 (by decide) ?_ | refine z_bt2 (by decide) ?_ | refine z_bf2 (by decide) ?_); conv => whnf)
    simp (disch := omega) only [z_lit, nI_add, pk_mul, z_pr1, z_pr2, nI_clamp, z_m3_40, z_m3_41, z_m3_44, z_m3_u40, z_m3_u41, z_m3_u44, z_m3_m3, pk_us, pk_un]
    refine hC _ _ _ _ _ _ _ _ _ _ (fun _ _ _ _ _ _ q => q) (sp_Mod_lays (who := s.2.1 3) hb (by omega) hs (by omega) ?_)
    conv => whnf
    refine hK _ _ _ _ _ _ _ _ _ _ (lp_all (he := he) hb hu hn hQ 8 0 none (by omega))
  refine z_WP_gos [5] 1000 fun K C hK hC => ?_
  conv => whnf
  refine hC _ _ _ _ _ _ _ _ _ _ (fun _ _ _ _ _ _ q => q) (sp_Mod_isHeld hb (fun h => ?_) (fun h => ?_))
  conv => whnf
  · refine hK _ _ _ _ _ _ _ _ _ _ (tail true h)
  · refine hK _ _ _ _ _ _ _ _ _ _ (tail false h)
end
