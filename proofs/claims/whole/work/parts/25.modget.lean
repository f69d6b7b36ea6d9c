/-! the model's messages: words out of a terminal -/
def m_says (s : z_sg) (a n : Nat) : z_sg := (s.1, s.2.1, va_cpy s.2.1 s.2.2 a 1 n)
def m_tw (s : z_sg) (bus t u n : Nat) : z_sg × Int32 :=
  let q := m_taken s t u
  let s1 := m_last q.1 t
  bif s_shut s1.2.1 t bus then (m_quiet s1, nI 1) else
    let r := m_answers (m_says (s1.1, s1.2.1, upd s1.2.2 0 (s1.2.1 (136 + t))) (192 + 8 * (6 * t + u)) n) bus t (bif q.2 then 1 + n else 1)
    ((upd r.1.1 8 r.2, r.1.2.1, r.1.2.2), if r.2 = nI 0 then s_judged r.1.2.1 t else nI 2)
section
variable {L : Nat} {xs : Nat → Int32} {d : Nat} {kp sp wd : Value} {I : z_I} {s : z_sg} {R : z_R} {J : z_J} {F : z_F} {cn : Nat} {Q : z_Q}
theorem lp_tellsWords {bus t u n B : Nat} {can : Bool} (hb : bus < 2) (ht : t < 8) (hu : u < 6) (hn : n ≤ 8) (hs : m_ok s B) (hB : B + 20 < 2 ^ 29)
    (hQ : ∀ r, m_answers (m_says s (192 + 8 * (6 * t + u)) n) bus t (bif can then 1 + n else 1) = r → Q (some (.int (if r.2 = nI 0 then s_judged r.1.2.1 t else nI 2))) (z_ms I (upd r.1.1 8 r.2, r.1.2.1, r.1.2.2)) (z_R0 kp sp wd) J F cn) :
    ∀ j k, k + j = n → z_WP (z_X0 L xs) z_P0 (d + 5) m_Mod_tellsWords 46 [some (.ref 40), some (.int (nI bus)), some (.int (nI t)), some (.int (nI (u + 1))), some (.int (nI n)), some (.int (z_bi can)), some (.int (nI k))] [] (z_ms I (m_says s (192 + 8 * (6 * t + u)) k)) (z_R0 kp sp wd) J F cn 0 0 Q := by
  intro j
  induction j with
  | zero =>
    intro k hk
    obtain rfl : k = n := by omega
    refine z_WP_gos [46, 108] 1000 fun K C hK hC => ?_
    conv => whnf
    refine ⟨fun _ => ?_, fun h => absurd (Int32.le_refl _) h⟩
    conv => whnf
    have fin : ∀ r, m_answers (m_says s (192 + 8 * (6 * t + u)) k) bus t (bif can then 1 + k else 1) = r → z_WP (z_X0 L xs) z_P0 (d + 5) m_Mod_tellsWords 108 [some (.ref 40), some (.int (nI bus)), some (.int (nI t)), some (.int (nI (u + 1))), some (.int (nI k)), some (.int (z_bi can)), some (.int (nI k))] [.int r.2, .ref 40] (z_ms I r.1) (z_R0 kp sp wd) J F cn 0 0 Q := by
      intro r hr
      replace hQ := hQ r hr
      obtain ⟨⟨f, w, y⟩, v⟩ := r
      simp only at hQ
      refine z_WP_gos [] 1000 fun K C hK hC => ?_
      conv => whnf
      simp (disch := omega) only [z_lit, nI_add, pk_mul, z_pr1, z_pr2, nI_clamp, z_m3_40, z_m3_41, z_m3_44, z_m3_u40, z_m3_u41, z_m3_u44, z_m3_m3, pk_us, pk_un]
      refine ⟨fun h => ?_, fun h => ?_⟩ <;> (try simp (disch := omega) only [z_lit, nI_add, pk_mul, z_pr1, z_pr2, nI_clamp, z_m3_40, z_m3_41, z_m3_44, z_m3_u40, z_m3_u41, z_m3_u44, z_m3_m3, pk_us, pk_un] at h) <;> (conv => whnf)
      · rw [if_pos h] at hQ
        refine hC _ _ _ _ _ _ _ _ _ _ (fun _ _ _ _ _ _ q => q) (sp_Mod_judged (s := (upd f 8 v, w, y)) ht ?_)
        conv => whnf
        exact hQ
      · rw [if_neg h] at hQ
        exact hQ
    cases can with
    | true =>
      repeat ((first | refine And.intro (by (conv => arg 2; whnf); (try simp only [z_lit, nI_add, pk_mul, z_pr1, z_pr2]); exact z_in (by omega) (by decide)) ?_ | refine z_bt1 (by decide) ?_ | refine z_bf1 (by decide) ?_ | refine z_bt2 (by decide) ?_ | refine z_bf2 (by decide) ?_); conv => whnf)
      simp (disch := omega) only [z_lit, nI_add, pk_mul, z_pr1, z_pr2, nI_clamp, z_m3_40, z_m3_41, z_m3_44, z_m3_u40, z_m3_u41, z_m3_u44, z_m3_m3, pk_us, pk_un]
      refine hC _ _ _ _ _ _ _ _ _ _ (fun _ _ _ _ _ _ q => q) (sp_Mod_answers hb (by omega) (by omega) hs hB ?_)
      conv => whnf
      refine hK _ _ _ _ _ _ _ _ _ _ (fin _ rfl)
    | false =>
      repeat ((first | refine And.intro (by (conv => arg 2; whnf); (try simp only [z_lit, nI_add, pk_mul, z_pr1, z_pr2]); exact z_in (by omega) (by decide)) ?_ | refine z_bt1 (by decide) ?_ | refine z_bf1 (by decide) ?_ | refine z_bt2 (by decide) ?_ | refine z_bf2 (by decide) ?_); conv => whnf)
      refine hC _ _ _ _ _ _ _ _ _ _ (fun _ _ _ _ _ _ q => q) (sp_Mod_answers hb (by omega) (by decide) hs hB ?_)
      conv => whnf
      refine hK _ _ _ _ _ _ _ _ _ _ (fin _ rfl)
  | succ j ih =>
    intro k hk
    have e := ih (k + 1) (by omega)
    unfold m_says at e ⊢
    rw [← z_cpy_u] at e
    refine z_WP_gos [46] 1000 fun K C hK hC => ?_
    conv => whnf
    refine ⟨fun h => absurd h (nI_ge (by omega) (by omega)), fun _ => ?_⟩
    conv => whnf
    refine hC _ _ _ _ _ _ _ _ _ _ (fun _ _ _ _ _ _ q => q) (sp_at0 ?_)
    conv => whnf
    repeat ((first | refine And.intro (by (conv => arg 2; whnf); (try simp only [z_lit, nI_add, pk_mul, z_pr1, z_pr2]); exact z_in (by omega) (by decide)) ?_ | refine z_bt1 (by decide) ?_ | refine z_bf1 (by decide) ?_ | refine z_bt2 (by decide) ?_ | refine z_bf2 (by decide) ?_); conv => whnf)
    simp (disch := omega) only [z_lit, nI_add, pk_mul, z_pr1, z_pr2, nI_clamp, z_m3_40, z_m3_41, z_m3_44, z_m3_u40, z_m3_u41, z_m3_u44, z_m3_m3, pk_us, pk_un]
    refine hK _ _ _ _ _ _ _ _ _ _ (e)
theorem m_says_0 {a : Nat} : m_says s a 0 = s := by unfold m_says; rw [z_cpy_0]
theorem sp_tellsWords {bus t u n B : Nat} (hb : bus < 2) (ht : t < 8) (hu : u < 6) (hn : n ≤ 8) (hs : m_ok s B) (hB : B + 20 < 2 ^ 29) (hQ : Q (some (.int (m_tw s bus t u n).2)) (z_ms I (m_tw s bus t u n).1) (z_R0 kp sp wd) J F cn) : z_M (z_X0 L xs) z_P0 (d + 5) m_Mod_tellsWords [.ref 40, .int (nI bus), .int (nI t), .int (nI (u + 1)), .int (nI n)] (z_ms I s) (z_R0 kp sp wd) J F cn Q := by
  unfold m_tw at hQ
  simp only at hQ
  have hs1 := m_last_ok ht (m_taken_ok (u := u) ht hs)
  refine z_WP_gos [46] 1000 fun K C hK hC => ?_
  conv => whnf
  refine hC _ _ _ _ _ _ _ _ _ _ (fun _ _ _ _ _ _ q => q) (sp_taken ht ?_)
  conv => whnf
  generalize m_taken s t u = q at hQ hs1 ⊢
  refine hC _ _ _ _ _ _ _ _ _ _ (fun _ _ _ _ _ _ q => q) (sp_tellsLast ht ?_)
  conv => whnf
  generalize m_last q.1 t = s1 at hQ hs1 ⊢
  refine hC _ _ _ _ _ _ _ _ _ _ (fun _ _ _ _ _ _ q => q) (sp_shut ht hb ?_)
  conv => whnf
  cases hl : s_shut s1.2.1 t bus with
  | true =>
    rw [hl] at hQ
    repeat ((first | refine And.intro (by (conv => arg 2; whnf); (try simp only [z_lit, nI_add, pk_mul, z_pr1, z_pr2]); exact z_in (by omega) (by decide)) ?_ | refine z_bt1 (by decide) ?_ | refine z_bf1 (by decide) ?_ | refine z_bt2 (by decide) ?_ | refine z_bf2 (by decide) ?_); conv => whnf)
    refine hC _ _ _ _ _ _ _ _ _ _ (fun _ _ _ _ _ _ q => q) (sp_Mod_noAnswer ?_)
    conv => whnf
    exact hQ
  | false =>
    rw [hl] at hQ
    repeat ((first | refine And.intro (by (conv => arg 2; whnf); (try simp only [z_lit, nI_add, pk_mul, z_pr1, z_pr2]); exact z_in (by omega) (by decide)) ?_ | refine z_bt1 (by decide) ?_ | refine z_bf1 (by decide) ?_ | refine z_bt2 (by decide) ?_ | refine z_bf2 (by decide) ?_); conv => whnf)
    simp (disch := omega) only [z_lit, nI_add, pk_mul, z_pr1, z_pr2, nI_clamp, z_m3_40, z_m3_41, z_m3_44, z_m3_u40, z_m3_u41, z_m3_u44, z_m3_m3, pk_us, pk_un]
    have e := lp_tellsWords (L := L) (xs := xs) (d := d) (Q := Q) (I := I) (can := q.2) (kp := kp) (sp := sp) (wd := wd) (J := J) (F := F) (cn := cn) (s := (s1.1, s1.2.1, upd s1.2.2 0 (s1.2.1 (136 + t)))) hb ht hu hn hs1 hB (fun r hr => by rw [cond_false, hr] at hQ; exact hQ) n 0 (by omega)
    rw [m_says_0] at e
    refine hK _ _ _ _ _ _ _ _ _ _ (e)
end
