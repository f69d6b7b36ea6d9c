/-! the model: control, and who is wanted -/
def m_ctl (s : z_sg) (t : Int32) : z_sg := if t = s.2.1 3 then s else (s.1, upd (upd s.2.1 3 t) 6 (s.2.1 6 + nI 1), s.2.2)
def s_can (w : Nat → Int32) (t : Nat) : Bool := decide (w (31 + t) = nI 1) && (decide (t = 8) || (decide (w (72 + t) = nI 1) && decide (w (80 + t) = nI 0)))
/-- who takes control of a silent bus, from t on -/
def s_who (w : Nat → Int32) : Nat → Nat → Option Nat
  | 0, _ => none
  | j + 1, t => bif s_can w t && decide (nI (t + 2) ≤ w 4) then some t else s_who w j (t + 1)
def m_sil (s : z_sg) : z_sg := match s_who (upd s.2.1 4 (s.2.1 4 + nI 1)) 9 0 with
  | none => m_w s 4 (s.2.1 4 + nI 1)
  | some t => m_w (m_ctl (m_w s 4 (s.2.1 4 + nI 1)) (nI t)) 4 (nI 0)
def m_ask1 (s : z_sg) (all : Int32) (t : Nat) : z_sg := bif decide (all >>> (nI t &&& nI 31) &&& nI 1 = nI 1) && !s_much s (nI 72) then (m_tries s (m_modes s 0 t 16) 0 t).1 else s
def m_ask (all : Int32) : Nat → z_sg → z_sg
  | 0, s => s
  | k + 1, s => m_ask1 (m_ask all k s) all k
section
variable {L : Nat} {xs : Nat → Int32} {d : Nat} {kp sp wd : Value} {I : z_I} {s : z_sg} {R : z_R} {J : z_J} {F : z_F} {cn : Nat} {Q : z_Q}
theorem sp_controls {t : Int32} (hQ : Q none (z_ms I (m_ctl s t)) (z_R0 kp sp wd) J F cn) : z_M (z_X0 L xs) z_P0 d m_Mod_controls [.ref 40, .int t] (z_ms I s) (z_R0 kp sp wd) J F cn Q := by
  unfold m_ctl at hQ
  refine z_WP_gos [] 1000 fun K C hK hC => ?_
  conv => whnf
  repeat ((first | refine And.intro (by (conv => arg 2; whnf); (try simp only [z_lit, nI_add, pk_mul, z_pr1, z_pr2]); exact z_in (by omega) (by decide)) ?_ | refine z_bt1 (by decide) ?_ | refine z_bf1 (by decide) ?_ | refine z_bt2 (by decide) ?_ | refine z_bf2 (by decide) ?_); conv => whnf)
  refine ⟨fun h => ?_, fun h => ?_⟩ <;> (try simp (disch := omega) only [z_lit, nI_add, pk_mul, z_pr1, z_pr2, nI_clamp, z_m3_40, z_m3_41, z_m3_44, z_m3_u40, z_m3_u41, z_m3_u44, z_m3_m3, pk_us, pk_un] at h) <;> (conv => whnf)
  · rw [if_neg h] at hQ
    repeat ((first | refine And.intro (by (conv => arg 2; whnf); (try simp only [z_lit, nI_add, pk_mul, z_pr1, z_pr2]); exact z_in (by omega) (by decide)) ?_ | refine z_bt1 (by decide) ?_ | refine z_bf1 (by decide) ?_ | refine z_bt2 (by decide) ?_ | refine z_bf2 (by decide) ?_); conv => whnf)
    refine z_Qv hQ ?_
    simp (disch := omega) only [z_lit, nI_add, pk_mul, z_pr1, z_pr2, nI_clamp, z_m3_40, z_m3_41, z_m3_44, z_m3_u40, z_m3_u41, z_m3_u44, z_m3_m3, pk_us, pk_un]
  · rw [if_pos h] at hQ
    exact hQ
theorem sp_canControl {t : Nat} (ht : t < 9) (hQ : Q (some (.int (z_bi (s_can s.2.1 t)))) (z_ms I s) (z_R0 kp sp wd) J F cn) : z_M (z_X0 L xs) z_P0 d m_Mod_canControl [.ref 40, .int (nI t)] (z_ms I s) (z_R0 kp sp wd) J F cn Q := by
  unfold s_can at hQ
  refine z_WP_gos [] 1000 fun K C hK hC => ?_
  conv => whnf
  repeat ((first | refine And.intro (by (conv => arg 2; whnf); (try simp only [z_lit, nI_add, pk_mul, z_pr1, z_pr2]); exact z_in (by omega) (by decide)) ?_ | refine z_bt1 (by decide) ?_ | refine z_bf1 (by decide) ?_ | refine z_bt2 (by decide) ?_ | refine z_bf2 (by decide) ?_); conv => whnf)
  refine ⟨fun h => ?_, fun h => ?_⟩ <;> (try simp (disch := omega) only [z_lit, nI_add, pk_mul, z_pr1, z_pr2, nI_clamp, z_m3_40, z_m3_41, z_m3_44, z_m3_u40, z_m3_u41, z_m3_u44, z_m3_m3, pk_us, pk_un] at h) <;> (conv => whnf)
  · exact z_Q0 hQ (by rw [decide_eq_false h]; rfl)
  · rw [decide_eq_true h, Bool.true_and] at hQ
    refine ⟨fun g => ?_, fun g => ?_⟩ <;> (try simp (disch := omega) only [z_lit, nI_add, pk_mul, z_pr1, z_pr2, nI_clamp, z_m3_40, z_m3_41, z_m3_44, z_m3_u40, z_m3_u41, z_m3_u44, z_m3_m3, pk_us, pk_un] at g) <;> (conv => whnf)
    · have : t = 8 := nI_inj9 (by omega) (by omega) g
      exact z_Q1 hQ (by rw [decide_eq_true this]; rfl)
    · have : ¬ t = 8 := fun z => g (by rw [z])
      rw [decide_eq_false this, Bool.false_or] at hQ
      repeat ((first | refine And.intro (by (conv => arg 2; whnf); (try simp only [z_lit, nI_add, pk_mul, z_pr1, z_pr2]); exact z_in (by omega) (by decide)) ?_ | refine z_bt1 (by decide) ?_ | refine z_bf1 (by decide) ?_ | refine z_bt2 (by decide) ?_ | refine z_bf2 (by decide) ?_); conv => whnf)
      refine ⟨fun e => ?_, fun e => ?_⟩ <;> (try simp (disch := omega) only [z_lit, nI_add, pk_mul, z_pr1, z_pr2, nI_clamp, z_m3_40, z_m3_41, z_m3_44, z_m3_u40, z_m3_u41, z_m3_u44, z_m3_m3, pk_us, pk_un] at e) <;> (conv => whnf)
      · exact z_Q0 hQ (by rw [decide_eq_false e]; rfl)
      · rw [decide_eq_true e, Bool.true_and] at hQ
        repeat ((first | refine And.intro (by (conv => arg 2; whnf); (try simp only [z_lit, nI_add, pk_mul, z_pr1, z_pr2]); exact z_in (by omega) (by decide)) ?_ | refine z_bt1 (by decide) ?_ | refine z_bf1 (by decide) ?_ | refine z_bt2 (by decide) ?_ | refine z_bf2 (by decide) ?_); conv => whnf)
        refine ⟨fun k => ?_, fun k => ?_⟩ <;> (try simp (disch := omega) only [z_lit, nI_add, pk_mul, z_pr1, z_pr2, nI_clamp, z_m3_40, z_m3_41, z_m3_44, z_m3_u40, z_m3_u41, z_m3_u44, z_m3_m3, pk_us, pk_un] at k) <;> (conv => whnf)
        · exact z_Q0 hQ (decide_eq_false k)
        · exact z_Q1 hQ (decide_eq_true k)
theorem lp_silent {w : Nat → Int32} (h0 : s_who w 9 0 = none → Q none (z_m3 I s.1 w s.2.2) (z_R0 kp sp wd) J F cn) (h1 : ∀ t, s_who w 9 0 = some t → Q none (z_ms I (m_w (m_ctl (s.1, w, s.2.2) (nI t)) 4 (nI 0))) (z_R0 kp sp wd) J F cn) :
    ∀ j t, t + j = 9 → s_who w 9 0 = s_who w j t → z_WP (z_X0 L xs) z_P0 (d + 1) m_Mod_isSilent 12 [some (.ref 40), some (.int (nI t))] [] (z_ms I (s.1, w, s.2.2)) (z_R0 kp sp wd) J F cn 0 0 Q := by
  intro j
  induction j with
  | zero =>
    intro t ht he
    obtain rfl : t = 9 := by omega
    refine z_WP_gos [12] 1000 fun K C hK hC => ?_
    conv => whnf
    refine ⟨fun _ => ?_, fun h => absurd (by decide) h⟩
    conv => whnf
    exact h0 he
  | succ j ih =>
    intro t ht he
    have ih' := ih (t + 1) (by omega)
    unfold s_who at he
    refine z_WP_gos [12] 1000 fun K C hK hC => ?_
    conv => whnf
    refine ⟨fun h => absurd h (nI_nlt (a := 8) (b := t) (by omega) (by omega)), fun _ => ?_⟩
    conv => whnf
    refine hC _ _ _ _ _ _ _ _ _ _ (fun _ _ _ _ _ _ q => q) (sp_canControl (s := (s.1, w, s.2.2)) (t := t) (by omega) ?_)
    conv => whnf
    cases hc : s_can w t <;> rw [hc] at he
    · repeat ((first | refine And.intro (by (conv => arg 2; whnf); (try simp only [z_lit, nI_add, pk_mul, z_pr1, z_pr2]); exact z_in (by omega) (by decide)) ?_ | refine z_bt1 (by decide) ?_ | refine z_bf1 (by decide) ?_ | refine z_bt2 (by decide) ?_ | refine z_bf2 (by decide) ?_); conv => whnf)
      rw [show nI t + 1 = nI (t + 1) from nI_1 t]
      refine hK _ _ _ _ _ _ _ _ _ _ (ih' he)
    · repeat ((first | refine And.intro (by (conv => arg 2; whnf); (try simp only [z_lit, nI_add, pk_mul, z_pr1, z_pr2]); exact z_in (by omega) (by decide)) ?_ | refine z_bt1 (by decide) ?_ | refine z_bf1 (by decide) ?_ | refine z_bt2 (by decide) ?_ | refine z_bf2 (by decide) ?_); conv => whnf)
      refine ⟨fun g => ?_, fun g => ?_⟩ <;> (try simp (disch := omega) only [z_lit, nI_add, pk_mul, z_pr1, z_pr2, nI_clamp, z_m3_40, z_m3_41, z_m3_44, z_m3_u40, z_m3_u41, z_m3_u44, z_m3_m3, pk_us, pk_un] at g) <;> (conv => whnf)
      · rw [decide_eq_true g] at he
        refine hC _ _ _ _ _ _ _ _ _ _ (fun _ _ _ _ _ _ q => q) (sp_controls (s := (s.1, w, s.2.2)) ?_)
        conv => whnf
        repeat ((first | refine And.intro (by (conv => arg 2; whnf); (try simp only [z_lit, nI_add, pk_mul, z_pr1, z_pr2]); exact z_in (by omega) (by decide)) ?_ | refine z_bt1 (by decide) ?_ | refine z_bf1 (by decide) ?_ | refine z_bt2 (by decide) ?_ | refine z_bf2 (by decide) ?_); conv => whnf)
        refine z_Qv (h1 t he) ?_
        unfold m_w
        simp (disch := omega) only [z_lit, nI_add, pk_mul, z_pr1, z_pr2, nI_clamp, z_m3_40, z_m3_41, z_m3_44, z_m3_u40, z_m3_u41, z_m3_u44, z_m3_m3, pk_us, pk_un]
      · rw [decide_eq_false g] at he
        rw [show nI t + 1 = nI (t + 1) from nI_1 t]
        refine hK _ _ _ _ _ _ _ _ _ _ (ih' he)
theorem sp_isSilent (hQ : Q none (z_ms I (m_sil s)) (z_R0 kp sp wd) J F cn) : z_M (z_X0 L xs) z_P0 (d + 1) m_Mod_isSilent [.ref 40] (z_ms I s) (z_R0 kp sp wd) J F cn Q := by
  unfold m_sil at hQ
  refine z_WP_gos [12] 1000 fun K C hK hC => ?_
  conv => whnf
  repeat ((first | refine And.intro (by (conv => arg 2; whnf); (try simp only [z_lit, nI_add, pk_mul, z_pr1, z_pr2]); exact z_in (by omega) (by decide)) ?_ | refine z_bt1 (by decide) ?_ | refine z_bf1 (by decide) ?_ | refine z_bt2 (by decide) ?_ | refine z_bf2 (by decide) ?_); conv => whnf)
  simp (disch := omega) only [z_lit, nI_add, pk_mul, z_pr1, z_pr2, nI_clamp, z_m3_40, z_m3_41, z_m3_44, z_m3_u40, z_m3_u41, z_m3_u44, z_m3_m3, pk_us, pk_un]
  refine hK _ _ _ _ _ _ _ _ _ _ (lp_silent (s := s) (w := upd s.2.1 4 (s.2.1 4 + nI 1)) (fun h => by rw [h] at hQ; exact hQ) (fun t h => by rw [h] at hQ; exact hQ) 9 0 rfl rfl)
theorem ask_ok {all : Int32} {B : Nat} (hs : m_ok s B) (hB : B + 300 < 2 ^ 29) : ∀ k, k ≤ 8 → m_ok (m_ask all k s) (B + 21 * k)
  | 0, _ => hs
  | k + 1, hk => by
    have ih := ask_ok (all := all) hs hB k (by omega)
    unfold m_ask m_ask1
    cases decide (all >>> (nI k &&& nI 31) &&& nI 1 = nI 1) && !s_much (m_ask all k s) (nI 72)
    · exact m_ok_mo ih (by omega)
    · exact m_ok_mo (trs_ok (by omega) (by omega) oc_modes (m_modes_ok (by omega) (by omega) ih (by omega)) (by omega)) (by omega)
theorem ask_o {all : Int32} {j : Nat} (hj : j ≤ 4 ∨ (6 ≤ j ∧ j ≤ 9) ∨ (31 ≤ j ∧ j < 48) ∨ (56 ≤ j ∧ j < 112) ∨ (192 ≤ j ∧ j < 576) ∨ (1344 ≤ j ∧ j < 2220) ∨ 2572 ≤ j) : ∀ k, k ≤ 8 → (m_ask all k s).2.1 j = s.2.1 j
  | 0, _ => rfl
  | k + 1, hk => by
    have ih := ask_o (all := all) hj k (by omega)
    unfold m_ask m_ask1
    cases decide (all >>> (nI k &&& nI 31) &&& nI 1 = nI 1) && !s_much (m_ask all k s) (nI 72)
    · exact ih
    · exact (trs_o (by omega) (by omega) oc_modes hj (m_modes_o (by omega) (by omega) hj)).trans ih
theorem trs_f {r : z_sg × Int32} {bus t j : Nat} (hj : 9 ≤ j) (h : r.1.1 j = s.1 j) : (m_tries s r bus t).1.1 j = s.1 j := by
  unfold m_tries; rw [m_tally_f, m_slot_f hj]; exact h
theorem ask_f {all : Int32} {j : Nat} (hj : 9 ≤ j) : ∀ k, (m_ask all k s).1 j = s.1 j
  | 0 => rfl
  | k + 1 => by
    have ih := ask_f (all := all) hj k
    unfold m_ask m_ask1
    cases decide (all >>> (nI k &&& nI 31) &&& nI 1 = nI 1) && !s_much (m_ask all k s) (nI 72)
    · exact ih
    · exact (trs_f hj (m_modes_f hj)).trans ih
theorem lp_ask {all : Int32} {B : Nat} (hs : m_ok s B) (hB : B + 300 < 2 ^ 29) (hQ : Q none (z_ms I (m_ask all 8 s)) (z_R0 kp sp wd) J F cn) :
    ∀ j t, t + j = 8 → z_WP (z_X0 L xs) z_P0 (d + 8) m_Mod_asksWanted 7 [some (.ref 40), some (.int all), some (.int (nI t))] [] (z_ms I (m_ask all t s)) (z_R0 kp sp wd) J F cn 0 0 Q := by
  intro j
  induction j with
  | zero =>
    intro t ht
    obtain rfl : t = 8 := by omega
    refine z_WP_gos [7] 1000 fun K C hK hC => ?_
    conv => whnf
    refine ⟨fun _ => ?_, fun h => absurd (by decide) h⟩
    conv => whnf
    exact hQ
  | succ j ih =>
    intro t ht
    have ih' := ih (t + 1) (by omega)
    have ok := ask_ok (all := all) hs hB t (by omega)
    rw [show m_ask all (t + 1) s = m_ask1 (m_ask all t s) all t from rfl] at ih'
    generalize m_ask all t s = S at *
    unfold m_ask1 at ih'
    refine z_WP_gos [7] 1000 fun K C hK hC => ?_
    conv => whnf
    refine ⟨fun h => absurd h (nI_ge (a := t) (b := 8) (by omega) (by decide)), fun _ => ?_⟩
    conv => whnf
    refine ⟨fun g => ?_, fun g => ?_⟩ <;> (try simp (disch := omega) only [z_lit, nI_add, pk_mul, z_pr1, z_pr2, nI_clamp, z_m3_40, z_m3_41, z_m3_44, z_m3_u40, z_m3_u41, z_m3_u44, z_m3_m3, pk_us, pk_un] at g) <;> (conv => whnf)
    · rw [decide_eq_false g, Bool.false_and] at ih'
      rw [show nI t + 1 = nI (t + 1) from nI_1 t]
      refine hK _ _ _ _ _ _ _ _ _ _ (ih')
    · rw [decide_eq_true g, Bool.true_and] at ih'
      refine hC _ _ _ _ _ _ _ _ _ _ (fun _ _ _ _ _ _ q => q) (sp_isTooMuch (s := S) ?_)
      conv => whnf
      cases hm : s_much S (nI 72) <;> rw [hm] at ih'
      · rw [show s_much S 72 = s_much S (nI 72) from rfl, hm]
        repeat ((first | refine And.intro (by (conv => arg 2; whnf); (try simp only [z_lit, nI_add, pk_mul, z_pr1, z_pr2]); exact z_in (by omega) (by decide)) ?_ | refine z_bt1 (by decide) ?_ | refine z_bf1 (by decide) ?_ | refine z_bt2 (by decide) ?_ | refine z_bf2 (by decide) ?_); conv => whnf)
        refine hC _ _ _ _ _ _ _ _ _ _ (fun _ _ _ _ _ _ q => q) (tries_mode (s := S) (bus := 0) (t := t) (code := 16) (by omega) (by omega) (by omega) ok (by omega) ?_)
        conv => whnf
        rw [show nI t + 1 = nI (t + 1) from nI_1 t]
        refine hK _ _ _ _ _ _ _ _ _ _ (ih')
      · rw [show s_much S 72 = s_much S (nI 72) from rfl, hm]
        repeat ((first | refine And.intro (by (conv => arg 2; whnf); (try simp only [z_lit, nI_add, pk_mul, z_pr1, z_pr2]); exact z_in (by omega) (by decide)) ?_ | refine z_bt1 (by decide) ?_ | refine z_bf1 (by decide) ?_ | refine z_bt2 (by decide) ?_ | refine z_bf2 (by decide) ?_); conv => whnf)
        rw [show nI t + 1 = nI (t + 1) from nI_1 t]
        refine hK _ _ _ _ _ _ _ _ _ _ (ih')
theorem sp_asksWanted {B : Nat} (hs : m_ok s B) (hB : B + 300 < 2 ^ 29) (hQ : Q none (z_ms I (m_ask (s.1 7) 8 s)) (z_R0 kp sp wd) J F cn) : z_M (z_X0 L xs) z_P0 (d + 8) m_Mod_asksWanted [.ref 40] (z_ms I s) (z_R0 kp sp wd) J F cn Q := by
  refine z_WP_gos [7] 1000 fun K C hK hC => ?_
  conv => whnf
  refine hK _ _ _ _ _ _ _ _ _ _ (lp_ask (s := s) (all := s.1 7) hs hB hQ 8 0 rfl)
end
