/-! events as a text: the model whole -/
def wec (w fr : Nat → Int32) (k : Nat) : Nat → Int32 := fun j => if 2765 ≤ j ∧ j < 2765 + k then fr (14 * ((j - 2765) / 4) + (j - 2765) % 4) else w j
def wev (w fr : Nat → Int32) (c : Nat) : Nat → Int32 := upd (wec w fr (4 * c)) 2764 (nI c)
theorem wec_0 {w fr : Nat → Int32} : wec w fr 0 = w := funext fun j => if_neg (by omega)
theorem wec_s {w fr : Nat → Int32} {i k : Nat} (hk : k < 4) : upd (wec w fr (4 * i + k)) (2765 + 4 * i + k) (fr (14 * i + k)) = wec w fr (4 * i + k + 1) := funext fun j => by
  unfold wec
  by_cases h : j = 2765 + 4 * i + k
  · subst h
    rw [pk_us, if_pos (show 2765 ≤ 2765 + 4 * i + k ∧ 2765 + 4 * i + k < 2765 + (4 * i + k + 1) by omega)]
    have e : 14 * ((2765 + 4 * i + k - 2765) / 4) + (2765 + 4 * i + k - 2765) % 4 = 14 * i + k := by omega
    exact (congrArg fr e).symm
  · rw [pk_un h]
    by_cases z : 2765 ≤ j ∧ j < 2765 + (4 * i + k)
    · rw [if_pos z, if_pos (show 2765 ≤ j ∧ j < 2765 + (4 * i + k + 1) by omega)]
    · rw [if_neg z, if_neg (show ¬ (2765 ≤ j ∧ j < 2765 + (4 * i + k + 1)) by omega)]
theorem wev_n {w fr : Nat → Int32} {c : Nat} : wev w fr c 2764 = nI c := pk_us
theorem wev_l {w fr : Nat → Int32} {c i f : Nat} (hi : i < c) (hf : f < 4) : wev w fr c (2765 + 4 * i + f) = fr (14 * i + f) := by
  unfold wev wec
  rw [pk_un (by omega), if_pos (by omega)]
  have e : 14 * ((2765 + 4 * i + f - 2765) / 4) + (2765 + 4 * i + f - 2765) % 4 = 14 * i + f := by omega
  exact congrArg fr e
theorem wev_o {w fr : Nat → Int32} {c j : Nat} (h : j < 2764) : wev w fr c j = w j := by
  unfold wev wec
  rw [pk_un (by omega), if_neg (by omega)]
section
variable {L : Nat} {xs : Nat → Int32} {d : Nat} {kp sp wd : Value} {I : z_I} {s : z_sg} {R : z_R} {J : z_J} {F : z_F} {cn : Nat} {Q : z_Q} {n k m st c : Nat} {t : Nat → Nat} {f f0 w y fr : Nat → Int32}
theorem lp_mev1 {g : Int32} {i : Nat} (hi : i < 24) (hQ : z_WP (z_X0 L xs) z_P0 (d + 11) m_Mod_events 18 [some (.ref 40), some (.int g), some (.int (nI (i + 1))), some (.int (nI 4))] [] (z_ms (z_row I 46 fr) (f, wec w fr (4 * (i + 1)), y)) (z_R0 kp sp wd) J F cn 0 0 Q) :
    ∀ j k, k + j = 4 → z_WP (z_X0 L xs) z_P0 (d + 11) m_Mod_events 28 [some (.ref 40), some (.int g), some (.int (nI i)), some (.int (nI k))] [] (z_ms (z_row I 46 fr) (f, wec w fr (4 * i + k), y)) (z_R0 kp sp wd) J F cn 0 0 Q := by
  intro j
  induction j with
  | zero =>
    intro k hk
    obtain rfl : k = 4 := by omega
    rw [show 4 * i + 4 = 4 * (i + 1) by omega]
    refine z_WP_gos [18, 28] 1000 fun K C hK hC => ?_
    conv => whnf
    repeat ((first | refine And.intro (by (conv => arg 2; whnf); (try simp only [z_lit, nI_add, pk_mul, z_pr1, z_pr2]); exact z_in (by omega) (by decide)) ?_ | refine z_bt1 (by decide) ?_ | refine z_bf1 (by decide) ?_ | refine z_bt2 (by decide) ?_ | refine z_bf2 (by decide) ?_); conv => whnf)
    simp (disch := omega) only [z_lit, nI_add, pk_mul, z_pr1, z_pr2, nI_clamp, z_m3_40, z_m3_41, z_m3_44, z_m3_u40, z_m3_u41, z_m3_u44, z_m3_m3, pk_us, pk_un]
    refine hK _ _ _ _ _ _ _ _ _ _ (hQ)
  | succ j ih =>
    intro k hk
    have ih' := ih (k + 1) (by omega)
    rw [← Nat.add_assoc, ← wec_s (by omega)] at ih'
    refine z_WP_gos [18, 28] 1000 fun K C hK hC => ?_
    conv => whnf
    refine ⟨fun z => absurd z (nI_ge (b := 4) (by omega) (by omega)), fun _ => ?_⟩
    conv => whnf
    repeat ((first | refine And.intro (by (conv => arg 2; whnf); (try simp only [z_lit, nI_add, pk_mul, z_pr1, z_pr2]); exact z_in (by omega) (by decide)) ?_ | refine z_bt1 (by decide) ?_ | refine z_bf1 (by decide) ?_ | refine z_bt2 (by decide) ?_ | refine z_bf2 (by decide) ?_); conv => whnf)
    simp (disch := omega) only [z_lit, nI_add, pk_mul, z_pr1, z_pr2, nI_clamp, z_m3_40, z_m3_41, z_m3_44, z_m3_u40, z_m3_u41, z_m3_u44, z_m3_m3, pk_us, pk_un]
    rw [z_ms_46]
    refine hK _ _ _ _ _ _ _ _ _ _ (ih')
theorem lp_mev2 {g : Int32} (hc : c ≤ 24) (h19 : f 19 = nI c) (hQ : Q (some (.int (nI c))) (z_ms (z_row I 46 fr) (f, wev w fr c, y)) (z_R0 kp sp wd) J F cn) :
    ∀ j i lc, i + j = c → z_WP (z_X0 L xs) z_P0 (d + 11) m_Mod_events 18 [some (.ref 40), some (.int g), some (.int (nI i)), lc] [] (z_ms (z_row I 46 fr) (f, wec w fr (4 * i), y)) (z_R0 kp sp wd) J F cn 0 0 Q := by
  intro j
  induction j with
  | zero =>
    intro i lc hi
    obtain rfl : i = c := by omega
    refine z_WP_gos [18] 1000 fun K C hK hC => ?_
    conv => whnf
    simp (disch := omega) only [z_lit, nI_add, pk_mul, z_pr1, z_pr2, nI_clamp, z_m3_40, z_m3_41, z_m3_44, z_m3_u40, z_m3_u41, z_m3_u44, z_m3_m3, pk_us, pk_un]
    rw [h19]
    refine ⟨fun _ => ?_, fun z => absurd (Int32.le_refl _) z⟩
    conv => whnf
    repeat ((first | refine And.intro (by (conv => arg 2; whnf); (try simp only [z_lit, nI_add, pk_mul, z_pr1, z_pr2]); exact z_in (by omega) (by decide)) ?_ | refine z_bt1 (by decide) ?_ | refine z_bf1 (by decide) ?_ | refine z_bt2 (by decide) ?_ | refine z_bf2 (by decide) ?_); conv => whnf)
    simp (disch := omega) only [z_lit, nI_add, pk_mul, z_pr1, z_pr2, nI_clamp, z_m3_40, z_m3_41, z_m3_44, z_m3_u40, z_m3_u41, z_m3_u44, z_m3_m3, pk_us, pk_un]
    rw [h19]
    exact hQ
  | succ j ih =>
    intro i lc hi
    have ih' := fun lc => ih (i + 1) lc (by omega)
    refine z_WP_gos [18, 28] 1000 fun K C hK hC => ?_
    conv => whnf
    simp (disch := omega) only [z_lit, nI_add, pk_mul, z_pr1, z_pr2, nI_clamp, z_m3_40, z_m3_41, z_m3_44, z_m3_u40, z_m3_u41, z_m3_u44, z_m3_m3, pk_us, pk_un]
    rw [h19]
    refine ⟨fun z => absurd z (nI_ge (by omega) (by omega)), fun _ => ?_⟩
    conv => whnf
    refine hK _ _ _ _ _ _ _ _ _ _ (lp_mev1 (by omega) (ih' _) 4 0 rfl)
theorem sp_events (hT : mT I t n) (hn : n ≤ 500) (h14 : s.1 14 = nI n) (hc : ∀ fr' c, peall t n 24 0 (I 46) (tkS t n 0) = p_ok fr' c → c ≤ 24) (hQ : okQ (peall t n 24 0 (I 46) (tkS t n 0)) (fun fr' c => ∀ f', rdM f' s.1 (nI 0) (-1) → Q (some (.int (nI c))) (z_ms (z_row I 46 fr') (f', wev s.2.1 fr' c, s.2.2)) (z_R0 kp sp wd) J F cn) (fun c p => ∀ f' fr', rdM f' s.1 (nI c) (nI p) → Q (some (.int (-1))) (z_ms (z_row I 46 fr') (f', s.2.1, s.2.2)) (z_R0 kp sp wd) J F cn)) :
    z_M (z_X0 L xs) z_P0 (d + 11) m_Mod_events [.ref 40] (z_ms I s) (z_R0 kp sp wd) J F cn Q := by
  obtain ⟨f0, w, y⟩ := s
  have hok := okQ_and hQ (C := fun _ c => c ≤ 24) hc
  refine z_WP_gos [18] 1000 fun K C hK hC => ?_
  conv => whnf
  refine hC _ _ _ _ _ _ _ _ _ _ (fun _ _ _ _ _ _ q => q) (sp_readsEvents (s := (f0, w, y)) hT hn h14 (okQ_m hok (fun fr2 c hq f2 h => ?_) (fun c p hq f2 fr2 h => ?_)))
  conv => whnf
  rotate_left
  · refine hC _ _ _ _ _ _ _ _ _ _ (fun _ _ _ _ _ _ q => q) (sp_isRead0 h (fun f3 h3 => ?_))
    conv => whnf
    refine ⟨fun z => absurd rfl z, fun _ => ?_⟩
    conv => whnf
    exact hq f3 fr2 h3
  obtain ⟨hc, hq⟩ := hq
  refine hC _ _ _ _ _ _ _ _ _ _ (fun _ _ _ _ _ _ q => q) (sp_isRead1 h (fun f3 h3 j19 => ?_))
  conv => whnf
  refine ⟨fun _ => ?_, fun z => absurd z (by decide)⟩
  conv => whnf
  have l2 := fun lc => lp_mev2 (L := L) (xs := xs) (d := d) (kp := kp) (sp := sp) (wd := wd) (I := I) (J := J) (F := F) (cn := cn) (Q := Q) (fr := fr2) (w := w) (y := y) (f := f3) (c := c) (g := 1) hc j19 (hq f3 h3) c 0 lc (by omega)
  rw [Nat.mul_zero, wec_0] at l2
  refine hK _ _ _ _ _ _ _ _ _ _ (l2 _)
end
