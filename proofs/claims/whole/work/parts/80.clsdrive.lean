/-! the class: signals -/
theorem b16_and (v : Int32) : b16 (v &&& nI 65535) := by
  refine ⟨v.toBitVec.toNat % 2 ^ 16, Nat.mod_lt _ (by decide), ?_⟩
  apply Int32.toBitVec_inj.mp
  rw [Int32.toBitVec_and]
  apply BitVec.eq_of_toNat_eq
  have e : (nI 65535).toBitVec.toNat = 2 ^ 16 - 1 := by decide
  rw [BitVec.toNat_and, e, Nat.and_two_pow_sub_one_eq_mod, pk_tn (by have := Nat.mod_lt v.toBitVec.toNat (show 2 ^ 16 > 0 by decide); omega)]
theorem b16_hi (x : UInt32) : b16 (g_hi x) := by
  have hx : x.toNat < 2 ^ 32 := x.toNat_lt
  refine ⟨x.toNat / 2 ^ 16, by omega, ?_⟩
  unfold g_hi g_b
  apply Int32.toBitVec_inj.mp
  apply BitVec.eq_of_toNat_eq
  rw [pk_tn (by omega)]
  show (x.toInt32.toUInt32 >>> (nI 16 &&& 31).toUInt32).toNat = _
  have e : (nI 16 &&& 31).toUInt32 = 16 := by decide
  have e2 : x.toInt32.toUInt32 = x := rfl
  rw [e, e2, UInt32.toNat_shiftRight, Nat.shiftRight_eq_div_pow]
  rfl
section
variable {L : Nat} {xs : Nat → Int32} {d : Nat} {kp sp wd : Value} {I : z_I} {s : z_sg} {R : z_R} {J : z_J} {F : z_F} {cn : Nat} {Q : z_Q} {n k : Nat}
theorem bR_sig {I' : z_I} {c : Nat} {w' : Nat → Int32} {a b e : Int32} {w : Nat → Int32} (h : bR I F w n k) (hc : c < 48) (ha : b16 a) (hb : b16 b) (he : b16 e) (h4 : I' 4 = upd (upd (upd (I 4) (c * 8) a) (c * 8 + 1) b) (c * 8 + 2) e) (hI : ∀ b, b ≠ 4 → I' b = I b) (hw : w' = upd (upd (upd w (192 + 8 * c) a) (192 + 8 * c + 1) b) (192 + 8 * c + 2) e) : bR I' F w' n k := by
  obtain ⟨⟨u1, u2, u3, u4⟩, wr, ⟨⟨v1, v2, v3⟩, k2, k3, k4, k5⟩, g⟩ := h
  have o : ∀ j, j < 192 ∨ 576 ≤ j → w' j = w j := fun j hj => by rw [hw, pk_un (by omega), pk_un (by omega), pk_un (by omega)]
  refine ⟨⟨uT_of u1 (hI 3 (by omega)) (fun j a b => o j (by omega)), fun j hj => ?_, fun j hj => ?_, fun j hj => ?_⟩, wR_of wr (fun b h1 h2 => hI b (by omega)) (fun j hj => o j (by omega)), ⟨⟨fun t ht => ?_, fun j a b => ?_, fun j a b => ?_⟩, fun j a b => ?_, fun j hj => ?_, ?_, ?_⟩, ⟨fun c hc => ?_, fun c hc => ?_⟩⟩
  · rw [h4, hw]
    by_cases z2 : j = c * 8 + 2
    · subst z2
      rw [pk_us, show 192 + (c * 8 + 2) = 192 + 8 * c + 2 by omega, pk_us]
    rw [pk_un z2, pk_un (show 192 + j ≠ 192 + 8 * c + 2 by omega)]
    by_cases z1 : j = c * 8 + 1
    · subst z1
      rw [pk_us, show 192 + (c * 8 + 1) = 192 + 8 * c + 1 by omega, pk_us]
    rw [pk_un z1, pk_un (show 192 + j ≠ 192 + 8 * c + 1 by omega)]
    by_cases z0 : j = c * 8
    · subst z0
      rw [pk_us, show 192 + (c * 8) = 192 + 8 * c by omega, pk_us]
    rw [pk_un z0, pk_un (show 192 + j ≠ 192 + 8 * c by omega)]
    exact u2 j hj
  · rw [hI 5 (by omega), hI 6 (by omega), hI 7 (by omega), o _ (by omega), o _ (by omega), o _ (by omega), o _ (by omega)]; exact u3 j hj
  · rw [hI 9 (by omega), o _ (by omega)]; exact u4 j hj
  · rw [o _ (by omega)]; exact v1 t ht
  · rw [o _ (by omega)]; exact v2 j a b
  · rw [o _ (by omega)]; exact v3 j a b
  · rw [o _ (by omega)]; exact k2 j a b
  · rw [hw]
    by_cases z2 : j = 192 + 8 * c + 2
    · subst z2; rw [pk_us]; exact he
    rw [pk_un z2]
    by_cases z1 : j = 192 + 8 * c + 1
    · subst z1; rw [pk_us]; exact hb
    rw [pk_un z1]
    by_cases z0 : j = 192 + 8 * c
    · subst z0; rw [pk_us]; exact ha
    rw [pk_un z0]; exact k3 j hj
  · rw [o _ (by omega)]; exact k4
  · rw [o _ (by omega)]; exact k5
  · rw [o _ (by omega)]; exact g.1 c hc
  · rw [o _ (by omega)]; exact g.2 c hc
theorem g_cl2 (e : Int32) : (if (if nI 32767 ≤ e then nI 32767 else e) ≤ -nI 32768 then -nI 32768 else (if nI 32767 ≤ e then nI 32767 else e)) = g_cl e := by
  unfold g_cl
  by_cases h1 : nI 32767 ≤ e
  · rw [if_pos h1, if_neg (by decide), if_pos (Int32.le_trans (by decide) h1)]
    by_cases h2 : e ≤ nI 32767
    · rw [if_pos h2]; exact Int32.le_antisymm h1 h2
    · rw [if_neg h2]
  · rw [if_neg h1]
    have h2 : e ≤ nI 32767 := Int32.le_of_lt (Int32.not_le.mp h1)
    by_cases h3 : e ≤ -nI 32768
    · rw [if_pos h3]
      by_cases h4 : -nI 32768 ≤ e
      · rw [if_pos h4, if_pos h2]; exact Int32.le_antisymm h4 h3
      · rw [if_neg h4]
    · rw [if_neg h3, if_pos (Int32.le_of_lt (Int32.not_le.mp h3)), if_pos h2]
theorem lp_drive {fm : Int32} (hg : gS s.2.1) (hfr : fm = s.2.1 2)
    (hQ : ∀ I', bR I' F (m_sig 48 s).2.1 n k → fr [4] I I' → Q none I' (z_R0 kp sp wd) J F cn) :
    ∀ j c I' l3 l4 l5 l6, c + j = 48 → bR I' F (m_sig c s).2.1 n k → fr [4] I I' → z_WP (z_X0 L xs) z_P0 (d + 1) m_Units_drive 2 [some (.ref 2), some (.int fm), some (.int (nI c)), l3, l4, l5, l6] [] I' (z_R0 kp sp wd) J F cn 0 0 Q := by
  have d6 : ∀ c, c < 48 → nI c / nI 6 = nI (c / 6) := by decide
  intro j
  induction j with
  | zero =>
    intro c I' l3 l4 l5 l6 hc x f
    obtain rfl : c = 48 := by omega
    have q := hQ I' x f
    refine z_WP_gos [2] 1000 fun K C hK hC => ?_
    conv => whnf
    refine ⟨fun _ => ?_, fun h => absurd (by decide) h⟩
    conv => whnf
    exact q
  | succ j ih =>
    intro c I' l3 l4 l5 l6 hc x f
    have ih' := fun I' l3 l4 l5 l6 => ih (c + 1) I' l3 l4 l5 l6 (by omega)
    have e1 : m_sig (c + 1) s = m_sig1 (m_sig c s) c := rfl
    have o : ∀ j, j < 192 ∨ 576 ≤ j → (m_sig c s).2.1 j = s.2.1 j := fun j hj => sig_o hj _ (by omega)
    rw [e1] at ih'
    unfold m_sig1 at ih'
    have hk := hg.1 c (by omega)
    rw [← o _ (by omega), ← o (1488 + _) (by omega)] at hk
    have hf := hg.2
    rw [← o 2 (by omega)] at hf
    rw [← o 2 (by omega)] at hfr
    generalize m_sig c s = z at *
    obtain ⟨ff, w, y⟩ := z
    simp only at hk hf ih' x hfr
    obtain ⟨a1, a2, a3, a4, a5, a6, a7, a8⟩ := g_all hk.1 hk.2 hf
    have u3 := x.1.2.2.1 c (by omega)
    subst hfr
    refine z_WP_gos [2] 1000 fun K C hK hC => ?_
    conv => whnf
    refine ⟨fun h => absurd h (nI_ge (a := c) (b := 48) (by omega) (by decide)), fun _ => ?_⟩
    conv => whnf
    repeat ((first | refine And.intro (by (conv => arg 2; whnf); (try simp only [z_lit, nI_add, pk_mul, z_pr1, z_pr2]); exact z_in (by omega) (by decide)) ?_ | refine z_bt1 (by decide) ?_ | refine z_bf1 (by decide) ?_ | refine z_bt2 (by decide) ?_ | refine z_bf2 (by decide) ?_); conv => whnf)
    simp (disch := omega) only [z_lit, nI_add, pk_mul, z_pr1, z_pr2, nI_clamp, z_up_row, z_row_s, z_row_n, z_row_row, pk_us, pk_un]
    rw [u3.2.2.1]
    refine ⟨fun g => ?_, fun g => ?_⟩
    · rw [if_pos (Or.inl g)] at ih'
      conv => whnf
      rw [show nI c + 1 = nI (c + 1) from nI_1 _]
      refine hK _ _ _ _ _ _ _ _ _ _ (ih' I' _ _ _ _ x f)
    conv => whnf
    refine ⟨by decide, ?_⟩
    rw [d6 c (by omega)]
    conv => whnf
    refine hC _ _ _ _ _ _ _ _ _ _ (fun _ _ _ _ _ _ q => q) (cu_hasPower (w := w) (by omega) x.1.1 x.2.2.1.1 ?_)
    conv => whnf
    have v31 := x.2.2.1.1.1 (c / 6) (by omega)
    refine ⟨fun g2 => ?_, fun g2 => ?_⟩
    · rw [if_pos (Or.inr (by
        rcases v31 with z | z
        · exact z
        · rw [z] at g2; exact absurd g2 (by decide)))] at ih'
      conv => whnf
      rw [show nI c + 1 = nI (c + 1) from nI_1 _]
      refine hK _ _ _ _ _ _ _ _ _ _ (ih' I' _ _ _ _ x f)
    rw [if_neg (not_or.mpr ⟨g, fun z => g2 (by rw [z]; decide)⟩)] at ih'
    unfold m_w at ih'
    simp only at ih'
    conv => whnf
    repeat ((first | refine And.intro (by (conv => arg 2; whnf); (try simp only [z_lit, nI_add, pk_mul, z_pr1, z_pr2]); exact z_in (by omega) (by decide)) ?_ | refine z_bt1 (by decide) ?_ | refine z_bf1 (by decide) ?_ | refine z_bt2 (by decide) ?_ | refine z_bf2 (by decide) ?_); conv => whnf)
    simp (disch := omega) only [z_lit, nI_add, pk_mul, z_pr1, z_pr2, nI_clamp, z_up_row, z_row_s, z_row_n, z_row_row, pk_us, pk_un]
    rw [u3.2.1]
    refine ⟨a1, ?_⟩
    conv => whnf
    refine ⟨a2, ?_⟩
    conv => whnf
    repeat ((first | refine And.intro (by (conv => arg 2; whnf); (try simp only [z_lit, nI_add, pk_mul, z_pr1, z_pr2]); exact z_in (by omega) (by decide)) ?_ | refine z_bt1 (by decide) ?_ | refine z_bf1 (by decide) ?_ | refine z_bt2 (by decide) ?_ | refine z_bf2 (by decide) ?_); conv => whnf)
    simp (disch := omega) only [z_lit, nI_add, pk_mul, z_pr1, z_pr2, nI_clamp, z_up_row, z_row_s, z_row_n, z_row_row, pk_us, pk_un]
    rw [u3.1]
    refine ⟨a3, ?_⟩
    conv => whnf
    have ae := a7
    unfold g_x g_k at ae
    rw [ae]
    refine ⟨a4, ?_⟩
    conv => whnf
    refine hC _ _ _ _ _ _ _ _ _ _ (fun _ _ _ _ _ _ q => q) (cf_bitsOf a5 ?_)
    conv => whnf
    refine ⟨a6, ?_⟩
    unfold g_e g_x g_k at ih'
    generalize FP.fadd (FP.fmul (FP.fdiv (FP.i2f (w (1488 + c))) (UInt32.ofNat 1148846080)) (FP.i2f (w 2))) (FP.fdiv (FP.i2f (w (1440 + c))) (UInt32.ofNat 1148846080)) = v at ih' ⊢
    conv => whnf
    generalize FP.f2i (FP.fdiv v (UInt32.ofNat 1040187392)) = e at ih' ⊢
    refine hC _ _ _ _ _ _ _ _ _ _ (fun _ _ _ _ _ _ q => q) (cm_min ?_)
    conv => whnf
    refine hC _ _ _ _ _ _ _ _ _ _ (fun _ _ _ _ _ _ q => q) (cm_max ?_)
    conv => whnf
    have hb := fun I'' w' => bR_sig (I' := I'') (w' := w') (I := I') (F := F) (n := n) (k := k) (c := c) (w := w) (a := g_hi v) (b := g_b v &&& nI 65535) (e := g_cl e &&& nI 65535) x (by omega) (b16_hi v) (b16_and _) (b16_and _)
    repeat ((first | refine And.intro (by (conv => arg 2; whnf); (try simp only [z_lit, nI_add, pk_mul, z_pr1, z_pr2]); exact z_in (by omega) (by decide)) ?_ | refine z_bt1 (by decide) ?_ | refine z_bf1 (by decide) ?_ | refine z_bt2 (by decide) ?_ | refine z_bf2 (by decide) ?_); conv => whnf)
    simp (disch := omega) only [z_lit, nI_add, pk_mul, z_pr1, z_pr2, nI_clamp, z_up_row, z_row_s, z_row_n, z_row_row, pk_us, pk_un]
    rw [g_cl2]
    refine hK _ _ _ _ _ _ _ _ _ _ (ih' _ _ _ _ _ (hb _ _ ?_ (fun b hb => ?_) rfl) (fun b hb => ?_))
    · rfl
    · repeat rw [z_row_n _ _ (by omega)]
    · simp only [List.mem_cons, List.not_mem_nil, or_false, not_or] at hb
      repeat rw [z_row_n _ _ (by omega)]
      exact f b (by simp only [List.mem_cons, List.not_mem_nil, or_false, not_or]; exact hb)
theorem cu_drive {fm : Int32} (hg : gS s.2.1) (hfr : fm = s.2.1 2) (h : bR I F s.2.1 n k)
    (hQ : ∀ I', bR I' F (m_sig 48 s).2.1 n k → fr [4] I I' → Q none I' (z_R0 kp sp wd) J F cn) : z_M (z_X0 L xs) z_P0 (d + 1) m_Units_drive [.ref 2, .int fm] I (z_R0 kp sp wd) J F cn Q := by
  have lp := fun l3 l4 l5 l6 => lp_drive (d := d) (L := L) (xs := xs) (kp := kp) (sp := sp) (wd := wd) (J := J) (cn := cn) (Q := Q) hg hfr hQ 48 0 I l3 l4 l5 l6 rfl h fr_r
  refine z_WP_gos [2] 1000 fun K C hK hC => ?_
  conv => whnf
  refine hK _ _ _ _ _ _ _ _ _ _ (lp _ _ _ _)
end
