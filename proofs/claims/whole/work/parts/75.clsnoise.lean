/-! the class: noise; what is told, in both -/
theorem perm_put {f g : Nat → Int32} {k0 : Nat} {v : Int32} (hg : ∀ k, k ≠ k0 → g k = f k) (hv : g k0 = v) (hp : z_pos v = true) (hf : z_pos (f k0) = false) : ∀ l : List Nat, l.Nodup → k0 ∈ l → ((l.map g).filter z_pos).Perm (v :: (l.map f).filter z_pos)
  | [], _, h => by cases h
  | a :: l, hn, h => by
    have hn1 := (List.nodup_cons.mp hn).1
    have hn2 := (List.nodup_cons.mp hn).2
    by_cases e : a = k0
    · subst e
      have : l.map g = l.map f := List.map_congr_left fun k hk => hg k (fun z => hn1 (z ▸ hk))
      simp only [List.map_cons, List.filter_cons]
      rw [hv, hp, hf, this]
      exact List.Perm.refl _
    · have hm : k0 ∈ l := by
        rcases List.mem_cons.mp h with z | z
        · exact absurd z.symm e
        · exact z
      have ih := perm_put hg hv hp hf l hn2 hm
      simp only [List.map_cons, List.filter_cons]
      rw [hg a e]
      by_cases z : z_pos (f a) = true
      · rw [if_pos z, if_pos z]
        exact (ih.cons _).trans (List.Perm.swap _ _ _)
      · rw [if_neg z, if_neg z]
        exact ih
theorem nsl_put {w : Nat → Int32} {b p : Nat} {v : Int32} (hp : p < 8) (hv : z_pos v = true) (hf : z_pos (w (15 + 8 * b + p)) = false) : (nsl (upd w (15 + 8 * b + p) v) b).Perm (v :: nsl w b) := by
  unfold nsl
  exact perm_put (f := fun k => w (15 + 8 * b + k)) (g := fun k => upd w (15 + 8 * b + p) v (15 + 8 * b + k)) (k0 := p) (fun k hk => pk_un (by omega)) pk_us hv hf (List.range 8) List.nodup_range (List.mem_range.mpr hp)
theorem nsl_o {w : Nat → Int32} {b b' p : Nat} {v : Int32} (hb : b < 2) (hb' : b' < 2) (h : b ≠ b') (hp : p < 8) : nsl (upd w (15 + 8 * b + p) v) b' = nsl w b' := nsl_c fun k hk => pk_un (by omega)
section
variable {L : Nat} {xs : Nat → Int32} {d : Nat} {kp sp wd : Value} {I : z_I} {s : z_sg} {R : z_R} {J : z_J} {F : z_F} {cn : Nat} {Q : z_Q} {n k : Nat} {w : Nat → Int32}
theorem cw_addNoise {b n' : Nat} (hb : b < 2) (hn1 : 1 ≤ n') (hn2 : n' ≤ 999) (hn : n + 2000 < 2 ^ 30) (h : wR I s.2.1 n k)
    (h0 : cntn s.2.1 b 8 = 8 → Q (some (.int (-1))) I (z_R0 kp sp wd) J F cn)
    (h1 : cntn s.2.1 b 8 < 8 → ∀ I', fr [12, 13] I I' → wR I' (m_noise s b n').2.1 n k → Q (some (.int (nI (cntn (m_noise s b n').2.1 b 8)))) I' (z_R0 kp sp wd) J F cn) :
    z_M (z_X0 L xs) z_P0 d m_Wires_addNoise [.ref 10, .int (nI b), .int (nI n')] I (z_R0 kp sp wd) J F cn Q := by
  obtain ⟨⟨a1, a2, a3, a4, a5⟩, b5, tr⟩ := id h
  obtain ⟨p, hp8, e13, hperm⟩ := a3 b hb
  obtain ⟨a, ha, ea⟩ := a4 b hb
  have hlen : cntn s.2.1 b 8 = p := by
    have := hperm.length_eq
    rw [nsl_len] at this
    rw [this]; unfold ncl; rw [List.length_map, List.length_range]
  have es := a1 b hb
  rw [ea] at es
  refine z_WP_gos [] 1000 fun K C hK hC => ?_
  conv => whnf
  repeat ((first | refine And.intro (by (conv => arg 2; whnf); (try simp only [z_lit, nI_add, pk_mul, z_pr1, z_pr2]); exact z_in (by omega) (by decide)) ?_ | refine z_bt1 (by decide) ?_ | refine z_bf1 (by decide) ?_ | refine z_bt2 (by decide) ?_ | refine z_bf2 (by decide) ?_); conv => whnf)
  refine ⟨fun g => ?_, fun g => ?_⟩ <;> (try simp (disch := omega) only [z_lit, nI_add, pk_mul, z_pr1, z_pr2, nI_clamp, z_up_row, z_row_s, z_row_n, z_row_row, pk_us, pk_un] at g) <;> (conv => whnf)
  · rw [e13] at g
    have hp : p < 8 := by
      apply Nat.lt_of_not_le; intro z
      exact nI_nlt (a := p) (b := 8) z (by omega) g
    have fs := fr_spec (w := s.2.1) (b := b) 8 0 rfl rfl (by omega)
    have hvp : z_pos (nI (a + n')) = true := by
      obtain ⟨m, hm⟩ : ∃ m, a + n' = m + 1 := ⟨a + n' - 1, by omega⟩
      rw [hm]; exact z_pos_nI (by omega)
    have en : (m_noise s b n').2.1 = upd s.2.1 (15 + 8 * b + s_fr s.2.1 b 8 0) (nI (a + n')) := by
      unfold m_noise m_w; rw [ea, nI_add]
    have pp := nsl_put (w := s.2.1) (b := b) (v := nI (a + n')) fs.1 hvp fs.2
    have hl2 : cntn (m_noise s b n').2.1 b 8 = p + 1 := by
      have := pp.length_eq
      rw [nsl_len, List.length_cons, nsl_len, hlen] at this
      rw [en]; exact this
    have hpo := fun b' hb' hne => nsl_o (w := s.2.1) (b := b) (b' := b') (v := nI (a + n')) hb hb' hne fs.1
    generalize s_fr s.2.1 b 8 0 = f0 at *
    simp (disch := omega) only [z_lit, nI_add, pk_mul, z_pr1, z_pr2, nI_clamp, z_up_row, z_row_s, z_row_n, z_row_row, pk_us, pk_un]
    rw [e13]
    repeat ((first | refine And.intro (by (conv => arg 2; whnf); (try simp only [z_lit, nI_add, pk_mul, z_pr1, z_pr2]); exact z_in (by omega) (by decide)) ?_ | refine z_bt1 (by decide) ?_ | refine z_bf1 (by decide) ?_ | refine z_bt2 (by decide) ?_ | refine z_bf2 (by decide) ?_); conv => whnf)
    simp (disch := omega) only [z_lit, nI_add, pk_mul, z_pr1, z_pr2, nI_clamp, z_up_row, z_row_s, z_row_n, z_row_row, pk_us, pk_un]
    rw [e13, es]
    simp (disch := omega) only [z_lit, nI_add, pk_mul, z_pr1, z_pr2, nI_clamp, z_up_row, z_row_s, z_row_n, z_row_row, pk_us, pk_un]
    have q := h1 (by omega) (z_row (z_row I 12 (upd (I 12) (b * 8 + p) (nI (a + n')))) 13 (upd (I 13) b (nI (p + 1)))) (fr_w (fr_w fr_r (by decide)) (by decide)) ?_
    · rw [hl2] at q
      exact q
    · rw [en]
      refine ⟨⟨fun b' hb' => ?_, fun b' hb' j hj => ?_, fun b' hb' => ?_, fun b' hb' => ?_, ?_⟩, ?_, ?_⟩
      · rw [pk_un (by omega)]; exact a1 b' hb'
      · rw [pk_un (by omega)]; exact a2 b' hb' j hj
      · by_cases z : b' = b
        · subst z
          refine ⟨p + 1, by omega, pk_us, ?_⟩
          show (nsl _ b').Perm (ncl (upd (I 12) (b' * 8 + p) (nI (a + n'))) b' (p + 1))
          rw [ncl_s, pk_us, ncl_c (r := I 12) fun j hj => pk_un (by omega)]
          exact pp.trans ((hperm.cons _).trans (List.perm_append_singleton _ _).symm)
        · obtain ⟨p2, h1, h2, h3⟩ := a3 b' hb'
          refine ⟨p2, h1, (pk_un z).trans h2, ?_⟩
          show (nsl _ b').Perm (ncl (upd (I 12) (b * 8 + p) (nI (a + n'))) b' p2)
          rw [hpo b' hb' (fun y => z y.symm), ncl_c (r := I 12) fun j hj => pk_un (by omega)]
          exact h3
      · rw [pk_un (by omega)]; exact a4 b' hb'
      · obtain ⟨m0, m1, m3, m4, m5, m6⟩ := a5
        refine ⟨m0, m1, m3, m4, by rw [pk_un (by omega)]; exact m5, fun r hr hr2 => ?_⟩
        rw [pk_un (by omega), pk_un (by omega), pk_un (by omega), pk_un (by omega)]
        exact m6 r hr hr2
      · rw [pk_un (by omega)]; exact b5
      · obtain ⟨m0, m1, m3, m4, m5, m6⟩ := tr
        refine ⟨m0, m1, m3, m4, by rw [pk_un (by omega)]; exact m5, fun r hr => ?_⟩
        rw [pk_un (by omega)]; exact m6 r hr
  · rw [e13] at g
    have hp : p = 8 := by
      rcases Nat.lt_or_eq_of_le hp8 with z | z
      · exact absurd (nI_lt z (by decide)) g
      · exact z
    exact h0 (by omega)
/-- units and buses, in both -/
def bR (I : z_I) (F : z_F) (w : Nat → Int32) (n k : Nat) : Prop := uRel I F w ∧ wR I w n k ∧ kW w ∧ gW w
theorem bR_tell {I' : z_I} {w' : Nat → Int32} {t q v : Int32} {t' q' v' : Nat} (h : bR I F w n k) (ht : tmv t q v t' q' v') (h3 : I' 3 = upd (I 3) (t' * 18 + q') (nI v')) (hI : ∀ b, b ≠ 3 → I' b = I b) (hw : w' = upd w (tpl q' + t') (nI v')) : bR I' F w' n k := by
  obtain ⟨⟨u1, u2, u3, u4⟩, b, ⟨⟨v1, v2, v3⟩, k2, k3, k4, k5⟩, g⟩ := h
  obtain ⟨-, -, -, h1, h2, h4, h5, h6⟩ := ht
  have e : ∀ j, j ≠ tpl q' + t' → w' j = w j := fun j hj => by rw [hw, pk_un hj]
  have ev : w' (tpl q' + t') = nI v' := by rw [hw, pk_us]
  have hr : (q' = 0 ∧ tpl q' = 31) ∨ (1 ≤ q' ∧ tpl q' = 32 + 8 * q' ∧ t' < 8) := by
    unfold tpl
    by_cases z : q' = 0
    · exact Or.inl ⟨z, if_pos z⟩
    · exact Or.inr ⟨by omega, if_neg z, by rcases Nat.lt_or_eq_of_le h1 with y | y; exact y; exact absurd (h4 y) z⟩
  have hv01 : q' ≤ 5 → v01 (nI v') := fun z => by
    have : tmost q' = 1 := by unfold tmost; rw [if_pos (by omega)]
    rw [this] at h5
    rcases (show v' = 0 ∨ v' = 1 by omega) with y | y
    · rw [y]; exact Or.inl rfl
    · rw [y]; exact Or.inr rfl
  have hb16 : b16 (nI v') := ⟨v', by have := tmost_le q'; omega, rfl⟩
  refine ⟨⟨⟨fun u hu p p1 p2 => ?_, fun u hu => ?_, fun p p1 p2 => ?_⟩, fun j hj => ?_, fun j hj => ?_, fun j hj => ?_⟩, wR_of b (fun b h1 h2 => hI b (by omega)) (fun j hj => e j (by omega)), ⟨⟨fun t ht => ?_, fun j a b => ?_, fun j a b => ?_⟩, fun j a b => ?_, fun j hj => ?_, ?_, ?_⟩, ⟨fun c hc => ?_, fun c hc => ?_⟩⟩
  · rw [h3]
    by_cases z : u * 18 + p = t' * 18 + q'
    · obtain ⟨rfl, rfl⟩ : u = t' ∧ p = q' := by omega
      exact (pk_us.trans ev.symm).trans (congrArg w' (by omega))
    · rw [pk_un z, e _ (by omega)]; exact u1.1 u hu p p1 p2
  · rw [h3]
    by_cases z : u * 18 + 0 = t' * 18 + q'
    · obtain ⟨rfl, rfl⟩ : u = t' ∧ 0 = q' := by omega
      exact (pk_us.trans ev.symm).trans (congrArg w' (by omega))
    · rw [pk_un z, e _ (by omega)]; exact u1.2.1 u hu
  · rw [h3, pk_un (by omega)]; exact u1.2.2 p p1 p2
  · rw [hI 4 (by omega), e _ (by omega)]; exact u2 j hj
  · rw [hI 5 (by omega), hI 6 (by omega), hI 7 (by omega), e _ (by omega), e _ (by omega), e _ (by omega), e _ (by omega)]; exact u3 j hj
  · rw [hI 9 (by omega), e _ (by omega)]; exact u4 j hj
  · by_cases z : 31 + t = tpl q' + t'
    · rw [z, ev]; exact hv01 (by omega)
    · rw [e _ z]; exact v1 t ht
  · by_cases z : j = tpl q' + t'
    · subst z; rw [ev]; exact hv01 (by omega)
    · rw [e _ z]; exact v2 j a b
  · rw [e _ (by omega)]; exact v3 j a b
  · rw [e _ (by omega)]; exact k2 j a b
  · by_cases z : j = tpl q' + t'
    · subst z; rw [ev]; exact hb16
    · rw [e _ z]; exact k3 j hj
  · rw [e _ (by omega)]; exact k4
  · rw [e _ (by omega)]; exact k5
  · rw [e _ (by omega)]; exact g.1 c hc
  · rw [e _ (by omega)]; exact g.2 c hc
theorem bR_noise {I' : z_I} {b n' : Nat} (h : bR I F s.2.1 n k) (hb : b < 2) (hl : cntn s.2.1 b 8 < 8) (hI : fr [12, 13] I I') (hw : wR I' (m_noise s b n').2.1 n k) : bR I' F (m_noise s b n').2.1 n k := by
  have fs := fr_spec (w := s.2.1) (b := b) 8 0 rfl rfl hl
  have e : ∀ j, (j < 15 ∨ 31 ≤ j) → (m_noise s b n').2.1 j = s.2.1 j := fun j hj => pk_un (by omega)
  refine ⟨uRel_of h.1 (fun b h1 h2 => hI b (by simp only [List.mem_cons, List.not_mem_nil, or_false, not_or]; omega)) (fun j hj => e j (by omega)), hw, kW_of h.2.2.1 (fun j hj => e j (by omega)), ⟨fun c hc => ?_, fun c hc => ?_⟩⟩
  · rw [e _ (by omega)]; exact h.2.2.2.1 c hc
  · rw [e _ (by omega)]; exact h.2.2.2.2 c hc
end
