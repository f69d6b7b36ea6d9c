/-! pairs of calls: those that count in scratch rows, and those that read texts -/
section
variable {L : Nat} {xs : Nat → Int32} {kp sp wd : Value} {I : z_I} {J : z_J} {F : z_F} {cn c n k ln M d : Nat} {s : z_sg} {Q : z_Q}
theorem fin_scr {I1 I2 : z_I} (h : LI kp sp cn I F c) (e : z_ms I1 (I 40, I 41, I 44) = I2) (h1 : ∀ b, b ≤ 28 → b ≠ 18 → b ≠ 24 → I2 b = I b) (h18 : I2 18 5 = I 18 5) (h2 : ∀ b, b = 32 ∨ b = 33 ∨ b = 40 ∨ b = 41 ∨ b = 42 ∨ b = 45 ∨ 50 ≤ b → I2 b = I b) :
    ∃ kp' sp' wd', z_R0 kp sp wd = z_R0 kp' sp' wd' ∧ LI kp' sp' cn (z_ms I1 (I 40, I 41, I 44)) F (c + 1) := by
  rw [e]
  obtain ⟨n, k, ln, M, hr, bn, bk, bl, hl, hM, hM9⟩ := h.1
  have hs : sameW I2 I F F := by
    refine ⟨fun q j hq => ?_, fun _ _ => rfl⟩
    by_cases e18 : q = 18
    · subst e18
      have : j = 5 := by unfold cel at hq; omega
      rw [this]; exact h18
    · have : q ≤ 28 ∧ q ≠ 24 := by unfold cel at hq; omega
      rw [h1 q this.1 e18 this.2]
  have hr2 : hR I2 F (I 41) n k ln := hR_I hr hs (fun j hj => by rw [h1 14 (by omega) (by omega) (by omega), h1 16 (by omega) (by omega) (by omega), h1 27 (by omega) (by omega) (by omega)]; exact ⟨rfl, rfl, rfl⟩)
  refine ⟨kp, sp, wd, rfl, LI_w h ⟨fun b hb => h2 b (by omega), fun j _ => by rw [h2 40 (by omega)]⟩ (fun _ _ => rfl) ?_ (by rw [h2 40 (by omega)]; exact h.2.1)⟩
  rw [h2 41 (by omega)]
  exact ⟨n, k, ln, M, hr2, by omega, by omega, by omega, hL_I hl hs (hR_24 hr), hM, hM9⟩
theorem pf_fits {a1 : Int32} (hc : c < 512) (h : LI kp sp cn I F c) : PF L xs m_Bus_fits m_Mod_fits [.int a1] c I (z_R0 kp sp wd) J F cn := by
  obtain ⟨n, k, ln, M, hr, bn, bk, bl, hl, hM, hM9⟩ := h.1
  obtain ⟨-, ⟨c5, c6, c7, c10⟩, -, ⟨p, tb, rt, hrt, ert⟩, -⟩ := id hr
  refine cb_fits p tb hl c5 (fun I' hf h18 => ⟨_, rfl, M_ms (hf 40 (by decide)) (hf 41 (by decide)) (hf 44 (by decide)) (sp_fits tb (fun I2 hI2 => ⟨rfl, ?_⟩))⟩)
  have nin : ∀ b, b ≠ 18 → b ≠ 24 → b ∉ [18, 24] := fun b x y z => by simp only [List.mem_cons, List.not_mem_nil, or_false] at z; omega
  refine fin_scr h rfl (fun b x y z => ?_) ?_ (fun b hb => ?_)
  · rw [ms_o (by omega) (by omega) (by omega), hI2 b (by omega), hf b (nin b y z)]
  · rw [ms_o (by decide) (by decide) (by decide), hI2 18 (by decide)]; exact h18 5 (by decide)
  · by_cases e0 : b = 40
    · subst e0; rfl
    · by_cases e1 : b = 41
      · subst e1; rfl
      · rw [ms_o e0 e1 (by omega), hI2 b (by omega), hf b (nin b (by omega) (by omega))]
theorem sp_spreadI {f q : Int32} {M rt : Nat} (hM : s.2.1 0 = nI M) (hM9 : M ≤ 9999) (ht : tb_ok s.2.1) (hr : s.2.1 1 = nI rt) (hr3 : rt ≤ 3)
    (h1 : ∀ f' q' cm v, f' < 8 → q' ≤ 4 → f = nI f' → q = nI q' → spA s.2.1 f' q' v → Q (some (.int v)) (z_ms (z_row I 49 cm) s) (z_R0 kp sp wd) J F cn)
    (h0 : (∀ f' q', f' < 8 → q' ≤ 4 → f = nI f' → ¬ q = nI q') → Q (some (.int (-1))) (z_ms I s) (z_R0 kp sp wd) J F cn) :
    z_M (z_X0 L xs) z_P0 (d + 4) m_Mod_spread [.ref 40, .int f, .int q] (z_ms I s) (z_R0 kp sp wd) J F cn Q := by
  have r := sp_spread (L := L) (xs := xs) (d := d) (I := I) (cm := I 49) hM hM9 ht hr hr3 h1 (fun z => by rw [z_row_idJ]; exact h0 z)
  rw [z_row_idJ] at r
  exact r
theorem pf_spread {a1 a2 : Int32} (hc : c < 512) (h : LI kp sp cn I F c) : PF L xs m_Bus_spread m_Mod_spread [.int a1, .int a2] c I (z_R0 kp sp wd) J F cn := by
  have fin := fin_id (wd := wd) h
  obtain ⟨n, k, ln, M, hr, bn, bk, bl, hl, hM, hM9⟩ := h.1
  obtain ⟨-, ⟨c5, c6, c7, c10⟩, ⟨r9, r8, r11⟩, ⟨p, tb, rt, hrt, ert⟩, -⟩ := id hr
  refine cb_spread p tb hM hM9 ert hrt c5 c6 r8 (fun f q I' J' v hf hq ef eq hv hfr => ⟨_, rfl, M_ms (hfr 40 (by decide)) (hfr 41 (by decide)) (hfr 44 (by decide)) (sp_spreadI hM hM9 tb ert hrt (fun f2 q2 cm v2 hf2 hq2 ef2 eq2 hv2 => ⟨?_, ?_⟩) (fun hn => absurd eq (hn f q hf hq ef)))⟩) (fun hn => ⟨_, rfl, M_ms rfl rfl rfl (sp_spreadI hM hM9 tb ert hrt (fun f2 q2 cm v2 hf2 hq2 ef2 eq2 hv2 => absurd eq2 (hn f2 q2 hf2 hq2 ef2)) (fun _ => ⟨rfl, fin⟩))⟩)
  · obtain rfl : f = f2 := nI_inj9 (by omega) (by omega) (ef.symm.trans ef2)
    obtain rfl : q = q2 := nI_inj9 (by omega) (by omega) (eq.symm.trans eq2)
    rw [spA_u hq hv2 hv]
  · have nin : ∀ b, b ≠ 35 → b ∉ [35] := fun b x z => by simp only [List.mem_cons, List.not_mem_nil, or_false] at z; omega
    refine fin_scr h rfl (fun b x y z => ?_) ?_ (fun b hb => ?_)
    · rw [ms_o (by omega) (by omega) (by omega), z_row_n _ _ (by omega), hfr b (nin b (by omega))]
    · rw [ms_o (by decide) (by decide) (by decide), z_row_n _ _ (by decide), hfr 18 (by decide)]
    · by_cases e0 : b = 40
      · subst e0; rfl
      · by_cases e1 : b = 41
        · subst e1; rfl
        · rw [ms_o e0 e1 (by omega), z_row_n _ _ (by omega), hfr b (nin b (by omega))]
theorem pf_feed {a1 a2 a3 a4 a5 : Int32} (hc : c < 512) (h : LI kp sp cn I F c) : PF L xs m_Bus_feed m_Mod_feed [.int a1, .int a2, .int a3, .int a4, .int a5] c I (z_R0 kp sp wd) J F cn := by
  have fin := fin_id (wd := wd) h
  obtain ⟨⟨n, k, ln, M, hr, bn, bk, bl, hl, hM, hM9⟩, h6, ⟨t, m, m5, hmT, hrT, h14, h32⟩, hv, hK0, hC0⟩ := id h
  have nin : ∀ b, b ≠ 32 → b ≠ 33 → b ∉ [32, 33] := fun b x y z => by simp only [List.mem_cons, List.not_mem_nil, or_false] at z; omega
  refine cb_feed hrT m5 h32 (fun hm I' hf g2 g3 gT => ⟨_, rfl, M_ms (hf 40 (by decide)) (hf 41 (by decide)) (hf 44 (by decide)) (sp_feed (t := t) (n := m) (fun k hk => by rw [hf 45 (by decide)]; exact hmT k hk) m5 h14 (fun _ r f' x1 x2 x3 => ⟨rfl, ?_⟩) (fun hn => absurd hm hn))⟩) (fun hn => ⟨_, rfl, M_ms rfl rfl rfl (sp_feed hmT m5 h14 (fun hm => absurd hm hn) (fun _ => ⟨rfl, fin⟩))⟩)
  have o : ∀ b, b ≠ 32 → b ≠ 33 → b ≠ 45 → b ≠ 40 → b ≠ 41 → b ≠ 44 → z_ms (z_row I' 45 r) (f', I 41, I 44) b = I b := fun b y1 y2 y3 y4 y5 y6 => by rw [ms_o y4 y5 y6, z_row_n _ _ y3, hf b (nin b y1 y2)]
  have o32 : z_ms (z_row I' 45 r) (f', I 41, I 44) 32 = I' 32 := by rw [ms_o (by decide) (by decide) (by decide), z_row_n _ _ (by decide)]
  refine ⟨kp, sp, wd, rfl, ⟨n, k, ln, M, hR_of hr (fun b hb => o b (by omega) (by omega) (by omega) (by omega) (by omega) (by omega)), by omega, by omega, by omega, hL_c hl (by rw [o 18 (by decide) (by decide) (by decide) (by decide) (by decide) (by decide)]) (o 19 (by decide) (by decide) (by decide) (by decide) (by decide) (by decide)) (o 23 (by decide) (by decide) (by decide) (by decide) (by decide) (by decide)), hM, hM9⟩, ?_, ⟨fdT t m a1 a2 a3 a4 a5, m + 20, hm, fun k hk => ?_, fun k hk => ?_, x2, by rw [o32]; exact g3⟩, ⟨?_, ?_⟩, LK_s (LK_c hK0 ?_ (o 42 (by decide) (by decide) (by decide) (by decide) (by decide) (by decide)) (fun b hb => o b (by omega) (by omega) (by omega) (by omega) (by omega) (by omega)) (fun _ _ => rfl)), hC0⟩
  · show v01 (f' 6)
    rw [x3 6 (by decide)]; exact h6
  · have := x1 k hk
    rw [ms_o (by decide) (by decide) (by decide)]; exact this
  · rw [ms_o (by decide) (by decide) (by decide), z_row_n _ _ (by decide)]; exact gT k hk
  · show z_ms (z_row I' 45 r) (f', I 41, I 44) 32 3 = f' 20
    rw [o32, g2 3 (by decide), x3 20 (by decide)]; exact hv.1
  · show z_ms (z_row I' 45 r) (f', I 41, I 44) 32 4 = f' 23
    rw [o32, g2 4 (by decide), x3 23 (by decide)]; exact hv.2
  · show f' 3 = I 40 3
    exact x3 3 (by decide)
theorem pf_end {a1 : Int32} (hc : c < 512) (h : LI kp sp cn I F c) : PF L xs m_Bus_end m_Mod_end [.int a1] c I (z_R0 kp sp wd) J F cn := by
  have fin := fin_id (wd := wd) h
  obtain ⟨⟨n, k, ln, M, hr, bn, bk, bl, hl, hM, hM9⟩, h6, ⟨t, m, m5, hmT, hrT, h14, h32⟩, hv, hK0, hC0⟩ := id h
  refine cb_end m5 h32 (fun m' hm e => ⟨_, rfl, M_ms (z_row_n _ _ (by decide)) (z_row_n _ _ (by decide)) (z_row_n _ _ (by decide)) (sp_end m5 h14 (fun m2 hm2 e2 => ⟨rfl, ?_⟩) (fun hn => absurd e (hn m' hm)))⟩) (fun hn => ⟨_, rfl, M_ms rfl rfl rfl (sp_end m5 h14 (fun m2 hm2 e2 => absurd e2 (hn m2 hm2)) (fun _ => ⟨rfl, fin⟩))⟩)
  obtain rfl : m' = m2 := nI_inj9 (by omega) (by omega) (e.symm.trans e2)
  have o : ∀ b, b ≠ 32 → b ≠ 40 → b ≠ 41 → b ≠ 44 → z_ms (z_row I 32 (upd (I 32) 2 (nI m'))) (upd (I 40) 14 (nI m'), I 41, I 44) b = I b := fun b y1 y4 y5 y6 => by rw [ms_o y4 y5 y6, z_row_n _ _ y1]
  have o32 : z_ms (z_row I 32 (upd (I 32) 2 (nI m'))) (upd (I 40) 14 (nI m'), I 41, I 44) 32 = upd (I 32) 2 (nI m') := by rw [ms_o (by decide) (by decide) (by decide), z_row_s]
  refine ⟨kp, sp, wd, rfl, ⟨n, k, ln, M, hR_of hr (fun b hb => o b (by omega) (by omega) (by omega) (by omega)), by omega, by omega, by omega, hL_c hl (by rw [o 18 (by decide) (by decide) (by decide) (by decide)]) (o 19 (by decide) (by decide) (by decide) (by decide)) (o 23 (by decide) (by decide) (by decide) (by decide)), hM, hM9⟩, ?_, ⟨t, m', by omega, fun k hk => ?_, fun k hk => ?_, ?_, by rw [o32, pk_us]⟩, ⟨?_, ?_⟩, LK_s (LK_c hK0 ?_ (o 42 (by decide) (by decide) (by decide) (by decide)) (fun b hb => o b (by omega) (by omega) (by omega) (by omega)) (fun _ _ => rfl)), hC0⟩
  · show v01 (upd (I 40) 14 (nI m') 6)
    rw [pk_un (by decide)]; exact h6
  · rw [o 45 (by decide) (by decide) (by decide) (by decide)]; exact hmT k (by omega)
  · rw [o 33 (by decide) (by decide) (by decide) (by decide)]; exact hrT k (by omega)
  · show upd (I 40) 14 (nI m') 14 = nI m'
    rw [pk_us]
  · show z_ms (z_row I 32 (upd (I 32) 2 (nI m'))) (upd (I 40) 14 (nI m'), I 41, I 44) 32 3 = upd (I 40) 14 (nI m') 20
    rw [o32, pk_un (by decide), pk_un (by decide)]; exact hv.1
  · show z_ms (z_row I 32 (upd (I 32) 2 (nI m'))) (upd (I 40) 14 (nI m'), I 41, I 44) 32 4 = upd (I 40) 14 (nI m') 23
    rw [o32, pk_un (by decide), pk_un (by decide)]; exact hv.2
  · show upd (I 40) 14 (nI m') 3 = I 40 3
    rw [pk_un (by decide)]
/-- behind a text that was read -/
theorem fin_rd {I' : z_I} {w' f' g' : Nat → Int32} {a b : Int32} {wd' : Value} {S : List Nat} (h : LI kp sp cn I F c) (hf : fr S I I') (hS : ∀ b, b ∈ S → (18 ≤ b ∧ b ≤ 26) ∨ b = 32 ∨ b = 34) (hw : LW I' F w' (c + 1)) (hC : rdC (I' 32) a b) (hm : rdM f' (I 40) a b) :
    ∃ kp' sp' wd'', z_R0 kp sp wd' = z_R0 kp' sp' wd'' ∧ LI kp' sp' cn (z_ms (z_row I' 46 g') (f', w', I 44)) F (c + 1) := by
  obtain ⟨-, h6, -, hv, hK0, hC0⟩ := h
  have o : ∀ b, b ≠ 46 → b ≠ 40 → b ≠ 41 → b ≠ 44 → z_ms (z_row I' 46 g') (f', w', I 44) b = I' b := fun b y1 y4 y5 y6 => by rw [ms_o y4 y5 y6, z_row_n _ _ y1]
  have o' : ∀ b, 34 < b → b ≠ 46 → b ≠ 40 → b ≠ 41 → b ≠ 44 → z_ms (z_row I' 46 g') (f', w', I 44) b = I b := fun b y0 y1 y4 y5 y6 => by
    rw [o b y1 y4 y5 y6]
    refine hf b fun z => ?_
    have := hS b z
    omega
  obtain ⟨n, k, ln, M, hr, bn, bk, bl, hl, hM, hM9⟩ := hw
  refine ⟨kp, sp, wd', rfl, ⟨n, k, ln, M, hR_of hr (fun b hb => o b (by omega) (by omega) (by omega) (by omega)), bn, bk, bl, hL_c hl (by rw [o 18 (by decide) (by decide) (by decide) (by decide)]) (o 19 (by decide) (by decide) (by decide) (by decide)) (o 23 (by decide) (by decide) (by decide) (by decide)), hM, hM9⟩, ?_, ⟨fun _ => 0, 0, by omega, fun k hk => absurd hk (Nat.not_lt_zero _), fun k hk => absurd hk (Nat.not_lt_zero _), hm.1, ?_⟩, ⟨?_, ?_⟩, LK_s (LK_c hK0 ?_ (o' 42 (by decide) (by decide) (by decide) (by decide) (by decide)) (fun b hb => o' b (by omega) (by omega) (by omega) (by omega) (by omega)) (fun _ _ => rfl)), hC0⟩
  · show v01 (f' 6)
    rw [hm.2.2.2 6 (by omega)]; exact h6
  · rw [o 32 (by decide) (by decide) (by decide) (by decide)]; exact hC.1
  · show z_ms (z_row I' 46 g') (f', w', I 44) 32 3 = f' 20
    rw [o 32 (by decide) (by decide) (by decide) (by decide), hC.2.1, hm.2.1]
  · show z_ms (z_row I' 46 g') (f', w', I 44) 32 4 = f' 23
    rw [o 32 (by decide) (by decide) (by decide) (by decide), hC.2.2, hm.2.2.1]
  · show f' 3 = I 40 3
    exact hm.2.2.2 3 (by omega)
theorem pf_table (hc : c < 512) (h : LI kp sp cn I F c) : PF L xs m_Bus_table m_Mod_table [] c I (z_R0 kp sp wd) J F cn := by
  obtain ⟨⟨n, k, ln, M, hr, bn, bk, bl, hl, hM, hM9⟩, h6, ⟨t, m, m5, hmT, hrT, h14, h32⟩, hv, hK0, hC0⟩ := id h
  have c5 := hr.2.1.1
  have sb : ∀ b, b ∈ [18, 19, 20, 21, 22, 23, 32, 34] → (18 ≤ b ∧ b ≤ 26) ∨ b = 32 ∨ b = 34 := fun b z => by simp only [List.mem_cons, List.not_mem_nil, or_false] at z; omega
  have sb2 : ∀ b, b ∈ [32, 34] → (18 ≤ b ∧ b ≤ 26) ∨ b = 32 ∨ b = 34 := fun b z => by simp only [List.mem_cons, List.not_mem_nil, or_false] at z; omega
  refine cb_table (g := I 46) hr hrT m5 h32 ?_
  cases hP : pall t m 24 0 (I 46) (tkS t m 0) with
  | inl x =>
    intro I' hf hC
    have nin : ∀ b, b ≠ 32 → b ≠ 34 → I' b = I b := fun b x y => hf b fun z => by simp only [List.mem_cons, List.not_mem_nil, or_false] at z; omega
    refine ⟨_, rfl, M_ms (nin 40 (by decide) (by decide)) (nin 41 (by decide) (by decide)) (nin 44 (by decide) (by decide)) (sp_table (t := t) (n := m) (fun k hk => by rw [nin 45 (by decide) (by decide)]; exact hmT k hk) m5 h14 ?_)⟩
    rw [nin 46 (by decide) (by decide), hP]
    intro f' g' hm
    refine ⟨rfl, fin_rd h hf sb2 ⟨n, k, ln, M, hR_of hr (fun b hb => nin b (by omega) (by omega)), by omega, by omega, by omega, hL_c hl (by rw [nin 18 (by decide) (by decide)]) (nin 19 (by decide) (by decide)) (nin 23 (by decide) (by decide)), hM, hM9⟩ hC hm⟩
  | inr x =>
    intro I' hf hr' hl' hC
    have nin : ∀ b, b < 18 ∨ 34 < b → I' b = I b := fun b x => hf b fun z => by simp only [List.mem_cons, List.not_mem_nil, or_false] at z; omega
    refine ⟨_, rfl, M_ms (nin 40 (by decide)) (nin 41 (by decide)) (nin 44 (by decide)) (sp_table (t := t) (n := m) (fun k hk => by rw [nin 45 (by decide)]; exact hmT k hk) m5 h14 ?_)⟩
    rw [nin 46 (by decide), hP]
    intro f' hm
    refine ⟨rfl, fin_rd h hf sb ⟨n, k, ln, M, hr', by omega, by omega, by omega, hl', ?_, hM9⟩ hC hm⟩
    have := hr'.2.1.1
    rw [nin 1 (by decide), c5] at this
    rw [← this]; exact hM
theorem pf_events (hc : c < 512) (h : LI kp sp cn I F c) : PF L xs m_Bus_events m_Mod_events [] c I (z_R0 kp sp wd) J F cn := by
  obtain ⟨⟨n, k, ln, M, hr, bn, bk, bl, hl, hM, hM9⟩, h6, ⟨t, m, m5, hmT, hrT, h14, h32⟩, hv, hK0, hC0⟩ := id h
  have c5 := hr.2.1.1
  have sb : ∀ b, b ∈ [25, 26, 32, 34] → (18 ≤ b ∧ b ≤ 26) ∨ b = 32 ∨ b = 34 := fun b z => by simp only [List.mem_cons, List.not_mem_nil, or_false] at z; omega
  have sb2 : ∀ b, b ∈ [32, 34] → (18 ≤ b ∧ b ≤ 26) ∨ b = 32 ∨ b = 34 := fun b z => by simp only [List.mem_cons, List.not_mem_nil, or_false] at z; omega
  have pc : ∀ g' c', peall t m 24 0 (I 46) (tkS t m 0) = p_ok g' c' → c' ≤ 24 := fun g' c' e => (peall_ok 24 0 (I 46) (tkS t m 0) g' c' rfl (fun i hi => by omega) e).1
  refine cb_events (g := I 46) hr hrT m5 h32 ?_
  cases hP : peall t m 24 0 (I 46) (tkS t m 0) with
  | inl x =>
    intro I' hf hC
    have nin : ∀ b, b ≠ 32 → b ≠ 34 → I' b = I b := fun b x y => hf b fun z => by simp only [List.mem_cons, List.not_mem_nil, or_false] at z; omega
    refine ⟨_, rfl, M_ms (nin 40 (by decide) (by decide)) (nin 41 (by decide) (by decide)) (nin 44 (by decide) (by decide)) (sp_events (t := t) (n := m) (fun k hk => by rw [nin 45 (by decide) (by decide)]; exact hmT k hk) m5 h14 (by rw [nin 46 (by decide) (by decide)]; exact pc) ?_)⟩
    rw [nin 46 (by decide) (by decide), hP]
    intro f' g' hm
    refine ⟨rfl, fin_rd h hf sb2 ⟨n, k, ln, M, hR_of hr (fun b hb => nin b (by omega) (by omega)), by omega, by omega, by omega, hL_c hl (by rw [nin 18 (by decide) (by decide)]) (nin 19 (by decide) (by decide)) (nin 23 (by decide) (by decide)), hM, hM9⟩ hC hm⟩
  | inr x =>
    intro I' hf hr' hC
    have nin : ∀ b, b < 25 ∨ 34 < b → I' b = I b := fun b x => hf b fun z => by simp only [List.mem_cons, List.not_mem_nil, or_false] at z; omega
    refine ⟨_, rfl, M_ms (nin 40 (by decide)) (nin 41 (by decide)) (nin 44 (by decide)) (sp_events (t := t) (n := m) (fun k hk => by rw [nin 45 (by decide)]; exact hmT k hk) m5 h14 (by rw [nin 46 (by decide)]; exact pc) ?_)⟩
    rw [nin 46 (by decide), hP]
    intro f' hm
    refine ⟨rfl, fin_rd h hf sb ⟨n, k, ln, M, hr', by omega, by omega, by omega, hL_c hl (by rw [nin 18 (by decide)]) (nin 19 (by decide)) (nin 23 (by decide)), ?_, hM9⟩ hC hm⟩
    have := hr'.2.1.1
    rw [nin 1 (by decide), c5] at this
    rw [← this]; exact hM
end
