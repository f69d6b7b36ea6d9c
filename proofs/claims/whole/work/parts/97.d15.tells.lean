/-! pairs of calls: those that change the world -/
def sfe (S : List Nat) : Prop := ∀ b, b ∈ S → ¬ (b = 32 ∨ b = 33 ∨ b = 42 ∨ b = 45 ∨ 50 ≤ b ∨ b = 40 ∨ b = 41 ∨ b = 44 ∨ b = 18 ∨ b = 19 ∨ b = 23)
theorem sfe_o {S : List Nat} (h : sfe S) {I I' : z_I} (hf : fr S I I') {b : Nat} (hb : b = 32 ∨ b = 33 ∨ b = 42 ∨ b = 45 ∨ 50 ≤ b ∨ b = 40 ∨ b = 41 ∨ b = 44 ∨ b = 18 ∨ b = 19 ∨ b = 23) : I' b = I b := hf b fun z => h b z hb
theorem sfe_cP : sfe cP := by
  intro b hb
  simp only [List.mem_cons, List.not_mem_nil, or_false] at hb
  omega
theorem sfe_cT : sfe cT := by
  intro b hb
  simp only [List.mem_cons, List.not_mem_nil, or_false] at hb
  omega
theorem sfe_1 : sfe [1] := by
  intro b hb; simp only [List.mem_cons, List.not_mem_nil, or_false] at hb; omega
theorem sfe_3 : sfe [3] := by
  intro b hb; simp only [List.mem_cons, List.not_mem_nil, or_false] at hb; omega
theorem sfe_4 : sfe [4] := by
  intro b hb; simp only [List.mem_cons, List.not_mem_nil, or_false] at hb; omega
theorem sfe_567 : sfe [5, 6, 7] := by
  intro b hb; simp only [List.mem_cons, List.not_mem_nil, or_false] at hb; omega
theorem sfe_1213 : sfe [12, 13] := by
  intro b hb; simp only [List.mem_cons, List.not_mem_nil, or_false] at hb; omega
theorem tmv_u {t q v : Int32} {a b e a' b' e' : Nat} (h : tmv t q v a b e) (g : tmv t q v a' b' e') : a = a' ∧ b = b' ∧ e = e' := by
  obtain ⟨h1, h2, h3, h4, h5, -, h7, -⟩ := h
  obtain ⟨g1, g2, g3, g4, g5, -, g7, -⟩ := g
  have x := tmost_le b
  have y := tmost_le b'
  exact ⟨nI_inj9 (by omega) (by omega) (h1.symm.trans g1), nI_inj9 (by omega) (by omega) (h2.symm.trans g2), nI_inj9 (by omega) (by omega) (h3.symm.trans g3)⟩
theorem wdv_u {t u i v : Int32} {a e a' e' : Nat} (h : wdv t u i v a e) (g : wdv t u i v a' e') : a = a' ∧ e = e' := by
  obtain ⟨u1, i1, ⟨x1, x2, x3, x4, x5, x6⟩, h⟩ := h
  obtain ⟨u2, i2, ⟨y1, y2, y3, y4, y5, y6⟩, g⟩ := g
  have eu : u1 = u2 := by have := nI_inj9 (by omega) (by omega) (x1.symm.trans y1); omega
  have ei : i1 = i2 := nI_inj9 (by omega) (by omega) (x3.symm.trans y3)
  refine ⟨?_, nI_inj9 (by omega) (by omega) (x5.symm.trans y5)⟩
  rcases h with ⟨h1, h2⟩ | ⟨t1, z1, z2, z3⟩ <;> rcases g with ⟨g1, g2⟩ | ⟨t2, s1, s2, s3⟩
  · omega
  · exact absurd (s2.symm.trans h1) (tne_1 t2 (by omega))
  · exact absurd (z2.symm.trans g1) (tne_1 t1 (by omega))
  · have et : t1 = t2 := nI_inj9 (by omega) (by omega) (z2.symm.trans s2)
    subst et; subst eu; subst ei; omega
theorem wdv_ab {t u i v : Int32} {a e : Nat} (h : wdv t u i v a e) : 192 ≤ a ∧ a < 1392 ∧ e ≤ 65535 := by
  obtain ⟨u1, i1, ⟨x1, x2, x3, x4, x5, x6⟩, h⟩ := h
  rcases h with ⟨h1, h2⟩ | ⟨t1, z1, z2, z3⟩ <;> omega
theorem sgv_u {t u a b : Int32} {x y x' y' : Nat} (h : sgv t u a b x y) (g : sgv t u a b x' y') : x = x' ∧ y = y' := by
  obtain ⟨h1, h2, h3, h4, -⟩ := h
  obtain ⟨g1, g2, g3, g4, -⟩ := g
  refine ⟨nI_inj9 (by omega) (by omega) (h1.symm.trans g1), ?_⟩
  have := nI_inj9 (by omega) (by omega) (h2.symm.trans g2)
  omega
theorem nzv_u {t u : Int32} {x y x' y' : Nat} (h : nzv t u x y) (g : nzv t u x' y') : x = x' ∧ y = y' := by
  obtain ⟨h1, h2, h3, h4, h5⟩ := h
  obtain ⟨g1, g2, g3, g4, g5⟩ := g
  exact ⟨nI_inj9 (by omega) (by omega) (h1.symm.trans g1), nI_inj9 (by omega) (by omega) (h2.symm.trans g2)⟩
theorem onc_u {s : z_sg} {w : Nat → Int32} {b k t u n : Int32} {B K T U N B' K' T' U' N' : Nat} (h : oq w b k t u n B K T U N) (g : oq w b k t u n B' K' T' U' N') : m_onc s B K T U N = m_onc s B' K' T' U' N' := by
  obtain ⟨⟨h1, h2⟩, ⟨h3, h4⟩, -, h5, h6, h7⟩ := h
  obtain ⟨⟨g1, g2⟩, ⟨g3, g4⟩, -, g5, g6, g7⟩ := g
  obtain rfl : B = B' := nI_inj9 (by omega) (by omega) (h1.symm.trans g1)
  obtain rfl : K = K' := nI_inj9 (by omega) (by omega) (h3.symm.trans g3)
  have hK : K = 0 ∨ K = 1 ∨ K = 2 ∨ K = 3 := by omega
  have eN : N = N' := by
    by_cases z : K = 3
    · obtain ⟨x1, x2, x3⟩ := h6 z
      obtain ⟨y1, y2, y3⟩ := g6 z
      exact nI_inj9 (by omega) (by omega) (x1.symm.trans y1)
    · obtain ⟨-, x1, x2, x3⟩ := h5 (by omega)
      obtain ⟨-, y1, y2, y3⟩ := g5 (by omega)
      exact nI_inj9 (by omega) (by omega) (x1.symm.trans y1)
  subst eN
  have eU : K < 3 → U = U' := fun z => by
    obtain ⟨⟨x1, x2⟩, -⟩ := h5 z
    obtain ⟨⟨y1, y2⟩, -⟩ := g5 z
    have := nI_inj9 (by omega) (by omega) (x1.symm.trans y1)
    omega
  have eT : K ≠ 2 → T = T' := fun z => by
    obtain ⟨⟨x1, x2⟩, -⟩ := h7 z
    obtain ⟨⟨y1, y2⟩, -⟩ := g7 z
    exact nI_inj9 (by omega) (by omega) (x1.symm.trans y1)
  rcases hK with rfl | rfl | rfl | rfl
  · rw [eU (by decide), eT (by decide)]
  · rw [eU (by decide), eT (by decide)]
  · rw [eU (by decide), onc_2, onc_2]
  · rw [eT (by decide), onc_3, onc_3]
section
variable {L : Nat} {xs : Nat → Int32} {kp sp wd : Value} {I : z_I} {J : z_J} {F : z_F} {cn c n k ln M : Nat}
theorem fin_mut {I1 : z_I} {F1 : z_F} {s' : z_sg} {S : List Nat} (h : LI kp sp cn I F c) (hf : fr S I I1) (hS : sfe S) (hF : ∀ b, b ≠ 8 → F1 b = F b) (hk : ∀ j, kK j → s'.1 j = I 40 j) (hR1 : hR I1 F1 s'.2.1 n k ln) (b1 : n ≤ 192000 * (c + 1)) (b2 : k ≤ 36000 * (c + 1)) (b3 : ln ≤ 1440 * (c + 1)) (h0 : s'.2.1 0 = nI M) (hM : M ≤ 9999) (h6 : v01 (s'.1 6)) :
    ∃ kp' sp' wd', z_R0 kp sp wd = z_R0 kp' sp' wd' ∧ LI kp' sp' cn (z_ms I1 s') F1 (c + 1) := by
  obtain ⟨n0, k0, l0, M0, -, -, -, -, hl, -⟩ := h.1
  refine ⟨kp, sp, wd, rfl, LI_w h (rst_ms hf (fun b z y => hS b z (by omega)) hk) (fun b hb => hF b (by omega)) (LW_ms hR1 b1 b2 b3 (hL_c hl (by rw [sfe_o hS hf (by omega)]) (sfe_o hS hf (by omega)) (sfe_o hS hf (by omega))) h0 hM) h6⟩
theorem pf_set {a1 a2 : Int32} (hc : c < 512) (h : LI kp sp cn I F c) : PF L xs m_Bus_set m_Mod_set [.int a1, .int a2] c I (z_R0 kp sp wd) J F cn := by
  have fin := fin_id (wd := wd) h
  obtain ⟨n, k, ln, M, hr, bn, bk, bl, hl, hM, hM9⟩ := h.1
  obtain ⟨-, ⟨c5, c6, c7, c10⟩, -, ⟨p, tb, rt, hrt, ert⟩, -⟩ := id hr
  refine cb_set (fun ha => ⟨_, rfl, M_ms (z_row_n _ _ (by decide)) (z_row_n _ _ (by decide)) (z_row_n _ _ (by decide)) (sp_set (fun _ => ⟨rfl, ?_⟩) (fun hb => absurd (ha.1.symm.trans hb.1) (by decide)) (fun h0 _ => absurd ha h0))⟩)
    (fun hb => ⟨_, rfl, M_ms (z_row_n _ _ (by decide)) (z_row_n _ _ (by decide)) (z_row_n _ _ (by decide)) (sp_set (fun ha => absurd (ha.1.symm.trans hb.1) (by decide)) (fun _ => ⟨rfl, ?_⟩) (fun _ h1 => absurd hb h1))⟩)
    (fun h0 h1 => ⟨_, rfl, M_ms rfl rfl rfl (sp_set (fun ha => absurd ha h0) (fun hb => absurd hb h1) (fun _ _ => ⟨rfl, fin⟩))⟩)
  · obtain ⟨M', hM', e⟩ := isIn_nat (b := 9999) (by decide) (Int32.le_trans (by decide) ha.2.1) ha.2.2
    subst e
    refine fin_mut h (S := [1]) (fr_w fr_r (by decide)) sfe_1 (fun _ _ => rfl) (fun _ _ => rfl) (n := n) (k := k) (ln := ln) (M := M') (hR_set hr (fun j x y => by rw [z_row_s, pk_un x]) ?_ ?_ ?_ (fun b hb => z_row_n _ _ hb) (fun j hj => ?_)) (by omega) (by omega) (by omega) ?_ hM' h.2.1
    · show z_row I 1 (upd (I 1) 5 (nI M')) 1 5 = upd (I 41) 0 (nI M') 0
      rw [z_row_s, pk_us, pk_us]
    · show z_row I 1 (upd (I 1) 5 (nI M')) 1 6 = upd (I 41) 0 (nI M') 1
      rw [z_row_s, pk_un (by decide), pk_un (by decide)]; exact c6
    · exact ⟨rt, hrt, by show upd (I 41) 0 (nI M') 1 = nI rt; rw [pk_un (by decide)]; exact ert⟩
    · show upd (I 41) 0 (nI M') j = I 41 j
      rw [pk_un (by omega)]
    · show upd (I 41) 0 (nI M') 0 = nI M'
      rw [pk_us]
  · obtain ⟨r', hr', e⟩ := isIn_nat (b := 3) (by decide) hb.2.1 hb.2.2
    subst e
    refine fin_mut h (S := [1]) (fr_w fr_r (by decide)) sfe_1 (fun _ _ => rfl) (fun _ _ => rfl) (n := n) (k := k) (ln := ln) (M := M) (hR_set hr (fun j x y => by rw [z_row_s, pk_un y]) ?_ ?_ ?_ (fun b hb => z_row_n _ _ hb) (fun j hj => ?_)) (by omega) (by omega) (by omega) ?_ hM9 h.2.1
    · show z_row I 1 (upd (I 1) 6 (nI r')) 1 5 = upd (I 41) 1 (nI r') 0
      rw [z_row_s, pk_un (by decide), pk_un (by decide)]; exact c5
    · show z_row I 1 (upd (I 1) 6 (nI r')) 1 6 = upd (I 41) 1 (nI r') 1
      rw [z_row_s, pk_us, pk_us]
    · exact ⟨r', hr', by show upd (I 41) 1 (nI r') 1 = nI r'; rw [pk_us]⟩
    · show upd (I 41) 1 (nI r') j = I 41 j
      rw [pk_un (by omega)]
    · show upd (I 41) 1 (nI r') 0 = nI M
      rw [pk_un (by decide)]; exact hM
theorem tpl_ne {q t : Nat} : tpl q + t ≠ 0 := by unfold tpl; split <;> omega
theorem pf_terminal {a1 a2 a3 : Int32} (hc : c < 512) (h : LI kp sp cn I F c) : PF L xs m_Bus_terminal m_Mod_terminal [.int a1, .int a2, .int a3] c I (z_R0 kp sp wd) J F cn := by
  have fin := fin_id (wd := wd) h
  obtain ⟨n, k, ln, M, hr, bn, bk, bl, hl, hM, hM9⟩ := h.1
  refine cb_terminal (s := (I 40, I 41, I 44)) hr (fun t q v I' hq hr' hf => ⟨_, rfl, M_ms (sfe_o sfe_3 hf (by omega)) (sfe_o sfe_3 hf (by omega)) (sfe_o sfe_3 hf (by omega)) (sp_terminal (fun t2 q2 v2 hq2 => ⟨rfl, ?_⟩) (fun hn => absurd hq (hn t q v)))⟩) (fun hn => ⟨_, rfl, M_ms rfl rfl rfl (sp_terminal (fun t2 q2 v2 hq2 => absurd hq2 (hn t2 q2 v2)) (fun _ => ⟨rfl, fin⟩))⟩)
  obtain ⟨rfl, rfl, rfl⟩ := tmv_u hq hq2
  refine fin_mut h hf sfe_3 (fun _ _ => rfl) (fun _ _ => rfl) hr' (by omega) (by omega) (by omega) (M := M) ?_ hM9 h.2.1
  show upd (I 41) _ _ 0 = nI M
  rw [pk_un (Ne.symm tpl_ne)]; exact hM
theorem pf_word {a1 a2 a3 a4 : Int32} (hc : c < 512) (h : LI kp sp cn I F c) : PF L xs m_Bus_word m_Mod_word [.int a1, .int a2, .int a3, .int a4] c I (z_R0 kp sp wd) J F cn := by
  have fin := fin_id (wd := wd) h
  obtain ⟨n, k, ln, M, hr, bn, bk, bl, hl, hM, hM9⟩ := h.1
  refine cb_word (fun a e hq => ⟨_, rfl, M_ms (z_row_n _ _ (by decide)) (z_row_n _ _ (by decide)) (z_row_n _ _ (by decide)) (sp_word (fun a2 e2 hq2 => ⟨rfl, ?_⟩) (fun hn => absurd hq (hn a e)))⟩) (fun hn => ⟨_, rfl, M_ms rfl rfl rfl (sp_word (fun a2 e2 hq2 => absurd hq2 (hn a2 e2)) (fun _ => ⟨rfl, fin⟩))⟩)
  obtain ⟨rfl, rfl⟩ := wdv_u hq hq2
  obtain ⟨x1, x2, x3⟩ := wdv_ab hq
  refine fin_mut h (S := [4]) (fr_w fr_r (by decide)) sfe_4 (fun _ _ => rfl) (fun _ _ => rfl) (hR_word hr x1 x2 ⟨e, by omega, rfl⟩ (z_row_s _ _ _) (fun b hb => z_row_n _ _ hb)) (by omega) (by omega) (by omega) (M := M) ?_ hM9 h.2.1
  show upd (I 41) _ _ 0 = nI M
  rw [pk_un (by omega)]; exact hM
theorem pf_signal {a1 a2 a3 a4 : Int32} (hc : c < 512) (h : LI kp sp cn I F c) : PF L xs m_Bus_signal m_Mod_signal [.int a1, .int a2, .int a3, .int a4] c I (z_R0 kp sp wd) J F cn := by
  have fin := fin_id (wd := wd) h
  obtain ⟨n, k, ln, M, hr, bn, bk, bl, hl, hM, hM9⟩ := h.1
  refine cb_signal (s := (I 40, I 41, I 44)) hr (fun t u I' hq hr' hf => ⟨_, rfl, M_ms (sfe_o sfe_567 hf (by omega)) (sfe_o sfe_567 hf (by omega)) (sfe_o sfe_567 hf (by omega)) (sp_signal (fun t2 u2 hq2 => ⟨rfl, ?_⟩) (fun hn => absurd hq (hn t u)))⟩) (fun hn => ⟨_, rfl, M_ms rfl rfl rfl (sp_signal (fun t2 u2 hq2 => absurd hq2 (hn t2 u2)) (fun _ => ⟨rfl, fin⟩))⟩)
  obtain ⟨rfl, rfl⟩ := sgv_u hq hq2
  refine fin_mut h hf sfe_567 (fun _ _ => rfl) (fun _ _ => rfl) hr' (by omega) (by omega) (by omega) (M := M) ?_ hM9 h.2.1
  show upd (upd (upd (I 41) _ _) _ _) _ _ 0 = nI M
  rw [pk_un (by omega), pk_un (by omega), pk_un (by omega)]; exact hM
theorem pf_noise {a1 a2 : Int32} (hc : c < 512) (h : LI kp sp cn I F c) : PF L xs m_Bus_noise m_Mod_noise [.int a1, .int a2] c I (z_R0 kp sp wd) J F cn := by
  have fin := fin_id (wd := wd) h
  obtain ⟨n, k, ln, M, hr, bn, bk, bl, hl, hM, hM9⟩ := h.1
  refine cb_noise (s := (I 40, I 41, I 44)) hr (by omega) (fun t u I' hq hlt hr' hf => ⟨_, rfl, M_ms (sfe_o sfe_1213 hf (by omega)) (sfe_o sfe_1213 hf (by omega)) (sfe_o sfe_1213 hf (by omega)) (sp_noise (fun t2 u2 hq2 hlt2 => ⟨?_, ?_⟩) (fun hn => absurd (hn t u hq) (Nat.ne_of_lt hlt)))⟩) (fun hn => ⟨_, rfl, M_ms rfl rfl rfl (sp_noise (fun t2 u2 hq2 hlt2 => absurd (hn t2 u2 hq2) (Nat.ne_of_lt hlt2)) (fun _ => ⟨rfl, fin⟩))⟩)
  · obtain ⟨rfl, rfl⟩ := nzv_u hq hq2
    rfl
  · obtain ⟨rfl, rfl⟩ := nzv_u hq hq2
    refine fin_mut h hf sfe_1213 (fun _ _ => rfl) (fun _ _ => rfl) hr' (by omega) (by omega) (by omega) (M := M) ?_ hM9 h.2.1
    show upd (I 41) _ _ 0 = nI M
    rw [pk_un (by omega)]; exact hM
theorem pf_frame {a1 : Int32} (hc : c < 512) (h : LI kp sp cn I F c) : PF L xs m_Bus_frame m_Mod_frame [.int a1] c I (z_R0 kp sp wd) J F cn := by
  have fin := fin_id (wd := wd) h
  obtain ⟨n, k, ln, M, hr, bn, bk, bl, hl, hM, hM9⟩ := h.1
  obtain ⟨f, hf, h2⟩ := hr.1.2.2.1.2.2.2.2
  obtain ⟨co, ho⟩ := hR_oF (s := (I 40, I 41, I 44)) hr h2 hf
  refine cb_frame (s := (I 40, I 41, I 44)) hr h.2.1 h2 hf (by omega) (by omega) (fun N I' F' n' k' ln' e hN1 hN hle hr' ha y1 y2 y3 hfr hF => ⟨_, rfl, M_ms (sfe_o sfe_cP hfr (by omega)) (sfe_o sfe_cP hfr (by omega)) (sfe_o sfe_cP hfr (by omega)) (sp_frame ho (by omega) (by omega) hf (fun N2 e2 hN21 hN2 hle2 => ⟨?_, ?_⟩) (fun hn => absurd hle (hn N e hN1 hN)))⟩) (fun hn => ⟨_, rfl, M_ms rfl rfl rfl (sp_frame ho (by omega) (by omega) hf (fun N2 e2 hN21 hN2 hle2 => absurd hle2 (hn N2 e2 hN21 hN2)) (fun _ => ⟨rfl, fin⟩))⟩)
  · obtain rfl : N = N2 := nI_inj9 (by omega) (by omega) (e.symm.trans e2)
    rfl
  · obtain rfl : N = N2 := nI_inj9 (by omega) (by omega) (e.symm.trans e2)
    obtain ⟨g1, g2⟩ := fms0_h ho (by omega) hf hN
    exact fin_mut h hfr sfe_cP hF g1 hr' (by omega) (by omega) (by omega) (M := M) (g2.trans hM) hM9 ha.2.2.2
theorem pf_once {a1 a2 a3 a4 a5 : Int32} (hc : c < 512) (h : LI kp sp cn I F c) : PF L xs m_Bus_once m_Mod_once [.int a1, .int a2, .int a3, .int a4, .int a5] c I (z_R0 kp sp wd) J F cn := by
  have fin := fin_id (wd := wd) h
  obtain ⟨n, k, ln, M, hr, bn, bk, bl, hl, hM, hM9⟩ := h.1
  obtain ⟨f, hf, h2⟩ := hr.1.2.2.1.2.2.2.2
  obtain ⟨co, ho⟩ := hR_oF (s := (I 40, I 41, I 44)) hr h2 hf
  obtain ⟨⟨-, -, -, hok, hfok⟩, -, -, -, h3, hc8, -⟩ := ho
  refine cb_once (s := (I 40, I 41, I 44)) hr h.2.1 (by omega) (by omega) (fun B K T U N I' F' n' k' hq hr' h6' y1 y2 hfr hF => ⟨_, rfl, M_ms (sfe_o sfe_cT hfr (by omega)) (sfe_o sfe_cT hfr (by omega)) (sfe_o sfe_cT hfr (by omega)) (sp_once h3 hc8 hok hfok (by omega) (fun B2 K2 T2 U2 N2 hq2 => ⟨?_, ?_⟩) (fun hn => absurd hq (hn B K T U N)))⟩) (fun hn => ⟨_, rfl, M_ms rfl rfl rfl (sp_once h3 hc8 hok hfok (by omega) (fun B2 K2 T2 U2 N2 hq2 => absurd hq2 (hn B2 K2 T2 U2 N2)) (fun _ => ⟨rfl, fin⟩))⟩)
  · rw [onc_u hq2 hq]
  · rw [onc_u hq2 hq]
    exact fin_mut h hfr sfe_cT hF (fun j hj => onc_h hj) hr' (by omega) (by omega) (by omega) (M := M) ((onc_o hq (by omega)).trans hM) hM9 h6'
end
