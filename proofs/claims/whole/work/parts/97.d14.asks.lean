/-! pairs of calls: those that ask -/
def PF (L : Nat) (xs : Nat → Int32) (mb mm : Nat) (as : List Value) (c : Nat) (I : z_I) (R : z_R) (J : z_J) (F : z_F) (cn : Nat) : Prop :=
  z_M (z_X0 L xs) z_P0 59 mb (.ref 0 :: as) I R J F cn (fun r I1 R1 J1 F1 cn1 => ∃ v : Int32, r = some (.int v) ∧ z_M (z_X0 L xs) z_P0 59 mm (.ref 40 :: as) I1 R1 J1 F1 cn1 (fun r' I2 R2 J2 F2 cn2 => r' = some (.int v) ∧ ∃ kp sp wd, R2 = z_R0 kp sp wd ∧ LI kp sp cn2 I2 F2 (c + 1)))
theorem evq_u {w : Nat → Int32} {i q : Int32} {a b a' b' : Nat} (hw : (w 2764).toNatClampNeg ≤ 24) (h : evq w i q a b) (g : evq w i q a' b') : a = a' ∧ b = b' :=
  ⟨nI_inj9 (by have := h.2.1; omega) (by have := g.2.1; omega) (h.1.symm.trans g.1), nI_inj9 (by have := h.2.2.2; omega) (by have := g.2.2.2; omega) (h.2.2.1.symm.trans g.2.2.1)⟩
theorem lq_u {w : Nat → Int32} {i q : Int32} {a b a' b' : Nat} (hw : (w 8).toNatClampNeg ≤ 24) (h : lq w 8 i q a b) (g : lq w 8 i q a' b') : a = a' ∧ b = b' :=
  ⟨nI_inj9 (by have := h.2.1; omega) (by have := g.2.1; omega) (h.1.symm.trans g.1), nI_inj9 (by have := h.2.2.2; omega) (by have := g.2.2.2; omega) (h.2.2.1.symm.trans g.2.2.1)⟩
theorem rq_u {A B : Nat} {i q : Int32} {a b a' b' : Nat} (hA : A < 100) (hB : B < 100) (h : rq A B i q a b) (g : rq A B i q a' b') : a = a' ∧ b = b' :=
  ⟨nI_inj9 (by have := h.2.1; omega) (by have := g.2.1; omega) (h.1.symm.trans g.1), nI_inj9 (by have := h.2.2.2; omega) (by have := g.2.2.2; omega) (h.2.2.1.symm.trans g.2.2.1)⟩
theorem rcq_u {n M W : Nat} {i q : Int32} {a b a' b' : Nat} (hM : M < 100) (hW : W < 100) (h : rcq n M W i q a b) (g : rcq n M W i q a' b') : a = a' ∧ b = b' :=
  ⟨nI_inj9 (by have := h.2.1; omega) (by have := g.2.1; omega) (h.1.symm.trans g.1), nI_inj9 (by have := h.2.2.2.2; omega) (by have := g.2.2.2.2; omega) (h.2.2.2.1.symm.trans g.2.2.2.1)⟩
theorem atq_u {t u i q : Int32} {a b : Nat} (h : atq t u i q a) (g : atq t u i q b) : a = b := by
  obtain ⟨u1, i1, ⟨e1, e2, e3, e4⟩, h⟩ := h
  obtain ⟨u2, i2, ⟨f1, f2, f3, f4⟩, g⟩ := g
  have eu : u1 = u2 := by have := nI_inj9 (by omega) (by omega) (e1.symm.trans f1); omega
  have ei : i1 = i2 := nI_inj9 (by omega) (by omega) (e3.symm.trans f3)
  rcases h with ⟨h1, h2, h3⟩ | ⟨t1, q1, x1, x2, x3, x4, x5⟩ <;> rcases g with ⟨g1, g2, g3⟩ | ⟨t2, q2, y1, y2, y3, y4, y5⟩
  · omega
  · exact absurd (y2.symm.trans h1) (tne_1 t2 (by omega))
  · exact absurd (x2.symm.trans g1) (tne_1 t1 (by omega))
  · have et : t1 = t2 := nI_inj9 (by omega) (by omega) (x2.symm.trans y2)
    have eq : q1 = q2 := nI_inj9 (by omega) (by omega) (x3.symm.trans y3)
    subst et; subst eq; subst eu; subst ei; omega
theorem smq_u {t u : Int32} {a b : Nat} (h : smq t u a) (g : smq t u b) : a = b := by
  obtain ⟨t1, u1, x1, x2, x3, x4, x5⟩ := h
  obtain ⟨t2, u2, y1, y2, y3, y4, y5⟩ := g
  have et : t1 = t2 := nI_inj9 (by omega) (by omega) (x3.symm.trans y3)
  have eu := nI_inj9 (by omega) (by omega) (x4.symm.trans y4)
  omega
section
variable {L : Nat} {xs : Nat → Int32} {kp sp wd : Value} {I : z_I} {J : z_J} {F : z_F} {cn c : Nat}
theorem fin_id (h : LI kp sp cn I F c) : ∃ kp' sp' wd', z_R0 kp sp wd = z_R0 kp' sp' wd' ∧ LI kp' sp' cn (z_ms I (I 40, I 41, I 44)) F (c + 1) :=
  ⟨kp, sp, wd, rfl, by rw [ms_id rfl rfl rfl]; exact LI_s h⟩
theorem LI_hR (h : LI kp sp cn I F c) (hc : c < 512) : ∃ n k ln M, hR I F (I 41) n k ln ∧ n ≤ 192000 * c ∧ k ≤ 36000 * c ∧ ln ≤ 1440 * c ∧ hL I ∧ I 41 0 = nI M ∧ M ≤ 9999 := h.1
theorem pf_event {a1 a2 : Int32} (hc : c < 512) (h : LI kp sp cn I F c) : PF L xs m_Bus_event m_Mod_event [.int a1, .int a2] c I (z_R0 kp sp wd) J F cn := by
  have fin := fin_id (wd := wd) h
  obtain ⟨n, k, ln, M, hr, bn, bk, bl, hl, hM, hM9⟩ := h.1
  obtain ⟨⟨u, wr, kw, g⟩, ⟨c5, c6, c7, c10⟩, ⟨r9, r8, r11⟩, ⟨p, tb, rt, hrt, ert⟩, hD, hJ, hsc, he, hg⟩ := id hr
  refine cb_event he hsc (fun i q hq => ⟨_, rfl, M_ms rfl rfl rfl (sp_event he (fun i2 q2 hq2 => ⟨?_, fin⟩) (fun hn => absurd hq (hn i q)))⟩) (fun hn => ⟨_, rfl, M_ms rfl rfl rfl (sp_event he (fun i2 q2 hq2 => absurd hq2 (hn i2 q2)) (fun _ => ⟨rfl, fin⟩))⟩)
  obtain ⟨rfl, rfl⟩ := evq_u he.2.1 hq hq2
  rfl
theorem pf_count {a1 a2 : Int32} (hc : c < 512) (h : LI kp sp cn I F c) : PF L xs m_Bus_count m_Mod_count [.int a1, .int a2] c I (z_R0 kp sp wd) J F cn := by
  have fin := fin_id (wd := wd) h
  obtain ⟨n, k, ln, M, hr, bn, bk, bl, hl, hM, hM9⟩ := h.1
  obtain ⟨⟨u, wr, kw, g⟩, ⟨c5, c6, c7, c10⟩, ⟨r9, r8, r11⟩, ⟨p, tb, rt, hrt, ert⟩, hD, hJ, hsc, he, hg⟩ := id hr
  refine cb_count tb p hD (fun i q hq => ⟨_, rfl, M_ms rfl rfl rfl (sp_count tb (fun i2 q2 hq2 => ⟨?_, fin⟩) (fun hn => absurd hq (hn i q)))⟩) (fun hn => ⟨_, rfl, M_ms rfl rfl rfl (sp_count tb (fun i2 q2 hq2 => absurd hq2 (hn i2 q2)) (fun _ => ⟨rfl, fin⟩))⟩)
  obtain ⟨rfl, rfl⟩ := lq_u tb.2.1 hq hq2
  rfl
theorem pf_line {a1 a2 : Int32} (hc : c < 512) (h : LI kp sp cn I F c) : PF L xs m_Bus_line m_Mod_line [.int a1, .int a2] c I (z_R0 kp sp wd) J F cn := by
  have fin := fin_id (wd := wd) h
  obtain ⟨n, k, ln, M, hr, bn, bk, bl, hl, hM, hM9⟩ := h.1
  obtain ⟨⟨u, wr, kw, g⟩, ⟨c5, c6, c7, c10⟩, ⟨r9, r8, r11⟩, ⟨p, tb, rt, hrt, ert⟩, hD, hJ, hsc, he, hg⟩ := id hr
  refine cb_line tb p hD (fun i q hq => ⟨_, rfl, M_ms rfl rfl rfl (sp_line tb (fun i2 q2 hq2 => ⟨?_, fin⟩) (fun hn => absurd hq (hn i q)))⟩) (fun hn => ⟨_, rfl, M_ms rfl rfl rfl (sp_line tb (fun i2 q2 hq2 => absurd hq2 (hn i2 q2)) (fun _ => ⟨rfl, fin⟩))⟩)
  obtain ⟨rfl, rfl⟩ := lq_u tb.2.1 hq hq2
  rfl
theorem pf_fault {a1 : Int32} (hc : c < 512) (h : LI kp sp cn I F c) : PF L xs m_Bus_fault m_Mod_fault [.int a1] c I (z_R0 kp sp wd) J F cn := by
  have fin := fin_id (wd := wd) h
  obtain ⟨n, k, ln, M, hr, bn, bk, bl, hl, hM, hM9⟩ := h.1
  obtain ⟨⟨u, wr, kw, g⟩, ⟨c5, c6, c7, c10⟩, ⟨r9, r8, r11⟩, ⟨p, tb, rt, hrt, ert⟩, hD, hJ, hsc, he, hg⟩ := id hr
  refine cb_fault ⟨_, rfl, M_ms rfl rfl rfl (sp_fault ⟨?_, fin⟩)⟩
  show some (Value.int (q_fault (I 40 20) (I 40 23) a1)) = some (Value.int (q_fault (I 32 3) (I 32 4) a1))
  rw [h.2.2.2.1.1, h.2.2.2.1.2]
theorem pf_load {a1 a2 : Int32} (hc : c < 512) (h : LI kp sp cn I F c) : PF L xs m_Bus_load m_Mod_load [.int a1, .int a2] c I (z_R0 kp sp wd) J F cn := by
  have fin := fin_id (wd := wd) h
  obtain ⟨n, k, ln, M, hr, bn, bk, bl, hl, hM, hM9⟩ := h.1
  obtain ⟨⟨u, wr, kw, g⟩, ⟨c5, c6, c7, c10⟩, ⟨r9, r8, r11⟩, ⟨p, tb, rt, hrt, ert⟩, hD, hJ, hsc, he, hg⟩ := id hr
  refine cb_load p tb hl c5 (fun f hf ef => ⟨_, rfl, M_ms rfl rfl rfl (sp_load tb (fun f2 hf2 ef2 => ⟨?_, fin⟩) (fun hn => absurd ef (hn f hf)))⟩) (fun hn => ⟨_, rfl, M_ms rfl rfl rfl (sp_load tb (fun f2 hf2 ef2 => absurd ef2 (hn f2 hf2)) (fun _ => ⟨rfl, fin⟩))⟩)
  obtain rfl : f = f2 := nI_inj9 (by omega) (by omega) (ef.symm.trans ef2)
  rfl
theorem pf_of {a1 a2 : Int32} (hc : c < 512) (h : LI kp sp cn I F c) : PF L xs m_Bus_of m_Mod_of [.int a1, .int a2] c I (z_R0 kp sp wd) J F cn := by
  have fin := fin_id (wd := wd) h
  obtain ⟨n, k, ln, M, hr, bn, bk, bl, hl, hM, hM9⟩ := h.1
  obtain ⟨⟨u, wr, kw, g⟩, ⟨c5, c6, c7, c10⟩, ⟨r9, r8, r11⟩, ⟨p, tb, rt, hrt, ert⟩, hD, hJ, hsc, he, hg⟩ := id hr
  refine cb_of u (fun i q hq => ⟨_, rfl, M_ms rfl rfl rfl (sp_of  (fun i2 q2 hq2 => ⟨?_, fin⟩) (fun hn => absurd hq (hn i q)))⟩) (fun hn => ⟨_, rfl, M_ms rfl rfl rfl (sp_of  (fun i2 q2 hq2 => absurd hq2 (hn i2 q2)) (fun _ => ⟨rfl, fin⟩))⟩)
  obtain ⟨rfl, rfl⟩ := rq_u (by decide) (by decide) hq.1 hq2.1
  rfl
theorem pf_at {a1 a2 a3 a4 : Int32} (hc : c < 512) (h : LI kp sp cn I F c) : PF L xs m_Bus_at m_Mod_at [.int a1, .int a2, .int a3, .int a4] c I (z_R0 kp sp wd) J F cn := by
  have fin := fin_id (wd := wd) h
  obtain ⟨n, k, ln, M, hr, bn, bk, bl, hl, hM, hM9⟩ := h.1
  obtain ⟨⟨u, wr, kw, g⟩, ⟨c5, c6, c7, c10⟩, ⟨r9, r8, r11⟩, ⟨p, tb, rt, hrt, ert⟩, hD, hJ, hsc, he, hg⟩ := id hr
  refine cb_at u (fun a hq => ⟨_, rfl, M_ms rfl rfl rfl (sp_at (fun a2 hq2 => ⟨?_, fin⟩) (fun hn => absurd hq (hn a)))⟩) (fun hn => ⟨_, rfl, M_ms rfl rfl rfl (sp_at (fun a2 hq2 => absurd hq2 (hn a2)) (fun _ => ⟨rfl, fin⟩))⟩)
  obtain rfl := atq_u hq hq2
  rfl
theorem pf_smooth {a1 a2 a3 : Int32} (hc : c < 512) (h : LI kp sp cn I F c) : PF L xs m_Bus_smooth m_Mod_smooth [.int a1, .int a2, .int a3] c I (z_R0 kp sp wd) J F cn := by
  have fin := fin_id (wd := wd) h
  obtain ⟨n, k, ln, M, hr, bn, bk, bl, hl, hM, hM9⟩ := h.1
  obtain ⟨⟨u, wr, kw, g⟩, ⟨c5, c6, c7, c10⟩, ⟨r9, r8, r11⟩, ⟨p, tb, rt, hrt, ert⟩, hD, hJ, hsc, he, hg⟩ := id hr
  have hf : m_fok (I 40, I 41, I 44) := g.2
  refine cb_smooth u g (fun a hq e => ⟨_, rfl, M_ms rfl rfl rfl (sp_smooth hf (fun a2 hq2 e2 => ⟨?_, fin⟩) (fun a2 hq2 e2 => absurd (e.symm.trans e2) (by decide)) (fun hn => absurd e (hn a hq).1))⟩) (fun a hq e => ⟨_, rfl, M_ms rfl rfl rfl (sp_smooth hf (fun a2 hq2 e2 => absurd (e.symm.trans e2) (by decide)) (fun a2 hq2 e2 => ⟨?_, fin⟩) (fun hn => absurd e (hn a hq).2))⟩) (fun hn => ⟨_, rfl, M_ms rfl rfl rfl (sp_smooth hf (fun a2 hq2 e2 => absurd e2 (hn a2 hq2).1) (fun a2 hq2 e2 => absurd e2 (hn a2 hq2).2) (fun _ => ⟨rfl, fin⟩))⟩)
  · obtain rfl := smq_u hq hq2
    rfl
  · obtain rfl := smq_u hq hq2
    rfl
theorem pf_log {a1 a2 : Int32} (hc : c < 512) (h : LI kp sp cn I F c) : PF L xs m_Bus_log m_Mod_log [.int a1, .int a2] c I (z_R0 kp sp wd) J F cn := by
  have fin := fin_id (wd := wd) h
  obtain ⟨n, k, ln, M, hr, bn, bk, bl, hl, hM, hM9⟩ := h.1
  obtain ⟨⟨u, wr, kw, g⟩, ⟨c5, c6, c7, c10⟩, ⟨r9, r8, r11⟩, ⟨p, tb, rt, hrt, ert⟩, hD, hJ, hsc, he, hg⟩ := id hr
  refine cb_log (by omega) hJ (fun i q hq => ⟨_, rfl, M_ms rfl rfl rfl (sp_log (by omega) hJ.2.2.2.2.1 (fun i2 q2 hq2 => ⟨?_, fin⟩) (fun hn => absurd hq (hn i q)))⟩) (fun hn => ⟨_, rfl, M_ms rfl rfl rfl (sp_log (by omega) hJ.2.2.2.2.1 (fun i2 q2 hq2 => absurd hq2 (hn i2 q2)) (fun _ => ⟨rfl, fin⟩))⟩)
  obtain ⟨rfl, rfl⟩ := rcq_u (by decide) (by decide) hq hq2
  rfl
theorem pf_trail {a1 : Int32} (hc : c < 512) (h : LI kp sp cn I F c) : PF L xs m_Bus_trail m_Mod_trail [.int a1] c I (z_R0 kp sp wd) J F cn := by
  have fin := fin_id (wd := wd) h
  obtain ⟨n, k, ln, M, hr, bn, bk, bl, hl, hM, hM9⟩ := h.1
  obtain ⟨⟨u, wr, kw, g⟩, ⟨c5, c6, c7, c10⟩, ⟨r9, r8, r11⟩, ⟨p, tb, rt, hrt, ert⟩, hD, hJ, hsc, he, hg⟩ := id hr
  refine cb_trail (by omega) wr.2.2 (fun i q hq => ⟨_, rfl, M_ms rfl rfl rfl (sp_trail (by omega) wr.2.2.2.2.2.2.1 (fun i2 q2 hq2 => ⟨?_, fin⟩) (fun hn => absurd hq (hn i q)))⟩) (fun hn => ⟨_, rfl, M_ms rfl rfl rfl (sp_trail (by omega) wr.2.2.2.2.2.2.1 (fun i2 q2 hq2 => absurd hq2 (hn i2 q2)) (fun _ => ⟨rfl, fin⟩))⟩)
  obtain ⟨rfl, rfl⟩ := rcq_u (by decide) (by decide) hq hq2
  rfl
theorem pf_heard {a1 a2 : Int32} (hc : c < 512) (h : LI kp sp cn I F c) : PF L xs m_Bus_heard m_Mod_heard [.int a1, .int a2] c I (z_R0 kp sp wd) J F cn := by
  have fin := fin_id (wd := wd) h
  obtain ⟨n, k, ln, M, hr, bn, bk, bl, hl, hM, hM9⟩ := h.1
  obtain ⟨⟨u, wr, kw, g⟩, ⟨c5, c6, c7, c10⟩, ⟨r9, r8, r11⟩, ⟨p, tb, rt, hrt, ert⟩, hD, hJ, hsc, he, hg⟩ := id hr
  refine cb_heard (by omega) wr.1.2.2.2.2 (fun i q hq => ⟨_, rfl, M_ms rfl rfl rfl (sp_heard (by omega) wr.1.2.2.2.2.2.2.2.2.1 (fun i2 q2 hq2 => ⟨?_, fin⟩) (fun hn => absurd hq (hn i q)))⟩) (fun hn => ⟨_, rfl, M_ms rfl rfl rfl (sp_heard (by omega) wr.1.2.2.2.2.2.2.2.2.1 (fun i2 q2 hq2 => absurd hq2 (hn i2 q2)) (fun _ => ⟨rfl, fin⟩))⟩)
  obtain ⟨rfl, rfl⟩ := rcq_u (by decide) (by decide) hq hq2
  rfl
theorem pf_bus {a1 a2 : Int32} (hc : c < 512) (h : LI kp sp cn I F c) : PF L xs m_Bus_bus m_Mod_bus [.int a1, .int a2] c I (z_R0 kp sp wd) J F cn := by
  have fin := fin_id (wd := wd) h
  obtain ⟨n, k, ln, M, hr, bn, bk, bl, hl, hM, hM9⟩ := h.1
  obtain ⟨⟨u, wr, kw, g⟩, ⟨c5, c6, c7, c10⟩, ⟨r9, r8, r11⟩, ⟨p, tb, rt, hrt, ert⟩, hD, hJ, hsc, he, hg⟩ := id hr
  refine cb_bus wr.1 (fun i q hq => ⟨_, rfl, M_ms rfl rfl rfl (sp_bus  (fun i2 q2 hq2 => ⟨?_, fin⟩) (fun hn => absurd hq (hn i q)))⟩) (fun hn => ⟨_, rfl, M_ms rfl rfl rfl (sp_bus  (fun i2 q2 hq2 => absurd hq2 (hn i2 q2)) (fun _ => ⟨rfl, fin⟩))⟩)
  obtain ⟨rfl, rfl⟩ := rq_u (by decide) (by decide) hq hq2
  rfl
theorem pf_tally {a1 a2 : Int32} (hc : c < 512) (h : LI kp sp cn I F c) : PF L xs m_Bus_tally m_Mod_tally [.int a1, .int a2] c I (z_R0 kp sp wd) J F cn := by
  have fin := fin_id (wd := wd) h
  obtain ⟨n, k, ln, M, hr, bn, bk, bl, hl, hM, hM9⟩ := h.1
  obtain ⟨⟨u, wr, kw, g⟩, ⟨c5, c6, c7, c10⟩, ⟨r9, r8, r11⟩, ⟨p, tb, rt, hrt, ert⟩, hD, hJ, hsc, he, hg⟩ := id hr
  refine cb_tally u (fun i q hq => ⟨_, rfl, M_ms rfl rfl rfl (sp_tally  (fun i2 q2 hq2 => ⟨?_, fin⟩) (fun hn => absurd hq (hn i q)))⟩) (fun hn => ⟨_, rfl, M_ms rfl rfl rfl (sp_tally  (fun i2 q2 hq2 => absurd hq2 (hn i2 q2)) (fun _ => ⟨rfl, fin⟩))⟩)
  obtain ⟨rfl, rfl⟩ := rq_u (by decide) (by decide) hq hq2
  rfl
theorem pf_waits {a1 : Int32} (hc : c < 512) (h : LI kp sp cn I F c) : PF L xs m_Bus_waits m_Mod_waits [.int a1] c I (z_R0 kp sp wd) J F cn := by
  have fin := fin_id (wd := wd) h
  obtain ⟨n, k, ln, M, hr, bn, bk, bl, hl, hM, hM9⟩ := h.1
  obtain ⟨⟨u, wr, kw, g⟩, ⟨c5, c6, c7, c10⟩, ⟨r9, r8, r11⟩, ⟨p, tb, rt, hrt, ert⟩, hD, hJ, hsc, he, hg⟩ := id hr
  refine cb_waits u.1 kw.1 r8 r9 (fun t ht et => ⟨_, rfl, M_ms rfl rfl rfl (sp_waits (fun t2 ht2 et2 => ⟨?_, fin⟩) (fun hn => absurd et (hn t ht)))⟩) (fun hn => ⟨_, rfl, M_ms rfl rfl rfl (sp_waits (fun t2 ht2 et2 => absurd et2 (hn t2 ht2)) (fun _ => ⟨rfl, fin⟩))⟩)
  obtain rfl : t = t2 := nI_inj9 (by omega) (by omega) (et.symm.trans et2)
  rfl
theorem pf_parity {a1 : Int32} (hc : c < 512) (h : LI kp sp cn I F c) : PF L xs m_Bus_parity m_Mod_parity [.int a1] c I (z_R0 kp sp wd) J F cn := by
  have fin := fin_id (wd := wd) h
  obtain ⟨n, k, ln, M, hr, bn, bk, bl, hl, hM, hM9⟩ := h.1
  obtain ⟨⟨u, wr, kw, g⟩, ⟨c5, c6, c7, c10⟩, ⟨r9, r8, r11⟩, ⟨p, tb, rt, hrt, ert⟩, hD, hJ, hsc, he, hg⟩ := id hr
  refine cb_parity  (fun t ht et => ⟨_, rfl, M_ms rfl rfl rfl (sp_parity (fun t2 ht2 et2 => ⟨?_, fin⟩) (fun hn => absurd et (hn t ht)))⟩) (fun hn => ⟨_, rfl, M_ms rfl rfl rfl (sp_parity (fun t2 ht2 et2 => absurd et2 (hn t2 ht2)) (fun _ => ⟨rfl, fin⟩))⟩)
  obtain rfl : t = t2 := nI_inj9 (by omega) (by omega) (et.symm.trans et2)
  rfl
theorem pf_look {a1 : Int32} (hc : c < 512) (h : LI kp sp cn I F c) : PF L xs m_Bus_look m_Mod_look [.int a1] c I (z_R0 kp sp wd) J F cn := by
  have fin := fin_id (wd := wd) h
  obtain ⟨n, k, ln, M, hr, bn, bk, bl, hl, hM, hM9⟩ := h.1
  obtain ⟨⟨u, wr, kw, g⟩, ⟨c5, c6, c7, c10⟩, ⟨r9, r8, r11⟩, ⟨p, tb, rt, hrt, ert⟩, hD, hJ, hsc, he, hg⟩ := id hr
  refine cb_look hr (fun t ht et => ⟨_, rfl, M_ms rfl rfl rfl (sp_look (fun t2 ht2 et2 => ⟨?_, fin⟩) (fun hn => absurd et (hn t ht)))⟩) (fun hn => ⟨_, rfl, M_ms rfl rfl rfl (sp_look (fun t2 ht2 et2 => absurd et2 (hn t2 ht2)) (fun _ => ⟨rfl, fin⟩))⟩)
  obtain rfl : t = t2 := nI_inj9 (by omega) (by omega) (et.symm.trans et2)
  rfl
end
