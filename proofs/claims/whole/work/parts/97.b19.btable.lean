/-! the table, the class whole -/
theorem wtb_lnn {w g : Nat → Int32} {c i f : Nat} {gg : Nat → Nat} (hc : c ≤ 24) (hi : i < c) (hf : f < 11) (h : lnG g i gg) : lnn (wtb w g c) i f = gg f := by
  obtain ⟨a, b⟩ := h.1 f hf
  unfold lnn
  rw [wtb_l hc hi (by omega), a, nI_clamp (by omega)]
theorem rwA_r0 {q w g : Nat → Int32} {c : Nat} (hc : c ≤ 24) (hg : ∀ i, i < c → ∃ gg, lnG g i gg ∧ gok gg) (h : rwA q g c) : r0R q (wtb w g c) := by
  intro i hi
  rw [wtb_8, nI_clamp (by omega)] at hi
  obtain ⟨gg, g1, g2⟩ := hg i hi
  have e0 : (g (14 * i)).toNatClampNeg = gg 0 := by
    have := (g1.1 0 (by omega)).1
    rw [Nat.add_zero] at this
    rw [this, nI_clamp (by have := (g1.1 0 (by omega)).2; omega)]
  have r := h i hi
  rw [e0] at r
  have v : ∀ a, a < 10 → pm (gg 0) a < 11 → q (i * 11 + a) = nI (gg (pm (gg 0) a)) := fun a ha hp => by rw [r a ha]; exact (g1.1 _ hp).1
  have l : ∀ f, f < 11 → lnn (wtb w g c) i f = gg f := fun f hf => wtb_lnn hc hi hf g1
  have en : l_n (wtb w g c) i = gg (pm (gg 0) 5) := by
    unfold l_n
    rw [l 0 (by omega), l 10 (by omega), l 3 (by omega)]
    show _ = gg (if gg 0 = 4 then 10 else 3)
    by_cases z : gg 0 = 4
    · rw [if_pos z, if_pos z]
    · rw [if_neg z, if_neg z]
      by_cases y : gg 0 = 5
      · rw [if_pos y]; exact (g2.2.2.2.2.2.2.2.2.2.2.2.2.2.2.2.2 (by omega)).symm
      · rw [if_neg y]
  have p5 : pm (gg 0) 5 < 11 := by
    show (if gg 0 = 4 then 10 else 3) < 11
    split <;> omega
  rw [l 0 (by omega), l 1 (by omega), l 2 (by omega), l 4 (by omega), l 5 (by omega), l 6 (by omega), l 7 (by omega), l 9 (by omega), l 8 (by omega), en]
  exact ⟨v 0 (by omega) (show 0 < 11 by decide), v 1 (by omega) (show 1 < 11 by decide), v 2 (by omega) (show 2 < 11 by decide), v 3 (by omega) (show 4 < 11 by decide), v 4 (by omega) (show 5 < 11 by decide), v 5 (by omega) p5, v 6 (by omega) (show 6 < 11 by decide), v 7 (by omega) (show 7 < 11 by decide), v 8 (by omega) (show 9 < 11 by decide), v 9 (by omega) (show 8 < 11 by decide)⟩
section
variable {L : Nat} {xs : Nat → Int32} {d : Nat} {kp sp wd : Value} {I I0 : z_I} {s : z_sg} {R : z_R} {J : z_J} {F : z_F} {cn : Nat} {Q : z_Q} {n k m st c p nn kk ln : Nat} {t : Nat → Nat} {w g g0 : Nat → Int32}
theorem hR_table {I' : z_I} (h : hR I F w nn kk ln) (hc : c ≤ 24) (hg : ∀ i, i < c → ∃ gg, lnG g i gg ∧ gok gg) (f : fr [18, 19, 20, 21, 22, 23, 32, 34] I I') (hp : pS I' (phl c (wtb w g c))) (h20 : ∀ j, j < 192 → I' 20 j = nI 0) (h21 : ∀ j, j < 24 → I' 21 j = nI 0 ∧ I' 22 j = -1) : hR I' F (phl c (wtb w g c)) nn kk ln := by
  have tb := wtb_ok (w := w) hc hg
  have e8 : ((wtb w g c) 8).toNatClampNeg = c := by rw [wtb_8, nI_clamp (by omega)]
  obtain ⟨a, b, o, l⟩ := phl_ok tb c (by omega)
  have q1 : ∀ j, (j < 1584 ∨ 1920 ≤ j) → phl c (wtb w g c) j = wtb w g c j := fun j hj => o j fun i hi => by unfold qat; omega
  have ow : ∀ j, j ≠ 8 → (j < 1584 ∨ (1920 ≤ j ∧ j < 2572) ∨ 2764 ≤ j) → phl c (wtb w g c) j = w j := fun j h8 hj => (q1 j (by omega)).trans (wtb_o hc h8 hj)
  have ol : ∀ i ff, i < c → ff < 14 → ff ≠ 7 → phl c (wtb w g c) (1584 + 14 * i + ff) = g (14 * i + ff) := fun i ff hi hf h7 => (o _ fun i' hi' => by unfold qat; omega).trans (wtb_l hc hi hf)
  have oc : ∀ j, j < 192 → phl c (wtb w g c) (2572 + j) = nI 0 := fun j hj => (q1 _ (by omega)).trans (wtb_c hj)
  have b8 : ((phl c (wtb w g c)) 8).toNatClampNeg = c := by rw [b]; exact e8
  generalize phl c (wtb w g c) = w' at *
  obtain ⟨⟨u, wr, kw, gw⟩, ⟨c5, c6, c7, c10⟩, ⟨r9, r8, r11⟩, ⟨-, -, rt, hrt, ert⟩, -, hJ, hsc, he, hgS⟩ := h
  have i1 : I' 1 = I 1 := f 1 (by decide)
  have ff : ∀ x, (2 ≤ x ∧ x ≤ 17) ∨ (25 ≤ x ∧ x ≤ 28) → I' x = I x := fun x hx => f x (by simp only [List.mem_cons, List.not_mem_nil, or_false, not_or]; omega)
  refine ⟨⟨uRel_of u (fun x _ _ => ff x (by omega)) (fun j hj => ow j (by omega) (by omega)), wR_of wr (fun x _ _ => ff x (by omega)) (fun j hj => ow j (by omega) (by omega)), kW_of kw (fun j hj => ow j (by omega) (by omega)), gW_k gw (fun j _ _ => ow j (by omega) (by omega))⟩, ⟨?_, ?_, ?_, ?_⟩, ⟨?_, ?_, ?_⟩, ⟨hp, a, rt, hrt, ?_⟩, ⟨fun i hi => ?_, fun j hj => ?_⟩, ?_, ?_, ?_, ?_⟩
  · rw [i1, ow 0 (by omega) (by omega)]; exact c5
  · rw [i1, ow 1 (by omega) (by omega)]; exact c6
  · rw [i1, ow 2 (by omega) (by omega)]; exact c7
  · rw [i1, ow 7 (by omega) (by omega)]; exact c10
  · rw [i1, ow 4 (by omega) (by omega)]; exact r9
  · rw [i1, ow 3 (by omega) (by omega)]; exact r8
  · rw [i1, ow 6 (by omega) (by omega)]; exact r11
  · rw [ow 1 (by omega) (by omega)]; exact ert
  · rw [b8] at hi
    obtain ⟨gg, g1, -⟩ := hg i hi
    rw [ol i 11 hi (by omega) (by omega), ol i 12 hi (by omega) (by omega), ol i 13 hi (by omega) (by omega), show 2572 + 8 * i = 2572 + (8 * i) from rfl, oc (8 * i) (by omega), g1.2.1, g1.2.2.1, g1.2.2.2]
    exact ⟨(h21 i (by omega)).1, (h21 i (by omega)).2, rfl⟩
  · rw [h20 j hj, oc j hj]
  · rw [ff 27 (by omega), ff 28 (by omega)]; exact jR_k hJ (fun j hj => ow j (by omega) (by omega))
  · exact scR_k hsc he.2.1 (ff 25 (by omega)) (ff 26 (by omega)) (fun j hj => ow j (by omega) (by omega))
  · exact ev_k he (fun j hj => ow j (by omega) (by omega))
  · exact ⟨fun x hx => by rw [ow _ (by omega) (by omega), ow _ (by omega) (by omega)]; exact hgS.1 x hx, by rw [ow 2 (by omega) (by omega)]; exact hgS.2⟩
theorem cb_table (h : hR I F w nn kk ln) (hT : rT I t n) (hn : n ≤ 500) (h2 : I 32 2 = nI n)
    (hQ : okQ (pall t n 24 0 g (tkS t n 0)) (fun g' c => ∀ I', fr [18, 19, 20, 21, 22, 23, 32, 34] I I' → hR I' F (phl c (wtb w g' c)) nn kk ln → hL I' → rdC (I' 32) (nI 0) (-1) → Q (some (.int (nI c))) I' (z_R0 kp sp (.retAddr 2)) J F cn) (fun c p => ∀ I', fr [32, 34] I I' → rdC (I' 32) (nI c) (nI p) → Q (some (.int (-1))) I' (z_R0 kp sp (.retAddr 2)) J F cn)) :
    z_M (z_X0 L xs) z_P0 (d + 11) m_Bus_table [.ref 0] I (z_R0 kp sp wd) J F cn Q := by
  have hok := okQ_and hQ (C := fun g' c => c ≤ 24 ∧ ∀ i, i < c → ∃ gg, lnG g' i gg ∧ gok gg) (fun f' c' e => pall_ok 24 0 g (tkS t n 0) f' c' rfl (fun i hi => by omega) e)
  refine z_WP_gos [] 1000 fun K C hK hC => ?_
  conv => whnf
  refine hC _ _ _ _ _ _ _ _ _ _ (fun _ _ _ _ _ _ q => q) (cs_readTable (g := g) hT hn h2 (okQ_m hok (fun g' c hq I1 f1 r1 d1 => ?_) (fun c p hq I1 f1 d1 => ?_)))
  conv => whnf
  rotate_left
  · conv => whnf
    refine ⟨fun _ => ?_, fun z => absurd rfl z⟩
    conv => whnf
    exact hq I1 f1 d1
  obtain ⟨⟨hc, hg⟩, hq⟩ := hq
  have hne : ¬ nI c = -1 := fun z => by
    have : (nI c).toInt = (-1 : Int32).toInt := by rw [z]
    rw [nI_toInt (by omega), show (-1 : Int32).toInt = -1 from by decide] at this
    omega
  have tb := wtb_ok (w := w) hc hg
  have e8 : ((wtb w g' c) 8).toNatClampNeg = c := by rw [wtb_8, nI_clamp (by omega)]
  refine ⟨fun z => absurd z hne, fun _ => ?_⟩
  conv => whnf
  have call := fun Q => cp_adopt (Q := Q) (L := L) (xs := xs) (d := d + 7) (kp := kp) (sp := sp) (wd := .retAddr 2) (I := I1) (J := J) (F := F) (cn := cn) (w := wtb w g' c) tb (rwA_r0 hc hg r1)
  rw [e8] at call
  refine hC _ _ _ _ _ _ _ _ _ _ (fun _ _ _ _ _ _ q => q) (call _ (fun I2 f2 g18 p2 l2 h20 h21 => ?_))
  conv => whnf
  have fd : fr [18, 19, 20, 21, 22, 23, 32, 34] I I2 := fr_t (fr_m f1 (by decide)) (fr_m f2 (by decide))
  refine hq I2 fd (hR_table h hc hg fd p2 h20 h21) l2 ?_
  rw [f2 32 (by decide)]
  exact d1
end
