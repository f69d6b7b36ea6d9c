/-! the home relation, carried over to a copy -/
theorem cel_1 {j : Nat} (h : 5 ≤ j ∧ j ≤ 11) : cel 1 j := (Or.inl ⟨rfl, h⟩)
theorem cel_3 {j : Nat} (h : j < 162) : cel 3 j := (Or.inr (Or.inl ⟨rfl, h⟩))
theorem cel_4 {j : Nat} (h : j < 1200) : cel 4 j := (Or.inr (Or.inr (Or.inl ⟨rfl, h⟩)))
theorem cel_5 {j : Nat} (h : j < 48) : cel 5 j := (Or.inr (Or.inr (Or.inr (Or.inl ⟨rfl, h⟩))))
theorem cel_6 {j : Nat} (h : j < 48) : cel 6 j := (Or.inr (Or.inr (Or.inr (Or.inr (Or.inl ⟨rfl, h⟩)))))
theorem cel_7 {j : Nat} (h : j < 48) : cel 7 j := (Or.inr (Or.inr (Or.inr (Or.inr (Or.inr (Or.inl ⟨rfl, h⟩))))))
theorem cel_9 {j : Nat} (h : j < 45) : cel 9 j := (Or.inr (Or.inr (Or.inr (Or.inr (Or.inr (Or.inr (Or.inl ⟨rfl, h⟩)))))))
theorem cel_10 {j : Nat} (h : j = 5) : cel 10 j := (Or.inr (Or.inr (Or.inr (Or.inr (Or.inr (Or.inr (Or.inr (Or.inl ⟨rfl, h⟩))))))))
theorem cel_11 {j : Nat} (h : j < 12) : cel 11 j := (Or.inr (Or.inr (Or.inr (Or.inr (Or.inr (Or.inr (Or.inr (Or.inr (Or.inl ⟨rfl, h⟩)))))))))
theorem cel_12 {j : Nat} (h : j < 16) : cel 12 j := (Or.inr (Or.inr (Or.inr (Or.inr (Or.inr (Or.inr (Or.inr (Or.inr (Or.inr (Or.inl ⟨rfl, h⟩))))))))))
theorem cel_13 {j : Nat} (h : j < 2) : cel 13 j := (Or.inr (Or.inr (Or.inr (Or.inr (Or.inr (Or.inr (Or.inr (Or.inr (Or.inr (Or.inr (Or.inl ⟨rfl, h⟩)))))))))))
theorem cel_14 {j : Nat} (h : j = 3 ∨ j = 4) : cel 14 j := (Or.inr (Or.inr (Or.inr (Or.inr (Or.inr (Or.inr (Or.inr (Or.inr (Or.inr (Or.inr (Or.inr (Or.inl ⟨rfl, h⟩))))))))))))
theorem cel_15 {j : Nat} (h : j < 256) : cel 15 j := (Or.inr (Or.inr (Or.inr (Or.inr (Or.inr (Or.inr (Or.inr (Or.inr (Or.inr (Or.inr (Or.inr (Or.inr (Or.inl ⟨rfl, h⟩)))))))))))))
theorem cel_16 {j : Nat} (h : j = 3 ∨ j = 4) : cel 16 j := (Or.inr (Or.inr (Or.inr (Or.inr (Or.inr (Or.inr (Or.inr (Or.inr (Or.inr (Or.inr (Or.inr (Or.inr (Or.inr (Or.inl ⟨rfl, h⟩))))))))))))))
theorem cel_17 {j : Nat} (h : j < 40) : cel 17 j := (Or.inr (Or.inr (Or.inr (Or.inr (Or.inr (Or.inr (Or.inr (Or.inr (Or.inr (Or.inr (Or.inr (Or.inr (Or.inr (Or.inr (Or.inl ⟨rfl, h⟩)))))))))))))))
theorem cel_18 {j : Nat} (h : j = 5) : cel 18 j := (Or.inr (Or.inr (Or.inr (Or.inr (Or.inr (Or.inr (Or.inr (Or.inr (Or.inr (Or.inr (Or.inr (Or.inr (Or.inr (Or.inr (Or.inr (Or.inl ⟨rfl, h⟩))))))))))))))))
theorem cel_19 {j : Nat} (h : j < 264) : cel 19 j := (Or.inr (Or.inr (Or.inr (Or.inr (Or.inr (Or.inr (Or.inr (Or.inr (Or.inr (Or.inr (Or.inr (Or.inr (Or.inr (Or.inr (Or.inr (Or.inr (Or.inl ⟨rfl, h⟩)))))))))))))))))
theorem cel_20 {j : Nat} (h : j < 192) : cel 20 j := (Or.inr (Or.inr (Or.inr (Or.inr (Or.inr (Or.inr (Or.inr (Or.inr (Or.inr (Or.inr (Or.inr (Or.inr (Or.inr (Or.inr (Or.inr (Or.inr (Or.inr (Or.inl ⟨rfl, h⟩))))))))))))))))))
theorem cel_21 {j : Nat} (h : j < 24) : cel 21 j := (Or.inr (Or.inr (Or.inr (Or.inr (Or.inr (Or.inr (Or.inr (Or.inr (Or.inr (Or.inr (Or.inr (Or.inr (Or.inr (Or.inr (Or.inr (Or.inr (Or.inr (Or.inr (Or.inl ⟨rfl, h⟩)))))))))))))))))))
theorem cel_22 {j : Nat} (h : j < 24) : cel 22 j := (Or.inr (Or.inr (Or.inr (Or.inr (Or.inr (Or.inr (Or.inr (Or.inr (Or.inr (Or.inr (Or.inr (Or.inr (Or.inr (Or.inr (Or.inr (Or.inr (Or.inr (Or.inr (Or.inr (Or.inl ⟨rfl, h⟩))))))))))))))))))))
theorem cel_23 {j : Nat} (h : j < 8) : cel 23 j := (Or.inr (Or.inr (Or.inr (Or.inr (Or.inr (Or.inr (Or.inr (Or.inr (Or.inr (Or.inr (Or.inr (Or.inr (Or.inr (Or.inr (Or.inr (Or.inr (Or.inr (Or.inr (Or.inr (Or.inr (Or.inl ⟨rfl, h⟩)))))))))))))))))))))
theorem cel_25 {j : Nat} (h : j = 1) : cel 25 j := (Or.inr (Or.inr (Or.inr (Or.inr (Or.inr (Or.inr (Or.inr (Or.inr (Or.inr (Or.inr (Or.inr (Or.inr (Or.inr (Or.inr (Or.inr (Or.inr (Or.inr (Or.inr (Or.inr (Or.inr (Or.inr (Or.inl ⟨rfl, h⟩))))))))))))))))))))))
theorem cel_26 {j : Nat} (h : j < 96) : cel 26 j := (Or.inr (Or.inr (Or.inr (Or.inr (Or.inr (Or.inr (Or.inr (Or.inr (Or.inr (Or.inr (Or.inr (Or.inr (Or.inr (Or.inr (Or.inr (Or.inr (Or.inr (Or.inr (Or.inr (Or.inr (Or.inr (Or.inr (Or.inl ⟨rfl, h⟩)))))))))))))))))))))))
theorem cel_27 {j : Nat} (h : j = 3 ∨ j = 4) : cel 27 j := (Or.inr (Or.inr (Or.inr (Or.inr (Or.inr (Or.inr (Or.inr (Or.inr (Or.inr (Or.inr (Or.inr (Or.inr (Or.inr (Or.inr (Or.inr (Or.inr (Or.inr (Or.inr (Or.inr (Or.inr (Or.inr (Or.inr (Or.inr (Or.inl ⟨rfl, h⟩))))))))))))))))))))))))
theorem cel_28 {j : Nat} (h : j < 300) : cel 28 j := (Or.inr (Or.inr (Or.inr (Or.inr (Or.inr (Or.inr (Or.inr (Or.inr (Or.inr (Or.inr (Or.inr (Or.inr (Or.inr (Or.inr (Or.inr (Or.inr (Or.inr (Or.inr (Or.inr (Or.inr (Or.inr (Or.inr (Or.inr (Or.inr ⟨rfl, h⟩))))))))))))))))))))))))
section
variable {I I' : z_I} {F F' : z_F} {w w' : Nat → Int32} {n k ln : Nat}
theorem ev_kb (h : ev_ok w) (hw : ∀ j, 2764 ≤ j → j < 2861 → w' j = w j) : ev_ok w' := by
  unfold ev_ok
  rw [hw _ (Nat.le_refl _) (by omega)]
  refine ⟨h.1, h.2.1, fun i hi => ?_⟩
  have h24 := h.2.1
  have ee : ∀ f, f < 4 → evn w' i f = evn w i f := fun f hf => by unfold evn; rw [hw _ (by omega) (by omega)]
  have e := h.2.2 i hi
  unfold e1_ok at e ⊢
  rw [ee 1 (by omega), ee 2 (by omega), ee 3 (by omega)]
  refine ⟨fun f hf => ?_, e.2⟩
  rw [hw _ (by omega) (by omega), ee f hf]
  exact e.1 f hf
theorem hR_w (h : hR I F w n k ln) (hw : ∀ j, j < 2861 → w' j = w j) : hR I F w' n k ln := by
  obtain ⟨⟨u, wr, kw, g⟩, ⟨c5, c6, c7, c10⟩, ⟨r9, r8, r11⟩, ⟨p, tb, rt, hrt, ert⟩, hD, hJ, ⟨s1, s2⟩, he, hg⟩ := h
  have h24 := he.2.1
  refine ⟨⟨uRel_of u (fun _ _ _ => rfl) (fun j hj => hw j (by omega)), wR_of wr (fun _ _ _ => rfl) (fun j hj => hw j (by omega)), kW_of kw (fun j hj => hw j (by omega)), gW_k g (fun j a b => hw j (by omega))⟩, ⟨?_, ?_, ?_, ?_⟩, ⟨?_, ?_, ?_⟩, ⟨pS_c p rfl rfl (hw 8 (by omega)) tb.2.1 (fun i f a b => hw _ (by omega)), tb_c tb (hw 8 (by omega)) (fun i f a b => hw _ (by omega)), rt, hrt, ?_⟩, pD_k hD tb.2.1 rfl rfl rfl (fun j hj => hw j (by omega)), jR_k hJ (fun j hj => hw j (by omega)), ⟨?_, fun j hj => ?_⟩, ev_kb he (fun j _ b => hw j b), ⟨fun c hc => ?_, ?_⟩⟩
  · rw [hw 0 (by omega)]; exact c5
  · rw [hw 1 (by omega)]; exact c6
  · rw [hw 2 (by omega)]; exact c7
  · rw [hw 7 (by omega)]; exact c10
  · rw [hw 4 (by omega)]; exact r9
  · rw [hw 3 (by omega)]; exact r8
  · rw [hw 6 (by omega)]; exact r11
  · rw [hw 1 (by omega)]; exact ert
  · rw [hw 2764 (by omega)]; exact s1
  · rw [hw 2764 (by omega)] at hj
    rw [hw _ (by omega)]; exact s2 j hj
  · rw [hw _ (by omega), hw _ (by omega)]; exact hg.1 c hc
  · rw [hw 2 (by omega)]; exact hg.2
def sameW (I' I : z_I) (F' F : z_F) : Prop := (∀ q j, cel q j → I' q j = I q j) ∧ (∀ j, j < 48 → F' 8 j = F 8 j)
theorem hR_I (h : hR I F w n k ln) (hs : sameW I' I F' F) (hrm : ∀ j, j < 2 → I' 14 j = I 14 j ∧ I' 16 j = I 16 j ∧ I' 27 j = I 27 j) : hR I' F' w n k ln := by
  obtain ⟨⟨⟨⟨t1, t2, t3⟩, u2, u3, u4⟩, ⟨⟨a1, a2, a3, a4, a5⟩, b, c⟩, kw, g⟩, ⟨c5, c6, c7, c10⟩, ⟨r9, r8, r11⟩, ⟨⟨p1, p2⟩, tb, rt, hrt, ert⟩, ⟨d1, d2⟩, hJ, ⟨s1, s2⟩, he, hg⟩ := h
  obtain ⟨hc, hF⟩ := hs
  have h24 := he.2.1
  have t24 := tb.2.1
  have e1 : ∀ j, 5 ≤ j → j ≤ 11 → I' 1 j = I 1 j := fun j x y => hc 1 j (cel_1 ⟨x, y⟩)
  have e3 : ∀ j, j < 162 → I' 3 j = I 3 j := fun j x => hc 3 j (cel_3 x)
  have e4 : ∀ j, j < 1200 → I' 4 j = I 4 j := fun j x => hc 4 j (cel_4 x)
  have e5 : ∀ j, j < 48 → I' 5 j = I 5 j := fun j x => hc 5 j (cel_5 x)
  have e6 : ∀ j, j < 48 → I' 6 j = I 6 j := fun j x => hc 6 j (cel_6 x)
  have e7 : ∀ j, j < 48 → I' 7 j = I 7 j := fun j x => hc 7 j (cel_7 x)
  have e9 : ∀ j, j < 45 → I' 9 j = I 9 j := fun j x => hc 9 j (cel_9 x)
  have e10 : I' 10 5 = I 10 5 := hc 10 5 (cel_10 rfl)
  have e11 : ∀ j, j < 12 → I' 11 j = I 11 j := fun j x => hc 11 j (cel_11 x)
  have e12 : ∀ j, j < 16 → I' 12 j = I 12 j := fun j x => hc 12 j (cel_12 x)
  have e13 : ∀ j, j < 2 → I' 13 j = I 13 j := fun j x => hc 13 j (cel_13 x)
  have e14 : ∀ j, j = 3 ∨ j = 4 → I' 14 j = I 14 j := fun j x => hc 14 j (cel_14 x)
  have e15 : ∀ j, j < 256 → I' 15 j = I 15 j := fun j x => hc 15 j (cel_15 x)
  have e16 : ∀ j, j = 3 ∨ j = 4 → I' 16 j = I 16 j := fun j x => hc 16 j (cel_16 x)
  have e17 : ∀ j, j < 40 → I' 17 j = I 17 j := fun j x => hc 17 j (cel_17 x)
  have e18 : I' 18 5 = I 18 5 := hc 18 5 (cel_18 rfl)
  have e19 : ∀ j, j < 264 → I' 19 j = I 19 j := fun j x => hc 19 j (cel_19 x)
  have e20 : ∀ j, j < 192 → I' 20 j = I 20 j := fun j x => hc 20 j (cel_20 x)
  have e21 : ∀ j, j < 24 → I' 21 j = I 21 j := fun j x => hc 21 j (cel_21 x)
  have e22 : ∀ j, j < 24 → I' 22 j = I 22 j := fun j x => hc 22 j (cel_22 x)
  have e25 : I' 25 1 = I 25 1 := hc 25 1 (cel_25 rfl)
  have e26 : ∀ j, j < 96 → I' 26 j = I 26 j := fun j x => hc 26 j (cel_26 x)
  have e27 : ∀ j, j = 3 ∨ j = 4 → I' 27 j = I 27 j := fun j x => hc 27 j (cel_27 x)
  have e28 : ∀ j, j < 300 → I' 28 j = I 28 j := fun j x => hc 28 j (cel_28 x)
  refine ⟨⟨⟨⟨fun t ht k x y => ?_, fun t ht => ?_, fun k x y => ?_⟩, fun j hj => ?_, fun j hj => ?_, fun j hj => ?_⟩, ⟨⟨fun b hb => ?_, fun b hb j hj => ?_, fun b hb => ?_, a4, ?_⟩, ?_, ?_⟩, kw, g⟩, ⟨?_, ?_, ?_, ?_⟩, ⟨?_, ?_, ?_⟩, ⟨⟨?_, fun i hi => ?_⟩, tb, rt, hrt, ert⟩, ⟨fun i hi => ?_, fun j hj => ?_⟩, ?_, ⟨?_, fun j hj => ?_⟩, he, hg⟩
  · rw [e3 _ (by omega)]; exact t1 t ht k x y
  · rw [e3 _ (by omega)]; exact t2 t ht
  · rw [e3 _ (by omega)]; exact t3 k x y
  · rw [e4 _ hj]; exact u2 j hj
  · rw [e5 _ hj, e6 _ hj, e7 _ hj, hF _ hj]; exact u3 j hj
  · rw [e9 _ hj]; exact u4 j hj
  · rw [e11 _ (by omega)]; exact a1 b hb
  · rw [e11 _ (by omega)]; exact a2 b hb j hj
  · obtain ⟨p, hp, x, y⟩ := a3 b hb
    refine ⟨p, hp, by rw [e13 _ hb]; exact x, ?_⟩
    rw [ncl_c (r := I 12) fun k hk => e12 _ (by omega)]
    exact y
  · obtain ⟨m0, m1, m3, m4, m5, m6⟩ := a5
    refine ⟨by rw [(hrm 0 (by omega)).1]; exact m0, by rw [(hrm 1 (by omega)).1]; exact m1, by rw [e14 3 (by omega)]; exact m3, by rw [e14 4 (by omega)]; exact m4, m5, fun r hr hr2 => ?_⟩
    rw [e15 _ (by omega), e15 _ (by omega), e15 _ (by omega), e15 _ (by omega)]
    exact m6 r hr hr2
  · rw [e10]; exact b
  · obtain ⟨m0, m1, m3, m4, m5, m6⟩ := c
    refine ⟨by rw [(hrm 0 (by omega)).2.1]; exact m0, by rw [(hrm 1 (by omega)).2.1]; exact m1, by rw [e16 3 (by omega)]; exact m3, by rw [e16 4 (by omega)]; exact m4, m5, fun r hr => ?_⟩
    rw [e17 _ hr]
    exact m6 r hr
  · rw [e1 5 (by omega) (by omega)]; exact c5
  · rw [e1 6 (by omega) (by omega)]; exact c6
  · rw [e1 7 (by omega) (by omega)]; exact c7
  · rw [e1 10 (by omega) (by omega)]; exact c10
  · rw [e1 9 (by omega) (by omega)]; exact r9
  · rw [e1 8 (by omega) (by omega)]; exact r8
  · rw [e1 11 (by omega) (by omega)]; exact r11
  · rw [e18]; exact p1
  · rw [e19 _ (by omega), e19 _ (by omega), e19 _ (by omega), e19 _ (by omega), e19 _ (by omega), e19 _ (by omega), e19 _ (by omega), e19 _ (by omega), e19 _ (by omega), e19 _ (by omega), e19 _ (by omega)]
    exact p2 i hi
  · rw [e21 _ (by omega), e22 _ (by omega)]; exact d1 i hi
  · rw [e20 _ hj]; exact d2 j hj
  · obtain ⟨m0, m1, m3, m4, m5, m6⟩ := hJ
    refine ⟨by rw [(hrm 0 (by omega)).2.2]; exact m0, by rw [(hrm 1 (by omega)).2.2]; exact m1, by rw [e27 3 (by omega)]; exact m3, by rw [e27 4 (by omega)]; exact m4, m5, fun j hj => ?_⟩
    rw [e28 _ hj]
    exact m6 j hj
  · rw [e25]; exact s1
  · rw [e26 _ (by omega)]; exact s2 j hj
theorem lds_c {r r' : Nat → Int32} {f : Nat} : ∀ {m}, m ≤ 24 → (∀ j, j < 264 → r' j = r j) → lds r' f m = lds r f m
  | 0, _, _ => rfl
  | m + 1, hm, h => by
    have ih := lds_c (f := f) (m := m) (by omega) h
    unfold lds
    rw [ih, h _ (by omega), h _ (by omega), h _ (by omega)]
theorem hL_I (h : hL I) (hs : sameW I' I F' F) (h24 : (I 18 5).toNatClampNeg ≤ 24) : hL I' := fun f hf => by
  obtain ⟨hc, -⟩ := hs
  rw [hc 23 f (cel_23 hf), hc 18 5 (cel_18 rfl), lds_c h24 fun j x => hc 19 j (cel_19 x)]
  exact h f hf
theorem hR_24 (h : hR I F w n k ln) : (I 18 5).toNatClampNeg ≤ 24 := by
  obtain ⟨-, -, -, ⟨⟨p1, -⟩, tb, -⟩, -⟩ := h
  rw [p1]; exact tb.2.1
/-- rooms of rings -/
theorem hR_rm (h : hR I F w n k ln) : (I 14 0 = nI 64 ∧ I 14 1 = nI 4) ∧ (I 16 0 = nI 40 ∧ I 16 1 = nI 1) ∧ (I 27 0 = nI 60 ∧ I 27 1 = nI 5) := by
  obtain ⟨⟨-, ⟨⟨-, -, -, -, a5⟩, -, c⟩, -, -⟩, -, -, -, -, hJ, -⟩ := h
  exact ⟨⟨a5.1, a5.2.1⟩, ⟨c.1, c.2.1⟩, ⟨hJ.1, hJ.2.1⟩⟩
end
