/-! what holds between two calls of the law's -/
/-- a world in order, beside the model's row -/
def LW (I : z_I) (F : z_F) (w : Nat → Int32) (c : Nat) : Prop := ∃ n k ln M, hR I F w n k ln ∧ n ≤ 192000 * c ∧ k ≤ 36000 * c ∧ ln ≤ 1440 * c ∧ hL I ∧ w 0 = nI M ∧ M ≤ 9999
def LT (I : z_I) : Prop := ∃ t m, m ≤ 500 ∧ mT I t m ∧ rT I t m ∧ I 40 14 = nI m ∧ I 32 2 = nI m
def LV (I : z_I) : Prop := I 32 3 = I 40 20 ∧ I 32 4 = I 40 23
def LK (kp : Value) (I : z_I) (F : z_F) (c : Nat) : Prop := (kp = .null ∧ I 40 3 = 0) ∨ ∃ b : Nat, (b = 50 ∨ b = 78) ∧ kp = .ref b ∧ ¬ I 40 3 = 0 ∧ ∃ Ik Fk wk, LW Ik Fk wk c ∧ kpt (b - 1) Ik Fk I F ∧ ∀ j, j < 2861 → I 42 j = wk j
def LC (kp sp : Value) (cn : Nat) : Prop := (kp = .null ∧ sp = .null ∧ cn = 50) ∨ (kp = .ref 50 ∧ sp = .null ∧ cn = 78) ∨ (kp = .null ∧ sp = .ref 50 ∧ cn = 78) ∨ (kp = .ref 50 ∧ sp = .ref 78 ∧ cn = 106) ∨ (kp = .ref 78 ∧ sp = .ref 50 ∧ cn = 106)
def LI (kp sp : Value) (cn : Nat) (I : z_I) (F : z_F) (c : Nat) : Prop := LW I F (I 41) c ∧ v01 (I 40 6) ∧ LT I ∧ LV I ∧ LK kp I F c ∧ LC kp sp cn
theorem LW_s {I : z_I} {F : z_F} {w : Nat → Int32} {c : Nat} (h : LW I F w c) : LW I F w (c + 1) := by
  obtain ⟨n, k, ln, M, a, b1, b2, b3, e⟩ := h
  exact ⟨n, k, ln, M, a, by omega, by omega, by omega, e⟩
theorem LK_s {kp : Value} {I : z_I} {F : z_F} {c : Nat} (h : LK kp I F c) : LK kp I F (c + 1) := by
  rcases h with h | ⟨b, hb, e, h3, Ik, Fk, wk, a, r⟩
  · exact Or.inl h
  · exact Or.inr ⟨b, hb, e, h3, Ik, Fk, wk, LW_s a, r⟩
theorem LI_s {kp sp : Value} {cn : Nat} {I : z_I} {F : z_F} {c : Nat} (h : LI kp sp cn I F c) : LI kp sp cn I F (c + 1) := ⟨LW_s h.1, h.2.1, h.2.2.1, h.2.2.2.1, LK_s h.2.2.2.2.1, h.2.2.2.2.2⟩
theorem kpt_c {o : Nat} {Ik I I' : z_I} {Fk F F' : z_F} (h : kpt o Ik Fk I F) (ho : 49 ≤ o) (hI : ∀ b, 50 ≤ b → I' b = I b) (hF : ∀ b, 50 ≤ b → F' b = F b) : kpt o Ik Fk I' F' := by
  refine ⟨fun q j hq => ?_, fun j hj => ?_⟩
  · have q0 : 1 ≤ q := by
      rcases Nat.eq_zero_or_pos q with z | z
      · subst z; unfold cel at hq; omega
      · exact z
    rw [hI _ (by omega)]; exact h.1 q j hq
  · rw [hF _ (by omega)]; exact h.2 j hj
theorem LK_c {kp : Value} {I I' : z_I} {F F' : z_F} {c : Nat} (h : LK kp I F c) (h3 : I' 40 3 = I 40 3) (h42 : I' 42 = I 42) (hI : ∀ b, 50 ≤ b → I' b = I b) (hF : ∀ b, 50 ≤ b → F' b = F b) : LK kp I' F' c := by
  rcases h with h | ⟨b, hb, e, g3, Ik, Fk, wk, a, r, s⟩
  · exact Or.inl ⟨h.1, by rw [h3]; exact h.2⟩
  · have hb' : 49 ≤ b - 1 := by omega
    exact Or.inr ⟨b, hb, e, by rw [h3]; exact g3, Ik, Fk, wk, a, kpt_c r hb' hI hF, by rw [h42]; exact s⟩
theorem LT_c {I I' : z_I} (h : LT I) (h14 : I' 40 14 = I 40 14) (h32 : I' 32 2 = I 32 2) (h33 : I' 33 = I 33) (h45 : I' 45 = I 45) : LT I' := by
  obtain ⟨t, m, a, b, c, e, f⟩ := h
  refine ⟨t, m, a, fun k hk => ?_, fun k hk => ?_, by rw [h14]; exact e, by rw [h32]; exact f⟩
  · rw [h45]; exact b k hk
  · rw [h33]; exact c k hk
/-- cells that a call leaves alone which only changes the world -/
def rst (I I' : z_I) : Prop := (∀ b, b = 32 ∨ b = 33 ∨ b = 42 ∨ b = 45 ∨ 50 ≤ b → I' b = I b) ∧ (∀ j, kK j → I' 40 j = I 40 j)
theorem LI_w {kp sp : Value} {cn : Nat} {I I' : z_I} {F F' : z_F} {c : Nat} (h : LI kp sp cn I F c) (hr : rst I I') (hF : ∀ b, 50 ≤ b → F' b = F b) (hw : LW I' F' (I' 41) (c + 1)) (h6 : v01 (I' 40 6)) : LI kp sp cn I' F' (c + 1) := by
  obtain ⟨-, -, t, v, k, l⟩ := h
  obtain ⟨a, b⟩ := hr
  have k3 : kK 3 := Or.inl rfl
  have k14 : kK 14 := Or.inr ⟨by omega, by omega⟩
  have k20 : kK 20 := Or.inr ⟨by omega, by omega⟩
  have k23 : kK 23 := Or.inr ⟨by omega, by omega⟩
  refine ⟨hw, h6, LT_c t (b 14 k14) (by rw [a 32 (by omega)]) (a 33 (by omega)) (a 45 (by omega)), ⟨?_, ?_⟩, LK_s (LK_c k (b 3 k3) (a 42 (by omega)) (fun b hb => a b (by omega)) hF), l⟩
  · rw [a 32 (by omega), b 20 k20]; exact v.1
  · rw [a 32 (by omega), b 23 k23]; exact v.2
theorem hL_c {I I' : z_I} (h : hL I) (h18 : I' 18 5 = I 18 5) (h19 : I' 19 = I 19) (h23 : I' 23 = I 23) : hL I' := fun f hf => by
  rw [h23, h18, h19]; exact h f hf
/-- states of both as one -/
theorem ms_id {I : z_I} {f w y : Nat → Int32} (h40 : I 40 = f) (h41 : I 41 = w) (h44 : I 44 = y) : z_ms I (f, w, y) = I := by
  funext b
  show (if b = 40 then f else if b = 41 then w else if b = 44 then y else I b) = I b
  by_cases e0 : b = 40
  · rw [if_pos e0, e0, h40]
  · rw [if_neg e0]
    by_cases e1 : b = 41
    · rw [if_pos e1, e1, h41]
    · rw [if_neg e1]
      by_cases e4 : b = 44
      · rw [if_pos e4, e4, h44]
      · rw [if_neg e4]
theorem ms_o {I : z_I} {s : z_sg} {b : Nat} (h0 : b ≠ 40) (h1 : b ≠ 41) (h4 : b ≠ 44) : z_ms I s b = I b := by
  show (if b = 40 then _ else if b = 41 then _ else if b = 44 then _ else I b) = I b
  rw [if_neg h0, if_neg h1, if_neg h4]
theorem M_ms {X : z_X} {P : z_P} {d m : Nat} {as : List Value} {I : z_I} {R : z_R} {J : z_J} {F : z_F} {cn : Nat} {Q : z_Q} {f w y : Nat → Int32} (h40 : I 40 = f) (h41 : I 41 = w) (h44 : I 44 = y) (h : z_M X P d m as (z_ms I (f, w, y)) R J F cn Q) : z_M X P d m as I R J F cn Q := by
  rw [ms_id h40 h41 h44] at h
  exact h
theorem LW_ms {I : z_I} {F : z_F} {s : z_sg} {c n k ln M : Nat} (h : hR I F s.2.1 n k ln) (h1 : n ≤ 192000 * c) (h2 : k ≤ 36000 * c) (h3 : ln ≤ 1440 * c) (hl : hL I) (hM : s.2.1 0 = nI M) (hM9 : M ≤ 9999) : LW (z_ms I s) F (z_ms I s 41) c :=
  ⟨n, k, ln, M, hR_of h (fun b hb => ms_o (by omega) (by omega) (by omega)), h1, h2, h3, hL_c hl (by rw [ms_o (by decide) (by decide) (by decide)]) (ms_o (by decide) (by decide) (by decide)) (ms_o (by decide) (by decide) (by decide)), hM, hM9⟩
theorem rst_ms {I I' : z_I} {s : z_sg} {S : List Nat} (h : fr S I I') (hS : ∀ b, b ∈ S → ¬ (b = 32 ∨ b = 33 ∨ b = 42 ∨ b = 45 ∨ 50 ≤ b)) (hk : ∀ j, kK j → s.1 j = I 40 j) : rst I (z_ms I' s) :=
  ⟨fun b hb => by rw [ms_o (by omega) (by omega) (by omega), h b fun z => hS b z hb], fun j hj => hk j hj⟩
