/-! the class: image -/
theorem z_R0_n5 {kp sp wd v : Value} {b k : Nat} (h : ¬ (b = 0 ∧ k = 5)) : z_R0 kp sp wd b k = z_R0 v sp wd b k := by
  unfold z_R0
  repeat' first
    | with_reducible rfl
    | (refine bif_c (fun x => ?_) (fun x => ?_))
  all_goals exact absurd ⟨Nat.eq_of_beq_eq_true (by assumption), Nat.eq_of_beq_eq_true (by assumption)⟩ h
theorem z_R0_n6 {kp sp wd v : Value} {b k : Nat} (h : ¬ (b = 0 ∧ k = 6)) : z_R0 kp sp wd b k = z_R0 kp v wd b k := by
  unfold z_R0
  repeat' first
    | with_reducible rfl
    | (refine bif_c (fun x => ?_) (fun x => ?_))
  all_goals exact absurd ⟨Nat.eq_of_beq_eq_true (by assumption), Nat.eq_of_beq_eq_true (by assumption)⟩ h
theorem z_R0_kp {kp sp wd v : Value} : z_up (z_R0 kp sp wd) 0 5 v = z_R0 v sp wd := by
  funext b k
  unfold z_up
  by_cases h : b = 0 ∧ k = 5
  · obtain ⟨rfl, rfl⟩ := h
    rfl
  · have e := z_R0_n5 (kp := kp) (sp := sp) (wd := wd) (v := v) h
    by_cases hb : b = 0
    · subst hb
      have hk : k ≠ 5 := fun z => h ⟨rfl, z⟩
      simp [hk, e]
    · simp [hb, e]
theorem z_R0_sp {kp sp wd v : Value} : z_up (z_R0 kp sp wd) 0 6 v = z_R0 kp v wd := by
  funext b k
  unfold z_up
  by_cases h : b = 0 ∧ k = 6
  · obtain ⟨rfl, rfl⟩ := h
    rfl
  · have e := z_R0_n6 (kp := kp) (sp := sp) (wd := wd) (v := v) h
    by_cases hb : b = 0
    · subst hb
      have hk : k ≠ 6 := fun z => h ⟨rfl, z⟩
      simp [hk, e]
    · simp [hb, e]
/-- at o lies a copy of the world of Ik, Fk -/
def kpt (o : Nat) (Ik : z_I) (Fk : z_F) (I : z_I) (F : z_F) : Prop := (∀ q j, cel q j → I (o + q) j = Ik q j) ∧ (∀ j, j < 48 → F (o + 8) j = Fk 8 j)
section
variable {L : Nat} {xs : Nat → Int32} {d : Nat} {kp sp wd : Value} {I : z_I} {s : z_sg} {R : z_R} {J : z_J} {F : z_F} {cn : Nat} {Q : z_Q}
theorem zR_50 : (z_row (z_row (z_row (z_row (z_row (z_row (z_row (z_row (z_R0 kp sp wd) 50 (rz 50)) 51 (rz 51)) 59 (rz 59)) 63 (rz 63)) 65 (rz 65)) 67 (rz 67)) 74 (rz 74)) 76 (rz 76)) = z_R0 kp sp wd := by
  rw [show rz 50 = z_R0 kp sp wd 50 from rfl, z_row_idJ]
  rw [show rz 51 = z_R0 kp sp wd 51 from rfl, z_row_idJ]
  rw [show rz 59 = z_R0 kp sp wd 59 from rfl, z_row_idJ]
  rw [show rz 63 = z_R0 kp sp wd 63 from rfl, z_row_idJ]
  rw [show rz 65 = z_R0 kp sp wd 65 from rfl, z_row_idJ]
  rw [show rz 67 = z_R0 kp sp wd 67 from rfl, z_row_idJ]
  rw [show rz 74 = z_R0 kp sp wd 74 from rfl, z_row_idJ]
  rw [show rz 76 = z_R0 kp sp wd 76 from rfl, z_row_idJ]
theorem ci_at_50 (hQ : ∀ (I' : z_I) (J' : z_J) (F' : z_F), (∀ c, c < 50 → I' c = I c) → (∀ c, c < 50 → F' c = F c) → Q none I' (z_R0 kp sp wd) J' F' 78) :
    z_M (z_X0 L xs) z_P0 (d + 2) m_World_init [.ref 50] I (z_row (z_R0 kp sp wd) 50 (fun _ => .null)) J F 51 Q := by
  refine ci_world_50 (fun J' F' h1 _ => ?_)
  rw [zR_50]
  refine hQ _ J' F' (fun c hc => ?_) h1
  have : ¬ (51 ≤ c ∧ c < 51 + 27) := by omega
  rw [z_row_n _ _ (by omega), z_row_n _ _ (by omega), z_row_n _ _ (by omega), z_row_n _ _ (by omega), z_row_n _ _ (by omega)]
  unfold zI
  rw [if_neg this]
theorem cb_imageN_50 {v : Int32} (hv : ¬ v = 0) (hQ : ∀ (I' : z_I) (J' : z_J) (F' : z_F), kpt 49 I F I' F' → (∀ c, c < 50 → I' c = I c) → (∀ c, c < 50 → F' c = F c) → Q (some (.int 1)) I' (z_R0 (.ref 50) sp wd) J' F' 78) :
    z_M (z_X0 L xs) z_P0 (d + 3) m_Bus_image [.ref 0, .int v] I (z_R0 .null sp wd) J F 50 Q := by
  refine z_WP_gos [] 1000 fun K C hK hC => ?_
  conv => whnf
  refine ⟨fun g => absurd g hv, fun _ => ?_⟩
  conv => whnf
  refine And.intro (by simp only [X_sh, X_bd]; decide) ?_
  conv => whnf
  refine And.intro (by simp only [X_sh, X_bd]; decide) ?_
  refine hC _ _ _ _ _ _ _ _ _ _ (fun _ _ _ _ _ _ q => q) (ci_at_50 (fun I1 J1 F1 h1 h2 => ?_))
  conv => whnf
  rw [z_R0_kp]
  refine hC _ _ _ _ _ _ _ _ _ _ (fun _ _ _ _ _ _ q => q) (cy_world_50_1 (fun I2 F2 a1 a2 a3 a4 => ?_))
  conv => whnf
  refine ⟨Or.inr rfl, ?_⟩
  have i1 : ∀ c, c < 50 → I1 c = I c := fun c hc => by rw [h1 c hc, z_row_n _ _ (by omega)]
  refine hQ I2 J1 F2 ⟨fun q j hq => ?_, fun j hj => ?_⟩ (fun c hc => ?_) (fun c hc => ?_)
  · rw [a1 q j hq, Nat.zero_add]
    have : q < 50 := by unfold cel at hq; omega
    rw [i1 q this]
  · rw [a3 j hj, h2 8 (by omega)]
  · rw [a2 c (by omega), i1 c hc]
  · rw [a4 c (by omega), h2 c hc]
theorem cb_imageO_50 {v : Int32} (hv : ¬ v = 0) (hQ : ∀ (I' : z_I) (F' : z_F), kpt 49 I F I' F' → (∀ c, c < 50 ∨ 77 < c → I' c = I c) → (∀ c, c ≠ 57 → F' c = F c) → Q (some (.int 1)) I' (z_R0 (.ref 50) sp wd) J F' cn) :
    z_M (z_X0 L xs) z_P0 (d + 3) m_Bus_image [.ref 0, .int v] I (z_R0 (.ref 50) sp wd) J F cn Q := by
  refine z_WP_gos [] 1000 fun K C hK hC => ?_
  conv => whnf
  refine ⟨fun g => absurd g hv, fun _ => ?_⟩
  conv => whnf
  refine hC _ _ _ _ _ _ _ _ _ _ (fun _ _ _ _ _ _ q => q) (cy_world_50_1 (fun I2 F2 a1 a2 a3 a4 => ?_))
  conv => whnf
  refine ⟨Or.inr rfl, ?_⟩
  refine hQ I2 F2 ⟨fun q j hq => ?_, fun j hj => a3 j hj⟩ a2 a4
  rw [a1 q j hq, Nat.zero_add]
theorem cb_imageB_50 {Ik : z_I} {Fk : z_F} (hk : kpt 49 Ik Fk I F) (hQ : ∀ (I' : z_I) (F' : z_F), sameW I' Ik F' Fk → (∀ c, c < 1 ∨ 28 < c → I' c = I c) → (∀ j, j < 2 → I' 14 j = I 14 j ∧ I' 16 j = I 16 j ∧ I' 27 j = I 27 j) → (∀ c, c ≠ 8 → F' c = F c) → Q (some (.int 1)) I' (z_R0 (.ref 50) sp wd) J F' cn) :
    z_M (z_X0 L xs) z_P0 (d + 3) m_Bus_image [.ref 0, .int 0] I (z_R0 (.ref 50) sp wd) J F cn Q := by
  refine z_WP_gos [] 1000 fun K C hK hC => ?_
  conv => whnf
  repeat ((first | refine And.intro (by (conv => arg 2; whnf); (try simp only [z_lit, nI_add, pk_mul, z_pr1, z_pr2]); exact z_in (by omega) (by decide)) ?_ | refine z_bt1 (by decide) ?_ | refine z_bf1 (by decide) ?_ | refine z_bt2 (by decide) ?_ | refine z_bf2 (by decide) ?_); conv => whnf)
  refine hC _ _ _ _ _ _ _ _ _ _ (fun _ _ _ _ _ _ q => q) (cy_world_1_50 (fun I2 F2 a1 a2 a3 a4 a5 => ?_))
  conv => whnf
  refine ⟨Or.inr rfl, ?_⟩
  refine hQ I2 F2 ⟨fun q j hq => ?_, fun j hj => ?_⟩ a2 a5 a4
  · have := a1 q j hq
    rw [Nat.zero_add] at this
    rw [this]; exact hk.1 q j hq
  · rw [a3 j hj]; exact hk.2 j hj
theorem zR_78 : (z_row (z_row (z_row (z_row (z_row (z_row (z_row (z_row (z_R0 kp sp wd) 78 (rz 78)) 79 (rz 79)) 87 (rz 87)) 91 (rz 91)) 93 (rz 93)) 95 (rz 95)) 102 (rz 102)) 104 (rz 104)) = z_R0 kp sp wd := by
  rw [show rz 78 = z_R0 kp sp wd 78 from rfl, z_row_idJ]
  rw [show rz 79 = z_R0 kp sp wd 79 from rfl, z_row_idJ]
  rw [show rz 87 = z_R0 kp sp wd 87 from rfl, z_row_idJ]
  rw [show rz 91 = z_R0 kp sp wd 91 from rfl, z_row_idJ]
  rw [show rz 93 = z_R0 kp sp wd 93 from rfl, z_row_idJ]
  rw [show rz 95 = z_R0 kp sp wd 95 from rfl, z_row_idJ]
  rw [show rz 102 = z_R0 kp sp wd 102 from rfl, z_row_idJ]
  rw [show rz 104 = z_R0 kp sp wd 104 from rfl, z_row_idJ]
theorem ci_at_78 (hQ : ∀ (I' : z_I) (J' : z_J) (F' : z_F), (∀ c, c < 78 → I' c = I c) → (∀ c, c < 78 → F' c = F c) → Q none I' (z_R0 kp sp wd) J' F' 106) :
    z_M (z_X0 L xs) z_P0 (d + 2) m_World_init [.ref 78] I (z_row (z_R0 kp sp wd) 78 (fun _ => .null)) J F 79 Q := by
  refine ci_world_78 (fun J' F' h1 _ => ?_)
  rw [zR_78]
  refine hQ _ J' F' (fun c hc => ?_) h1
  have : ¬ (79 ≤ c ∧ c < 79 + 27) := by omega
  rw [z_row_n _ _ (by omega), z_row_n _ _ (by omega), z_row_n _ _ (by omega), z_row_n _ _ (by omega), z_row_n _ _ (by omega)]
  unfold zI
  rw [if_neg this]
theorem cb_imageN_78 {v : Int32} (hv : ¬ v = 0) (hQ : ∀ (I' : z_I) (J' : z_J) (F' : z_F), kpt 77 I F I' F' → (∀ c, c < 78 → I' c = I c) → (∀ c, c < 78 → F' c = F c) → Q (some (.int 1)) I' (z_R0 (.ref 78) sp wd) J' F' 106) :
    z_M (z_X0 L xs) z_P0 (d + 3) m_Bus_image [.ref 0, .int v] I (z_R0 .null sp wd) J F 78 Q := by
  refine z_WP_gos [] 1000 fun K C hK hC => ?_
  conv => whnf
  refine ⟨fun g => absurd g hv, fun _ => ?_⟩
  conv => whnf
  refine And.intro (by simp only [X_sh, X_bd]; decide) ?_
  conv => whnf
  refine And.intro (by simp only [X_sh, X_bd]; decide) ?_
  refine hC _ _ _ _ _ _ _ _ _ _ (fun _ _ _ _ _ _ q => q) (ci_at_78 (fun I1 J1 F1 h1 h2 => ?_))
  conv => whnf
  rw [z_R0_kp]
  refine hC _ _ _ _ _ _ _ _ _ _ (fun _ _ _ _ _ _ q => q) (cy_world_78_1 (fun I2 F2 a1 a2 a3 a4 => ?_))
  conv => whnf
  refine ⟨Or.inr rfl, ?_⟩
  have i1 : ∀ c, c < 78 → I1 c = I c := fun c hc => by rw [h1 c hc, z_row_n _ _ (by omega)]
  refine hQ I2 J1 F2 ⟨fun q j hq => ?_, fun j hj => ?_⟩ (fun c hc => ?_) (fun c hc => ?_)
  · rw [a1 q j hq, Nat.zero_add]
    have : q < 78 := by unfold cel at hq; omega
    rw [i1 q this]
  · rw [a3 j hj, h2 8 (by omega)]
  · rw [a2 c (by omega), i1 c hc]
  · rw [a4 c (by omega), h2 c hc]
theorem cb_imageO_78 {v : Int32} (hv : ¬ v = 0) (hQ : ∀ (I' : z_I) (F' : z_F), kpt 77 I F I' F' → (∀ c, c < 78 ∨ 105 < c → I' c = I c) → (∀ c, c ≠ 85 → F' c = F c) → Q (some (.int 1)) I' (z_R0 (.ref 78) sp wd) J F' cn) :
    z_M (z_X0 L xs) z_P0 (d + 3) m_Bus_image [.ref 0, .int v] I (z_R0 (.ref 78) sp wd) J F cn Q := by
  refine z_WP_gos [] 1000 fun K C hK hC => ?_
  conv => whnf
  refine ⟨fun g => absurd g hv, fun _ => ?_⟩
  conv => whnf
  refine hC _ _ _ _ _ _ _ _ _ _ (fun _ _ _ _ _ _ q => q) (cy_world_78_1 (fun I2 F2 a1 a2 a3 a4 => ?_))
  conv => whnf
  refine ⟨Or.inr rfl, ?_⟩
  refine hQ I2 F2 ⟨fun q j hq => ?_, fun j hj => a3 j hj⟩ a2 a4
  rw [a1 q j hq, Nat.zero_add]
theorem cb_imageB_78 {Ik : z_I} {Fk : z_F} (hk : kpt 77 Ik Fk I F) (hQ : ∀ (I' : z_I) (F' : z_F), sameW I' Ik F' Fk → (∀ c, c < 1 ∨ 28 < c → I' c = I c) → (∀ j, j < 2 → I' 14 j = I 14 j ∧ I' 16 j = I 16 j ∧ I' 27 j = I 27 j) → (∀ c, c ≠ 8 → F' c = F c) → Q (some (.int 1)) I' (z_R0 (.ref 78) sp wd) J F' cn) :
    z_M (z_X0 L xs) z_P0 (d + 3) m_Bus_image [.ref 0, .int 0] I (z_R0 (.ref 78) sp wd) J F cn Q := by
  refine z_WP_gos [] 1000 fun K C hK hC => ?_
  conv => whnf
  repeat ((first | refine And.intro (by (conv => arg 2; whnf); (try simp only [z_lit, nI_add, pk_mul, z_pr1, z_pr2]); exact z_in (by omega) (by decide)) ?_ | refine z_bt1 (by decide) ?_ | refine z_bf1 (by decide) ?_ | refine z_bt2 (by decide) ?_ | refine z_bf2 (by decide) ?_); conv => whnf)
  refine hC _ _ _ _ _ _ _ _ _ _ (fun _ _ _ _ _ _ q => q) (cy_world_1_78 (fun I2 F2 a1 a2 a3 a4 a5 => ?_))
  conv => whnf
  refine ⟨Or.inr rfl, ?_⟩
  refine hQ I2 F2 ⟨fun q j hq => ?_, fun j hj => ?_⟩ a2 a5 a4
  · have := a1 q j hq
    rw [Nat.zero_add] at this
    rw [this]; exact hk.1 q j hq
  · rw [a3 j hj]; exact hk.2 j hj
theorem cb_image0 (hQ : Q (some (.int 0)) I (z_R0 .null sp wd) J F cn) : z_M (z_X0 L xs) z_P0 (d + 3) m_Bus_image [.ref 0, .int 0] I (z_R0 .null sp wd) J F cn Q := by
  refine z_WP_gos [] 1000 fun K C hK hC => ?_
  conv => whnf
  repeat ((first | refine And.intro (by (conv => arg 2; whnf); (try simp only [z_lit, nI_add, pk_mul, z_pr1, z_pr2]); exact z_in (by omega) (by decide)) ?_ | refine z_bt1 (by decide) ?_ | refine z_bf1 (by decide) ?_ | refine z_bt2 (by decide) ?_ | refine z_bf2 (by decide) ?_); conv => whnf)
  exact ⟨Or.inl rfl, hQ⟩
end
