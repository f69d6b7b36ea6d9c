/-! words fed, in both -/
def btv (v : Int32) (k : Nat) : Nat := v.toBitVec.toNat / 2 ^ k % 256
theorem nx_or32 (x : Int32) : ∃ n, n < 2 ^ 32 ∧ x = nI n := ⟨x.toBitVec.toNat, x.toBitVec.isLt, Int32.toBitVec_inj.mp (by show _ = BitVec.ofNat 32 _; simp)⟩
theorem byte_lo (x : Int32) : (x &&& 255).toInt8 = x.toInt8 := by
  apply Int8.toBitVec_inj.1
  apply BitVec.eq_of_getLsbD_eq
  intro i hi
  have h2 : (255 : Int32).toBitVec.getLsbD i = true := by
    have : ∀ j : Fin 8, (255 : Int32).toBitVec.getLsbD j.val = true := by decide +kernel
    exact this ⟨i, hi⟩
  have h4 : (x &&& 255).toBitVec.getLsbD i = x.toBitVec.getLsbD i := by
    show (x.toBitVec &&& (255 : Int32).toBitVec).getLsbD i = _
    rw [BitVec.getLsbD_and, h2, Bool.and_true]
  have h3 : i < 32 := by omega
  first
    | (show (((x &&& 255).toBitVec).signExtend 8).getLsbD i = (x.toBitVec.signExtend 8).getLsbD i; rw [BitVec.getLsbD_signExtend, BitVec.getLsbD_signExtend, if_pos h3, if_pos h3, h4])
    | (show (((x &&& 255).toBitVec).setWidth 8).getLsbD i = (x.toBitVec.setWidth 8).getLsbD i; rw [BitVec.getLsbD_setWidth, BitVec.getLsbD_setWidth, h4])
    | (simp [hi, h3, h4]; done)
theorem btv_sg {v : Int32} {k : Nat} (hk : k < 32) : ((v.toUInt32 >>> ((nI k).toUInt32 &&& Int32.toUInt32 31)).toInt32).toInt8.toInt32 = sgb (btv v k) ∧ ((v.toUInt32 >>> ((nI k).toUInt32 &&& Int32.toUInt32 31)).toInt32) &&& 255 = nI (btv v k) ∧ btv v k < 256 := by
  obtain ⟨n, hn, rfl⟩ := nx_or32 v
  have hs : (((nI k).toUInt32 &&& Int32.toUInt32 31).toBitVec % 32).toNat = k := by revert hk; revert k; decide
  have e := pk_ushrN hn (nI k) k hs
  have hb : btv (nI n) k = n / 2 ^ k % 256 := by unfold btv; rw [pk_tn hn]
  have hlt : n / 2 ^ k < 2 ^ 32 := Nat.lt_of_le_of_lt (Nat.div_le_self _ _) hn
  have e2 : nI (n / 2 ^ k) &&& 255 = nI (n / 2 ^ k % 256) := pk_andN hlt (m := 255) 8 (by decide)
  rw [e, hb]
  refine ⟨?_, e2, Nat.mod_lt _ (by decide)⟩
  unfold sgb
  rw [← e2, byte_lo]
section
variable {L : Nat} {xs : Nat → Int32} {d : Nat} {kp sp wd : Value} {I I0 : z_I} {s : z_sg} {R : z_R} {J : z_J} {F : z_F} {cn : Nat} {Q : z_Q} {n k m st c p nn kk ln : Nat} {t : Nat → Nat} {f w y g g0 : Nat → Int32}
theorem z_ms_u45 {i : Nat} {v : Int32} {s : z_sg} : z_up (z_ms I s) 45 i v = z_ms (z_row I 45 (upd (I 45) i v)) s := by
  rw [z_up_row]
  funext b
  by_cases h : b = 45
  · subst h; rw [z_row_s]; rfl
  · rw [z_row_n _ _ h]
    unfold z_ms z_m3
    by_cases h0 : b = 40
    · subst h0; rfl
    · by_cases h1 : b = 41
      · subst h1; rfl
      · by_cases h2 : b = 44
        · subst h2; rfl
        · simp only [z_row, h, h0, h1, h2, if_false]
theorem sgb_2 : ∀ c, c < 256 → (sgb c).toInt8.toInt32 = sgb c := by decide +kernel
theorem lp_tape1 {v : Int32} {K : Nat} (hK : K < 32) (h14 : f 14 = nI n) (hn : n < 500) (hQ : z_WP (z_X0 L xs) z_P0 d m_Mod_tapes 3 [some (.ref 40), some (.int v), some (.int (nI K + -nI 8))] [] (z_ms (z_row I 45 (upd (I 45) n (sgb (btv v K)))) (upd f 14 (nI (n + 1)), w, y)) (z_R0 kp sp wd) J F cn 0 0 Q) :
    z_WP (z_X0 L xs) z_P0 d m_Mod_tapes 3 [some (.ref 40), some (.int v), some (.int (nI K))] [] (z_ms I (f, w, y)) (z_R0 kp sp wd) J F cn 0 0 Q := by
  obtain ⟨b1, b2, b3⟩ := btv_sg (v := v) hK
  have b4 : (v.toUInt32 >>> ((nI K).toUInt32 &&& Int32.toUInt32 (nI 31))).toInt32.toInt8.toInt32 = sgb (btv v K) := b1
  refine z_WP_gos [3] 1000 fun K C hK hC => ?_
  conv => whnf
  refine ⟨fun z => absurd z (nI_pos (by omega)), fun _ => ?_⟩
  conv => whnf
  simp (disch := omega) only [z_lit, nI_add, pk_mul, z_pr1, z_pr2, nI_clamp, z_m3_40, z_m3_41, z_m3_44, z_m3_u40, z_m3_u41, z_m3_u44, z_m3_m3, pk_us, pk_un]
  rw [h14]
  refine ⟨vp_in_nI (N := 500) hn (by decide), ?_⟩
  conv => whnf
  simp (disch := omega) only [z_lit, nI_add, pk_mul, z_pr1, z_pr2, nI_clamp, z_m3_40, z_m3_41, z_m3_44, z_m3_u40, z_m3_u41, z_m3_u44, z_m3_m3, pk_us, pk_un]
  rw [z_ms_u45]
  simp (disch := omega) only [z_lit, nI_add, pk_mul, z_pr1, z_pr2, nI_clamp, z_m3_40, z_m3_41, z_m3_44, z_m3_u40, z_m3_u41, z_m3_u44, z_m3_m3, pk_us, pk_un]
  rw [h14, b4, sgb_2 _ b3]
  simp (disch := omega) only [z_lit, nI_add, pk_mul, z_pr1, z_pr2, nI_clamp, z_m3_40, z_m3_41, z_m3_44, z_m3_u40, z_m3_u41, z_m3_u44, z_m3_m3, pk_us, pk_un]
  refine hK _ _ _ _ _ _ _ _ _ _ (hQ)
def addT (t : Nat → Nat) (n : Nat) (v : Int32) : Nat → Nat := fun j => if j = n then btv v 24 else if j = n + 1 then btv v 16 else if j = n + 2 then btv v 8 else if j = n + 3 then btv v 0 else t j
theorem addT_lt {v : Int32} {j : Nat} (h : ∀ j, j < n → t j < 256) (hj : j < n + 4) : addT t n v j < 256 := by
  have b : ∀ k, k < 32 → btv v k < 256 := fun k hk => (btv_sg (v := v) hk).2.2
  unfold addT
  by_cases a : j = n
  · rw [if_pos a]; exact b 24 (by decide)
  rw [if_neg a]
  by_cases a1 : j = n + 1
  · rw [if_pos a1]; exact b 16 (by decide)
  rw [if_neg a1]
  by_cases a2 : j = n + 2
  · rw [if_pos a2]; exact b 8 (by decide)
  rw [if_neg a2]
  by_cases a3 : j = n + 3
  · rw [if_pos a3]; exact b 0 (by decide)
  rw [if_neg a3]
  exact h j (by omega)
theorem sp_tapes {v : Int32} (hT : mT I t n) (h14 : f 14 = nI n) (hn : n + 4 ≤ 500) (hQ : ∀ r f', mT (z_row I 45 r) (addT t n v) (n + 4) → f' 14 = nI (n + 4) → (∀ j, j ≠ 14 → f' j = f j) → Q none (z_ms (z_row I 45 r) (f', w, y)) (z_R0 kp sp wd) J F cn) :
    z_M (z_X0 L xs) z_P0 d m_Mod_tapes [.ref 40, .int v] (z_ms I (f, w, y)) (z_R0 kp sp wd) J F cn Q := by
  have q := hQ (upd (upd (upd (upd (I 45) n (sgb (btv v 24))) (n + 1) (sgb (btv v 16))) (n + 2) (sgb (btv v 8))) (n + 3) (sgb (btv v 0))) (upd (upd (upd (upd f 14 (nI (n + 1))) 14 (nI (n + 2))) 14 (nI (n + 3))) 14 (nI (n + 4))) (fun j hj => ⟨?_, addT_lt (fun j hj => (hT j hj).2) hj⟩) pk_us (fun j hj => by rw [pk_un hj, pk_un hj, pk_un hj, pk_un hj])
  · refine z_WP_gos [3] 1000 fun K C hK hC => ?_
    conv => whnf
    refine hK _ _ _ _ _ _ _ _ _ _ (lp_tape1 (K := 24) (by decide) h14 (by omega) ?_)
    refine lp_tape1 (K := 16) (by decide) pk_us (by omega) ?_
    refine lp_tape1 (K := 8) (by decide) pk_us (by omega) ?_
    refine lp_tape1 (K := 0) (by decide) pk_us (by omega) ?_
    rw [z_row_s, z_row_row, z_row_s, z_row_row, z_row_s, z_row_row]
    refine z_WP_gos [] 1000 fun K C hK hC => ?_
    conv => whnf
    refine ⟨fun _ => ?_, fun z => absurd (by decide) z⟩
    conv => whnf
    exact q
  · rw [z_row_s]
    unfold addT
    by_cases a : j = n
    · rw [if_pos a, pk_un (by omega), pk_un (by omega), pk_un (by omega), a, pk_us]
    rw [if_neg a]
    by_cases a1 : j = n + 1
    · rw [if_pos a1, pk_un (by omega), pk_un (by omega), a1, pk_us]
    rw [if_neg a1]
    by_cases a2 : j = n + 2
    · rw [if_pos a2, pk_un (by omega), a2, pk_us]
    rw [if_neg a2]
    by_cases a3 : j = n + 3
    · rw [if_pos a3, a3, pk_us]
    rw [if_neg a3, pk_un (by omega), pk_un (by omega), pk_un (by omega), pk_un (by omega)]
    exact (hT j (by omega)).1
end
