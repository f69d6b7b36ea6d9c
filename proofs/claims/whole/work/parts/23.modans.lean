/-! the model's talks, whole; answers -/
abbrev z_sg : Type := (Nat → Int32) × (Nat → Int32) × (Nat → Int32)
abbrev z_ms (I : z_I) (s : z_sg) : z_I := z_m3 I s.1 s.2.1 s.2.2
/-- the counters of what is heard and let go are small numbers -/
def m_ok (s : z_sg) (B : Nat) : Prop := ∃ n k : Nat, s.2.1 2315 = nI n ∧ s.2.1 10 = nI k ∧ n ≤ B ∧ k ≤ B
def m_trails (s : z_sg) (v : Int32) : z_sg := (s.1, s_trails s.2.1 (s.2.1 10).toNatClampNeg v, s.2.2)
def m_lays (s : z_sg) (bus : Nat) (who : Int32) (many : Nat) : z_sg × Int32 :=
  let held := s_held s.2.1 bus
  let w0 := upd s.2.1 5 (s.2.1 5 + z_bi held)
  let r := s_lays w0 s.2.2 (s.2.1 2315).toNatClampNeg bus who held many
  let w1 := upd r.1 (2306 + 5 * bus) (r.1 (2306 + 5 * bus) + nI 1)
  (m_trails (upd s.1 4 (s.1 4 + nI (20 * many)), w1, s.2.2) (nI (10 * bus) + who), r.2)
theorem m_ok_n {s : z_sg} {B : Nat} (h : m_ok s B) (hB : B < 2 ^ 29) : s.2.1 2315 = nI (s.2.1 2315).toNatClampNeg ∧ (s.2.1 2315).toNatClampNeg ≤ B := by
  obtain ⟨n, k, h1, h2, h3, h4⟩ := h
  rw [h1, nI_clamp (by omega)]
  exact ⟨rfl, h3⟩
theorem m_ok_k {s : z_sg} {B : Nat} (h : m_ok s B) (hB : B < 2 ^ 29) : s.2.1 10 = nI (s.2.1 10).toNatClampNeg ∧ (s.2.1 10).toNatClampNeg ≤ B := by
  obtain ⟨n, k, h1, h2, h3, h4⟩ := h
  rw [h2, nI_clamp (by omega)]
  exact ⟨rfl, h4⟩
theorem s_lay1_lo {w : Nat → Int32} {n bus j : Nat} {who bits : Int32} {held : Bool} (h : bus < 2) (hj : j < 13 ∨ (31 ≤ j ∧ j < 2305) ∨ 2572 ≤ j) : (s_lay1 w n bus who bits held).1 j = w j := by
  unfold s_lay1
  simp only
  rw [pk_un (by omega), s_hears_lo (by omega), s_clr_hi h (by omega) (by omega), pk_un (by omega)]
theorem s_lays_lo {w y : Nat → Int32} {n bus j : Nat} {who : Int32} {held : Bool} (h : bus < 2) (hj : j < 13 ∨ (31 ≤ j ∧ j < 2305) ∨ 2572 ≤ j) : ∀ k, (s_lays w y n bus who held k).1 j = w j
  | 0 => rfl
  | k + 1 => (s_lay1_lo h hj).trans (s_lays_lo h hj k)
theorem s_trails_o {w : Nat → Int32} {n j : Nat} {v : Int32} (hj : j ≠ 10) (h2 : j < 2220 ∨ 2260 ≤ j) : s_trails w n v j = w j := by
  have : n % 40 < 40 := Nat.mod_lt _ (by decide)
  unfold s_trails
  rw [pk_un hj, pk_un (by omega)]
theorem m_trails_ok {s : z_sg} {B : Nat} {v : Int32} (h : m_ok s B) (hB : B < 2 ^ 29) : m_ok (m_trails s v) (B + 1) := by
  obtain ⟨n, k, h1, h2, h3, h4⟩ := h
  refine ⟨n, k + 1, ?_, ?_, by omega, by omega⟩
  · show s_trails s.2.1 _ v 2315 = _
    rw [s_trails_o (by omega) (by omega)]; exact h1
  · show s_trails s.2.1 (s.2.1 10).toNatClampNeg v 10 = _
    rw [h2, nI_clamp (by omega)]
    exact pk_us
/-- what a talk leaves alone -/
theorem m_lays_lo {s : z_sg} {bus many j : Nat} {who : Int32} (hb : bus < 2) (hj : j ≠ 5 ∧ j ≠ 10 ∧ (j < 13 ∨ (31 ≤ j ∧ j < 2220) ∨ (2260 ≤ j ∧ j < 2305) ∨ 2572 ≤ j)) : (m_lays s bus who many).1.2.1 j = s.2.1 j := by
  unfold m_lays m_trails
  simp only
  rw [s_trails_o hj.2.1 (by omega), pk_un (by omega), s_lays_lo hb (by omega), pk_un hj.1]
theorem m_lays_ok {s : z_sg} {bus many B : Nat} {who : Int32} (hb : bus < 2) (h : m_ok s B) (hB : B + many < 2 ^ 29) : m_ok (m_lays s bus who many).1 (B + many + 1) := by
  obtain ⟨n, k, h1, h2, h3, h4⟩ := id h
  unfold m_lays
  simp only
  refine m_trails_ok ?_ (by omega)
  refine ⟨n + many, k, ?_, ?_, by omega, by omega⟩
  · show upd _ (2306 + 5 * bus) _ 2315 = _
    rw [pk_un (by omega), h1, nI_clamp (by omega), s_lays_n hb (by rw [pk_un (by omega)]; exact h1)]
  · show upd _ (2306 + 5 * bus) _ 10 = _
    rw [pk_un (by omega), s_lays_lo hb (by omega), pk_un (by omega)]; exact h2
section
variable {L : Nat} {xs : Nat → Int32} {d : Nat} {kp sp wd : Value} {I : z_I} {s : z_sg} {R : z_R} {J : z_J} {F : z_F} {cn : Nat} {Q : z_Q}
theorem sp_Mod_lays {bus many B : Nat} {who : Int32} (hb : bus < 2) (hm : many ≤ 10) (hs : m_ok s B) (hB : B + 20 < 2 ^ 29) (hQ : Q (some (.int (m_lays s bus who many).2)) (z_ms I (m_lays s bus who many).1) (z_R0 kp sp wd) J F cn) : z_M (z_X0 L xs) z_P0 (d + 2) m_Mod_lays [.ref 40, .int (nI bus), .int who, .int (nI many)] (z_ms I s) (z_R0 kp sp wd) J F cn Q := by
  obtain ⟨f, w, y⟩ := s
  obtain ⟨hn, hn2⟩ := m_ok_n hs (by omega)
  obtain ⟨hk, hk2⟩ := m_ok_k hs (by omega)
  simp only at hn hk hn2 hk2
  unfold m_lays at hQ
  simp only at hQ
  generalize (w 2315).toNatClampNeg = n at hn hn2 hQ
  have hk3 : ∀ held : Bool, upd (s_lays (upd w 5 (w 5 + z_bi held)) y n bus who held many).1 (2306 + 5 * bus) ((s_lays (upd w 5 (w 5 + z_bi held)) y n bus who held many).1 (2306 + 5 * bus) + nI 1) 10 = nI (w 10).toNatClampNeg := by
    intro held
    rw [pk_un (by omega), s_lays_lo hb (by omega), pk_un (by omega)]; exact hk
  have fin : ∀ (held : Bool) (lc : Option Value), s_held w bus = held → z_WP (z_X0 L xs) z_P0 (d + 2) m_Mod_lays 145 [some (.ref 40), some (.int (nI bus)), some (.int who), some (.int (nI many)), some (.int (z_bi held)), some (.int (s_lays (upd w 5 (w 5 + z_bi held)) y n bus who held many).2), some (.int (nI many)), lc] [] (z_m3 I f (s_lays (upd w 5 (w 5 + z_bi held)) y n bus who held many).1 y) (z_R0 kp sp wd) J F cn 0 0 Q := by
    intro held lc hh
    rw [hh] at hQ
    refine z_WP_gos [] 1000 fun K C hK hC => ?_
    conv => whnf
    repeat ((first | refine And.intro (by (conv => arg 2; whnf); (try simp only [z_lit, nI_add, pk_mul, z_pr1, z_pr2]); exact z_in (by omega) (by decide)) ?_ | refine z_bt1 (by decide) ?_ | refine z_bf1 (by decide) ?_ | refine z_bt2 (by decide) ?_ | refine z_bf2 (by decide) ?_); conv => whnf)
    simp (disch := omega) only [z_lit, nI_add, pk_mul, z_pr1, z_pr2, nI_clamp, z_m3_40, z_m3_41, z_m3_44, z_m3_u40, z_m3_u41, z_m3_u44, z_m3_m3, pk_us, pk_un]
    refine hC _ _ _ _ _ _ _ _ _ _ (fun _ _ _ _ _ _ q => q) (sp_Mod_trails (n := (w 10).toNatClampNeg) ?_ ?_ ?_)
    conv => whnf
    · show upd _ (2305 + 5 * bus + 1) _ 10 = _
      rw [show 2305 + 5 * bus + 1 = 2306 + 5 * bus by omega]
      exact hk3 held
    · omega
    · refine z_Qi hQ rfl ?_
      rw [show 2305 + 5 * bus + 1 = 2306 + 5 * bus by omega]
      unfold m_trails
      simp only
      rw [hk3 held, nI_clamp (by omega)]
  refine z_WP_gos [32] 1000 fun K C hK hC => ?_
  conv => whnf
  refine hC _ _ _ _ _ _ _ _ _ _ (fun _ _ _ _ _ _ q => q) (sp_Mod_isHeld hb (fun h => ?_) (fun h => ?_))
  conv => whnf
  · repeat ((first | refine And.intro (by (conv => arg 2; whnf); (try simp only [z_lit, nI_add, pk_mul, z_pr1, z_pr2]); exact z_in (by omega) (by decide)) ?_ | refine z_bt1 (by decide) ?_ | refine z_bf1 (by decide) ?_ | refine z_bt2 (by decide) ?_ | refine z_bf2 (by decide) ?_); conv => whnf)
    simp (disch := omega) only [z_lit, nI_add, pk_mul, z_pr1, z_pr2, nI_clamp, z_m3_40, z_m3_41, z_m3_44, z_m3_u40, z_m3_u41, z_m3_u44, z_m3_m3, pk_us, pk_un]
    refine hK _ _ _ _ _ _ _ _ _ _ (lp_Mod_lays (w := upd w 5 (w 5 + z_bi true)) (held := true) hb hm (by rw [pk_un (by omega)]; exact hn) (by omega) (fin true none h) (fun v => fin true _ h) many 0 none (by omega) (Or.inl rfl))
  · conv => whnf
    repeat ((first | refine And.intro (by (conv => arg 2; whnf); (try simp only [z_lit, nI_add, pk_mul, z_pr1, z_pr2]); exact z_in (by omega) (by decide)) ?_ | refine z_bt1 (by decide) ?_ | refine z_bf1 (by decide) ?_ | refine z_bt2 (by decide) ?_ | refine z_bf2 (by decide) ?_); conv => whnf)
    simp (disch := omega) only [z_lit, nI_add, pk_mul, z_pr1, z_pr2, nI_clamp, z_m3_40, z_m3_41, z_m3_44, z_m3_u40, z_m3_u41, z_m3_u44, z_m3_m3, pk_us, pk_un]
    refine hK _ _ _ _ _ _ _ _ _ _ (lp_Mod_lays (w := upd w 5 (w 5 + z_bi false)) (held := false) hb hm (by rw [pk_un (by omega)]; exact hn) (by omega) (fin false none h) (fun v => fin false _ h) many 0 none (by omega) (Or.inl rfl))
/-! small questions -/
theorem sp_Mod_isHearing {t bus : Nat} (ht : t < 9) (hb : bus < 2) (h1 : s.2.1 (31 + t) = nI 1 → s.2.1 (80 + t) >>> (nI bus &&& nI 31) &&& nI 1 = nI 0 → ¬ nI t = s.2.1 3 → Q (some (.int 1)) (z_ms I s) (z_R0 kp sp wd) J F cn) (h0 : ¬ (s.2.1 (31 + t) = nI 1 ∧ s.2.1 (80 + t) >>> (nI bus &&& nI 31) &&& nI 1 = nI 0 ∧ ¬ nI t = s.2.1 3) → Q (some (.int 0)) (z_ms I s) (z_R0 kp sp wd) J F cn) : z_M (z_X0 L xs) z_P0 d m_Mod_isHearing [.ref 40, .int (nI t), .int (nI bus)] (z_ms I s) (z_R0 kp sp wd) J F cn Q := by
  obtain ⟨f, w, y⟩ := s
  refine z_WP_gos [] 1000 fun K C hK hC => ?_
  conv => whnf
  repeat ((first | refine And.intro (by (conv => arg 2; whnf); (try simp only [z_lit, nI_add, pk_mul, z_pr1, z_pr2]); exact z_in (by omega) (by decide)) ?_ | refine z_bt1 (by decide) ?_ | refine z_bf1 (by decide) ?_ | refine z_bt2 (by decide) ?_ | refine z_bf2 (by decide) ?_); conv => whnf)
  refine ⟨fun h => ?_, fun h => ?_⟩
  · simp (disch := omega) only [z_lit, nI_add, pk_mul, z_pr1, z_pr2, nI_clamp, z_m3_40, z_m3_41, z_m3_44, z_m3_u40, z_m3_u41, z_m3_u44, z_m3_m3, pk_us, pk_un] at h
    conv => whnf
    exact ⟨Or.inl rfl, h0 fun z => h z.1⟩
  · simp (disch := omega) only [z_lit, nI_add, pk_mul, z_pr1, z_pr2, nI_clamp, z_m3_40, z_m3_41, z_m3_44, z_m3_u40, z_m3_u41, z_m3_u44, z_m3_m3, pk_us, pk_un] at h
    conv => whnf
    repeat ((first | refine And.intro (by (conv => arg 2; whnf); (try simp only [z_lit, nI_add, pk_mul, z_pr1, z_pr2]); exact z_in (by omega) (by decide)) ?_ | refine z_bt1 (by decide) ?_ | refine z_bf1 (by decide) ?_ | refine z_bt2 (by decide) ?_ | refine z_bf2 (by decide) ?_); conv => whnf)
    refine ⟨fun g => ?_, fun g => ?_⟩
    · simp (disch := omega) only [z_lit, nI_add, pk_mul, z_pr1, z_pr2, nI_clamp, z_m3_40, z_m3_41, z_m3_44, z_m3_u40, z_m3_u41, z_m3_u44, z_m3_m3, pk_us, pk_un] at g
      conv => whnf
      exact ⟨Or.inl rfl, h0 fun z => g z.2.1⟩
    · simp (disch := omega) only [z_lit, nI_add, pk_mul, z_pr1, z_pr2, nI_clamp, z_m3_40, z_m3_41, z_m3_44, z_m3_u40, z_m3_u41, z_m3_u44, z_m3_m3, pk_us, pk_un] at g
      conv => whnf
      repeat ((first | refine And.intro (by (conv => arg 2; whnf); (try simp only [z_lit, nI_add, pk_mul, z_pr1, z_pr2]); exact z_in (by omega) (by decide)) ?_ | refine z_bt1 (by decide) ?_ | refine z_bf1 (by decide) ?_ | refine z_bt2 (by decide) ?_ | refine z_bf2 (by decide) ?_); conv => whnf)
      refine ⟨fun k => ?_, fun k => ?_⟩
      · simp (disch := omega) only [z_lit, nI_add, pk_mul, z_pr1, z_pr2, nI_clamp, z_m3_40, z_m3_41, z_m3_44, z_m3_u40, z_m3_u41, z_m3_u44, z_m3_m3, pk_us, pk_un] at k
        conv => whnf
        exact ⟨Or.inl rfl, h0 fun z => z.2.2 k⟩
      · simp (disch := omega) only [z_lit, nI_add, pk_mul, z_pr1, z_pr2, nI_clamp, z_m3_40, z_m3_41, z_m3_44, z_m3_u40, z_m3_u41, z_m3_u44, z_m3_m3, pk_us, pk_un] at k
        conv => whnf
        exact ⟨Or.inr rfl, h1 h g k⟩
theorem sp_Mod_isShut {t bus : Nat} (ht : t < 8) (hb : bus < 2) (h1 : s.2.1 (112 + t) >>> (nI bus &&& nI 31) &&& nI 1 = nI 1 → Q (some (.int 1)) (z_ms I s) (z_R0 kp sp wd) J F cn) (h0 : ¬ (s.2.1 (112 + t) >>> (nI bus &&& nI 31) &&& nI 1 = nI 1) → Q (some (.int 0)) (z_ms I s) (z_R0 kp sp wd) J F cn) : z_M (z_X0 L xs) z_P0 d m_Mod_isShut [.ref 40, .int (nI t), .int (nI bus)] (z_ms I s) (z_R0 kp sp wd) J F cn Q := by
  obtain ⟨f, w, y⟩ := s
  refine z_WP_gos [] 1000 fun K C hK hC => ?_
  conv => whnf
  repeat ((first | refine And.intro (by (conv => arg 2; whnf); (try simp only [z_lit, nI_add, pk_mul, z_pr1, z_pr2]); exact z_in (by omega) (by decide)) ?_ | refine z_bt1 (by decide) ?_ | refine z_bf1 (by decide) ?_ | refine z_bt2 (by decide) ?_ | refine z_bf2 (by decide) ?_); conv => whnf)
  refine ⟨fun h => ?_, fun h => ?_⟩
  · simp (disch := omega) only [z_lit, nI_add, pk_mul, z_pr1, z_pr2, nI_clamp, z_m3_40, z_m3_41, z_m3_44, z_m3_u40, z_m3_u41, z_m3_u44, z_m3_m3, pk_us, pk_un] at h
    conv => whnf
    exact ⟨Or.inl rfl, h0 h⟩
  · simp (disch := omega) only [z_lit, nI_add, pk_mul, z_pr1, z_pr2, nI_clamp, z_m3_40, z_m3_41, z_m3_44, z_m3_u40, z_m3_u41, z_m3_u44, z_m3_m3, pk_us, pk_un] at h
    conv => whnf
    exact ⟨Or.inr rfl, h1 h⟩
theorem sp_Mod_isLegal {t sub : Nat} (ht : t < 8) (h1 : s.2.1 (96 + t) >>> (nI sub &&& nI 31) &&& nI 1 = nI 1 → Q (some (.int 1)) (z_ms I s) (z_R0 kp sp wd) J F cn) (h0 : ¬ (s.2.1 (96 + t) >>> (nI sub &&& nI 31) &&& nI 1 = nI 1) → Q (some (.int 0)) (z_ms I s) (z_R0 kp sp wd) J F cn) : z_M (z_X0 L xs) z_P0 d m_Mod_isLegal [.ref 40, .int (nI t), .int (nI sub)] (z_ms I s) (z_R0 kp sp wd) J F cn Q := by
  obtain ⟨f, w, y⟩ := s
  refine z_WP_gos [] 1000 fun K C hK hC => ?_
  conv => whnf
  repeat ((first | refine And.intro (by (conv => arg 2; whnf); (try simp only [z_lit, nI_add, pk_mul, z_pr1, z_pr2]); exact z_in (by omega) (by decide)) ?_ | refine z_bt1 (by decide) ?_ | refine z_bf1 (by decide) ?_ | refine z_bt2 (by decide) ?_ | refine z_bf2 (by decide) ?_); conv => whnf)
  refine ⟨fun h => ?_, fun h => ?_⟩
  · simp (disch := omega) only [z_lit, nI_add, pk_mul, z_pr1, z_pr2, nI_clamp, z_m3_40, z_m3_41, z_m3_44, z_m3_u40, z_m3_u41, z_m3_u44, z_m3_m3, pk_us, pk_un] at h
    conv => whnf
    exact ⟨Or.inl rfl, h0 h⟩
  · simp (disch := omega) only [z_lit, nI_add, pk_mul, z_pr1, z_pr2, nI_clamp, z_m3_40, z_m3_41, z_m3_44, z_m3_u40, z_m3_u41, z_m3_u44, z_m3_m3, pk_us, pk_un] at h
    conv => whnf
    exact ⟨Or.inr rfl, h1 h⟩
def m_quiet (s : z_sg) : z_sg := (upd s.1 4 (s.1 4 + nI 14), s.2.1, s.2.2)
theorem sp_Mod_noAnswer (hQ : Q (some (.int (nI 1))) (z_ms I (m_quiet s)) (z_R0 kp sp wd) J F cn) : z_M (z_X0 L xs) z_P0 d m_Mod_noAnswer [.ref 40] (z_ms I s) (z_R0 kp sp wd) J F cn Q := by
  obtain ⟨f, w, y⟩ := s
  refine z_WP_gos [] 1000 fun K C hK hC => ?_
  conv => whnf
  refine z_Qi hQ rfl ?_
  simp (disch := omega) only [z_lit, nI_add, pk_mul, z_pr1, z_pr2, nI_clamp, z_m3_40, z_m3_41, z_m3_44, z_m3_u40, z_m3_u41, z_m3_u44, z_m3_m3, pk_us, pk_un]
  rfl
def s_judged (w : Nat → Int32) (t : Nat) : Int32 := if w (176 + t) = nI 1 then nI 3 else if w (40 + t) = nI 1 then nI 4 else nI 0
theorem sp_Mod_judged {t : Nat} (ht : t < 8) (hQ : Q (some (.int (s_judged s.2.1 t))) (z_ms I s) (z_R0 kp sp wd) J F cn) : z_M (z_X0 L xs) z_P0 d m_Mod_judged [.ref 40, .int (nI t)] (z_ms I s) (z_R0 kp sp wd) J F cn Q := by
  obtain ⟨f, w, y⟩ := s
  refine z_WP_gos [] 1000 fun K C hK hC => ?_
  conv => whnf
  repeat ((first | refine And.intro (by (conv => arg 2; whnf); (try simp only [z_lit, nI_add, pk_mul, z_pr1, z_pr2]); exact z_in (by omega) (by decide)) ?_ | refine z_bt1 (by decide) ?_ | refine z_bf1 (by decide) ?_ | refine z_bt2 (by decide) ?_ | refine z_bf2 (by decide) ?_); conv => whnf)
  refine ⟨fun h => ?_, fun h => ?_⟩
  · simp (disch := omega) only [z_lit, nI_add, pk_mul, z_pr1, z_pr2, nI_clamp, z_m3_40, z_m3_41, z_m3_44, z_m3_u40, z_m3_u41, z_m3_u44, z_m3_m3, pk_us, pk_un] at h
    conv => whnf
    repeat ((first | refine And.intro (by (conv => arg 2; whnf); (try simp only [z_lit, nI_add, pk_mul, z_pr1, z_pr2]); exact z_in (by omega) (by decide)) ?_ | refine z_bt1 (by decide) ?_ | refine z_bf1 (by decide) ?_ | refine z_bt2 (by decide) ?_ | refine z_bf2 (by decide) ?_); conv => whnf)
    refine ⟨fun g => ?_, fun g => ?_⟩
    · simp (disch := omega) only [z_lit, nI_add, pk_mul, z_pr1, z_pr2, nI_clamp, z_m3_40, z_m3_41, z_m3_44, z_m3_u40, z_m3_u41, z_m3_u44, z_m3_m3, pk_us, pk_un] at g
      conv => whnf
      refine z_Qi hQ ?_ rfl
      simp only [s_judged, h, g, if_false]; rfl
    · simp (disch := omega) only [z_lit, nI_add, pk_mul, z_pr1, z_pr2, nI_clamp, z_m3_40, z_m3_41, z_m3_44, z_m3_u40, z_m3_u41, z_m3_u44, z_m3_m3, pk_us, pk_un] at g
      conv => whnf
      refine z_Qi hQ ?_ rfl
      simp only [s_judged, h, g, if_false, if_true]; rfl
  · simp (disch := omega) only [z_lit, nI_add, pk_mul, z_pr1, z_pr2, nI_clamp, z_m3_40, z_m3_41, z_m3_44, z_m3_u40, z_m3_u41, z_m3_u44, z_m3_m3, pk_us, pk_un] at h
    conv => whnf
    refine z_Qi hQ ?_ rfl
    simp only [s_judged, h, if_true]; rfl
/-- an answer: its time, its words, whether its status wants something -/
def m_answers (s : z_sg) (bus t many : Nat) : z_sg × Int32 :=
  let r := m_lays (upd s.1 4 (s.1 4 + nI 8), s.2.1, s.2.2) bus (nI t) many
  (if r.2 = nI 0 ∧ s.2.1 (48 + t) = nI 1 then (upd r.1.1 7 (r.1.1 7 ||| nI 1 <<< (nI t &&& nI 31)), r.1.2.1, r.1.2.2) else r.1, r.2)
theorem sp_Mod_answers {bus t many B : Nat} (hb : bus < 2) (ht : t < 9) (hm : many ≤ 10) (hs : m_ok s B) (hB : B + 20 < 2 ^ 29) (hQ : Q (some (.int (m_answers s bus t many).2)) (z_ms I (m_answers s bus t many).1) (z_R0 kp sp wd) J F cn) : z_M (z_X0 L xs) z_P0 (d + 3) m_Mod_answers [.ref 40, .int (nI bus), .int (nI t), .int (nI many)] (z_ms I s) (z_R0 kp sp wd) J F cn Q := by
  unfold m_answers at hQ
  simp only at hQ
  have h48 := m_lays_lo (s := (upd s.1 4 (s.1 4 + nI 8), s.2.1, s.2.2)) (bus := bus) (many := many) (j := 48 + t) (who := nI t) hb (by omega)
  refine z_WP_gos [] 1000 fun K C hK hC => ?_
  conv => whnf
  simp (disch := omega) only [z_lit, nI_add, pk_mul, z_pr1, z_pr2, nI_clamp, z_m3_40, z_m3_41, z_m3_44, z_m3_u40, z_m3_u41, z_m3_u44, z_m3_m3, pk_us, pk_un]
  refine hC _ _ _ _ _ _ _ _ _ _ (fun _ _ _ _ _ _ q => q) (sp_Mod_lays (s := (upd s.1 4 (s.1 4 + nI 8), s.2.1, s.2.2)) hb hm hs hB ?_)
  conv => whnf
  generalize m_lays (upd s.1 4 (s.1 4 + nI 8), s.2.1, s.2.2) bus (nI t) many = r at hQ h48 ⊢
  obtain ⟨⟨f, w, y⟩, v⟩ := r
  simp only at hQ h48 ⊢
  refine ⟨fun h => ?_, fun h => ?_⟩
  · conv => whnf
    rw [if_neg (fun z => h z.1)] at hQ
    exact hQ
  · conv => whnf
    repeat ((first | refine And.intro (by (conv => arg 2; whnf); (try simp only [z_lit, nI_add, pk_mul, z_pr1, z_pr2]); exact z_in (by omega) (by decide)) ?_ | refine z_bt1 (by decide) ?_ | refine z_bf1 (by decide) ?_ | refine z_bt2 (by decide) ?_ | refine z_bf2 (by decide) ?_); conv => whnf)
    refine ⟨fun g => ?_, fun g => ?_⟩
    · simp (disch := omega) only [z_lit, nI_add, pk_mul, z_pr1, z_pr2, nI_clamp, z_m3_40, z_m3_41, z_m3_44, z_m3_u40, z_m3_u41, z_m3_u44, z_m3_m3, pk_us, pk_un] at g
      rw [h48] at g
      rw [if_neg (fun z => g z.2)] at hQ
      conv => whnf
      exact hQ
    · simp (disch := omega) only [z_lit, nI_add, pk_mul, z_pr1, z_pr2, nI_clamp, z_m3_40, z_m3_41, z_m3_44, z_m3_u40, z_m3_u41, z_m3_u44, z_m3_m3, pk_us, pk_un] at g
      rw [h48] at g
      rw [if_pos ⟨h, g⟩] at hQ
      conv => whnf
      refine z_Qi hQ rfl ?_
      simp (disch := omega) only [z_lit, nI_add, pk_mul, z_pr1, z_pr2, nI_clamp, z_m3_40, z_m3_41, z_m3_44, z_m3_u40, z_m3_u41, z_m3_u44, z_m3_m3, pk_us, pk_un]
end
