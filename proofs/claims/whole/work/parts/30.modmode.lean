/-! switches -/
def z_swt (x : Int32) (d : Nat) : List (Int32 × Nat) → Nat
  | [] => d
  | (v, t) :: r => if x = v then t else z_swt x d r
theorem z_sw_of {x : Int32} {k : Nat → Prop} {d : Nat} : ∀ (ps : List (Int32 × Nat)), k (z_swt x d ps) → z_sw x k d ps
  | [], h => h
  | (v, t) :: r, h => by
    unfold z_swt at h
    refine ⟨fun q => ?_, fun q => ?_⟩
    · rw [if_pos q] at h; exact h
    · rw [if_neg q] at h; exact z_sw_of r h
theorem z_WP_ts {X : z_X} {P : z_P} {d m pc : Nat} {L : z_L} {st : List Value} {I : z_I} {R : z_R} {J : z_J} {F : z_F} {cn uc us : Nat} {Q : z_Q} {x : Int32} (g : Nat) {i1 i2 i3 i4 len a b c dd v ps r}
    (he : z_from pc (P m).2.2 = ((pc, .tableswitch i1 i2 i3 i4, len, (a, b, c, dd), v, ps) : z_E) :: r) (hg : z_swt x a ps = g) (q : z_WP X P d m g L st I R J F cn uc us Q) : z_WP X P d m pc L (.int x :: st) I R J F cn uc us Q :=
  z_WP_cl d m (pc, .tableswitch i1 i2 i3 i4, len, (a, b, c, dd), v, ps) L (.int x :: st) I R J F cn uc us Q (z_from_sub (pc := pc) (by rw [he]; exact List.mem_cons_self)) (z_sw_of (k := fun g => z_WP X P d m g L st I R J F cn uc us Q) ps (by rw [hg]; exact q))
/-! the model's messages: modes -/
def m_w (s : z_sg) (k : Nat) (v : Int32) : z_sg := (s.1, upd s.2.1 k v, s.2.2)
def s_oth (bus : Nat) : Int32 := nI 1 <<< ((nI 1 - nI bus) &&& nI 31)
def m_does (s : z_sg) (bus t : Nat) : Nat → z_sg
  | 0 => (upd s.1 6 (s.2.1 (72 + t)), s.2.1, s.2.2)
  | 1 => m_w s (152 + t) (nI 0)
  | 2 => s
  | 4 => m_w s (112 + t) (s.2.1 (112 + t) ||| s_oth bus)
  | 5 => m_w s (112 + t) (s.2.1 (112 + t) &&& (s_oth bus ^^^ -1))
  | 6 => m_w s (120 + t) (nI 1)
  | 7 => m_w s (120 + t) (nI 0)
  | 8 => m_w (m_w (m_w s (112 + t) (nI 0)) (120 + t) (nI 0)) (128 + t) (nI 0)
  | 16 => s
  | 17 => m_w s (152 + t) (s.2.1 2 &&& nI 65535)
  | 18 => s
  | 19 => s
  | _ => m_errs s t
def m_toFirst (s : z_sg) (bus : Nat) : z_sg × Int32 :=
  let r := m_lays (s.1, s.2.1, upd s.2.2 0 (s_cmd (nI 8) (nI 1) (nI 0) (nI 0))) bus (s.2.1 3) 1
  if r.1.2.1 39 = nI 0 ∨ r.1.2.1 3 = nI 8 ∨ ¬ r.2 = nI 0 then (m_quiet (upd r.1.1 6 (nI 0), r.1.2.1, r.1.2.2), nI 1) else
    let q := m_lays (upd (upd (upd r.1.1 6 (nI 0)) 6 (nI 1)) 4 (r.1.1 4 + nI 8), r.1.2.1, upd r.1.2.2 0 (nI 16386)) bus (nI 8) 1
    (q.1, if q.2 = nI 0 then nI 0 else nI 2)
def s_mw (w : Nat → Int32) (t code : Nat) : Int32 := if nI code = nI 16 then w (104 + t) else if nI code = nI 18 then w (144 + t) else w (128 + t) &&& nI 65535
def s_apart (code : Nat) : Bool := decide (nI code = nI 2) || decide (nI code = nI 18)
def m_came (s : z_sg) (t : Nat) : z_sg := m_w (m_w s (160 + t) (s.2.1 (104 + t))) (168 + t) (s.2.1 (168 + t) + nI 1)
def m_tellsMode (s : z_sg) (bus t code : Nat) : z_sg × Int32 :=
  bif s_shut s.2.1 t bus then (m_quiet s, nI 1) else
    let r := m_answers (s.1, s.2.1, upd (upd s.2.2 0 (s.2.1 (136 + t))) 1 (s_mw s.2.1 t code)) bus t (if nI code = nI 16 ∨ nI code = nI 18 ∨ nI code = nI 19 then 2 else 1)
    let s2 := (bif s_apart code || decide (nI code = nI 16) then upd r.1.1 7 (s.1 7) else r.1.1, r.1.2.1, r.1.2.2)
    if r.2 = nI 0 then
      let s3 := if nI code = nI 16 then m_came s2 t else s2
      (s3, bif s_apart code then nI 0 else s_judged s3.2.1 t)
    else (s2, nI 2)
section
variable {L : Nat} {xs : Nat → Int32} {d : Nat} {kp sp wd : Value} {I : z_I} {s : z_sg} {R : z_R} {J : z_J} {F : z_F} {cn : Nat} {Q : z_Q}
theorem does_0 {bus t : Nat} (hb : bus < 2) (ht : t < 8) (hQ : Q none (z_ms I (m_does s bus t 0)) (z_R0 kp sp wd) J F cn) : z_M (z_X0 L xs) z_P0 (d + 3) m_Mod_does [.ref 40, .int (nI bus), .int (nI t), .int (nI 0)] (z_ms I s) (z_R0 kp sp wd) J F cn Q := by
  refine z_WP_gos [8] 1000 fun K C hK hC => ?_
  conv => whnf
  refine hK _ _ _ _ _ _ _ _ _ _ (z_WP_ts 104 rfl (by decide) ?_)
  refine z_WP_gos [] 1000 fun K C hK hC => ?_
  conv => whnf
  repeat ((first | refine And.intro (by (conv => arg 2; whnf); (try simp only [z_lit, nI_add, pk_mul, z_pr1, z_pr2]); exact z_in (by omega) (by decide)) ?_ | refine z_bt1 (by decide) ?_ | refine z_bf1 (by decide) ?_ | refine z_bt2 (by decide) ?_ | refine z_bf2 (by decide) ?_); conv => whnf)
  refine z_Qv hQ ?_
  simp only [m_does, m_w]
  simp (disch := omega) only [z_lit, nI_add, pk_mul, z_pr1, z_pr2, nI_clamp, z_m3_40, z_m3_41, z_m3_44, z_m3_u40, z_m3_u41, z_m3_u44, z_m3_m3, pk_us, pk_un]
theorem does_1 {bus t : Nat} (hb : bus < 2) (ht : t < 8) (hQ : Q none (z_ms I (m_does s bus t 1)) (z_R0 kp sp wd) J F cn) : z_M (z_X0 L xs) z_P0 (d + 3) m_Mod_does [.ref 40, .int (nI bus), .int (nI t), .int (nI 1)] (z_ms I s) (z_R0 kp sp wd) J F cn Q := by
  refine z_WP_gos [8] 1000 fun K C hK hC => ?_
  conv => whnf
  refine hK _ _ _ _ _ _ _ _ _ _ (z_WP_ts 120 rfl (by decide) ?_)
  refine z_WP_gos [] 1000 fun K C hK hC => ?_
  conv => whnf
  repeat ((first | refine And.intro (by (conv => arg 2; whnf); (try simp only [z_lit, nI_add, pk_mul, z_pr1, z_pr2]); exact z_in (by omega) (by decide)) ?_ | refine z_bt1 (by decide) ?_ | refine z_bf1 (by decide) ?_ | refine z_bt2 (by decide) ?_ | refine z_bf2 (by decide) ?_); conv => whnf)
  refine z_Qv hQ ?_
  simp only [m_does, m_w]
  simp (disch := omega) only [z_lit, nI_add, pk_mul, z_pr1, z_pr2, nI_clamp, z_m3_40, z_m3_41, z_m3_44, z_m3_u40, z_m3_u41, z_m3_u44, z_m3_m3, pk_us, pk_un]
theorem does_2 {bus t : Nat} (hb : bus < 2) (ht : t < 8) (hQ : Q none (z_ms I (m_does s bus t 2)) (z_R0 kp sp wd) J F cn) : z_M (z_X0 L xs) z_P0 (d + 3) m_Mod_does [.ref 40, .int (nI bus), .int (nI t), .int (nI 2)] (z_ms I s) (z_R0 kp sp wd) J F cn Q := by
  refine z_WP_gos [8] 1000 fun K C hK hC => ?_
  conv => whnf
  refine hK _ _ _ _ _ _ _ _ _ _ (z_WP_ts 252 rfl (by decide) ?_)
  refine z_WP_gos [] 1000 fun K C hK hC => ?_
  conv => whnf
  exact hQ
theorem does_3 {bus t : Nat} (hb : bus < 2) (ht : t < 8) (hQ : Q none (z_ms I (m_does s bus t 3)) (z_R0 kp sp wd) J F cn) : z_M (z_X0 L xs) z_P0 (d + 3) m_Mod_does [.ref 40, .int (nI bus), .int (nI t), .int (nI 3)] (z_ms I s) (z_R0 kp sp wd) J F cn Q := by
  refine z_WP_gos [8] 1000 fun K C hK hC => ?_
  conv => whnf
  refine hK _ _ _ _ _ _ _ _ _ _ (z_WP_ts 255 rfl (by decide) ?_)
  refine z_WP_gos [] 1000 fun K C hK hC => ?_
  conv => whnf
  refine hC _ _ _ _ _ _ _ _ _ _ (fun _ _ _ _ _ _ q => q) (sp_errs ht ?_)
  conv => whnf
  exact hQ
theorem does_4 {bus t : Nat} (hb : bus < 2) (ht : t < 8) (hQ : Q none (z_ms I (m_does s bus t 4)) (z_R0 kp sp wd) J F cn) : z_M (z_X0 L xs) z_P0 (d + 3) m_Mod_does [.ref 40, .int (nI bus), .int (nI t), .int (nI 4)] (z_ms I s) (z_R0 kp sp wd) J F cn Q := by
  refine z_WP_gos [8] 1000 fun K C hK hC => ?_
  conv => whnf
  refine hK _ _ _ _ _ _ _ _ _ _ (z_WP_ts 134 rfl (by decide) ?_)
  refine z_WP_gos [] 1000 fun K C hK hC => ?_
  conv => whnf
  repeat ((first | refine And.intro (by (conv => arg 2; whnf); (try simp only [z_lit, nI_add, pk_mul, z_pr1, z_pr2]); exact z_in (by omega) (by decide)) ?_ | refine z_bt1 (by decide) ?_ | refine z_bf1 (by decide) ?_ | refine z_bt2 (by decide) ?_ | refine z_bf2 (by decide) ?_); conv => whnf)
  refine z_Qv hQ ?_
  simp only [m_does, m_w]
  simp (disch := omega) only [z_lit, nI_add, pk_mul, z_pr1, z_pr2, nI_clamp, z_m3_40, z_m3_41, z_m3_44, z_m3_u40, z_m3_u41, z_m3_u44, z_m3_m3, pk_us, pk_un]
  rfl
theorem does_5 {bus t : Nat} (hb : bus < 2) (ht : t < 8) (hQ : Q none (z_ms I (m_does s bus t 5)) (z_R0 kp sp wd) J F cn) : z_M (z_X0 L xs) z_P0 (d + 3) m_Mod_does [.ref 40, .int (nI bus), .int (nI t), .int (nI 5)] (z_ms I s) (z_R0 kp sp wd) J F cn Q := by
  refine z_WP_gos [8] 1000 fun K C hK hC => ?_
  conv => whnf
  refine hK _ _ _ _ _ _ _ _ _ _ (z_WP_ts 151 rfl (by decide) ?_)
  refine z_WP_gos [] 1000 fun K C hK hC => ?_
  conv => whnf
  repeat ((first | refine And.intro (by (conv => arg 2; whnf); (try simp only [z_lit, nI_add, pk_mul, z_pr1, z_pr2]); exact z_in (by omega) (by decide)) ?_ | refine z_bt1 (by decide) ?_ | refine z_bf1 (by decide) ?_ | refine z_bt2 (by decide) ?_ | refine z_bf2 (by decide) ?_); conv => whnf)
  refine z_Qv hQ ?_
  simp only [m_does, m_w]
  simp (disch := omega) only [z_lit, nI_add, pk_mul, z_pr1, z_pr2, nI_clamp, z_m3_40, z_m3_41, z_m3_44, z_m3_u40, z_m3_u41, z_m3_u44, z_m3_m3, pk_us, pk_un]
  rfl
theorem does_6 {bus t : Nat} (hb : bus < 2) (ht : t < 8) (hQ : Q none (z_ms I (m_does s bus t 6)) (z_R0 kp sp wd) J F cn) : z_M (z_X0 L xs) z_P0 (d + 3) m_Mod_does [.ref 40, .int (nI bus), .int (nI t), .int (nI 6)] (z_ms I s) (z_R0 kp sp wd) J F cn Q := by
  refine z_WP_gos [8] 1000 fun K C hK hC => ?_
  conv => whnf
  refine hK _ _ _ _ _ _ _ _ _ _ (z_WP_ts 170 rfl (by decide) ?_)
  refine z_WP_gos [] 1000 fun K C hK hC => ?_
  conv => whnf
  repeat ((first | refine And.intro (by (conv => arg 2; whnf); (try simp only [z_lit, nI_add, pk_mul, z_pr1, z_pr2]); exact z_in (by omega) (by decide)) ?_ | refine z_bt1 (by decide) ?_ | refine z_bf1 (by decide) ?_ | refine z_bt2 (by decide) ?_ | refine z_bf2 (by decide) ?_); conv => whnf)
  refine z_Qv hQ ?_
  simp only [m_does, m_w]
  simp (disch := omega) only [z_lit, nI_add, pk_mul, z_pr1, z_pr2, nI_clamp, z_m3_40, z_m3_41, z_m3_44, z_m3_u40, z_m3_u41, z_m3_u44, z_m3_m3, pk_us, pk_un]
theorem does_7 {bus t : Nat} (hb : bus < 2) (ht : t < 8) (hQ : Q none (z_ms I (m_does s bus t 7)) (z_R0 kp sp wd) J F cn) : z_M (z_X0 L xs) z_P0 (d + 3) m_Mod_does [.ref 40, .int (nI bus), .int (nI t), .int (nI 7)] (z_ms I s) (z_R0 kp sp wd) J F cn Q := by
  refine z_WP_gos [8] 1000 fun K C hK hC => ?_
  conv => whnf
  refine hK _ _ _ _ _ _ _ _ _ _ (z_WP_ts 183 rfl (by decide) ?_)
  refine z_WP_gos [] 1000 fun K C hK hC => ?_
  conv => whnf
  repeat ((first | refine And.intro (by (conv => arg 2; whnf); (try simp only [z_lit, nI_add, pk_mul, z_pr1, z_pr2]); exact z_in (by omega) (by decide)) ?_ | refine z_bt1 (by decide) ?_ | refine z_bf1 (by decide) ?_ | refine z_bt2 (by decide) ?_ | refine z_bf2 (by decide) ?_); conv => whnf)
  refine z_Qv hQ ?_
  simp only [m_does, m_w]
  simp (disch := omega) only [z_lit, nI_add, pk_mul, z_pr1, z_pr2, nI_clamp, z_m3_40, z_m3_41, z_m3_44, z_m3_u40, z_m3_u41, z_m3_u44, z_m3_m3, pk_us, pk_un]
theorem does_8 {bus t : Nat} (hb : bus < 2) (ht : t < 8) (hQ : Q none (z_ms I (m_does s bus t 8)) (z_R0 kp sp wd) J F cn) : z_M (z_X0 L xs) z_P0 (d + 3) m_Mod_does [.ref 40, .int (nI bus), .int (nI t), .int (nI 8)] (z_ms I s) (z_R0 kp sp wd) J F cn Q := by
  refine z_WP_gos [8] 1000 fun K C hK hC => ?_
  conv => whnf
  refine hK _ _ _ _ _ _ _ _ _ _ (z_WP_ts 196 rfl (by decide) ?_)
  refine z_WP_gos [] 1000 fun K C hK hC => ?_
  conv => whnf
  repeat ((first | refine And.intro (by (conv => arg 2; whnf); (try simp only [z_lit, nI_add, pk_mul, z_pr1, z_pr2]); exact z_in (by omega) (by decide)) ?_ | refine z_bt1 (by decide) ?_ | refine z_bf1 (by decide) ?_ | refine z_bt2 (by decide) ?_ | refine z_bf2 (by decide) ?_); conv => whnf)
  refine z_Qv hQ ?_
  simp only [m_does, m_w]
  simp (disch := omega) only [z_lit, nI_add, pk_mul, z_pr1, z_pr2, nI_clamp, z_m3_40, z_m3_41, z_m3_44, z_m3_u40, z_m3_u41, z_m3_u44, z_m3_m3, pk_us, pk_un]
theorem does_9 {bus t : Nat} (hb : bus < 2) (ht : t < 8) (hQ : Q none (z_ms I (m_does s bus t 9)) (z_R0 kp sp wd) J F cn) : z_M (z_X0 L xs) z_P0 (d + 3) m_Mod_does [.ref 40, .int (nI bus), .int (nI t), .int (nI 9)] (z_ms I s) (z_R0 kp sp wd) J F cn Q := by
  refine z_WP_gos [8] 1000 fun K C hK hC => ?_
  conv => whnf
  refine hK _ _ _ _ _ _ _ _ _ _ (z_WP_ts 255 rfl (by decide) ?_)
  refine z_WP_gos [] 1000 fun K C hK hC => ?_
  conv => whnf
  refine hC _ _ _ _ _ _ _ _ _ _ (fun _ _ _ _ _ _ q => q) (sp_errs ht ?_)
  conv => whnf
  exact hQ
theorem does_10 {bus t : Nat} (hb : bus < 2) (ht : t < 8) (hQ : Q none (z_ms I (m_does s bus t 10)) (z_R0 kp sp wd) J F cn) : z_M (z_X0 L xs) z_P0 (d + 3) m_Mod_does [.ref 40, .int (nI bus), .int (nI t), .int (nI 10)] (z_ms I s) (z_R0 kp sp wd) J F cn Q := by
  refine z_WP_gos [8] 1000 fun K C hK hC => ?_
  conv => whnf
  refine hK _ _ _ _ _ _ _ _ _ _ (z_WP_ts 255 rfl (by decide) ?_)
  refine z_WP_gos [] 1000 fun K C hK hC => ?_
  conv => whnf
  refine hC _ _ _ _ _ _ _ _ _ _ (fun _ _ _ _ _ _ q => q) (sp_errs ht ?_)
  conv => whnf
  exact hQ
theorem does_11 {bus t : Nat} (hb : bus < 2) (ht : t < 8) (hQ : Q none (z_ms I (m_does s bus t 11)) (z_R0 kp sp wd) J F cn) : z_M (z_X0 L xs) z_P0 (d + 3) m_Mod_does [.ref 40, .int (nI bus), .int (nI t), .int (nI 11)] (z_ms I s) (z_R0 kp sp wd) J F cn Q := by
  refine z_WP_gos [8] 1000 fun K C hK hC => ?_
  conv => whnf
  refine hK _ _ _ _ _ _ _ _ _ _ (z_WP_ts 255 rfl (by decide) ?_)
  refine z_WP_gos [] 1000 fun K C hK hC => ?_
  conv => whnf
  refine hC _ _ _ _ _ _ _ _ _ _ (fun _ _ _ _ _ _ q => q) (sp_errs ht ?_)
  conv => whnf
  exact hQ
theorem does_12 {bus t : Nat} (hb : bus < 2) (ht : t < 8) (hQ : Q none (z_ms I (m_does s bus t 12)) (z_R0 kp sp wd) J F cn) : z_M (z_X0 L xs) z_P0 (d + 3) m_Mod_does [.ref 40, .int (nI bus), .int (nI t), .int (nI 12)] (z_ms I s) (z_R0 kp sp wd) J F cn Q := by
  refine z_WP_gos [8] 1000 fun K C hK hC => ?_
  conv => whnf
  refine hK _ _ _ _ _ _ _ _ _ _ (z_WP_ts 255 rfl (by decide) ?_)
  refine z_WP_gos [] 1000 fun K C hK hC => ?_
  conv => whnf
  refine hC _ _ _ _ _ _ _ _ _ _ (fun _ _ _ _ _ _ q => q) (sp_errs ht ?_)
  conv => whnf
  exact hQ
theorem does_13 {bus t : Nat} (hb : bus < 2) (ht : t < 8) (hQ : Q none (z_ms I (m_does s bus t 13)) (z_R0 kp sp wd) J F cn) : z_M (z_X0 L xs) z_P0 (d + 3) m_Mod_does [.ref 40, .int (nI bus), .int (nI t), .int (nI 13)] (z_ms I s) (z_R0 kp sp wd) J F cn Q := by
  refine z_WP_gos [8] 1000 fun K C hK hC => ?_
  conv => whnf
  refine hK _ _ _ _ _ _ _ _ _ _ (z_WP_ts 255 rfl (by decide) ?_)
  refine z_WP_gos [] 1000 fun K C hK hC => ?_
  conv => whnf
  refine hC _ _ _ _ _ _ _ _ _ _ (fun _ _ _ _ _ _ q => q) (sp_errs ht ?_)
  conv => whnf
  exact hQ
theorem does_14 {bus t : Nat} (hb : bus < 2) (ht : t < 8) (hQ : Q none (z_ms I (m_does s bus t 14)) (z_R0 kp sp wd) J F cn) : z_M (z_X0 L xs) z_P0 (d + 3) m_Mod_does [.ref 40, .int (nI bus), .int (nI t), .int (nI 14)] (z_ms I s) (z_R0 kp sp wd) J F cn Q := by
  refine z_WP_gos [8] 1000 fun K C hK hC => ?_
  conv => whnf
  refine hK _ _ _ _ _ _ _ _ _ _ (z_WP_ts 255 rfl (by decide) ?_)
  refine z_WP_gos [] 1000 fun K C hK hC => ?_
  conv => whnf
  refine hC _ _ _ _ _ _ _ _ _ _ (fun _ _ _ _ _ _ q => q) (sp_errs ht ?_)
  conv => whnf
  exact hQ
theorem does_15 {bus t : Nat} (hb : bus < 2) (ht : t < 8) (hQ : Q none (z_ms I (m_does s bus t 15)) (z_R0 kp sp wd) J F cn) : z_M (z_X0 L xs) z_P0 (d + 3) m_Mod_does [.ref 40, .int (nI bus), .int (nI t), .int (nI 15)] (z_ms I s) (z_R0 kp sp wd) J F cn Q := by
  refine z_WP_gos [8] 1000 fun K C hK hC => ?_
  conv => whnf
  refine hK _ _ _ _ _ _ _ _ _ _ (z_WP_ts 255 rfl (by decide) ?_)
  refine z_WP_gos [] 1000 fun K C hK hC => ?_
  conv => whnf
  refine hC _ _ _ _ _ _ _ _ _ _ (fun _ _ _ _ _ _ q => q) (sp_errs ht ?_)
  conv => whnf
  exact hQ
theorem does_16 {bus t : Nat} (hb : bus < 2) (ht : t < 8) (hQ : Q none (z_ms I (m_does s bus t 16)) (z_R0 kp sp wd) J F cn) : z_M (z_X0 L xs) z_P0 (d + 3) m_Mod_does [.ref 40, .int (nI bus), .int (nI t), .int (nI 16)] (z_ms I s) (z_R0 kp sp wd) J F cn Q := by
  refine z_WP_gos [8] 1000 fun K C hK hC => ?_
  conv => whnf
  refine hK _ _ _ _ _ _ _ _ _ _ (z_WP_ts 252 rfl (by decide) ?_)
  refine z_WP_gos [] 1000 fun K C hK hC => ?_
  conv => whnf
  exact hQ
theorem does_17 {bus t : Nat} (hb : bus < 2) (ht : t < 8) (hQ : Q none (z_ms I (m_does s bus t 17)) (z_R0 kp sp wd) J F cn) : z_M (z_X0 L xs) z_P0 (d + 3) m_Mod_does [.ref 40, .int (nI bus), .int (nI t), .int (nI 17)] (z_ms I s) (z_R0 kp sp wd) J F cn Q := by
  refine z_WP_gos [8] 1000 fun K C hK hC => ?_
  conv => whnf
  refine hK _ _ _ _ _ _ _ _ _ _ (z_WP_ts 230 rfl (by decide) ?_)
  refine z_WP_gos [] 1000 fun K C hK hC => ?_
  conv => whnf
  repeat ((first | refine And.intro (by (conv => arg 2; whnf); (try simp only [z_lit, nI_add, pk_mul, z_pr1, z_pr2]); exact z_in (by omega) (by decide)) ?_ | refine z_bt1 (by decide) ?_ | refine z_bf1 (by decide) ?_ | refine z_bt2 (by decide) ?_ | refine z_bf2 (by decide) ?_); conv => whnf)
  refine z_Qv hQ ?_
  simp only [m_does, m_w]
  simp (disch := omega) only [z_lit, nI_add, pk_mul, z_pr1, z_pr2, nI_clamp, z_m3_40, z_m3_41, z_m3_44, z_m3_u40, z_m3_u41, z_m3_u44, z_m3_m3, pk_us, pk_un]
theorem does_18 {bus t : Nat} (hb : bus < 2) (ht : t < 8) (hQ : Q none (z_ms I (m_does s bus t 18)) (z_R0 kp sp wd) J F cn) : z_M (z_X0 L xs) z_P0 (d + 3) m_Mod_does [.ref 40, .int (nI bus), .int (nI t), .int (nI 18)] (z_ms I s) (z_R0 kp sp wd) J F cn Q := by
  refine z_WP_gos [8] 1000 fun K C hK hC => ?_
  conv => whnf
  refine hK _ _ _ _ _ _ _ _ _ _ (z_WP_ts 252 rfl (by decide) ?_)
  refine z_WP_gos [] 1000 fun K C hK hC => ?_
  conv => whnf
  exact hQ
theorem does_19 {bus t : Nat} (hb : bus < 2) (ht : t < 8) (hQ : Q none (z_ms I (m_does s bus t 19)) (z_R0 kp sp wd) J F cn) : z_M (z_X0 L xs) z_P0 (d + 3) m_Mod_does [.ref 40, .int (nI bus), .int (nI t), .int (nI 19)] (z_ms I s) (z_R0 kp sp wd) J F cn Q := by
  refine z_WP_gos [8] 1000 fun K C hK hC => ?_
  conv => whnf
  refine hK _ _ _ _ _ _ _ _ _ _ (z_WP_ts 252 rfl (by decide) ?_)
  refine z_WP_gos [] 1000 fun K C hK hC => ?_
  conv => whnf
  exact hQ
theorem does_20 {bus t : Nat} (hb : bus < 2) (ht : t < 8) (hQ : Q none (z_ms I (m_does s bus t 20)) (z_R0 kp sp wd) J F cn) : z_M (z_X0 L xs) z_P0 (d + 3) m_Mod_does [.ref 40, .int (nI bus), .int (nI t), .int (nI 20)] (z_ms I s) (z_R0 kp sp wd) J F cn Q := by
  refine z_WP_gos [8] 1000 fun K C hK hC => ?_
  conv => whnf
  refine hK _ _ _ _ _ _ _ _ _ _ (z_WP_ts 255 rfl (by decide) ?_)
  refine z_WP_gos [] 1000 fun K C hK hC => ?_
  conv => whnf
  refine hC _ _ _ _ _ _ _ _ _ _ (fun _ _ _ _ _ _ q => q) (sp_errs ht ?_)
  conv => whnf
  exact hQ
theorem does_21 {bus t : Nat} (hb : bus < 2) (ht : t < 8) (hQ : Q none (z_ms I (m_does s bus t 21)) (z_R0 kp sp wd) J F cn) : z_M (z_X0 L xs) z_P0 (d + 3) m_Mod_does [.ref 40, .int (nI bus), .int (nI t), .int (nI 21)] (z_ms I s) (z_R0 kp sp wd) J F cn Q := by
  refine z_WP_gos [8] 1000 fun K C hK hC => ?_
  conv => whnf
  refine hK _ _ _ _ _ _ _ _ _ _ (z_WP_ts 255 rfl (by decide) ?_)
  refine z_WP_gos [] 1000 fun K C hK hC => ?_
  conv => whnf
  refine hC _ _ _ _ _ _ _ _ _ _ (fun _ _ _ _ _ _ q => q) (sp_errs ht ?_)
  conv => whnf
  exact hQ
theorem does_22 {bus t : Nat} (hb : bus < 2) (ht : t < 8) (hQ : Q none (z_ms I (m_does s bus t 22)) (z_R0 kp sp wd) J F cn) : z_M (z_X0 L xs) z_P0 (d + 3) m_Mod_does [.ref 40, .int (nI bus), .int (nI t), .int (nI 22)] (z_ms I s) (z_R0 kp sp wd) J F cn Q := by
  refine z_WP_gos [8] 1000 fun K C hK hC => ?_
  conv => whnf
  refine hK _ _ _ _ _ _ _ _ _ _ (z_WP_ts 255 rfl (by decide) ?_)
  refine z_WP_gos [] 1000 fun K C hK hC => ?_
  conv => whnf
  refine hC _ _ _ _ _ _ _ _ _ _ (fun _ _ _ _ _ _ q => q) (sp_errs ht ?_)
  conv => whnf
  exact hQ
theorem does_23 {bus t : Nat} (hb : bus < 2) (ht : t < 8) (hQ : Q none (z_ms I (m_does s bus t 23)) (z_R0 kp sp wd) J F cn) : z_M (z_X0 L xs) z_P0 (d + 3) m_Mod_does [.ref 40, .int (nI bus), .int (nI t), .int (nI 23)] (z_ms I s) (z_R0 kp sp wd) J F cn Q := by
  refine z_WP_gos [8] 1000 fun K C hK hC => ?_
  conv => whnf
  refine hK _ _ _ _ _ _ _ _ _ _ (z_WP_ts 255 rfl (by decide) ?_)
  refine z_WP_gos [] 1000 fun K C hK hC => ?_
  conv => whnf
  refine hC _ _ _ _ _ _ _ _ _ _ (fun _ _ _ _ _ _ q => q) (sp_errs ht ?_)
  conv => whnf
  exact hQ
theorem does_24 {bus t : Nat} (hb : bus < 2) (ht : t < 8) (hQ : Q none (z_ms I (m_does s bus t 24)) (z_R0 kp sp wd) J F cn) : z_M (z_X0 L xs) z_P0 (d + 3) m_Mod_does [.ref 40, .int (nI bus), .int (nI t), .int (nI 24)] (z_ms I s) (z_R0 kp sp wd) J F cn Q := by
  refine z_WP_gos [8] 1000 fun K C hK hC => ?_
  conv => whnf
  refine hK _ _ _ _ _ _ _ _ _ _ (z_WP_ts 255 rfl (by decide) ?_)
  refine z_WP_gos [] 1000 fun K C hK hC => ?_
  conv => whnf
  refine hC _ _ _ _ _ _ _ _ _ _ (fun _ _ _ _ _ _ q => q) (sp_errs ht ?_)
  conv => whnf
  exact hQ
theorem does_25 {bus t : Nat} (hb : bus < 2) (ht : t < 8) (hQ : Q none (z_ms I (m_does s bus t 25)) (z_R0 kp sp wd) J F cn) : z_M (z_X0 L xs) z_P0 (d + 3) m_Mod_does [.ref 40, .int (nI bus), .int (nI t), .int (nI 25)] (z_ms I s) (z_R0 kp sp wd) J F cn Q := by
  refine z_WP_gos [8] 1000 fun K C hK hC => ?_
  conv => whnf
  refine hK _ _ _ _ _ _ _ _ _ _ (z_WP_ts 255 rfl (by decide) ?_)
  refine z_WP_gos [] 1000 fun K C hK hC => ?_
  conv => whnf
  refine hC _ _ _ _ _ _ _ _ _ _ (fun _ _ _ _ _ _ q => q) (sp_errs ht ?_)
  conv => whnf
  exact hQ
theorem does_26 {bus t : Nat} (hb : bus < 2) (ht : t < 8) (hQ : Q none (z_ms I (m_does s bus t 26)) (z_R0 kp sp wd) J F cn) : z_M (z_X0 L xs) z_P0 (d + 3) m_Mod_does [.ref 40, .int (nI bus), .int (nI t), .int (nI 26)] (z_ms I s) (z_R0 kp sp wd) J F cn Q := by
  refine z_WP_gos [8] 1000 fun K C hK hC => ?_
  conv => whnf
  refine hK _ _ _ _ _ _ _ _ _ _ (z_WP_ts 255 rfl (by decide) ?_)
  refine z_WP_gos [] 1000 fun K C hK hC => ?_
  conv => whnf
  refine hC _ _ _ _ _ _ _ _ _ _ (fun _ _ _ _ _ _ q => q) (sp_errs ht ?_)
  conv => whnf
  exact hQ
theorem does_27 {bus t : Nat} (hb : bus < 2) (ht : t < 8) (hQ : Q none (z_ms I (m_does s bus t 27)) (z_R0 kp sp wd) J F cn) : z_M (z_X0 L xs) z_P0 (d + 3) m_Mod_does [.ref 40, .int (nI bus), .int (nI t), .int (nI 27)] (z_ms I s) (z_R0 kp sp wd) J F cn Q := by
  refine z_WP_gos [8] 1000 fun K C hK hC => ?_
  conv => whnf
  refine hK _ _ _ _ _ _ _ _ _ _ (z_WP_ts 255 rfl (by decide) ?_)
  refine z_WP_gos [] 1000 fun K C hK hC => ?_
  conv => whnf
  refine hC _ _ _ _ _ _ _ _ _ _ (fun _ _ _ _ _ _ q => q) (sp_errs ht ?_)
  conv => whnf
  exact hQ
theorem does_28 {bus t : Nat} (hb : bus < 2) (ht : t < 8) (hQ : Q none (z_ms I (m_does s bus t 28)) (z_R0 kp sp wd) J F cn) : z_M (z_X0 L xs) z_P0 (d + 3) m_Mod_does [.ref 40, .int (nI bus), .int (nI t), .int (nI 28)] (z_ms I s) (z_R0 kp sp wd) J F cn Q := by
  refine z_WP_gos [8] 1000 fun K C hK hC => ?_
  conv => whnf
  refine hK _ _ _ _ _ _ _ _ _ _ (z_WP_ts 255 rfl (by decide) ?_)
  refine z_WP_gos [] 1000 fun K C hK hC => ?_
  conv => whnf
  refine hC _ _ _ _ _ _ _ _ _ _ (fun _ _ _ _ _ _ q => q) (sp_errs ht ?_)
  conv => whnf
  exact hQ
theorem does_29 {bus t : Nat} (hb : bus < 2) (ht : t < 8) (hQ : Q none (z_ms I (m_does s bus t 29)) (z_R0 kp sp wd) J F cn) : z_M (z_X0 L xs) z_P0 (d + 3) m_Mod_does [.ref 40, .int (nI bus), .int (nI t), .int (nI 29)] (z_ms I s) (z_R0 kp sp wd) J F cn Q := by
  refine z_WP_gos [8] 1000 fun K C hK hC => ?_
  conv => whnf
  refine hK _ _ _ _ _ _ _ _ _ _ (z_WP_ts 255 rfl (by decide) ?_)
  refine z_WP_gos [] 1000 fun K C hK hC => ?_
  conv => whnf
  refine hC _ _ _ _ _ _ _ _ _ _ (fun _ _ _ _ _ _ q => q) (sp_errs ht ?_)
  conv => whnf
  exact hQ
theorem does_30 {bus t : Nat} (hb : bus < 2) (ht : t < 8) (hQ : Q none (z_ms I (m_does s bus t 30)) (z_R0 kp sp wd) J F cn) : z_M (z_X0 L xs) z_P0 (d + 3) m_Mod_does [.ref 40, .int (nI bus), .int (nI t), .int (nI 30)] (z_ms I s) (z_R0 kp sp wd) J F cn Q := by
  refine z_WP_gos [8] 1000 fun K C hK hC => ?_
  conv => whnf
  refine hK _ _ _ _ _ _ _ _ _ _ (z_WP_ts 255 rfl (by decide) ?_)
  refine z_WP_gos [] 1000 fun K C hK hC => ?_
  conv => whnf
  refine hC _ _ _ _ _ _ _ _ _ _ (fun _ _ _ _ _ _ q => q) (sp_errs ht ?_)
  conv => whnf
  exact hQ
theorem does_31 {bus t : Nat} (hb : bus < 2) (ht : t < 8) (hQ : Q none (z_ms I (m_does s bus t 31)) (z_R0 kp sp wd) J F cn) : z_M (z_X0 L xs) z_P0 (d + 3) m_Mod_does [.ref 40, .int (nI bus), .int (nI t), .int (nI 31)] (z_ms I s) (z_R0 kp sp wd) J F cn Q := by
  refine z_WP_gos [8] 1000 fun K C hK hC => ?_
  conv => whnf
  refine hK _ _ _ _ _ _ _ _ _ _ (z_WP_ts 255 rfl (by decide) ?_)
  refine z_WP_gos [] 1000 fun K C hK hC => ?_
  conv => whnf
  refine hC _ _ _ _ _ _ _ _ _ _ (fun _ _ _ _ _ _ q => q) (sp_errs ht ?_)
  conv => whnf
  exact hQ
theorem sp_does {bus t : Nat} (hb : bus < 2) (ht : t < 8) : ∀ {code : Nat} (hc : code < 32) (hQ : Q none (z_ms I (m_does s bus t code)) (z_R0 kp sp wd) J F cn), z_M (z_X0 L xs) z_P0 (d + 3) m_Mod_does [.ref 40, .int (nI bus), .int (nI t), .int (nI code)] (z_ms I s) (z_R0 kp sp wd) J F cn Q
  | 0, _, hQ => does_0 hb ht hQ
  | 1, _, hQ => does_1 hb ht hQ
  | 2, _, hQ => does_2 hb ht hQ
  | 3, _, hQ => does_3 hb ht hQ
  | 4, _, hQ => does_4 hb ht hQ
  | 5, _, hQ => does_5 hb ht hQ
  | 6, _, hQ => does_6 hb ht hQ
  | 7, _, hQ => does_7 hb ht hQ
  | 8, _, hQ => does_8 hb ht hQ
  | 9, _, hQ => does_9 hb ht hQ
  | 10, _, hQ => does_10 hb ht hQ
  | 11, _, hQ => does_11 hb ht hQ
  | 12, _, hQ => does_12 hb ht hQ
  | 13, _, hQ => does_13 hb ht hQ
  | 14, _, hQ => does_14 hb ht hQ
  | 15, _, hQ => does_15 hb ht hQ
  | 16, _, hQ => does_16 hb ht hQ
  | 17, _, hQ => does_17 hb ht hQ
  | 18, _, hQ => does_18 hb ht hQ
  | 19, _, hQ => does_19 hb ht hQ
  | 20, _, hQ => does_20 hb ht hQ
  | 21, _, hQ => does_21 hb ht hQ
  | 22, _, hQ => does_22 hb ht hQ
  | 23, _, hQ => does_23 hb ht hQ
  | 24, _, hQ => does_24 hb ht hQ
  | 25, _, hQ => does_25 hb ht hQ
  | 26, _, hQ => does_26 hb ht hQ
  | 27, _, hQ => does_27 hb ht hQ
  | 28, _, hQ => does_28 hb ht hQ
  | 29, _, hQ => does_29 hb ht hQ
  | 30, _, hQ => does_30 hb ht hQ
  | 31, _, hQ => does_31 hb ht hQ
  | code + 32, hc, _ => absurd hc (by omega)
end
