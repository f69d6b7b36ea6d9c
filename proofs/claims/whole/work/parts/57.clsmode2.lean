/-! MODE: what lies ready for an answer -/
theorem uq_u {w : Nat → Int32} {q k : Nat} {x y : Int32} (h : k ≠ q) : upd (upd w q x) k y = upd (upd w k y) q x := by
  funext j
  by_cases a : j = k
  · subst a; rw [pk_us, pk_un h, pk_us]
  · rw [pk_un a]
    by_cases b : j = q
    · subst b; rw [pk_us, pk_us]
    · rw [pk_un b, pk_un b, pk_un a]
theorem uq_clr {w : Nat → Int32} {q bus : Nat} {x : Int32} (hb : bus < 2) (hq : 31 ≤ q ∧ q < 192) : s_clr (upd w q x) bus 8 = upd (s_clr w bus 8) q x := by
  funext j
  unfold s_clr
  by_cases b : j = q
  · subst b; rw [if_neg (by omega), pk_us, pk_us]
  · rw [pk_un b, pk_un b, pk_un (show 13 + bus ≠ q by omega)]
theorem uq_hit {w : Nat → Int32} {q bus : Nat} {x : Int32} (hb : bus < 2) (hq : 31 ≤ q ∧ q < 192) : s_hitk (upd w q x) bus 8 = s_hitk w bus 8 := by
  have : ∀ k, k ≤ 8 → s_hitk (upd w q x) bus k = s_hitk w bus k := by
    intro k
    induction k with
    | zero => intro _; rfl
    | succ k ih =>
      intro hk
      unfold s_hitk at ih ⊢
      rw [List.range_succ, List.any_append, List.any_append, ih (by omega), List.any_cons, List.any_cons, pk_un (show 15 + 8 * bus + k ≠ q by omega), pk_un (show 13 + bus ≠ q by omega)]
      rfl
  exact this 8 (Nat.le_refl _)
theorem uq_hears {w : Nat → Int32} {q n : Nat} {x a b c e : Int32} (hq : 31 ≤ q ∧ q < 192) : s_hears (upd w q x) n a b c e = upd (s_hears w n a b c e) q x := by
  have : n % 64 < 64 := Nat.mod_lt _ (by decide)
  unfold s_hears s_hears0
  rw [uq_u (q := q) (k := 2316 + 4 * (n % 64)) (by omega), uq_u (q := q) (k := 2316 + 4 * (n % 64) + 1) (by omega), uq_u (q := q) (k := 2316 + 4 * (n % 64) + 2) (by omega), uq_u (q := q) (k := 2316 + 4 * (n % 64) + 3) (by omega), uq_u (q := q) (k := 2315) (by omega)]
theorem uq_lay1 {w : Nat → Int32} {q n bus : Nat} {x who bits : Int32} {held : Bool} (hb : bus < 2) (hq : 31 ≤ q ∧ q < 192) : s_lay1 (upd w q x) n bus who bits held = (upd (s_lay1 w n bus who bits held).1 q x, (s_lay1 w n bus who bits held).2) := by
  unfold s_lay1
  simp only
  rw [pk_un (show 13 + bus ≠ q by omega), uq_u (show 13 + bus ≠ q by omega), uq_hit hb hq, uq_clr hb hq, uq_hears hq, pk_un (show 2305 + 5 * bus ≠ q by omega), uq_u (show 2305 + 5 * bus ≠ q by omega)]
theorem uq_lays {w y : Nat → Int32} {q n bus : Nat} {x who : Int32} {held : Bool} (hb : bus < 2) (hq : 31 ≤ q ∧ q < 192) : ∀ k, s_lays (upd w q x) y n bus who held k = (upd (s_lays w y n bus who held k).1 q x, (s_lays w y n bus who held k).2)
  | 0 => rfl
  | k + 1 => by simp only [s_lays, uq_lays hb hq k, uq_lay1 hb hq]
theorem mw_lays {s : z_sg} {q bus many : Nat} {x who : Int32} (hb : bus < 2) (hq : 40 ≤ q ∧ q < 88) : m_lays (m_w s q x) bus who many = (m_w (m_lays s bus who many).1 q x, (m_lays s bus who many).2) := by
  have hh : s_held (upd s.2.1 q x) bus = s_held s.2.1 bus := s_held_c (pk_un (by omega)) (fun j hj => pk_un (by omega))
  have hm : ∀ k : Nat, k % 40 < 40 := fun k => Nat.mod_lt _ (by decide)
  unfold m_lays m_trails m_w s_trails
  simp only
  rw [hh, pk_un (show 5 ≠ q by omega), pk_un (show 2315 ≠ q by omega), uq_u (show 5 ≠ q by omega), uq_lays hb (by omega)]
  simp only
  rw [pk_un (show 2306 + 5 * bus ≠ q by omega), uq_u (show 2306 + 5 * bus ≠ q by omega), pk_un (show 10 ≠ q by omega)]
  generalize upd (s_lays (upd s.2.1 5 (s.2.1 5 + z_bi (s_held s.2.1 bus))) s.2.2 (s.2.1 2315).toNatClampNeg bus who (s_held s.2.1 bus) many).1 (2306 + 5 * bus) ((s_lays (upd s.2.1 5 (s.2.1 5 + z_bi (s_held s.2.1 bus))) s.2.2 (s.2.1 2315).toNatClampNeg bus who (s_held s.2.1 bus) many).1 (2306 + 5 * bus) + nI 1) = W
  have := hm (W 10).toNatClampNeg
  rw [uq_u (show 2220 + (W 10).toNatClampNeg % 40 ≠ q by omega), uq_u (show 10 ≠ q by omega)]
theorem dz_vec {s : z_sg} {bus t : Nat} (ht : t < 8) : ∀ {code : Nat}, code < 32 → (m_dz s bus t code).2.1 (104 + t) = s.2.1 (104 + t)
  | 0, _ => rfl
  | 1, _ => pk_un (by omega)
  | 2, _ => rfl
  | 3, _ => rfl
  | 4, _ => pk_un (by omega)
  | 5, _ => pk_un (by omega)
  | 6, _ => pk_un (by omega)
  | 7, _ => pk_un (by omega)
  | 8, _ => (pk_un (by omega)).trans ((pk_un (by omega)).trans (pk_un (by omega)))
  | 9, _ => rfl
  | 10, _ => rfl
  | 11, _ => rfl
  | 12, _ => rfl
  | 13, _ => rfl
  | 14, _ => rfl
  | 15, _ => rfl
  | 16, _ => rfl
  | 17, _ => pk_un (by omega)
  | 18, _ => rfl
  | 19, _ => rfl
  | 20, _ => rfl
  | 21, _ => rfl
  | 22, _ => rfl
  | 23, _ => rfl
  | 24, _ => rfl
  | 25, _ => rfl
  | 26, _ => rfl
  | 27, _ => rfl
  | 28, _ => rfl
  | 29, _ => rfl
  | 30, _ => rfl
  | 31, _ => rfl
  | code + 32, h => absurd h (by omega)
theorem does_hi {s : z_sg} {bus t : Nat} {c : Int32} (ht : t < 8) : ∀ {code : Nat}, code < 32 → ∀ j, 192 ≤ j → (m_last (m_does (m_begins s t c) bus t code) t).2.1 j = (m_dz s bus t code).2.1 j
  | 0, _, j, hj => (m_last_o (by omega)).trans (m_begins_o (by omega) (by omega) (by omega) (by omega))
  | 1, _, j, hj => (m_last_o (by omega)).trans ((pk_un (by omega)).trans ((m_begins_o (by omega) (by omega) (by omega) (by omega)).trans (pk_un (by omega)).symm))
  | 2, _, j, hj => (m_last_o (by omega)).trans (m_begins_o (by omega) (by omega) (by omega) (by omega))
  | 3, _, j, hj => (m_last_o (by omega)).trans ((m_errs_o (by omega) (by omega) (by omega)).trans (m_begins_o (by omega) (by omega) (by omega) (by omega)))
  | 4, _, j, hj => (m_last_o (by omega)).trans ((pk_un (by omega)).trans ((m_begins_o (by omega) (by omega) (by omega) (by omega)).trans (pk_un (by omega)).symm))
  | 5, _, j, hj => (m_last_o (by omega)).trans ((pk_un (by omega)).trans ((m_begins_o (by omega) (by omega) (by omega) (by omega)).trans (pk_un (by omega)).symm))
  | 6, _, j, hj => (m_last_o (by omega)).trans ((pk_un (by omega)).trans ((m_begins_o (by omega) (by omega) (by omega) (by omega)).trans (pk_un (by omega)).symm))
  | 7, _, j, hj => (m_last_o (by omega)).trans ((pk_un (by omega)).trans ((m_begins_o (by omega) (by omega) (by omega) (by omega)).trans (pk_un (by omega)).symm))
  | 8, _, j, hj => (m_last_o (by omega)).trans (((pk_un (by omega)).trans ((pk_un (by omega)).trans (pk_un (by omega)))).trans ((m_begins_o (by omega) (by omega) (by omega) (by omega)).trans ((pk_un (by omega)).trans ((pk_un (by omega)).trans (pk_un (by omega)))).symm))
  | 9, _, j, hj => (m_last_o (by omega)).trans ((m_errs_o (by omega) (by omega) (by omega)).trans (m_begins_o (by omega) (by omega) (by omega) (by omega)))
  | 10, _, j, hj => (m_last_o (by omega)).trans ((m_errs_o (by omega) (by omega) (by omega)).trans (m_begins_o (by omega) (by omega) (by omega) (by omega)))
  | 11, _, j, hj => (m_last_o (by omega)).trans ((m_errs_o (by omega) (by omega) (by omega)).trans (m_begins_o (by omega) (by omega) (by omega) (by omega)))
  | 12, _, j, hj => (m_last_o (by omega)).trans ((m_errs_o (by omega) (by omega) (by omega)).trans (m_begins_o (by omega) (by omega) (by omega) (by omega)))
  | 13, _, j, hj => (m_last_o (by omega)).trans ((m_errs_o (by omega) (by omega) (by omega)).trans (m_begins_o (by omega) (by omega) (by omega) (by omega)))
  | 14, _, j, hj => (m_last_o (by omega)).trans ((m_errs_o (by omega) (by omega) (by omega)).trans (m_begins_o (by omega) (by omega) (by omega) (by omega)))
  | 15, _, j, hj => (m_last_o (by omega)).trans ((m_errs_o (by omega) (by omega) (by omega)).trans (m_begins_o (by omega) (by omega) (by omega) (by omega)))
  | 16, _, j, hj => (m_last_o (by omega)).trans (m_begins_o (by omega) (by omega) (by omega) (by omega))
  | 17, _, j, hj => (m_last_o (by omega)).trans ((pk_un (by omega)).trans ((m_begins_o (by omega) (by omega) (by omega) (by omega)).trans (pk_un (by omega)).symm))
  | 18, _, j, hj => (m_last_o (by omega)).trans (m_begins_o (by omega) (by omega) (by omega) (by omega))
  | 19, _, j, hj => (m_last_o (by omega)).trans (m_begins_o (by omega) (by omega) (by omega) (by omega))
  | 20, _, j, hj => (m_last_o (by omega)).trans ((m_errs_o (by omega) (by omega) (by omega)).trans (m_begins_o (by omega) (by omega) (by omega) (by omega)))
  | 21, _, j, hj => (m_last_o (by omega)).trans ((m_errs_o (by omega) (by omega) (by omega)).trans (m_begins_o (by omega) (by omega) (by omega) (by omega)))
  | 22, _, j, hj => (m_last_o (by omega)).trans ((m_errs_o (by omega) (by omega) (by omega)).trans (m_begins_o (by omega) (by omega) (by omega) (by omega)))
  | 23, _, j, hj => (m_last_o (by omega)).trans ((m_errs_o (by omega) (by omega) (by omega)).trans (m_begins_o (by omega) (by omega) (by omega) (by omega)))
  | 24, _, j, hj => (m_last_o (by omega)).trans ((m_errs_o (by omega) (by omega) (by omega)).trans (m_begins_o (by omega) (by omega) (by omega) (by omega)))
  | 25, _, j, hj => (m_last_o (by omega)).trans ((m_errs_o (by omega) (by omega) (by omega)).trans (m_begins_o (by omega) (by omega) (by omega) (by omega)))
  | 26, _, j, hj => (m_last_o (by omega)).trans ((m_errs_o (by omega) (by omega) (by omega)).trans (m_begins_o (by omega) (by omega) (by omega) (by omega)))
  | 27, _, j, hj => (m_last_o (by omega)).trans ((m_errs_o (by omega) (by omega) (by omega)).trans (m_begins_o (by omega) (by omega) (by omega) (by omega)))
  | 28, _, j, hj => (m_last_o (by omega)).trans ((m_errs_o (by omega) (by omega) (by omega)).trans (m_begins_o (by omega) (by omega) (by omega) (by omega)))
  | 29, _, j, hj => (m_last_o (by omega)).trans ((m_errs_o (by omega) (by omega) (by omega)).trans (m_begins_o (by omega) (by omega) (by omega) (by omega)))
  | 30, _, j, hj => (m_last_o (by omega)).trans ((m_errs_o (by omega) (by omega) (by omega)).trans (m_begins_o (by omega) (by omega) (by omega) (by omega)))
  | 31, _, j, hj => (m_last_o (by omega)).trans ((m_errs_o (by omega) (by omega) (by omega)).trans (m_begins_o (by omega) (by omega) (by omega) (by omega)))
  | code + 32, h, _, _ => absurd h (by omega)
section
variable {L : Nat} {xs : Nat → Int32} {d : Nat} {kp sp wd : Value} {I : z_I} {s : z_sg} {R : z_R} {J : z_J} {F : z_F} {cn : Nat} {Q : z_Q} {n k bus : Nat} {f0 : Int32}
theorem nI_ne {a b : Nat} (ha : a < 2 ^ 31) (hb : b < 2 ^ 31) (h : a ≠ b) : ¬ nI a = nI b := fun z => h (nI_inj9 ha hb z)
theorem cr_apart {t code : Nat} {c : Int32} (h : xR I F s n k bus f0) (ht : t < 8) (hc : code = 2 ∨ code = 18)
    (hQ : ∀ I', xR I' F s n k bus f0 → I' 30 0 = s.2.1 (136 + t) → I' 30 1 = s.2.1 (144 + t) → fr cT I I' → Q (some (.int (nI (if code = 2 then 1 else 2)))) I' (z_R0 kp sp wd) J F cn) :
    z_M (z_X0 L xs) z_P0 (d + 1) m_Trial_readyMode [.ref 29, .int (nI t), .int (nI code), .int c] I (z_R0 kp sp wd) J F cn Q := by
  have e1 : I 3 (t * 18 + 13) = s.2.1 (136 + t) := h.1.1.1 t ht 13 (by decide) (by decide)
  have e2 : I 3 (t * 18 + 14) = s.2.1 (144 + t) := h.1.1.1 t ht 14 (by decide) (by decide)
  rcases hc with rfl | rfl
  · refine z_WP_gos [] 1000 fun K C hK hC => ?_
    conv => whnf
    repeat ((first | refine And.intro (by (conv => arg 2; whnf); (try simp only [z_lit, nI_add, pk_mul, z_pr1, z_pr2]); exact z_in (by omega) (by decide)) ?_ | refine z_bt1 (by decide) ?_ | refine z_bf1 (by decide) ?_ | refine z_bt2 (by decide) ?_ | refine z_bf2 (by decide) ?_); conv => whnf)
    simp (disch := omega) only [z_lit, nI_add, pk_mul, z_pr1, z_pr2, nI_clamp, z_up_row, z_row_s, z_row_n, z_row_row, pk_us, pk_un]
    rw [e1, e2]
    exact hQ _ (xR_30 h (fun b hb => z_row_n _ _ hb) rfl rfl) rfl rfl (fr_w fr_r (by decide))
  · refine z_WP_gos [] 1000 fun K C hK hC => ?_
    conv => whnf
    repeat ((first | refine And.intro (by (conv => arg 2; whnf); (try simp only [z_lit, nI_add, pk_mul, z_pr1, z_pr2]); exact z_in (by omega) (by decide)) ?_ | refine z_bt1 (by decide) ?_ | refine z_bf1 (by decide) ?_ | refine z_bt2 (by decide) ?_ | refine z_bf2 (by decide) ?_); conv => whnf)
    simp (disch := omega) only [z_lit, nI_add, pk_mul, z_pr1, z_pr2, nI_clamp, z_up_row, z_row_s, z_row_n, z_row_row, pk_us, pk_un]
    rw [e1, e2]
    exact hQ _ (xR_30 h (fun b hb => z_row_n _ _ hb) rfl rfl) rfl rfl (fr_w fr_r (by decide))
theorem cr_norm {t code : Nat} {c : Int32} (h : xR I F s n k bus f0) (hb : bus < 2) (ht : t < 8) (hc : b16 c) (hco : code < 32) (h2 : code ≠ 2) (h18 : code ≠ 18) (h6 : s.1 6 = nI 0)
    (hQ : ∀ I', xR I' F (if code = 16 then m_w (m_last (m_does (m_begins s t c) bus t code) t) (48 + t) (nI 0) else m_last (m_does (m_begins s t c) bus t code) t) n k bus f0 → I' 30 0 = (m_last (m_does (m_begins s t c) bus t code) t).2.1 (136 + t) → I' 30 1 = (if code = 16 then s.2.1 (104 + t) else (m_last (m_does (m_begins s t c) bus t code) t).2.1 (128 + t) &&& nI 65535) → fr cT I I' → Q (some (.int (nI (if code = 16 ∨ code = 19 then 2 else 1)))) I' (z_R0 kp sp wd) J F cn) :
    z_M (z_X0 L xs) z_P0 (d + 1) m_Trial_readyMode [.ref 29, .int (nI t), .int (nI code), .int c] I (z_R0 kp sp wd) J F cn Q := by
  have g2 : ¬ nI code = nI 2 := nI_ne (by omega) (by omega) h2
  have g18 : ¬ nI code = nI 18 := nI_ne (by omega) (by omega) h18
  obtain ⟨fq, hfq, hf2⟩ := h.2.2.2.2.1.2.2.2.2
  have hfr : s.2.1 2 = s.2.1 2 &&& nI 65535 := by
    rw [hf2, pk_andN (by omega) 16 (by decide), Nat.mod_eq_of_lt (by omega)]
  have d1 := h.2.2.2.1.1
  have c1 := h.2.2.1.1
  have z0 : v01 (nI 0) := Or.inl rfl
  have hs := stt_does (s := s) (bus := bus) (t := t) (code := code) (c := c) ht hco h2 h18 h6
  refine z_WP_gos [] 1000 fun K C hK hC => ?_
  conv => whnf
  repeat ((first | refine And.intro (by (conv => arg 2; whnf); (try simp only [z_lit, nI_add, pk_mul, z_pr1, z_pr2]); exact z_in (by omega) (by decide)) ?_ | refine z_bt1 (by decide) ?_ | refine z_bf1 (by decide) ?_ | refine z_bt2 (by decide) ?_ | refine z_bf2 (by decide) ?_ | refine z_bt1 (by first | exact g2 | exact g18) ?_ | refine z_bf1 (by first | exact g2 | exact g18) ?_ | refine z_bt2 (by first | exact g2 | exact g18) ?_ | refine z_bf2 (by first | exact g2 | exact g18) ?_); conv => whnf)
  rw [d1, c1]
  refine hC _ _ _ _ _ _ _ _ _ _ (fun _ _ _ _ _ _ q => q) (ct_obey h hb ht h6 hfr hco h2 h18 (fun I1 x1 e1 f1 => ?_))
  conv => whnf
  have hW := x1.2.2.2.2.1
  have he := m_er_01 hco
  have hk := x1.2.2.2.2.2
  have o : ∀ j, 192 ≤ j → (m_last (m_does (m_begins s t c) bus t code) t).2.1 j = (m_dz s bus t code).2.1 j := does_hi ht hco
  have o104 : (m_dz s bus t code).2.1 (104 + t) = s.2.1 (104 + t) := dz_vec ht hco
  have est : c_st (I1 3) t (s_bt (m_er code) (nI 0) ((m_dz s bus t code).1 6)) = (m_last (m_does (m_begins s t c) bus t code) t).2.1 (136 + t) := by rw [hs.2.2.1]; exact c_st_eq ht x1.1.1 hW.1
  have fin : ∀ I', I' 3 = c_settle (I1 3) t c (s_bt (m_er code) (nI 0) ((m_dz s bus t code).1 6)) → (∀ b, b ≠ 3 → b ≠ 4 → b ≠ 30 → I' b = I1 b) → I' 4 = I1 4 → xR I' F (m_last (m_does (m_begins s t c) bus t code) t) n k bus f0 := fun I' q3 qI q4 => xR_stt x1 ht hs hc he z0 hk q3 qI (fun j hj => by rw [q4, o _ (by omega)]; exact x1.1.2.1 j hj) (fun j h1 h2 => by rw [o _ h1]; exact hW.2.2.1 j (by omega)) (fun j hj => o j (by omega))
  generalize s_bt (m_er code) (nI 0) ((m_dz s bus t code).1 6) = bits at *
  generalize m_last (m_does (m_begins s t c) bus t code) t = s2 at *
  refine hC _ _ _ _ _ _ _ _ _ _ (fun _ _ _ _ _ _ q => q) (cu_settle ht ?_)
  conv => whnf
  repeat ((first | refine And.intro (by (conv => arg 2; whnf); (try simp only [z_lit, nI_add, pk_mul, z_pr1, z_pr2]); exact z_in (by omega) (by decide)) ?_ | refine z_bt1 (by decide) ?_ | refine z_bf1 (by decide) ?_ | refine z_bt2 (by decide) ?_ | refine z_bf2 (by decide) ?_); conv => whnf)
  simp (disch := omega) only [z_lit, nI_add, pk_mul, z_pr1, z_pr2, nI_clamp, z_up_row, z_row_s, z_row_n, z_row_row, pk_us, pk_un]
  rw [est]
  have x2 := fin (z_row (z_row I1 3 (c_settle (I1 3) t c bits)) 30 (upd (I1 30) 0 (s2.2.1 (136 + t)))) rfl (fun b h1 h2 h3 => by rw [z_row_n _ _ h3, z_row_n _ _ h1]) rfl
  have f2 : fr cT I (z_row (z_row I1 3 (c_settle (I1 3) t c bits)) 30 (upd (I1 30) 0 (s2.2.1 (136 + t)))) := fr_t f1 (fr_w (fr_w fr_r (by decide)) (by decide))
  have q9 : c_settle (I1 3) t c bits (t * 18 + 9) = s.2.1 (104 + t) := by
    have a : c_settle (I1 3) t c bits (t * 18 + 9) = s2.2.1 (104 + t) := x2.1.1.1 t ht 9 (by decide) (by decide)
    rw [a, hs.1 _ (by omega) (by omega) (by omega) (by omega) (by omega) (by omega), o104]
  have q12 : c_settle (I1 3) t c bits (t * 18 + 12) = s2.2.1 (128 + t) := x2.1.1.1 t ht 12 (by decide) (by decide)
  generalize c_settle (I1 3) t c bits = r3 at *
  refine ⟨fun g16 => ?_, fun g16 => ?_⟩ <;> (try simp (disch := omega) only [z_lit, nI_add, pk_mul, z_pr1, z_pr2, nI_clamp, z_up_row, z_row_s, z_row_n, z_row_row, pk_us, pk_un] at g16) <;> (conv => whnf)
  · have n16 : ¬ code = 16 := fun z => g16 (by rw [z])
    repeat ((first | refine And.intro (by (conv => arg 2; whnf); (try simp only [z_lit, nI_add, pk_mul, z_pr1, z_pr2]); exact z_in (by omega) (by decide)) ?_ | refine z_bt1 (by decide) ?_ | refine z_bf1 (by decide) ?_ | refine z_bt2 (by decide) ?_ | refine z_bf2 (by decide) ?_); conv => whnf)
    simp (disch := omega) only [z_lit, nI_add, pk_mul, z_pr1, z_pr2, nI_clamp, z_up_row, z_row_s, z_row_n, z_row_row, pk_us, pk_un]
    rw [q12]
    rw [if_neg n16, if_neg n16] at hQ
    refine ⟨fun g19 => ?_, fun g19 => ?_⟩ <;> (try simp (disch := omega) only [z_lit, nI_add, pk_mul, z_pr1, z_pr2, nI_clamp, z_up_row, z_row_s, z_row_n, z_row_row, pk_us, pk_un] at g19) <;> (conv => whnf)
    · have n19 : ¬ (code = 16 ∨ code = 19) := fun z => z.elim n16 (fun z => g19 (by rw [z]))
      rw [if_neg n19] at hQ
      exact hQ _ (xR_30 x2 (fun b hb => by unfold z_row; simp only [if_neg hb]) rfl rfl) rfl rfl (fr_t f1 (fr_w (fr_w fr_r (by decide)) (by decide)))
    · have n19 : code = 19 := nI_inj9 (by omega) (by omega) g19
      rw [if_pos (Or.inr n19)] at hQ
      exact hQ _ (xR_30 x2 (fun b hb => by unfold z_row; simp only [if_neg hb]) rfl rfl) rfl rfl (fr_t f1 (fr_w (fr_w fr_r (by decide)) (by decide)))
  · have n16 : code = 16 := nI_inj9 (by omega) (by omega) g16
    repeat ((first | refine And.intro (by (conv => arg 2; whnf); (try simp only [z_lit, nI_add, pk_mul, z_pr1, z_pr2]); exact z_in (by omega) (by decide)) ?_ | refine z_bt1 (by decide) ?_ | refine z_bf1 (by decide) ?_ | refine z_bt2 (by decide) ?_ | refine z_bf2 (by decide) ?_); conv => whnf)
    simp (disch := omega) only [z_lit, nI_add, pk_mul, z_pr1, z_pr2, nI_clamp, z_up_row, z_row_s, z_row_n, z_row_row, pk_us, pk_un]
    rw [q9]
    rw [if_pos n16, if_pos n16, if_pos (Or.inl n16)] at hQ
    refine hQ _ (xR_told (q := 2) (x := nI 0) x2 ht (by omega) (fun _ => z0) rfl (fun b h1 h3 => ?_) rfl rfl) rfl rfl ?_
    · repeat rw [z_row_n _ _ (by omega)]
    · exact fr_t f1 (fr_w (fr_w (fr_w fr_r (by decide)) (by decide)) (by decide))
end
