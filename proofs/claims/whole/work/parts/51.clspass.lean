/-! what a talk does not look at -/
def ins (v : Nat) (g w : Nat → Int32) : Nat → Int32 := fun j => if j = 128 + v ∨ j = 136 + v ∨ j = 144 + v ∨ j = 176 + v ∨ j = 184 + v then g j else w j
theorem ins_n {v j : Nat} {g w : Nat → Int32} (h : ¬ (j = 128 + v ∨ j = 136 + v ∨ j = 144 + v ∨ j = 176 + v ∨ j = 184 + v)) : ins v g w j = w j := if_neg h
theorem ins_u {v k : Nat} {g w : Nat → Int32} {x : Int32} (h : ¬ (k = 128 + v ∨ k = 136 + v ∨ k = 144 + v ∨ k = 176 + v ∨ k = 184 + v)) : upd (ins v g w) k x = ins v g (upd w k x) := by
  funext j
  by_cases e : j = k
  · subst e; rw [pk_us, ins_n h, pk_us]
  · rw [pk_un e]; unfold ins; rw [pk_un e]
theorem ins_clr {v bus k : Nat} {g w : Nat → Int32} (hb : bus < 2) (hk : k ≤ 8) : s_clr (ins v g w) bus k = ins v g (s_clr w bus k) := by
  funext j
  unfold s_clr
  by_cases h : j = 128 + v ∨ j = 136 + v ∨ j = 144 + v ∨ j = 176 + v ∨ j = 184 + v
  · rw [if_neg (by omega)]
    unfold ins; rw [if_pos h, if_pos h]
  · rw [ins_n h, ins_n h, ins_n (by omega)]
theorem ins_hit {v bus : Nat} {g w : Nat → Int32} (hb : bus < 2) : s_hitk (ins v g w) bus 8 = s_hitk w bus 8 := by
  have : ∀ k, k ≤ 8 → s_hitk (ins v g w) bus k = s_hitk w bus k := by
    intro k
    induction k with
    | zero => intro _; rfl
    | succ k ih =>
      intro hk
      unfold s_hitk at ih ⊢
      rw [List.range_succ, List.any_append, List.any_append, ih (by omega), List.any_cons, List.any_cons, ins_n (by omega), ins_n (by omega)]
      rfl
  exact this 8 (Nat.le_refl _)
theorem ins_hears {v n : Nat} {g w : Nat → Int32} {a b c e : Int32} (hv : v < 8) : s_hears (ins v g w) n a b c e = ins v g (s_hears w n a b c e) := by
  have : n % 64 < 64 := Nat.mod_lt _ (by decide)
  unfold s_hears s_hears0
  rw [ins_u (by omega), ins_u (by omega), ins_u (by omega), ins_u (by omega), ins_u (by omega)]
theorem ins_lay1 {v n bus : Nat} {g w : Nat → Int32} {who bits : Int32} {held : Bool} (hv : v < 8) (hb : bus < 2) : s_lay1 (ins v g w) n bus who bits held = (ins v g (s_lay1 w n bus who bits held).1, (s_lay1 w n bus who bits held).2) := by
  unfold s_lay1
  simp only
  rw [ins_n (by omega), ins_u (by omega), ins_hit hb, ins_clr hb (by omega), ins_hears hv, ins_n (by omega), ins_u (by omega)]
theorem ins_lays {v n bus : Nat} {g w y : Nat → Int32} {who : Int32} {held : Bool} (hv : v < 8) (hb : bus < 2) : ∀ k, s_lays (ins v g w) y n bus who held k = (ins v g (s_lays w y n bus who held k).1, (s_lays w y n bus who held k).2)
  | 0 => rfl
  | k + 1 => by
    simp only [s_lays, ins_lays hv hb k, ins_lay1 hv hb]
def m_ins (v : Nat) (g : Nat → Int32) (s : z_sg) : z_sg := (s.1, ins v g s.2.1, s.2.2)
theorem mi_lays {v bus many : Nat} {g : Nat → Int32} {s : z_sg} {who : Int32} (hv : v < 8) (hb : bus < 2) : m_lays (m_ins v g s) bus who many = (m_ins v g (m_lays s bus who many).1, (m_lays s bus who many).2) := by
  have hh : s_held (ins v g s.2.1) bus = s_held s.2.1 bus := s_held_c (ins_n (by omega)) (fun j hj => ins_n (by omega))
  unfold m_lays m_trails m_ins s_trails
  simp only
  have hm : ∀ k : Nat, k % 40 < 40 := fun k => Nat.mod_lt _ (by decide)
  have h2 : ∀ j, j < 31 ∨ 192 ≤ j → ∀ w : Nat → Int32, ins v g w j = w j := fun j hj w => ins_n (by omega)
  rw [hh, h2 5 (by omega), h2 2315 (by omega), ins_u (by omega), ins_lays hv hb]
  simp only
  rw [h2 _ (by omega), ins_u (by omega), h2 _ (by omega), ins_u (by have := hm (upd (s_lays (upd s.2.1 5 (s.2.1 5 + z_bi (s_held s.2.1 bus))) s.2.2 (s.2.1 2315).toNatClampNeg bus who (s_held s.2.1 bus) many).1 (2306 + 5 * bus) ((s_lays (upd s.2.1 5 (s.2.1 5 + z_bi (s_held s.2.1 bus))) s.2.2 (s.2.1 2315).toNatClampNeg bus who (s_held s.2.1 bus) many).1 (2306 + 5 * bus) + nI 1) 10).toNatClampNeg; omega), ins_u (by omega)]
theorem mi_last {v t : Nat} {g : Nat → Int32} {s : z_sg} (hv : v < 8) (ht : t < 8) (h : t ≠ v) : m_last (m_ins v g s) t = m_ins v g (m_last s t) := by
  unfold m_last m_ins s_status
  simp only
  rw [ins_n (by omega), ins_n (by omega), ins_n (by omega), ins_n (by omega), ins_n (by omega), ins_n (by omega), ins_n (by omega), ins_u (by omega)]
theorem mi_begins {v t : Nat} {g : Nat → Int32} {s : z_sg} {c : Int32} (hv : v < 8) (ht : t < 8) (h : t ≠ v) : m_begins (m_ins v g s) t c = m_ins v g (m_begins s t c) := by
  unfold m_begins
  rw [← mi_last hv ht h]
  unfold s_begins m_ins
  simp only
  rw [ins_u (by omega), ins_u (by omega), ins_u (by omega)]
theorem mi_errs {v t : Nat} {g : Nat → Int32} {s : z_sg} (hv : v < 8) (ht : t < 8) (h : t ≠ v) : m_errs (m_ins v g s) t = m_ins v g (m_errs s t) := by
  unfold m_errs
  rw [← mi_last hv ht h]
  unfold s_errs m_ins
  simp only
  rw [ins_n (by omega), ins_u (by omega), ins_u (by omega)]
theorem mi_taken {v t u : Nat} {g : Nat → Int32} {s : z_sg} (hv : v < 8) (ht : t < 8) (h : t ≠ v) : m_taken (m_ins v g s) t u = (m_ins v g (m_taken s t u).1, (m_taken s t u).2) := by
  have e : s_legal (m_ins v g s).2.1 t u = s_legal s.2.1 t u := by show s_legal (ins v g s.2.1) t u = _; unfold s_legal; rw [ins_n (by omega)]
  have e2 : (m_ins v g s).2.1 (40 + t) = s.2.1 (40 + t) := by unfold m_ins; simp only; rw [ins_n (by omega)]
  unfold m_taken
  rw [e, e2, mi_errs hv ht h]
  cases s_legal s.2.1 t u <;> rfl
theorem ins_cpy {v a b m : Nat} {g w y : Nat → Int32} (hv : v < 8) (ha : 192 ≤ a) : va_cpy (ins v g w) y a b m = va_cpy w y a b m := by
  funext j
  by_cases e : b ≤ j ∧ j < b + m
  · rw [pk_cpy_in e.1 e.2, pk_cpy_in e.1 e.2, ins_n (by omega)]
  · rw [pk_cpy_out (by omega), pk_cpy_out (by omega)]
theorem mi_answers {v bus t many : Nat} {g : Nat → Int32} {s : z_sg} (hv : v < 8) (hb : bus < 2) (ht : t < 8) : m_answers (m_ins v g s) bus t many = (m_ins v g (m_answers s bus t many).1, (m_answers s bus t many).2) := by
  rw [m_answers_eq, m_answers_eq]
  have e : m_eight (m_ins v g s) = m_ins v g (m_eight s) := rfl
  have e2 : (m_ins v g s).2.1 (48 + t) = s.2.1 (48 + t) := by unfold m_ins; simp only; rw [ins_n (by omega)]
  rw [e, mi_lays hv hb, e2]
  simp only
  by_cases z : (m_lays (m_eight s) bus (nI t) many).2 = nI 0 ∧ s.2.1 (48 + t) = nI 1
  · rw [if_pos z, if_pos z]; rfl
  · rw [if_neg z, if_neg z]
theorem mi_tw {v bus t u m : Nat} {g : Nat → Int32} {s : z_sg} (hv : v < 8) (hb : bus < 2) (ht : t < 8) (h : t ≠ v) : m_tw (m_ins v g s) bus t u m = (m_ins v g (m_tw s bus t u m).1, (m_tw s bus t u m).2) := by
  unfold m_tw
  simp only
  rw [mi_taken hv ht h]
  simp only
  rw [mi_last hv ht h]
  have e1 : s_shut (m_ins v g (m_last (m_taken s t u).1 t)).2.1 t bus = s_shut (m_last (m_taken s t u).1 t).2.1 t bus := by show s_shut (ins v g (m_last (m_taken s t u).1 t).2.1) t bus = _; unfold s_shut; rw [ins_n (by omega)]
  have e2 : m_says ((m_ins v g (m_last (m_taken s t u).1 t)).1, (m_ins v g (m_last (m_taken s t u).1 t)).2.1, upd (m_ins v g (m_last (m_taken s t u).1 t)).2.2 0 ((m_ins v g (m_last (m_taken s t u).1 t)).2.1 (136 + t))) (192 + 8 * (6 * t + u)) m = m_ins v g (m_says ((m_last (m_taken s t u).1 t).1, (m_last (m_taken s t u).1 t).2.1, upd (m_last (m_taken s t u).1 t).2.2 0 ((m_last (m_taken s t u).1 t).2.1 (136 + t))) (192 + 8 * (6 * t + u)) m) := by
    unfold m_says m_ins
    simp only
    rw [ins_n (by omega), ins_cpy hv (by omega)]
  rw [e1, e2, mi_answers hv hb ht]
  simp only
  generalize m_says ((m_last (m_taken s t u).1 t).1, (m_last (m_taken s t u).1 t).2.1, upd (m_last (m_taken s t u).1 t).2.2 0 ((m_last (m_taken s t u).1 t).2.1 (136 + t))) (192 + 8 * (6 * t + u)) m = sy
  have e3 : ∀ s' : z_sg, s_judged (m_ins v g s').2.1 t = s_judged s'.2.1 t := fun s' => by show s_judged (ins v g s'.2.1) t = _; unfold s_judged; rw [ins_n (by omega), ins_n (by omega)]
  rw [e3]
  cases s_shut (m_last (m_taken s t u).1 t).2.1 t bus <;> rfl
/-- begun with a command, and not looked at till later -/
theorem begins_ins {v : Nat} {s : z_sg} {c : Int32} (hv : v < 8) : m_begins s v c = m_ins v (m_begins s v c).2.1 (upd s.1 6 (nI 0), s.2.1, s.2.2) := by
  have : (m_begins s v c).2.1 = ins v (m_begins s v c).2.1 s.2.1 := by
    funext j
    by_cases h : j = 128 + v ∨ j = 136 + v ∨ j = 144 + v ∨ j = 176 + v ∨ j = 184 + v
    · unfold ins; rw [if_pos h]
    · rw [ins_n h, m_begins_o (by omega) (by omega) (by omega) (by omega)]
  show ((m_begins s v c).1, (m_begins s v c).2.1, (m_begins s v c).2.2) = (_, ins v (m_begins s v c).2.1 s.2.1, _)
  rw [← this]
  rfl
theorem stt_ins {v : Nat} {s q : z_sg} {c : Int32} (hv : v < 8) (h6 : q.1 6 = nI 0) (hq : ∀ j, (40 ≤ j ∧ j < 72 ∧ j % 8 = v % 8) ∨ (120 ≤ j ∧ j < 136 ∧ j % 8 = v % 8) → q.2.1 j = s.2.1 j) : stt q (m_ins v (m_begins s v c).2.1 q) v c (nI 0) (nI 0) (nI 0) := by
  have hb := stt_begins (s := s) (t := v) (c := c) hv
  have i : ∀ j, (j = 128 + v ∨ j = 136 + v ∨ j = 144 + v ∨ j = 176 + v ∨ j = 184 + v) → (m_ins v (m_begins s v c).2.1 q).2.1 j = (m_begins s v c).2.1 j := fun j h => if_pos h
  obtain ⟨h1, h2, h3, h4, h5, h6', h7, h8, h9⟩ := hb
  refine ⟨fun j _ a b c d e => ins_n (by omega), ?_, ?_, ?_, ?_, ?_, h6, fun j hj => rfl, rfl⟩
  · rw [i _ (by omega), h2, if_neg (by decide), if_neg (by decide), hq (128 + v) (by omega)]
  · rw [i _ (by omega), h3]
    unfold s_stat
    rw [hq (48 + v) (by omega), hq (40 + v) (by omega), hq (56 + v) (by omega), hq (120 + v) (by omega), hq (64 + v) (by omega)]
  · rw [i _ (by omega), h4]
  · rw [i _ (by omega), h5]
  · rw [i _ (by omega), h6']
section
variable {L : Nat} {xs : Nat → Int32} {d : Nat} {kp sp wd : Value} {I : z_I} {s : z_sg} {R : z_R} {J : z_J} {F : z_F} {cn : Nat} {Q : z_Q} {n k bus : Nat} {f0 : Int32}
/-- words that are taken in; its status -/
def m_tkn (s2 : z_sg) (t u a m : Nat) : z_sg := bif (m_taken s2 t u).2 then m_copy (m_taken s2 t u).1 (192 + a) (576 + 8 * (6 * t + u)) m else (m_taken s2 t u).1
theorem ct_take {t u m a : Nat} {c : Int32} {s2 : z_sg} (h : xR I F s n k bus f0) (ht : t < 8) (hu : u < 6) (hm : m ≤ 8) (ha : a + m ≤ 1200) (hc : b16 c) (hs2 : stt s s2 t c (nI 0) (nI 0) (nI 0)) (o2 : ∀ j, 192 ≤ j → s2.2.1 j = s.2.1 j)
    (hQ : ∀ I', stt s (m_last (m_tkn s2 t u a m) t) t c (s_le s.2.1 t u) (nI 0) (nI 0) → xR I' F (m_last (m_tkn s2 t u a m) t) n k bus f0 → I' 30 = I 30 → fr cT I I' → Q (some (.int ((m_last (m_tkn s2 t u a m) t).2.1 (136 + t)))) I' (z_R0 kp sp wd) J F cn) :
    z_M (z_X0 L xs) z_P0 (d + 2) m_Units_take [.ref 2, .int (nI t), .int (nI (u + 1)), .int (nI m), .int c, .int (nI a), .int 0] I (z_R0 kp sp wd) J F cn Q := by
  have hW := h.2.2.2.2.1
  have z0 : v01 (nI 0) := Or.inl rfl
  obtain ⟨hs, hcan⟩ := stt_taken (u := u) ht hs2
  have w4 := h.1.2.1
  have oq : ∀ j, 192 ≤ j → (m_taken s2 t u).1.2.1 j = s.2.1 j := fun j hj => by rw [m_taken_hi ht hj, o2 j hj]
  have fin : ∀ s3 I', stt s s3 t c (s_le s.2.1 t u) (nI 0) (nI 0) → (∀ j, j < 1200 → I' 4 j = s3.2.1 (192 + j)) → (∀ j, 192 ≤ j → j < 1392 → b16 (s3.2.1 j)) → (∀ j, 1392 ≤ j → s3.2.1 j = s.2.1 j) → I' 3 = c_settle (I 3) t c (s_bt (s_le s.2.1 t u) (nI 0) (nI 0)) → (∀ b, b ≠ 3 → b ≠ 4 → b ≠ 30 → I' b = I b) → m_tkn s2 t u a m = s3 → I' 30 = I 30 → fr cT I I' → Q (some (.int (c_st (I 3) t (s_bt (s_le s.2.1 t u) (nI 0) (nI 0))))) I' (z_R0 kp sp wd) J F cn := by
    intro s3 I' hs3 q4 qb qw e3 eI es e30 f'
    rw [es] at hQ
    have hs1 := stt_last ht hs3
    have o3 : ∀ j, 192 ≤ j → (m_last s3 t).2.1 j = s3.2.1 j := fun j hj => m_last_o (by omega)
    have x1 : xR I' F (m_last s3 t) n k bus f0 := xR_stt h ht hs1 hc s_le_01 z0 z0 e3 eI (fun j hj => by rw [o3 _ (by omega)]; exact q4 j hj) (fun j h1 h2 => by rw [o3 _ (by omega)]; exact qb j h1 h2) (fun j hj => by rw [o3 _ (by omega)]; exact qw j hj)
    have est : c_st (I 3) t (s_bt (s_le s.2.1 t u) (nI 0) (nI 0)) = (m_last s3 t).2.1 (136 + t) := by rw [hs1.2.2.1]; exact c_st_eq ht h.1.1 hW.1
    rw [est]
    exact hQ I' hs1 x1 e30 f'
  unfold m_tkn at fin
  rw [hcan] at fin
  unfold s_le at fin hs
  refine cu_take (from' := a) (u := u) ht hu hm ha h.1.1 hW.1 (fun hl => ?_) (fun hl hbz => ?_) (fun hl hbz => ?_)
  · rw [hl] at fin hs
    exact fin _ _ hs (fun j hj => by rw [oq _ (by omega)]; exact w4 j hj) (fun j h1 h2 => by rw [oq _ h1]; exact hW.2.2.1 j (by omega)) (fun j hj => oq j (by omega)) rfl (fun b h1 h2 h3 => z_row_n _ _ h1) rfl rfl (fr_w fr_r (by decide))
  · rw [hl, hbz] at fin
    rw [hl] at hs
    exact fin _ _ hs (fun j hj => by rw [oq _ (by omega)]; exact w4 j hj) (fun j h1 h2 => by rw [oq _ h1]; exact hW.2.2.1 j (by omega)) (fun j hj => oq j (by omega)) rfl (fun b h1 h2 h3 => z_row_n _ _ h1) rfl rfl (fr_w fr_r (by decide))
  · rw [hl, hbz] at fin
    rw [hl] at hs
    refine fin _ _ (stt_copy (x := 192 + a) (y := 576 + 8 * (6 * t + u)) (n := m) hs ht (by omega)) (fun j hj => ?_) (fun j h1 h2 => ?_) (fun j hj => ?_) rfl (fun b h1 h2 h3 => by rw [z_row_n _ _ h1, z_row_n _ _ h2]) rfl rfl (fr_w (fr_w fr_r (by decide)) (by decide))
    · rw [show 576 + 8 * (6 * t + u) = 192 + (384 + 8 * (6 * t + u)) by omega]
      exact cpy_rel w4 oq hj ha (by omega)
    · exact cpy_b16 (fun j h1 h2 => by rw [oq _ h1]; exact hW.2.2.1 j (by omega)) (by omega) (by omega) h1 h2
    · rw [m_copy_o (by omega), oq _ (by omega)]
end
