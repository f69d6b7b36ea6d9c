/-! PASS -/
theorem s_status_f {f f' w : Nat → Int32} {t : Nat} (h : f 6 = f' 6) : s_status f w t = s_status f' w t := by
  unfold s_status; rw [h]
theorem m_want_f {s : z_sg} {t j : Nat} (hj : j ≠ 7) : (m_want s t).1 j = s.1 j := pk_un hj
theorem m_lays_f4 {s : z_sg} {bus many j : Nat} {who : Int32} (hj : j ≠ 4) : (m_lays s bus who many).1.1 j = s.1 j := pk_un hj
theorem m_tw_lo {s : z_sg} {bus t u m j : Nat} (hb : bus < 2) (ht : t < 8) (h1 : 31 ≤ j) (h2 : j < 192) (h3 : j ≠ 128 + t) (h4 : j ≠ 136 + t) (h5 : j ≠ 176 + t) : (m_tw s bus t u m).1.2.1 j = s.2.1 j := by
  unfold m_tw
  simp only
  cases s_shut (m_last (m_taken s t u).1 t).2.1 t bus
  · simp only [cond_false]
    rw [m_answers_o hb (by omega)]
    show (m_last (m_taken s t u).1 t).2.1 j = _
    rw [m_last_o h4, m_taken_o h4 h3 h5]
  · show (m_last (m_taken s t u).1 t).2.1 j = _
    rw [m_last_o h4, m_taken_o h4 h3 h5]
theorem m_tw_6 {s : z_sg} {bus t u m : Nat} : (m_tw s bus t u m).1.1 6 = s.1 6 := by
  have e : (m_taken s t u).1.1 6 = s.1 6 := m_taken_f
  unfold m_tw
  simp only
  cases s_shut (m_last (m_taken s t u).1 t).2.1 t bus
  · simp only [cond_false]
    rw [pk_un (by omega), m_answers_eq]
    simp only
    split
    · rw [m_want_f (by omega), m_lays_f4 (by omega)]
      exact e
    · rw [m_lays_f4 (by omega)]
      exact e
  · exact e
theorem mf8 {f w y : Nat → Int32} {t : Nat} {c : Int32} : ((upd (m_begins (f, w, y) t c).1 8 (nI 0), (m_begins (f, w, y) t c).2.1, (m_begins (f, w, y) t c).2.2) : z_sg) = m_begins (upd f 8 (nI 0), w, y) t c := by
  have e : upd (upd f 6 (nI 0)) 8 (nI 0) = upd (upd f 8 (nI 0)) 6 (nI 0) := by
    funext j
    by_cases a : j = 6
    · subst a; rfl
    · by_cases b : j = 8
      · subst b; rfl
      · rw [pk_un b, pk_un a, pk_un a, pk_un b]
  unfold m_begins m_last
  simp only
  rw [e, s_status_f (f := upd f 6 (nI 0)) (f' := upd (upd f 8 (nI 0)) 6 (nI 0)) (by rw [pk_us, pk_us])]
theorem mf6 {f w y : Nat → Int32} {t : Nat} {c : Int32} : m_begins (upd f 6 (nI 0), w, y) t c = m_begins (f, w, y) t c := by
  have e : upd (upd f 6 (nI 0)) 6 (nI 0) = upd f 6 (nI 0) := by
    funext j
    by_cases a : j = 6
    · subst a; rfl
    · rw [pk_un a]
  show m_last (upd (upd f 6 (nI 0)) 6 (nI 0), _, y) t = m_last (upd f 6 (nI 0), _, y) t
  rw [e]
theorem stt_quiet {s s' : z_sg} {t : Nat} {c e a k : Int32} (h : stt s s' t c e a k) : stt (m_quiet s) (m_quiet s') t c e a k := by
  obtain ⟨h1, h2, h3, h4, h5, h6, h7, h8, h9⟩ := h
  refine ⟨h1, h2, h3, h4, h5, h6, h7, fun j hj => ?_, h9⟩
  show upd s'.1 4 (s'.1 4 + nI 14) j = upd s.1 4 (s.1 4 + nI 14) j
  by_cases e : j = 4
  · subst e; rw [pk_us, pk_us, h8 4 (by omega)]
  · rw [pk_un e, pk_un e, h8 j hj]
def m_pas (A2 : z_sg) (bus t u v r m : Nat) (o : Int32) (he : Bool) : z_sg × Int32 := if o = nI 0 then (bif he then m_ends (m_tkn A2 v r (8 * (6 * t + u)) m) bus v else (m_quiet A2, nI 1)) else (if o = nI 2 then (bif he then m_errs A2 v else A2) else A2, o)
section
variable {L : Nat} {xs : Nat → Int32} {d : Nat} {kp sp wd : Value} {I : z_I} {s : z_sg} {R : z_R} {J : z_J} {F : z_F} {cn : Nat} {Q : z_Q} {n k bus : Nat} {f0 : Int32}
theorem tl_pass {t u v r m : Nat} {c0 c1 tu o : Int32} {he : Bool} {A A2 : z_sg} {lc : Option Value} (h : xR I F A n k bus f0) (hb : bus < 2) (ht : t < 8) (hu : u < 6) (hv : v < 8) (hr : r < 6) (hm : m ≤ 8) (hn : n + 10 < 2 ^ 30) (hk : k < 2 ^ 30) (hc0 : b16 c0)
    (h2 : he = true → stt A A2 v c0 (nI 0) (nI 0) (nI 0) ∧ ∀ j, 192 ≤ j → A2.2.1 j = A.2.1 j) (h2' : he = false → A2 = A)
    (hQ : ∀ I' n' k', xR I' F (m_pas A2 bus t u v r m o he).1 n' k' bus f0 → n' ≤ n + 10 → k' ≤ k + 1 → fr cT I I' → Q (some (.int (m_pas A2 bus t u v r m o he).2)) I' (z_R0 kp sp wd) J F cn) :
    z_WP (z_X0 L xs) z_P0 (d + 4) m_Trial_pass 93 [some (.ref 29), some (.int (nI t)), some (.int (nI (u + 1))), some (.int (nI m)), some (.int (nI v)), some (.int (nI (r + 1))), some (.int c0), some (.int c1), some (.int tu), some (.int (z_bi he)), lc] [.int o] I (z_R0 kp sp wd) J F cn 0 0 Q := by
  have hW := h.2.2.2.2.1
  have w4 := h.1.2.1
  have z0 : v01 (nI 0) := Or.inl rfl
  have z1 : v01 (nI 1) := Or.inr rfl
  unfold m_pas at hQ
  refine z_WP_gos [] 1000 fun K C hK hC => ?_
  conv => whnf
  refine ⟨fun g => ?_, fun g => ?_⟩ <;> (try simp (disch := omega) only [z_lit, nI_add, pk_mul, z_pr1, z_pr2, nI_clamp, z_up_row, z_row_s, z_row_n, z_row_row, pk_us, pk_un] at g) <;> (conv => whnf)
  · rw [if_pos g] at hQ
    cases he
    · obtain rfl := h2' rfl
      repeat ((first | refine And.intro (by (conv => arg 2; whnf); (try simp only [z_lit, nI_add, pk_mul, z_pr1, z_pr2]); exact z_in (by omega) (by decide)) ?_ | refine z_bt1 (by decide) ?_ | refine z_bf1 (by decide) ?_ | refine z_bt2 (by decide) ?_ | refine z_bf2 (by decide) ?_); conv => whnf)
      refine hC _ _ _ _ _ _ _ _ _ _ (fun _ _ _ _ _ _ q => q) (ct_noAnswer h (fun I2 x2 e2 f2 => ?_))
      conv => whnf
      exact hQ I2 n k x2 (by omega) (by omega) f2
    · obtain ⟨hs2, o2⟩ := h2 rfl
      repeat ((first | refine And.intro (by (conv => arg 2; whnf); (try simp only [z_lit, nI_add, pk_mul, z_pr1, z_pr2]); exact z_in (by omega) (by decide)) ?_ | refine z_bt1 (by decide) ?_ | refine z_bf1 (by decide) ?_ | refine z_bt2 (by decide) ?_ | refine z_bf2 (by decide) ?_); conv => whnf)
      refine hC _ _ _ _ _ _ _ _ _ _ (fun _ _ _ _ _ _ q => q) (cu_spot (k := 0) ?_)
      conv => whnf
      rw [show 384 * 0 + 8 * (6 * t + u) = 8 * (6 * t + u) by omega]
      refine hC _ _ _ _ _ _ _ _ _ _ (fun _ _ _ _ _ _ q => q) (ct_take (s2 := A2) (a := 8 * (6 * t + u)) h hv hr hm (by omega) hc0 hs2 o2 (fun I1 hs1 x1 e1 f1 => ?_))
      conv => whnf
      repeat ((first | refine And.intro (by (conv => arg 2; whnf); (try simp only [z_lit, nI_add, pk_mul, z_pr1, z_pr2]); exact z_in (by omega) (by decide)) ?_ | refine z_bt1 (by decide) ?_ | refine z_bf1 (by decide) ?_ | refine z_bt2 (by decide) ?_ | refine z_bf2 (by decide) ?_); conv => whnf)
      simp (disch := omega) only [z_lit, nI_add, pk_mul, z_pr1, z_pr2, nI_clamp, z_up_row, z_row_s, z_row_n, z_row_row, pk_us, pk_un]
      have hst := stb_of hv hW.1 hs1 s_le_01 z0 z0
      have me := m_ends_eq (s := m_tkn A2 v r (8 * (6 * t + u)) m) (bus := bus) (t := v)
      simp only [cond_true] at hQ
      rw [me.1] at hQ
      have hk2 : ∀ {I' n' k'}, xR I' F (m_ans ((m_last (m_tkn A2 v r (8 * (6 * t + u)) m) v).1, (m_last (m_tkn A2 v r (8 * (6 * t + u)) m) v).2.1, upd (m_last (m_tkn A2 v r (8 * (6 * t + u)) m) v).2.2 0 ((m_last (m_tkn A2 v r (8 * (6 * t + u)) m) v).2.1 (136 + v))) bus v 1).1 n' k' bus f0 → xR I' F (m_ends (m_tkn A2 v r (8 * (6 * t + u)) m) bus v).1 n' k' bus f0 := fun x => xR_y x me.2.1 me.2.2
      generalize m_ends (m_tkn A2 v r (8 * (6 * t + u)) m) bus v = E at *
      generalize m_last (m_tkn A2 v r (8 * (6 * t + u)) m) v = s1 at *
      have x3 : xR (z_row I1 30 (upd (I1 30) 0 (s1.2.1 (136 + v)))) F (s1.1, s1.2.1, upd s1.2.2 0 (s1.2.1 (136 + v))) n k bus f0 := xR_30 x1 (fun b hb => z_row_n _ _ hb) rfl rfl
      refine hC _ _ _ _ _ _ _ _ _ _ (fun _ _ _ _ _ _ q => q) (ct_ah (s := (s1.1, s1.2.1, upd s1.2.2 0 (s1.2.1 (136 + v)))) (t := v) (many := 1) x3 hb hv (by omega) (by omega) hn hk (fun j hj => ?_) hst hC (fun o I' q => q) (fun I' n' k' x' n1 k1 e' f' => ?_))
      · obtain rfl : j = 0 := by omega
        simp only [z_row_s, pk_us]
        exact ⟨trivial, x1.2.2.2.2.1.2.2.1 _ (by omega)⟩
      · exact hQ I' n' k' (hk2 x') n1 k1 (fr_t (fr_t f1 (fr_w fr_r (by decide))) f')
  · rw [if_neg g] at hQ
    cases he
    · obtain rfl := h2' rfl
      repeat ((first | refine And.intro (by (conv => arg 2; whnf); (try simp only [z_lit, nI_add, pk_mul, z_pr1, z_pr2]); exact z_in (by omega) (by decide)) ?_ | refine z_bt1 (by decide) ?_ | refine z_bf1 (by decide) ?_ | refine z_bt2 (by decide) ?_ | refine z_bf2 (by decide) ?_); conv => whnf)
      simp only [cond_false, ite_self] at hQ
      exact hQ I n k h (by omega) (by omega) fr_r
    · obtain ⟨hs2, o2⟩ := h2 rfl
      repeat ((first | refine And.intro (by (conv => arg 2; whnf); (try simp only [z_lit, nI_add, pk_mul, z_pr1, z_pr2]); exact z_in (by omega) (by decide)) ?_ | refine z_bt1 (by decide) ?_ | refine z_bf1 (by decide) ?_ | refine z_bt2 (by decide) ?_ | refine z_bf2 (by decide) ?_); conv => whnf)
      refine ⟨fun g2 => ?_, fun g2 => ?_⟩ <;> (try simp (disch := omega) only [z_lit, nI_add, pk_mul, z_pr1, z_pr2, nI_clamp, z_up_row, z_row_s, z_row_n, z_row_row, pk_us, pk_un] at g2) <;> (conv => whnf)
      · rw [if_neg g2] at hQ
        refine hC _ _ _ _ _ _ _ _ _ _ (fun _ _ _ _ _ _ q => q) (cu_settle hv ?_)
        conv => whnf
        refine hQ _ n k (xR_stt h hv hs2 hc0 z0 z0 z0 rfl (fun b h1 _ _ => z_row_n _ _ h1) (fun j hj => ?_) (fun j h1 h2 => ?_) (fun j hj => ?_)) (by omega) (by omega) (fr_w fr_r (by decide))
        · rw [o2 _ (by omega)]; exact w4 j hj
        · rw [o2 _ h1]; exact hW.2.2.1 j (by omega)
        · exact o2 j (by omega)
      · rw [if_pos g2] at hQ
        simp only [cond_true] at hQ
        refine hC _ _ _ _ _ _ _ _ _ _ (fun _ _ _ _ _ _ q => q) (cu_settle hv ?_)
        conv => whnf
        refine hQ _ n k (xR_stt h hv (stt_errs hv hs2) hc0 z1 z0 z0 rfl (fun b h1 _ _ => z_row_n _ _ h1) (fun j hj => ?_) (fun j h1 h2 => ?_) (fun j hj => ?_)) (by omega) (by omega) (fr_w fr_r (by decide))
        · rw [m_errs_o (by omega) (by omega) (by omega), o2 _ (by omega)]; exact w4 j hj
        · rw [m_errs_o (by omega) (by omega) (by omega), o2 _ h1]; exact hW.2.2.1 j (by omega)
        · rw [m_errs_o (by omega) (by omega) (by omega)]; exact o2 j (by omega)
theorem m_passes_eq {t u v r m : Nat} (hb : bus < 2) (ht : t < 8) (hv : v < 8) (htv : v ≠ t) : m_passes s bus t u v r m =
    (let c0 := s_cmd (nI v) (nI 0) (nI (r + 1)) (nI m)
    let c1 := s_cmd (nI t) (nI 1) (nI (u + 1)) (nI m)
    let l := m_lays (s.1, s.2.1, upd (upd s.2.2 0 c0) 1 c1) bus (s.2.1 3) 2
    let he := s_hear l.1.2.1 v bus && decide (l.2 &&& nI 1 = nI 0)
    bif s_hear l.1.2.1 t bus && decide (l.2 &&& nI 2 = nI 0) then
      let q := m_tw (m_begins (upd l.1.1 8 (nI 0), l.1.2.1, l.1.2.2) t c1) bus t u m
      m_pas (bif he then m_ins v (m_begins l.1 v c0).2.1 q.1 else q.1) bus t u v r m q.2 he
    else m_pas (m_quiet (bif he then m_begins l.1 v c0 else l.1)) bus t u v r m (nI 1) he) := by
  unfold m_passes
  simp only
  generalize s_cmd (nI v) (nI 0) (nI (r + 1)) (nI m) = c0
  generalize s_cmd (nI t) (nI 1) (nI (u + 1)) (nI m) = c1
  generalize m_lays (s.1, s.2.1, upd (upd s.2.2 0 c0) 1 c1) bus (s.2.1 3) 2 = l
  obtain ⟨⟨f, w, y⟩, tu⟩ := l
  simp only
  have eh : s_hear (m_begins (f, w, y) v c0).2.1 t bus = s_hear w t bus := by
    have o : ∀ j, j ≠ 136 + v → j ≠ 144 + v → j ≠ 176 + v → j ≠ 184 + v → (m_begins (f, w, y) v c0).2.1 j = w j := fun j a b c d => m_begins_o a b c d
    unfold s_hear
    rw [o (31 + t) (by omega) (by omega) (by omega) (by omega), o (80 + t) (by omega) (by omega) (by omega) (by omega), o 3 (by omega) (by omega) (by omega) (by omega)]
  have n1 : ¬ nI 1 = nI 0 := by decide
  have n2 : ¬ nI 1 = nI 2 := by decide
  have np : ∀ A2 he, m_pas A2 bus t u v r m (nI 1) he = (A2, nI 1) := fun A2 he => by unfold m_pas; rw [if_neg n1, if_neg n2]
  rw [np]
  cases s_hear w v bus && decide (tu &&& nI 1 = nI 0)
  · simp only [cond_false]
    cases s_hear w t bus && decide (tu &&& nI 2 = nI 0)
    · simp only [cond_false]
    · simp only [cond_true]
      rw [mf8]
      unfold m_pas
      simp only [cond_false, ite_self]
  · simp only [cond_true]
    rw [eh]
    cases s_hear w t bus && decide (tu &&& nI 2 = nI 0)
    · simp only [cond_false]
    · simp only [cond_true]
      have e1 : m_begins (m_begins (f, w, y) v c0) t c1 = m_ins v (m_begins (f, w, y) v c0).2.1 (m_begins (f, w, y) t c1) := by
        have h1 := begins_ins (v := v) (s := (f, w, y)) (c := c0) hv
        have h2 := mi_begins (v := v) (t := t) (g := (m_begins (f, w, y) v c0).2.1) (s := (upd f 6 (nI 0), w, y)) (c := c1) hv ht (fun z => htv z.symm)
        rw [mf6] at h2
        calc m_begins (m_begins (f, w, y) v c0) t c1 = m_begins (m_ins v (m_begins (f, w, y) v c0).2.1 (upd f 6 (nI 0), w, y)) t c1 := congrArg (fun q => m_begins q t c1) h1
          _ = _ := h2
      have e2 : ((upd (m_ins v (m_begins (f, w, y) v c0).2.1 (m_begins (f, w, y) t c1)).1 8 (nI 0), (m_ins v (m_begins (f, w, y) v c0).2.1 (m_begins (f, w, y) t c1)).2.1, (m_ins v (m_begins (f, w, y) v c0).2.1 (m_begins (f, w, y) t c1)).2.2) : z_sg) = m_ins v (m_begins (f, w, y) v c0).2.1 (m_begins (upd f 8 (nI 0), w, y) t c1) := by
        rw [← mf8]
        rfl
      rw [e1, e2, mi_tw hv hb ht (fun z => htv z.symm)]
      clear e1 e2 eh np
      generalize m_tw (m_begins (upd f 8 (nI 0), w, y) t c1) bus t u m = q
      generalize (m_begins (f, w, y) v c0).2.1 = g
      obtain ⟨q1, q2⟩ := q
      unfold m_pas m_tkn
      simp only [cond_true]
end
