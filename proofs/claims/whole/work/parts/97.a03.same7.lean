/-! what a try does is the same, whatever is still wanted -/
def E7 (a b : z_sg) : Prop := (∀ j, j ≠ 7 → a.1 j = b.1 j) ∧ a.2 = b.2
def E7p (a b : z_sg × Int32) : Prop := E7 a.1 b.1 ∧ a.2 = b.2
section
variable {a b : z_sg}
theorem E7_mk {f g w y : Nat → Int32} (h : ∀ j, j ≠ 7 → f j = g j) : E7 (f, w, y) (g, w, y) := ⟨h, rfl⟩
theorem E7_u {f g : Nat → Int32} {k : Nat} {v v' : Int32} (h : ∀ j, j ≠ 7 → f j = g j) (hv : v = v') : ∀ j, j ≠ 7 → upd f k v j = upd g k v' j := fun j hj => by
  subst hv
  by_cases e : j = k
  · subst e; rw [pk_us, pk_us]
  · rw [pk_un e, pk_un e]; exact h j hj
theorem E7_u7 {f g : Nat → Int32} {v v' : Int32} (h : ∀ j, j ≠ 7 → f j = g j) : ∀ j, j ≠ 7 → upd f 7 v j = upd g 7 v' j := fun j hj => by
  rw [pk_un hj, pk_un hj]; exact h j hj
theorem E7_lays {bus many : Nat} {who : Int32} (h : E7 a b) : E7p (m_lays a bus who many) (m_lays b bus who many) := by
  obtain ⟨f, w, y⟩ := a
  obtain ⟨g, w', y'⟩ := b
  obtain ⟨h1, h2⟩ := h
  cases h2
  replace h1 : ∀ j, j ≠ 7 → f j = g j := h1
  exact ⟨⟨E7_u h1 (congrArg (· + _) (h1 4 (by omega))), rfl⟩, rfl⟩
theorem E7_quiet (h : E7 a b) : E7 (m_quiet a) (m_quiet b) := by
  obtain ⟨f, w, y⟩ := a
  obtain ⟨g, w', y'⟩ := b
  obtain ⟨h1, h2⟩ := h
  cases h2
  replace h1 : ∀ j, j ≠ 7 → f j = g j := h1
  exact ⟨E7_u h1 (congrArg (· + _) (h1 4 (by omega))), rfl⟩
theorem E7_answers {bus t many : Nat} (h : E7 a b) : E7p (m_answers a bus t many) (m_answers b bus t many) := by
  obtain ⟨f, w, y⟩ := a
  obtain ⟨g, w', y'⟩ := b
  obtain ⟨h1, h2⟩ := h
  cases h2
  replace h1 : ∀ j, j ≠ 7 → f j = g j := h1
  have q : E7p (m_lays (upd f 4 (f 4 + nI 8), w, y) bus (nI t) many) (m_lays (upd g 4 (g 4 + nI 8), w, y) bus (nI t) many) := E7_lays ⟨E7_u h1 (by rw [h1 4 (by omega)]), rfl⟩
  unfold m_answers
  simp only
  generalize m_lays (upd f 4 (f 4 + nI 8), w, y) bus (nI t) many = r at *
  generalize m_lays (upd g 4 (g 4 + nI 8), w, y) bus (nI t) many = r' at *
  obtain ⟨⟨rf, rw', ry⟩, rt⟩ := r
  obtain ⟨⟨rf', rw'', ry'⟩, rt'⟩ := r'
  obtain ⟨⟨q1, q2⟩, q3⟩ := q
  cases q2
  simp only at q3
  subst q3
  refine ⟨?_, rfl⟩
  by_cases c : rt = nI 0 ∧ w (48 + t) = nI 1
  · simp only [if_pos c]; exact ⟨E7_u7 q1, rfl⟩
  · simp only [if_neg c]; exact ⟨q1, rfl⟩
theorem E7_last {t : Nat} (h : E7 a b) : E7 (m_last a t) (m_last b t) := by
  obtain ⟨f, w, y⟩ := a
  obtain ⟨g, w', y'⟩ := b
  obtain ⟨h1, h2⟩ := h
  cases h2
  replace h1 : ∀ j, j ≠ 7 → f j = g j := h1
  refine ⟨h1, ?_⟩
  show (upd w (136 + t) (s_status f w t), y) = (upd w (136 + t) (s_status g w t), y)
  unfold s_status
  rw [h1 6 (by omega)]
theorem E7_begins {t : Nat} {c : Int32} (h : E7 a b) : E7 (m_begins a t c) (m_begins b t c) := by
  obtain ⟨f, w, y⟩ := a
  obtain ⟨g, w', y'⟩ := b
  obtain ⟨h1, h2⟩ := h
  cases h2
  replace h1 : ∀ j, j ≠ 7 → f j = g j := h1
  exact E7_last ⟨E7_u h1 rfl, rfl⟩
theorem E7_errs {t : Nat} (h : E7 a b) : E7 (m_errs a t) (m_errs b t) := by
  obtain ⟨f, w, y⟩ := a
  obtain ⟨g, w', y'⟩ := b
  obtain ⟨h1, h2⟩ := h
  cases h2
  replace h1 : ∀ j, j ≠ 7 → f j = g j := h1
  exact E7_last ⟨h1, rfl⟩
theorem E7_w (h : E7 a b) : a.2.1 = b.2.1 := by rw [h.2]
theorem E7_y (h : E7 a b) : a.2.2 = b.2.2 := by rw [h.2]
theorem E7_ite {c : Prop} [Decidable c] {a' b' : z_sg} (h : E7 a b) (h' : E7 a' b') : E7 (if c then a else a') (if c then b else b') := by
  by_cases z : c
  · rw [if_pos z, if_pos z]; exact h
  · rw [if_neg z, if_neg z]; exact h'
theorem E7_bif {c : Bool} {a' b' : z_sg} (h : E7 a b) (h' : E7 a' b') : E7 (bif c then a else a') (bif c then b else b') := by cases c <;> assumption
theorem E7p_ite {c : Prop} [Decidable c] {p q p' q' : z_sg × Int32} (h : E7p p q) (h' : E7p p' q') : E7p (if c then p else p') (if c then q else q') := by
  by_cases z : c
  · rw [if_pos z, if_pos z]; exact h
  · rw [if_neg z, if_neg z]; exact h'
theorem E7p_bif {c : Bool} {p q p' q' : z_sg × Int32} (h : E7p p q) (h' : E7p p' q') : E7p (bif c then p else p') (bif c then q else q') := by cases c <;> assumption
theorem E7_taken {t u : Nat} (h : E7 a b) : E7 (m_taken a t u).1 (m_taken b t u).1 ∧ (m_taken a t u).2 = (m_taken b t u).2 := by
  unfold m_taken
  rw [E7_w h]
  exact ⟨E7_bif h (E7_errs h), rfl⟩
theorem E7_sg {f g : Nat → Int32} {p q : (Nat → Int32) × (Nat → Int32)} (h1 : ∀ j, j ≠ 7 → f j = g j) (h2 : p = q) : E7 (f, p) (g, q) := ⟨h1, h2⟩
theorem E7_ends {bus t : Nat} (h : E7 a b) : E7p (m_ends a bus t) (m_ends b bus t) := by
  have l := E7_last (t := t) h
  unfold m_ends
  simp only
  generalize m_last a t = x at *
  generalize m_last b t = x' at *
  obtain ⟨f, w, y⟩ := x
  obtain ⟨g, w', y'⟩ := x'
  obtain ⟨h1, h2⟩ := l
  cases h2
  replace h1 : ∀ j, j ≠ 7 → f j = g j := h1
  have q : E7p (m_answers (f, w, upd y 0 (w (136 + t))) bus t 1) (m_answers (g, w, upd y 0 (w (136 + t))) bus t 1) := E7_answers ⟨h1, rfl⟩
  refine E7p_bif ⟨E7_quiet ⟨h1, rfl⟩, rfl⟩ ⟨q.1, ?_⟩
  simp only
  rw [q.2, E7_w q.1]
theorem E7_copy {x z n : Nat} (h : E7 a b) : E7 (m_copy a x z n) (m_copy b x z n) := by
  obtain ⟨f, w, y⟩ := a
  obtain ⟨g, w', y'⟩ := b
  obtain ⟨h1, h2⟩ := h
  cases h2
  replace h1 : ∀ j, j ≠ 7 → f j = g j := h1
  exact ⟨h1, rfl⟩
theorem E7_sends {bus t u n : Nat} (h : E7 a b) : E7p (m_sends a bus t u n) (m_sends b bus t u n) := by
  obtain ⟨f, w, y⟩ := a
  obtain ⟨g, w', y'⟩ := b
  obtain ⟨h1, h2⟩ := h
  cases h2
  replace h1 : ∀ j, j ≠ 7 → f j = g j := h1
  unfold m_sends
  simp only
  generalize s_cmd (nI t) (nI 0) (nI (u + 1)) (nI n) = c
  have q : E7p (m_lays (m_ready (f, w, upd y 0 c) u n) bus (w 3) (1 + n)) (m_lays (m_ready (g, w, upd y 0 c) u n) bus (w 3) (1 + n)) := E7_lays ⟨h1, rfl⟩
  generalize m_lays (m_ready (f, w, upd y 0 c) u n) bus (w 3) (1 + n) = r at *
  generalize m_lays (m_ready (g, w, upd y 0 c) u n) bus (w 3) (1 + n) = r' at *
  obtain ⟨r, rt⟩ := r
  obtain ⟨r', rt'⟩ := r'
  obtain ⟨q1, q2⟩ := q
  simp only at q1 q2 ⊢
  subst q2
  rw [E7_w q1]
  have b1 := E7_begins (t := t) (c := c) q1
  have t1 := E7_taken (t := t) (u := u) b1
  refine E7p_bif (E7p_ite ?_ ⟨E7_quiet (E7_errs b1), rfl⟩) ⟨E7_quiet q1, rfl⟩
  rw [t1.2]
  exact E7_ends (E7_bif (E7_copy t1.1) t1.1)
theorem E7_tw {bus t u n : Nat} (h : E7 a b) : E7p (m_tw a bus t u n) (m_tw b bus t u n) := by
  have t1 := E7_taken (t := t) (u := u) h
  unfold m_tw
  simp only
  generalize m_taken a t u = x at *
  generalize m_taken b t u = x' at *
  obtain ⟨x, c⟩ := x
  obtain ⟨x', c'⟩ := x'
  obtain ⟨t1, t2⟩ := t1
  simp only at t1 t2 ⊢
  subst t2
  have l := E7_last (t := t) t1
  generalize m_last x t = x at *
  generalize m_last x' t = x' at *
  obtain ⟨f, w, y⟩ := x
  obtain ⟨g, w', y'⟩ := x'
  obtain ⟨h1, h2⟩ := l
  cases h2
  replace h1 : ∀ j, j ≠ 7 → f j = g j := h1
  have q : E7p (m_answers (m_says (f, w, upd y 0 (w (136 + t))) (192 + 8 * (6 * t + u)) n) bus t (bif c then 1 + n else 1)) (m_answers (m_says (g, w, upd y 0 (w (136 + t))) (192 + 8 * (6 * t + u)) n) bus t (bif c then 1 + n else 1)) := E7_answers ⟨h1, rfl⟩
  refine E7p_bif ⟨E7_quiet ⟨h1, rfl⟩, rfl⟩ ⟨⟨?_, ?_⟩, ?_⟩
  · exact E7_u q.1.1 q.2
  · exact q.1.2
  · simp only
    rw [q.2, E7_w q.1]
theorem E7_smooths {c : Nat} (h : E7 a b) : E7 (m_smooths a c) (m_smooths b c) := by
  obtain ⟨f, w, y⟩ := a
  obtain ⟨g, w', y'⟩ := b
  obtain ⟨h1, h2⟩ := h
  cases h2
  replace h1 : ∀ j, j ≠ 7 → f j = g j := h1
  exact ⟨h1, rfl⟩
theorem E7_keep {c n : Nat} (h : E7 a b) : E7 (m_keep a c n) (m_keep b c n) := by
  have k := E7_copy (x := 192 + 8 * c) (z := 960 + 8 * c) (n := n) h
  unfold m_keep
  simp only
  rw [E7_w k]
  exact E7_ite (E7_smooths k) k
theorem E7_gets {bus t u n : Nat} (h : E7 a b) : E7p (m_gets a bus t u n) (m_gets b bus t u n) := by
  obtain ⟨f, w, y⟩ := a
  obtain ⟨g, w', y'⟩ := b
  obtain ⟨h1, h2⟩ := h
  cases h2
  replace h1 : ∀ j, j ≠ 7 → f j = g j := h1
  unfold m_gets
  simp only
  generalize s_cmd (nI t) (nI 1) (nI (u + 1)) (nI n) = c
  have q : E7p (m_lays (f, w, upd y 0 c) bus (w 3) 1) (m_lays (g, w, upd y 0 c) bus (w 3) 1) := E7_lays ⟨h1, rfl⟩
  generalize m_lays (f, w, upd y 0 c) bus (w 3) 1 = r at *
  generalize m_lays (g, w, upd y 0 c) bus (w 3) 1 = r' at *
  obtain ⟨r, rt⟩ := r
  obtain ⟨r', rt'⟩ := r'
  obtain ⟨q1, q2⟩ := q
  simp only at q1 q2 ⊢
  subst q2
  rw [E7_w q1]
  have b1 := E7_tw (bus := bus) (t := t) (u := u) (n := n) (E7_begins (t := t) (c := c) q1)
  refine E7p_bif ?_ ⟨E7_quiet q1, rfl⟩
  rw [b1.2]
  exact E7p_ite ⟨E7_keep b1.1, rfl⟩ b1
theorem E7_all1 {bus t u n : Nat} {tu : Int32} (h : E7 a b) : E7 (m_all1 a bus t u n tu) (m_all1 b bus t u n tu) := by
  have b1 := E7_begins (t := t) (c := s_cmdA u n) h
  unfold m_all1
  simp only
  rw [E7_w h, E7_w b1]
  refine E7_bif (E7_bif (E7_ite ?_ b1) (E7_errs b1)) h
  have k := E7_copy (x := 1344 + 8 * u) (z := 576 + 8 * (6 * t + u)) (n := n) b1
  unfold m_alls
  refine E7_last ⟨k.1, ?_⟩
  rw [k.2]
theorem E7_all {bus u n : Nat} {tu : Int32} (h : E7 a b) : ∀ k, E7 (m_all a bus u n tu k) (m_all b bus u n tu k)
  | 0 => h
  | k + 1 => E7_all1 (E7_all h k)
theorem E7_tellsAll {bus u n : Nat} (h : E7 a b) : E7p (m_tellsAll a bus u n) (m_tellsAll b bus u n) := by
  obtain ⟨f, w, y⟩ := a
  obtain ⟨g, w', y'⟩ := b
  obtain ⟨h1, h2⟩ := h
  cases h2
  replace h1 : ∀ j, j ≠ 7 → f j = g j := h1
  unfold m_tellsAll
  simp only
  generalize s_cmdA u n = c
  have q : E7p (m_lays (m_ready (f, w, upd y 0 c) u n) bus (w 3) (1 + n)) (m_lays (m_ready (g, w, upd y 0 c) u n) bus (w 3) (1 + n)) := E7_lays ⟨h1, rfl⟩
  refine ⟨?_, rfl⟩
  simp only
  rw [q.2]
  exact E7_all q.1 8
theorem E7_toFirst {bus : Nat} (h : E7 a b) : E7p (m_toFirst a bus) (m_toFirst b bus) := by
  obtain ⟨f, w, y⟩ := a
  obtain ⟨g, w', y'⟩ := b
  obtain ⟨h1, h2⟩ := h
  cases h2
  replace h1 : ∀ j, j ≠ 7 → f j = g j := h1
  unfold m_toFirst
  simp only
  generalize s_cmd (nI 8) (nI 1) (nI 0) (nI 0) = c
  have q : E7p (m_lays (f, w, upd y 0 c) bus (w 3) 1) (m_lays (g, w, upd y 0 c) bus (w 3) 1) := E7_lays ⟨h1, rfl⟩
  generalize m_lays (f, w, upd y 0 c) bus (w 3) 1 = r at *
  generalize m_lays (g, w, upd y 0 c) bus (w 3) 1 = r' at *
  obtain ⟨⟨rf, rw', ry⟩, rt⟩ := r
  obtain ⟨⟨rf', rw'', ry'⟩, rt'⟩ := r'
  obtain ⟨⟨q1, q2⟩, q3⟩ := q
  cases q2
  simp only at q1 q3 ⊢
  subst q3
  refine E7p_ite ⟨E7_quiet ⟨E7_u q1 rfl, rfl⟩, rfl⟩ ?_
  have z : E7p (m_lays (upd (upd (upd rf 6 (nI 0)) 6 (nI 1)) 4 (rf 4 + nI 8), rw', upd ry 0 (nI 16386)) bus (nI 8) 1) (m_lays (upd (upd (upd rf' 6 (nI 0)) 6 (nI 1)) 4 (rf' 4 + nI 8), rw', upd ry 0 (nI 16386)) bus (nI 8) 1) := E7_lays ⟨E7_u (E7_u (E7_u q1 rfl) rfl) (by rw [q1 4 (by omega)]), rfl⟩
  refine ⟨z.1, ?_⟩
  simp only
  rw [z.2]
theorem E7_mw {k : Nat} {v : Int32} (h : E7 a b) : E7 (m_w a k v) (m_w b k v) := by
  obtain ⟨f, w, y⟩ := a
  obtain ⟨g, w', y'⟩ := b
  obtain ⟨h1, h2⟩ := h
  cases h2
  replace h1 : ∀ j, j ≠ 7 → f j = g j := h1
  exact ⟨h1, rfl⟩
theorem E7_does {bus t : Nat} (h : E7 a b) : ∀ code, E7 (m_does a bus t code) (m_does b bus t code) := by
  intro code
  have e := E7_w h
  unfold m_does
  split <;> (try rw [e]) <;> first
    | exact h
    | exact E7_mw h
    | exact E7_mw (E7_mw (E7_mw h))
    | exact E7_errs h
    | exact ⟨E7_u h.1 rfl, by rw [e, E7_y h]⟩
    | exact ⟨E7_u h.1 rfl, by rw [E7_y h]⟩
theorem E7_came {t : Nat} (h : E7 a b) : E7 (m_came a t) (m_came b t) := by
  unfold m_came
  rw [E7_w h]
  exact E7_mw (E7_mw h)
theorem E7_tellsMode {bus t code : Nat} (h : E7 a b) : E7p (m_tellsMode a bus t code) (m_tellsMode b bus t code) := by
  obtain ⟨f, w, y⟩ := a
  obtain ⟨g, w', y'⟩ := b
  obtain ⟨h1, h2⟩ := h
  cases h2
  replace h1 : ∀ j, j ≠ 7 → f j = g j := h1
  unfold m_tellsMode
  simp only
  generalize (if nI code = nI 16 ∨ nI code = nI 18 ∨ nI code = nI 19 then 2 else 1) = many
  generalize s_mw w t code = x
  have q : E7p (m_answers (f, w, upd (upd y 0 (w (136 + t))) 1 x) bus t many) (m_answers (g, w, upd (upd y 0 (w (136 + t))) 1 x) bus t many) := E7_answers ⟨h1, rfl⟩
  generalize m_answers (f, w, upd (upd y 0 (w (136 + t))) 1 x) bus t many = r at *
  generalize m_answers (g, w, upd (upd y 0 (w (136 + t))) 1 x) bus t many = r' at *
  obtain ⟨⟨rf, rw', ry⟩, rt⟩ := r
  obtain ⟨⟨rf', rw'', ry'⟩, rt'⟩ := r'
  obtain ⟨⟨q1, q2⟩, q3⟩ := q
  cases q2
  simp only at q1 q3 ⊢
  subst q3
  have s2 : E7 ((bif s_apart code || decide (nI code = nI 16) then upd rf 7 (f 7) else rf, rw', ry) : z_sg) (bif s_apart code || decide (nI code = nI 16) then upd rf' 7 (g 7) else rf', rw', ry) := by
    refine ⟨?_, rfl⟩
    cases s_apart code || decide (nI code = nI 16)
    · exact q1
    · exact E7_u7 q1
  generalize ((bif s_apart code || decide (nI code = nI 16) then upd rf 7 (f 7) else rf, rw', ry) : z_sg) = x1 at *
  generalize ((bif s_apart code || decide (nI code = nI 16) then upd rf' 7 (g 7) else rf', rw', ry) : z_sg) = x2 at *
  have s3 : E7 (if nI code = nI 16 then m_came x1 t else x1) (if nI code = nI 16 then m_came x2 t else x2) := E7_ite (E7_came s2) s2
  refine E7p_bif ⟨E7_quiet ⟨h1, rfl⟩, rfl⟩ (E7p_ite ⟨s3, ?_⟩ ⟨s2, rfl⟩)
  simp only
  rw [E7_w s3]
theorem E7_modes {bus t code : Nat} (h : E7 a b) : E7p (m_modes a bus t code) (m_modes b bus t code) := by
  have h0 := E7_toFirst (bus := bus) h
  obtain ⟨f, w, y⟩ := a
  obtain ⟨g, w', y'⟩ := b
  obtain ⟨h1, h2⟩ := h
  cases h2
  replace h1 : ∀ j, j ≠ 7 → f j = g j := h1
  unfold m_modes
  refine E7p_ite h0 ?_
  simp only
  generalize s_cmd (nI t) (if nI code = nI 17 then nI 0 else nI 1) (nI 0) (nI code) = c
  generalize (if nI code = nI 17 then 2 else 1) = many
  have q : E7p (m_lays (f, w, upd (upd y 0 c) 1 (w 2 &&& nI 65535)) bus (w 3) many) (m_lays (g, w, upd (upd y 0 c) 1 (w 2 &&& nI 65535)) bus (w 3) many) := E7_lays ⟨h1, rfl⟩
  generalize m_lays (f, w, upd (upd y 0 c) 1 (w 2 &&& nI 65535)) bus (w 3) many = r at *
  generalize m_lays (g, w, upd (upd y 0 c) 1 (w 2 &&& nI 65535)) bus (w 3) many = r' at *
  obtain ⟨⟨rf, rw', ry⟩, rt⟩ := r
  obtain ⟨⟨rf', rw'', ry'⟩, rt'⟩ := r'
  obtain ⟨⟨q1, q2⟩, q3⟩ := q
  cases q2
  simp only at q1 q3 ⊢
  subst q3
  have x0 : E7 (upd rf 6 (nI 0), rw', ry) (upd rf' 6 (nI 0), rw', ry) := ⟨E7_u q1 rfl, rfl⟩
  have s1 : E7 (bif s_apart code then (upd rf 6 (nI 0), rw', ry) else m_begins (upd rf 6 (nI 0), rw', ry) t c) (bif s_apart code then (upd rf' 6 (nI 0), rw', ry) else m_begins (upd rf' 6 (nI 0), rw', ry) t c) := E7_bif x0 (E7_begins x0)
  generalize (bif s_apart code then (upd rf 6 (nI 0), rw', ry) else m_begins (upd rf 6 (nI 0), rw', ry) t c) = x1 at *
  generalize (bif s_apart code then (upd rf' 6 (nI 0), rw', ry) else m_begins (upd rf' 6 (nI 0), rw', ry) t c) = x2 at *
  refine E7p_bif (E7p_ite ?_ ⟨E7_quiet (E7_errs s1), rfl⟩) ⟨E7_quiet ⟨q1, rfl⟩, rfl⟩
  have s2 : E7 (bif s_apart code then m_does x1 bus t code else m_last (m_does x1 bus t code) t) (bif s_apart code then m_does x2 bus t code else m_last (m_does x2 bus t code) t) := E7_bif (E7_does s1 code) (E7_last (E7_does s1 code))
  generalize (bif s_apart code then m_does x1 bus t code else m_last (m_does x1 bus t code) t) = y1 at *
  generalize (bif s_apart code then m_does x2 bus t code else m_last (m_does x2 bus t code) t) = y2 at *
  have q := E7_tellsMode (bus := bus) (t := t) (code := code) s2
  have s3 : E7 (upd (m_tellsMode y1 bus t code).1.1 6 (y1.1 6), (m_tellsMode y1 bus t code).1.2.1, (m_tellsMode y1 bus t code).1.2.2) (upd (m_tellsMode y2 bus t code).1.1 6 (y2.1 6), (m_tellsMode y2 bus t code).1.2.1, (m_tellsMode y2 bus t code).1.2.2) := ⟨E7_u q.1.1 (s2.1 6 (by omega)), q.1.2⟩
  exact ⟨E7_ite (E7_mw s3) s3, q.2⟩
theorem E7_slot {bus : Nat} {x : Int32} (h : E7 a b) : E7 (m_slot a bus x) (m_slot b bus x) := by
  obtain ⟨f, w, y⟩ := a
  obtain ⟨g, w', y'⟩ := b
  obtain ⟨h1, h2⟩ := h
  cases h2
  replace h1 : ∀ j, j ≠ 7 → f j = g j := h1
  have e : f 4 = g 4 := h1 4 (by omega)
  refine ⟨E7_u h1 (by show f 4 + nI 4 = g 4 + nI 4; rw [e]), ?_⟩
  unfold m_slot m_trails
  simp only
  rw [e]
  rfl
theorem E7_tally {t : Nat} {x : Int32} (h : E7 a b) : E7 (m_tally a t x) (m_tally b t x) := by
  unfold m_tally
  rw [E7_w h]
  exact E7_mw h
theorem E7_tries {p q : z_sg × Int32} {bus t : Nat} (h : E7 a b) (h2 : E7p p q) : E7p (m_tries a p bus t) (m_tries b q bus t) := by
  unfold m_tries
  rw [h.1 4 (by omega), h2.2]
  exact ⟨E7_tally (E7_slot h2.1), rfl⟩
end
