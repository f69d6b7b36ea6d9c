/-! the class's world beside the model's row -/
def kW (w : Nat → Int32) : Prop := uW w ∧ (∀ j, 176 ≤ j → j < 192 → v01 (w j)) ∧ (∀ j, (104 ≤ j ∧ j < 112) ∨ (136 ≤ j ∧ j < 152) ∨ (192 ≤ j ∧ j < 1392) → b16 (w j)) ∧ (∃ c, c ≤ 8 ∧ w 3 = nI c) ∧ (∃ f, f ≤ 9999 ∧ w 2 = nI f)
def uRel (I : z_I) (F : z_F) (w : Nat → Int32) : Prop := uT (I 3) w ∧ (∀ j, j < 1200 → I 4 j = w (192 + j)) ∧ (∀ j, j < 48 → I 5 j = w (1440 + j) ∧ I 6 j = w (1488 + j) ∧ I 7 j = w (1392 + j) ∧ F 8 j = (w (1536 + j)).toUInt32) ∧ (∀ j, j < 45 → I 9 j = w (2260 + j))
/-- inside of a try: f0 is the model's time at its beginning -/
def xR (I : z_I) (F : z_F) (s : z_sg) (n k bus : Nat) (f0 : Int32) : Prop := uRel I F s.2.1 ∧ wR I s.2.1 n k ∧ (I 1 7 = s.2.1 2 ∧ I 1 8 = s.2.1 3) ∧ (I 29 4 = nI bus ∧ I 29 5 = z_bi (s_held s.2.1 bus) ∧ s.1 4 = f0 + I 29 6 ∧ I 29 7 = s.1 7) ∧ kW s.2.1 ∧ v01 (s.1 6)
theorem s_held_c {w w' : Nat → Int32} {bus : Nat} (h3 : w' 3 = w 3) (h : ∀ j, (31 ≤ j ∧ j < 40) ∨ (88 ≤ j ∧ j < 96) → w' j = w j) : s_held w' bus = s_held w bus := by
  unfold s_held
  have : ∀ l : List Nat, (∀ t ∈ l, t < 8) → l.any (s_held1 w' bus) = l.any (s_held1 w bus) := by
    intro l
    induction l with
    | nil => intro _; rfl
    | cons t l ih =>
      intro hl
      have ht := hl t List.mem_cons_self
      rw [List.any_cons, List.any_cons, ih (fun t h => hl t (List.mem_cons_of_mem _ h))]
      congr 1
      unfold s_held1
      rw [h3, h (88 + t) (by omega), h (31 + t) (by omega)]
  exact this _ (fun t h => List.mem_range.mp h)
theorem uT_of {r r' w w' : Nat → Int32} (h : uT r w) (hr : r' = r) (hw : ∀ j, 31 ≤ j → j < 176 → w' j = w j) : uT r' w' := by
  subst hr
  refine ⟨fun t ht k h1 h2 => ?_, fun t ht => ?_, h.2.2⟩
  · rw [hw _ (by omega) (by omega)]; exact h.1 t ht k h1 h2
  · rw [hw _ (by omega) (by omega)]; exact h.2.1 t ht
theorem uRel_of {I I' : z_I} {F : z_F} {w w' : Nat → Int32} (h : uRel I F w) (hI : ∀ b, 3 ≤ b → b ≤ 9 → I' b = I b) (hw : ∀ j, (31 ≤ j ∧ j < 176) ∨ (192 ≤ j ∧ j < 1584) ∨ (2260 ≤ j ∧ j < 2305) → w' j = w j) : uRel I' F w' := by
  obtain ⟨h1, h2, h3, h4⟩ := h
  refine ⟨uT_of h1 (hI 3 (by omega) (by omega)) (fun j a b => hw j (by omega)), fun j hj => ?_, fun j hj => ?_, fun j hj => ?_⟩
  · rw [hI 4 (by omega) (by omega), hw _ (by omega)]; exact h2 j hj
  · rw [hI 5 (by omega) (by omega), hI 6 (by omega) (by omega), hI 7 (by omega) (by omega), hw _ (by omega), hw _ (by omega), hw _ (by omega), hw _ (by omega)]; exact h3 j hj
  · rw [hI 9 (by omega) (by omega), hw _ (by omega)]; exact h4 j hj
theorem wR_of {I I' : z_I} {w w' : Nat → Int32} {n k : Nat} (h : wR I w n k) (hI : ∀ b, 10 ≤ b → b ≤ 17 → I' b = I b) (hw : ∀ j, j = 5 ∨ j = 10 ∨ (13 ≤ j ∧ j < 31) ∨ (2220 ≤ j ∧ j < 2260) ∨ (2305 ≤ j ∧ j < 2572) → w' j = w j) : wR I' w' n k := by
  obtain ⟨⟨a1, a2, a3, a4, a5⟩, b, c⟩ := h
  have i10 := hI 10 (by omega) (by omega)
  have i11 := hI 11 (by omega) (by omega)
  have i12 := hI 12 (by omega) (by omega)
  have i13 := hI 13 (by omega) (by omega)
  have i14 := hI 14 (by omega) (by omega)
  have i15 := hI 15 (by omega) (by omega)
  have i16 := hI 16 (by omega) (by omega)
  have i17 := hI 17 (by omega) (by omega)
  refine ⟨⟨fun b hb => ?_, fun b hb j hj => ?_, fun b hb => ?_, fun b hb => ?_, ?_⟩, ?_, ?_⟩
  · rw [i11, hw _ (by omega)]; exact a1 b hb
  · rw [i11, hw _ (by omega)]; exact a2 b hb j hj
  · rw [i12, i13, nsl_c (w := w) fun k hk => hw _ (by omega)]; exact a3 b hb
  · rw [hw _ (by omega)]; exact a4 b hb
  · obtain ⟨m0, m1, m3, m4, m5, m6⟩ := a5
    rw [i14, i15]
    refine ⟨m0, m1, m3, m4, by rw [hw _ (by omega)]; exact m5, fun r hr hr2 => ?_⟩
    rw [hw _ (by omega), hw _ (by omega), hw _ (by omega), hw _ (by omega)]
    exact m6 r hr hr2
  · rw [i10, hw _ (by omega)]; exact b
  · obtain ⟨m0, m1, m3, m4, m5, m6⟩ := c
    rw [i16, i17]
    refine ⟨m0, m1, m3, m4, by rw [hw _ (by omega)]; exact m5, fun r hr => ?_⟩
    rw [hw _ (by omega)]
    exact m6 r hr
theorem kW_of {w w' : Nat → Int32} (h : kW w) (hw : ∀ j, j = 2 ∨ j = 3 ∨ (31 ≤ j ∧ j < 1392) → w' j = w j) : kW w' := by
  obtain ⟨⟨u1, u2, u3⟩, h2, h3, h4, h5⟩ := h
  refine ⟨⟨fun t ht => by rw [hw _ (by omega)]; exact u1 t ht, fun j a b => by rw [hw _ (by omega)]; exact u2 j a b, fun j a b => by rw [hw _ (by omega)]; exact u3 j a b⟩, fun j a b => by rw [hw _ (by omega)]; exact h2 j a b, fun j a => by rw [hw _ (by omega)]; exact h3 j a, by rw [hw _ (by omega)]; exact h4, by rw [hw _ (by omega)]; exact h5⟩
theorem xR_of {I I' : z_I} {F : z_F} {s s' : z_sg} {n k n' k' bus : Nat} {f0 : Int32} (h : xR I F s n k bus f0) (hI : ∀ b, b < 10 → I' b = I b) (hw : ∀ j, j = 2 ∨ j = 3 ∨ (31 ≤ j ∧ j < 1584) ∨ (2260 ≤ j ∧ j < 2305) → s'.2.1 j = s.2.1 j) (hwR : wR I' s'.2.1 n' k') (h4 : I' 29 4 = I 29 4) (h5 : I' 29 5 = I 29 5) (h6 : s'.1 4 = f0 + I' 29 6) (h7 : I' 29 7 = s'.1 7) (hf : v01 (s'.1 6)) : xR I' F s' n' k' bus f0 := by
  obtain ⟨a, b, ⟨c1, c2⟩, ⟨d1, d2, d3, d4⟩, e, f⟩ := h
  refine ⟨uRel_of a (fun b h1 h2 => hI b (by omega)) (fun j hj => hw j (by omega)), hwR, ⟨?_, ?_⟩, ⟨by rw [h4]; exact d1, ?_, h6, h7⟩, kW_of e (fun j hj => hw j (by omega)), hf⟩
  · rw [hI 1 (by omega), hw 2 (by omega)]; exact c1
  · rw [hI 1 (by omega), hw 3 (by omega)]; exact c2
  · rw [h5, s_held_c (hw 3 (by omega)) (fun j hj => hw j (by omega))]; exact d2
/-! what a right command leaves, in both -/
def s_stat (w : Nat → Int32) (t : Nat) (e a k : Int32) : Int32 :=
  nI t <<< (nI 11 &&& nI 31) ||| e <<< (nI 10 &&& nI 31) ||| w (48 + t) <<< (nI 8 &&& nI 31) ||| a <<< (nI 4 &&& nI 31) ||| w (40 + t) <<< (nI 3 &&& nI 31) ||| w (56 + t) <<< (nI 2 &&& nI 31) ||| k <<< (nI 1 &&& nI 31) ||| (if w (120 + t) = nI 1 then nI 0 else w (64 + t))
def s_bt (e a k : Int32) : Int32 := e <<< (nI 10 &&& nI 31) ||| a <<< (nI 4 &&& nI 31) ||| k <<< (nI 1 &&& nI 31)
theorem z_sh8 {v : Int32} (h : v01 v) : (if v = nI 0 then nI 0 else nI 256) = v <<< (nI 8 &&& nI 31) := by rcases h with h | h <;> subst h <;> decide
theorem z_sh3 {v : Int32} (h : v01 v) : (if v = nI 0 then nI 0 else nI 8) = v <<< (nI 3 &&& nI 31) := by rcases h with h | h <;> subst h <;> decide
theorem z_sh2 {v : Int32} (h : v01 v) : (if v = nI 0 then nI 0 else nI 4) = v <<< (nI 2 &&& nI 31) := by rcases h with h | h <;> subst h <;> decide
theorem z_shm {v x : Int32} (h : v01 v) : (if v = nI 0 then x else nI 0) = if v = nI 1 then nI 0 else x := by
  rcases h with h | h <;> subst h
  · rw [if_pos rfl, if_neg (by decide)]
  · rw [if_neg (by decide), if_pos rfl]
theorem c_st_eq {r w : Nat → Int32} {t : Nat} {e a k : Int32} (ht : t < 8) (hu : uT r w) (ho : uW w) : c_st r t (s_bt e a k) = s_stat w t e a k := by
  have e1 : r (t * 18 + 1) = w (40 + t) := hu.1 t ht 1 (by decide) (by decide)
  have e2 : r (t * 18 + 2) = w (48 + t) := hu.1 t ht 2 (by decide) (by decide)
  have e3 : r (t * 18 + 3) = w (56 + t) := hu.1 t ht 3 (by decide) (by decide)
  have e4 : r (t * 18 + 4) = w (64 + t) := hu.1 t ht 4 (by decide) (by decide)
  have e11 : r (t * 18 + 11) = w (120 + t) := hu.1 t ht 11 (by decide) (by decide)
  unfold c_st s_stat s_bt
  rw [e1, e2, e3, e4, e11, z_sh8 (ho.2.1 _ (by omega) (by omega)), z_sh3 (ho.2.1 _ (by omega) (by omega)), z_sh2 (ho.2.1 _ (by omega) (by omega)), z_shm (ho.2.2 _ (by omega) (by omega))]
  ac_rfl
theorem stat_bits : ∀ (t : Fin 8) (e s a b y k f : Fin 2), (nI t.val <<< (nI 11 &&& nI 31) ||| nI e.val <<< (nI 10 &&& nI 31) ||| nI s.val <<< (nI 8 &&& nI 31) ||| nI a.val <<< (nI 4 &&& nI 31) ||| nI b.val <<< (nI 3 &&& nI 31) ||| nI y.val <<< (nI 2 &&& nI 31) ||| nI k.val <<< (nI 1 &&& nI 31) ||| nI f.val) = nI (2048 * t.val + 1024 * e.val + 256 * s.val + 16 * a.val + 8 * b.val + 4 * y.val + 2 * k.val + f.val) := by decide +kernel
theorem stat_b2 : ∀ (t : Fin 8) (e s a b y k f : Fin 2), ((nI (2048 * t.val + 1024 * e.val + 256 * s.val + 16 * a.val + 8 * b.val + 4 * y.val + 2 * k.val + f.val) &&& nI 1024 = nI 0) = (nI e.val = nI 0)) ∧ ((nI (2048 * t.val + 1024 * e.val + 256 * s.val + 16 * a.val + 8 * b.val + 4 * y.val + 2 * k.val + f.val) &&& nI 8 = nI 0) = (nI b.val = nI 0)) ∧ ((nI (2048 * t.val + 1024 * e.val + 256 * s.val + 16 * a.val + 8 * b.val + 4 * y.val + 2 * k.val + f.val) &&& nI 256 = nI 0) = (nI s.val = nI 0)) ∧ ((nI (2048 * t.val + 1024 * e.val + 256 * s.val + 16 * a.val + 8 * b.val + 4 * y.val + 2 * k.val + f.val) &&& nI 2 = nI 0) = (nI k.val = nI 0)) := by
  have h : ∀ (t : Fin 8) (e s a b y k f : Fin 2), ((nI (2048 * t.val + 1024 * e.val + 256 * s.val + 16 * a.val + 8 * b.val + 4 * y.val + 2 * k.val + f.val) &&& nI 1024 = nI 0) ↔ (nI e.val = nI 0)) ∧ ((nI (2048 * t.val + 1024 * e.val + 256 * s.val + 16 * a.val + 8 * b.val + 4 * y.val + 2 * k.val + f.val) &&& nI 8 = nI 0) ↔ (nI b.val = nI 0)) ∧ ((nI (2048 * t.val + 1024 * e.val + 256 * s.val + 16 * a.val + 8 * b.val + 4 * y.val + 2 * k.val + f.val) &&& nI 256 = nI 0) ↔ (nI s.val = nI 0)) ∧ ((nI (2048 * t.val + 1024 * e.val + 256 * s.val + 16 * a.val + 8 * b.val + 4 * y.val + 2 * k.val + f.val) &&& nI 2 = nI 0) ↔ (nI k.val = nI 0)) := by decide +kernel
  exact fun t e s a b y k f => ⟨propext (h t e s a b y k f).1, propext (h t e s a b y k f).2.1, propext (h t e s a b y k f).2.2.1, propext (h t e s a b y k f).2.2.2⟩
theorem v01_fin {v : Int32} (h : v01 v) : ∃ i : Fin 2, v = nI i.val := by
  rcases h with h | h
  · exact ⟨0, h⟩
  · exact ⟨1, h⟩
theorem s_stat_b {w : Nat → Int32} {t : Nat} {e a k : Int32} (ht : t < 8) (ho : uW w) (he : v01 e) (ha : v01 a) (hk : v01 k) : b16 (s_stat w t e a k) ∧ (s_stat w t e a k &&& nI 1024 = nI 0) = (e = nI 0) ∧ (s_stat w t e a k &&& nI 8 = nI 0) = (w (40 + t) = nI 0) ∧ (s_stat w t e a k &&& nI 256 = nI 0) = (w (48 + t) = nI 0) ∧ (s_stat w t e a k &&& nI 2 = nI 0) = (k = nI 0) := by
  have hf : v01 (if w (120 + t) = nI 1 then nI 0 else w (64 + t)) := by
    by_cases h : w (120 + t) = nI 1
    · rw [if_pos h]; exact Or.inl rfl
    · rw [if_neg h]; exact ho.2.1 _ (by omega) (by omega)
  obtain ⟨e, rfl⟩ := v01_fin he
  obtain ⟨a, rfl⟩ := v01_fin ha
  obtain ⟨k, rfl⟩ := v01_fin hk
  obtain ⟨f, hf⟩ := v01_fin hf
  obtain ⟨b, hb⟩ := v01_fin (ho.2.1 (40 + t) (by omega) (by omega))
  obtain ⟨s, hs⟩ := v01_fin (ho.2.1 (48 + t) (by omega) (by omega))
  obtain ⟨y, hy⟩ := v01_fin (ho.2.1 (56 + t) (by omega) (by omega))
  unfold s_stat
  rw [hf, hb, hs, hy]
  have q := stat_bits ⟨t, ht⟩ e s a b y k f
  simp only at q
  rw [q]
  have z := stat_b2 ⟨t, ht⟩ e s a b y k f
  refine ⟨⟨_, ?_, rfl⟩, z.1, z.2.1, z.2.2.1, z.2.2.2⟩
  have := e.isLt; have := a.isLt; have := k.isLt; have := f.isLt; have := b.isLt; have := s.isLt; have := y.isLt
  omega
/-- the model has begun with a command: e, a, k are its ERROR, ALL, TAKES -/
def stt (s s' : z_sg) (t : Nat) (c e a k : Int32) : Prop := (∀ j, j < 192 → j ≠ 128 + t → j ≠ 136 + t → j ≠ 144 + t → j ≠ 176 + t → j ≠ 184 + t → s'.2.1 j = s.2.1 j) ∧ s'.2.1 (128 + t) = (if e = nI 1 then s.2.1 (128 + t) + nI 1 else s.2.1 (128 + t)) ∧ s'.2.1 (136 + t) = s_stat s.2.1 t e a k ∧ s'.2.1 (144 + t) = c ∧ s'.2.1 (176 + t) = e ∧ s'.2.1 (184 + t) = a ∧ s'.1 6 = k ∧ (∀ j, j ≠ 6 → s'.1 j = s.1 j) ∧ s'.2.2 = s.2.2
theorem s_stat_c {f w w' : Nat → Int32} {t : Nat} {e a k : Int32} (h1 : w' (48 + t) = w (48 + t)) (h2 : w' (40 + t) = w (40 + t)) (h3 : w' (56 + t) = w (56 + t)) (h4 : w' (120 + t) = w (120 + t)) (h5 : w' (64 + t) = w (64 + t)) (he : w' (176 + t) = e) (ha : w' (184 + t) = a) (hk : f 6 = k) : s_status f w' t = s_stat w t e a k := by
  unfold s_status s_stat
  rw [h1, h2, h3, h4, h5, he, ha, hk]
theorem stt_last {s s' : z_sg} {t : Nat} {c e a k : Int32} (ht : t < 8) (h : stt s s' t c e a k) : stt s (m_last s' t) t c e a k := by
  obtain ⟨h1, h2, h3, h4, h5, h6, h7, h8, h9⟩ := h
  refine ⟨fun j a b c d e f => by rw [m_last_o c]; exact h1 j a b c d e f, by rw [m_last_o (by omega)]; exact h2, ?_, by rw [m_last_o (by omega)]; exact h4, by rw [m_last_o (by omega)]; exact h5, by rw [m_last_o (by omega)]; exact h6, h7, h8, h9⟩
  show upd _ _ _ _ = _
  rw [pk_us]
  exact s_stat_c (h1 _ (by omega) (by omega) (by omega) (by omega) (by omega) (by omega)) (h1 _ (by omega) (by omega) (by omega) (by omega) (by omega) (by omega)) (h1 _ (by omega) (by omega) (by omega) (by omega) (by omega) (by omega)) (h1 _ (by omega) (by omega) (by omega) (by omega) (by omega) (by omega)) (h1 _ (by omega) (by omega) (by omega) (by omega) (by omega) (by omega)) h5 h6 h7
theorem stt_begins {s : z_sg} {t : Nat} {c : Int32} (ht : t < 8) : stt s (m_begins s t c) t c (nI 0) (nI 0) (nI 0) := by
  refine ⟨fun j a b c d e f => by rw [m_begins_o c d e f], ?_, ?_, ?_, ?_, ?_, (show upd s.1 6 (nI 0) 6 = nI 0 from pk_us), fun j hj => (show upd s.1 6 (nI 0) j = s.1 j from pk_un hj), rfl⟩
  · rw [m_begins_o (by omega) (by omega) (by omega) (by omega), if_neg (by decide)]
  · show upd _ _ _ _ = _
    rw [pk_us]
    unfold s_begins
    refine s_stat_c ?_ ?_ ?_ ?_ ?_ ?_ ?_ (show upd s.1 6 (nI 0) 6 = nI 0 from pk_us) <;> simp (disch := omega) only [pk_un, pk_us]
  · show upd _ _ _ _ = _
    rw [pk_un (by omega)]; exact pk_us
  · show upd _ _ _ _ = _
    unfold s_begins
    simp (disch := omega) only [pk_un, pk_us]
  · show upd _ _ _ _ = _
    unfold s_begins
    simp (disch := omega) only [pk_un, pk_us]
theorem stt_errs {s s' : z_sg} {t : Nat} {c a k : Int32} (ht : t < 8) (h : stt s s' t c (nI 0) a k) : stt s (m_errs s' t) t c (nI 1) a k := by
  obtain ⟨h1, h2, h3, h4, h5, h6, h7, h8, h9⟩ := h
  have o : ∀ j, j < 192 → j ≠ 128 + t → j ≠ 136 + t → j ≠ 144 + t → j ≠ 176 + t → j ≠ 184 + t → s_errs s'.2.1 t j = s.2.1 j := fun j x b c d e f => by
    unfold s_errs; rw [pk_un b, pk_un e]; exact h1 j x b c d e f
  refine ⟨fun j a b c d e f => by rw [m_errs_o c b e]; exact h1 j a b c d e f, ?_, ?_, by rw [m_errs_o (by omega) (by omega) (by omega)]; exact h4, ?_, by rw [m_errs_o (by omega) (by omega) (by omega)]; exact h6, h7, h8, h9⟩
  · rw [if_neg (by decide)] at h2
    rw [if_pos rfl, ← h2]
    show upd (s_errs _ _) _ _ _ = _
    unfold s_errs
    simp (disch := omega) only [pk_un, pk_us]
  · show upd _ _ _ _ = _
    rw [pk_us]
    refine s_stat_c (o _ (by omega) (by omega) (by omega) (by omega) (by omega) (by omega)) (o _ (by omega) (by omega) (by omega) (by omega) (by omega) (by omega)) (o _ (by omega) (by omega) (by omega) (by omega) (by omega) (by omega)) (o _ (by omega) (by omega) (by omega) (by omega) (by omega) (by omega)) (o _ (by omega) (by omega) (by omega) (by omega) (by omega) (by omega)) ?_ ?_ h7
    · unfold s_errs; simp (disch := omega) only [pk_un, pk_us]
    · unfold s_errs; simp (disch := omega) only [pk_un, pk_us]; exact h6
  · show upd (s_errs _ _) _ _ _ = _
    unfold s_errs; simp (disch := omega) only [pk_un, pk_us]
theorem stt_alls {s s' : z_sg} {t : Nat} {c e a k : Int32} (ht : t < 8) (h : stt s s' t c e a k) : stt s (m_alls s' t) t c e (nI 1) k := by
  obtain ⟨h1, h2, h3, h4, h5, h6, h7, h8, h9⟩ := h
  have o : ∀ j, j ≠ 184 + t → upd s'.2.1 (184 + t) (nI 1) j = s'.2.1 j := fun j h => pk_un h
  refine ⟨fun j a b c d e f => ?_, ?_, ?_, ?_, ?_, ?_, h7, h8, h9⟩
  · show upd _ _ _ _ = _
    exact (pk_un c).trans ((o j f).trans (h1 j a b c d e f))
  · show upd _ _ _ _ = _
    exact (pk_un (by omega)).trans ((o _ (by omega)).trans h2)
  · show upd _ _ _ _ = _
    rw [pk_us]
    exact s_stat_c ((o _ (by omega)).trans (h1 _ (by omega) (by omega) (by omega) (by omega) (by omega) (by omega))) ((o _ (by omega)).trans (h1 _ (by omega) (by omega) (by omega) (by omega) (by omega) (by omega))) ((o _ (by omega)).trans (h1 _ (by omega) (by omega) (by omega) (by omega) (by omega) (by omega))) ((o _ (by omega)).trans (h1 _ (by omega) (by omega) (by omega) (by omega) (by omega) (by omega))) ((o _ (by omega)).trans (h1 _ (by omega) (by omega) (by omega) (by omega) (by omega) (by omega))) ((o _ (by omega)).trans h5) pk_us h7
  · show upd _ _ _ _ = _
    exact (pk_un (by omega)).trans ((o _ (by omega)).trans h4)
  · show upd _ _ _ _ = _
    exact (pk_un (by omega)).trans ((o _ (by omega)).trans h5)
  · show upd _ _ _ _ = _
    exact (pk_un (by omega)).trans pk_us
theorem stt_copy {s s' : z_sg} {t x y n : Nat} {c e a k : Int32} (h : stt s s' t c e a k) (ht : t < 8) (hy : 192 ≤ y) : stt s (m_copy s' x y n) t c e a k := by
  obtain ⟨h1, h2, h3, h4, h5, h6, h7, h8, h9⟩ := h
  exact ⟨fun j a b c d e f => by rw [m_copy_o (by omega)]; exact h1 j a b c d e f, by rw [m_copy_o (by omega)]; exact h2, by rw [m_copy_o (by omega)]; exact h3, by rw [m_copy_o (by omega)]; exact h4, by rw [m_copy_o (by omega)]; exact h5, by rw [m_copy_o (by omega)]; exact h6, h7, h8, h9⟩
theorem s_bt_e : ∀ (e a k : Fin 2), (s_bt (nI e.val) (nI a.val) (nI k.val) &&& nI 1024 = nI 0) ↔ ¬ nI e.val = nI 1 := by decide +kernel
theorem uT_stt {r : Nat → Int32} {s s' : z_sg} {t : Nat} {c e a k : Int32} (ht : t < 8) (hu : uT r s.2.1) (ho : uW s.2.1) (h : stt s s' t c e a k) (he : v01 e) (ha : v01 a) (hk : v01 k) : uT (c_settle r t c (s_bt e a k)) s'.2.1 := by
  have hc := c_st_eq (e := e) (a := a) (k := k) ht hu ho
  obtain ⟨e, rfl⟩ := v01_fin he
  obtain ⟨a, rfl⟩ := v01_fin ha
  obtain ⟨k, rfl⟩ := v01_fin hk
  have hb := s_bt_e e a k
  obtain ⟨h1, h2, h3, h4, h5, h6, h7, h8, h9⟩ := h
  unfold c_settle c_er
  rw [hc, ← h3]
  have h128 : r (t * 18 + 12) = s.2.1 (128 + t) := hu.1 t ht 12 (by decide) (by decide)
  have g : ∀ j, (if s_bt (nI e.val) (nI a.val) (nI k.val) &&& nI 1024 = nI 0 then r else upd r (t * 18 + 12) (r (t * 18 + 12) + nI 1)) j = if j = t * 18 + 12 then s'.2.1 (128 + t) else r j := by
    intro j
    rw [h2]
    by_cases z : nI e.val = nI 1
    · rw [if_neg (fun q => hb.mp q z), if_pos z]
      by_cases y : j = t * 18 + 12
      · subst y; rw [pk_us, if_pos rfl, h128]
      · rw [pk_un y, if_neg y]
    · rw [if_pos (hb.mpr z), if_neg z]
      by_cases y : j = t * 18 + 12
      · subst y; rw [if_pos rfl, h128]
      · rw [if_neg y]
  refine ⟨fun u hu2 q q1 q2 => ?_, fun u hu2 => ?_, fun q q1 q2 => ?_⟩
  · by_cases x14 : u * 18 + q = t * 18 + 14
    · rw [x14, pk_us]
      obtain ⟨rfl, rfl⟩ : u = t ∧ q = 14 := by omega
      exact h4.symm
    rw [pk_un x14]
    by_cases x13 : u * 18 + q = t * 18 + 13
    · rw [x13, pk_us]
      obtain ⟨rfl, rfl⟩ : u = t ∧ q = 13 := by omega
      rfl
    rw [pk_un x13, g]
    by_cases x12 : u * 18 + q = t * 18 + 12
    · rw [if_pos x12]
      obtain ⟨rfl, rfl⟩ : u = t ∧ q = 12 := by omega
      rfl
    rw [if_neg x12, h1 _ (by omega) (by omega) (by omega) (by omega) (by omega) (by omega)]
    exact hu.1 u hu2 q q1 q2
  · rw [pk_un (by omega), pk_un (by omega), g, if_neg (by omega), h1 _ (by omega) (by omega) (by omega) (by omega) (by omega) (by omega)]
    exact hu.2.1 u hu2
  · rw [pk_un (by omega), pk_un (by omega), g, if_neg (by omega)]
    exact hu.2.2 q q1 q2
theorem xR_stt {I I' : z_I} {F : z_F} {s s' : z_sg} {n k bus t : Nat} {f0 c e a x : Int32} (h : xR I F s n k bus f0) (ht : t < 8) (hs : stt s s' t c e a x) (hc : b16 c) (he : v01 e) (ha : v01 a) (hx : v01 x) (hI3 : I' 3 = c_settle (I 3) t c (s_bt e a x)) (hI : ∀ b, b ≠ 3 → b ≠ 4 → b ≠ 30 → I' b = I b) (h4 : ∀ j, j < 1200 → I' 4 j = s'.2.1 (192 + j)) (hb : ∀ j, 192 ≤ j → j < 1392 → b16 (s'.2.1 j)) (hw : ∀ j, 1392 ≤ j → s'.2.1 j = s.2.1 j) : xR I' F s' n k bus f0 := by
  obtain ⟨⟨u1, u2, u3, u4⟩, b, ⟨c1, c2⟩, ⟨d1, d2, d3, d4⟩, ⟨⟨v1, v2, v3⟩, k2, k3, k4, k5⟩, f⟩ := h
  have hst := s_stat_b (w := s.2.1) (e := e) (a := a) (k := x) ht ⟨v1, v2, v3⟩ he ha hx
  have hU := uT_stt ht u1 ⟨v1, v2, v3⟩ hs he ha hx
  obtain ⟨h1, h2, h3, h4', h5, h6, h7, h8, h9⟩ := hs
  have g : ∀ j, j < 128 → s'.2.1 j = s.2.1 j := fun j hj => h1 j (by omega) (by omega) (by omega) (by omega) (by omega) (by omega)
  refine ⟨⟨by rw [hI3]; exact hU, h4, fun j hj => ?_, fun j hj => ?_⟩, wR_of b (fun b h1 h2 => hI b (by omega) (by omega) (by omega)) (fun j hj => ?_), ⟨?_, ?_⟩, ⟨?_, ?_, ?_, ?_⟩, ⟨⟨fun t ht => ?_, fun j a b => ?_, fun j a b => ?_⟩, fun j a b => ?_, fun j hj => ?_, ?_, ?_⟩, by rw [h7]; exact hx⟩
  · rw [hI 5 (by omega) (by omega) (by omega), hI 6 (by omega) (by omega) (by omega), hI 7 (by omega) (by omega) (by omega), hw _ (by omega), hw _ (by omega), hw _ (by omega), hw _ (by omega)]; exact u3 j hj
  · rw [hI 9 (by omega) (by omega) (by omega), hw _ (by omega)]; exact u4 j hj
  · by_cases hj2 : j < 128
    · exact g j hj2
    · exact hw j (by omega)
  · rw [hI 1 (by omega) (by omega) (by omega), g 2 (by omega)]; exact c1
  · rw [hI 1 (by omega) (by omega) (by omega), g 3 (by omega)]; exact c2
  · rw [hI 29 (by omega) (by omega) (by omega)]; exact d1
  · rw [hI 29 (by omega) (by omega) (by omega), s_held_c (g 3 (by omega)) (fun j hj => g j (by omega))]; exact d2
  · rw [hI 29 (by omega) (by omega) (by omega), h8 4 (by omega)]; exact d3
  · rw [hI 29 (by omega) (by omega) (by omega), h8 7 (by omega)]; exact d4
  · rw [g _ (by omega)]; exact v1 t ht
  · rw [g _ (by omega)]; exact v2 j a b
  · rw [g _ (by omega)]; exact v3 j a b
  · by_cases q : j = 176 + t
    · subst q; rw [h5]; exact he
    by_cases q2 : j = 184 + t
    · subst q2; rw [h6]; exact ha
    rw [h1 j (by omega) (by omega) (by omega) (by omega) q q2]; exact k2 j (by omega) (by omega)
  · by_cases z : 192 ≤ j
    · exact hb j z (by omega)
    by_cases q : j = 136 + t
    · subst q; rw [h3]; exact hst.1
    by_cases q2 : j = 144 + t
    · subst q2; rw [h4']; exact hc
    rw [h1 j (by omega) (by omega) q q2 (by omega) (by omega)]; exact k3 j hj
  · rw [g 3 (by omega)]; exact k4
  · rw [g 2 (by omega)]; exact k5
