/-! what a text says: lines -/
abbrev Po : Type := (Nat × Nat) ⊕ ((Nat → Int32) × Nat)
abbrev p_bad (c p : Nat) : Po := .inl (c, p)
abbrev p_ok (fr : Nat → Int32) (st : Nat) : Po := .inr (fr, st)
def pbind (P : Po) (g : (Nat → Int32) → Nat → Po) : Po := match P with
  | .inl x => .inl x
  | .inr x => g x.1 x.2
def okQ (P : Po) (A : (Nat → Int32) → Nat → Prop) (B : Nat → Nat → Prop) : Prop := match P with
  | .inl x => B x.1 x.2
  | .inr x => A x.1 x.2
theorem okQ_b {P : Po} {g : (Nat → Int32) → Nat → Po} {A : (Nat → Int32) → Nat → Prop} {B : Nat → Nat → Prop} (h : okQ (pbind P g) A B) : okQ P (fun fr st => okQ (g fr st) A B) B := by
  cases P <;> exact h
theorem okQ_m {P : Po} {A A' : (Nat → Int32) → Nat → Prop} {B B' : Nat → Nat → Prop} (h : okQ P A B) (ha : ∀ fr st, A fr st → A' fr st) (hb : ∀ c p, B c p → B' c p) : okQ P A' B' := by
  cases P
  · exact hb _ _ h
  · exact ha _ _ h
def nx (t : Nat → Nat) (n st : Nat) : Nat := tkS t n (tkE t n st)
def pnum (t : Nat → Nat) (n m k lo hi : Nat) (fr : Nat → Int32) (st : Nat) : Po := if tkM t n st = 2 then (if lo ≤ tkV t n st ∧ tkV t n st ≤ hi then p_ok (upd fr (14 * m + k) (nI (tkV t n st))) (nx t n st) else p_bad 2 st) else p_bad 1 st
def pneed (t : Nat → Nat) (n q : Nat) (fr : Nat → Int32) (st : Nat) : Po := if tkM t n st = q then p_ok fr (nx t n st) else p_bad 1 st
def pmsg (t : Nat → Nat) (n m k : Nat) (fr : Nat → Int32) (st : Nat) : Po :=
  if k ≤ 1 then (pbind (pnum t n m 1 0 7 fr st) fun fr st => pbind (pnum t n m 2 1 6 fr st) fun fr st => pnum t n m 3 1 8 fr st)
  else if k = 2 then (pbind (pnum t n m 1 0 7 fr st) fun fr st => pbind (pnum t n m 2 1 6 fr st) fun fr st =>
    if tkM t n st = 2 ∧ nI (tkV t n st) = fr (14 * m + 1) then p_bad 2 st else pbind (pnum t n m 4 0 7 fr st) fun fr st => pbind (pnum t n m 5 1 6 fr st) fun fr st => pnum t n m 3 1 8 fr st)
  else if k = 3 then (pbind (pnum t n m 2 1 6 fr st) fun fr st => pnum t n m 3 1 8 fr st)
  else if k = 4 then (pbind (pnum t n m 1 0 7 fr st) fun fr st => pnum t n m 10 1 31 fr st)
  else pnum t n m 1 0 8 fr st
def pev (v : Nat) : Bool := decide (v = 1) || decide (v = 2) || decide (v = 4) || decide (v = 8)
def pwhen (t : Nat → Nat) (n m : Nat) (fr : Nat → Int32) (st : Nat) : Po := pbind (pneed t n 9 fr st) fun fr st =>
  if tkM t n st = 2 ∧ pev (tkV t n st) = false then p_bad 2 st else pbind (pnum t n m 6 1 8 fr st) fun fr st =>
    if tkM t n st = 11 then p_ok (upd fr (14 * m + 9) (nI 1)) (nx t n st) else pbind (pneed t n 10 fr st) fun fr st => pnum t n m 7 0 ((fr (14 * m + 6)).toNatClampNeg - 1) fr st
/-- the model's state among tokens -/
def lvM (t : Nat → Nat) (n : Nat) (f f0 : Nat → Int32) (m st : Nat) : Prop := st ≤ n ∧ f 14 = nI n ∧ f 15 = nI (tkE t n st) ∧ f 17 = nI st ∧ f 16 = nI (tkM t n st) ∧ (tkM t n st = 2 → f 18 = nI (tkV t n st)) ∧ f 19 = nI m ∧ ∀ j, j < 14 ∨ 22 < j ∨ j = 20 → f j = f0 j
def ddM (f f0 : Nat → Int32) (c p : Nat) : Prop := f 21 = nI c ∧ f 22 = nI p ∧ ∀ j, j < 14 ∨ 22 < j ∨ j = 20 → f j = f0 j
theorem numv_9 {t : Nat → Nat} {st : Nat} : ∀ k, (∀ i, i < k → t (st + i) < 256) → numv t st k < 2 ^ 30
  | 0, _ => by unfold numv; decide
  | k + 1, h => by
    have b : ∀ k, k ≤ 4 → (∀ i, i < k → t (st + i) < 256) → numv t st k + 30 ≤ 300 * (10 ^ k) := by
      intro k
      induction k with
      | zero => intro _ _; unfold numv; omega
      | succ k ih =>
        intro h4 h'
        have x := ih (by omega) fun i hi => h' i (by omega)
        have y := h' k (by omega)
        show (if k < 4 then _ else _) + 30 ≤ _
        rw [if_pos (by omega), Nat.pow_succ]
        have z : 1 ≤ 10 ^ k := Nat.one_le_pow _ _ (by decide)
        generalize numv t st k = a at *
        generalize (10 : Nat) ^ k = e at *
        omega
    show (if k < 4 then _ else _) < _
    by_cases z : k < 4
    · have := b (k + 1) (by omega) h
      have e : numv t st (k + 1) = if k < 4 then 10 * numv t st k + (t (st + k) - 48) else 0 := rfl
      rw [← e]
      have h4 : 10 ^ (k + 1) ≤ 10 ^ 4 := Nat.pow_le_pow_right (by decide) (by omega)
      have h5 : (10 : Nat) ^ 4 = 10000 := rfl
      omega
    · rw [if_neg z]; decide
theorem tkV_lt {t : Nat → Nat} {n st : Nat} {I : z_I} (hT : mT I t n) (h : st ≤ n) : tkV t n st < 2 ^ 30 := by
  unfold tkV
  have b := tkE_b (t := t) h
  exact numv_9 _ fun i hi => (hT (st + i) (by omega)).2
section
variable {L : Nat} {xs : Nat → Int32} {d : Nat} {kp sp wd : Value} {I : z_I} {s : z_sg} {R : z_R} {J : z_J} {F : z_F} {cn : Nat} {Q : z_Q} {n k m st : Nat} {t : Nat → Nat} {f f0 w y fr : Nat → Int32}
theorem mT_46 (hT : mT I t n) : mT (z_row I 46 fr) t n := fun k hk => by rw [z_row_n _ _ (by decide)]; exact hT k hk
theorem sp_next (hT : mT I t n) (hn : n ≤ 500) (h : lvM t n f f0 m st) (hQ : ∀ f', lvM t n f' f0 m (nx t n st) → Q none (z_ms (z_row I 46 fr) (f', w, y)) (z_R0 kp sp wd) J F cn) :
    z_M (z_X0 L xs) z_P0 (d + 7) m_Mod_goesOn [.ref 40] (z_ms (z_row I 46 fr) (f, w, y)) (z_R0 kp sp wd) J F cn Q := by
  obtain ⟨h0, h14, h15, h17, h16, h18, h19, hk⟩ := h
  have b := tkE_b (t := t) h0
  have c := tkS_b (t := t) (n := n) (p := tkE t n st) (by omega)
  refine sp_goesOn (s := (f, w, y)) (mT_46 hT) hn h14 h15 (by omega) (fun f' hf a1 a2 a3 a4 => hQ f' ?_)
  exact ⟨c.2, (hf 14 (by omega)).trans h14, a1, a2, a3, a4, (hf 19 (by omega)).trans h19, fun j hj => (hf j (by omega)).trans (hk j hj)⟩
theorem sp_bad {c : Nat} (h : lvM t n f f0 m st) (hQ : ∀ f', ddM f' f0 c st → Q (some (.int 0)) (z_ms (z_row I 46 fr) (f', w, y)) (z_R0 kp sp wd) J F cn) :
    z_M (z_X0 L xs) z_P0 d m_Mod_bad [.ref 40, .int (nI c)] (z_ms (z_row I 46 fr) (f, w, y)) (z_R0 kp sp wd) J F cn Q := by
  obtain ⟨h0, h14, h15, h17, h16, h18, h19, hk⟩ := h
  have q := hQ (upd (upd f 21 (nI c)) 22 (nI st)) ⟨by rw [pk_un (by omega), pk_us], pk_us, fun j hj => by rw [pk_un (by omega), pk_un (by omega)]; exact hk j hj⟩
  refine z_WP_gos [] 1000 fun K C hK hC => ?_
  conv => whnf
  simp (disch := omega) only [z_lit, nI_add, pk_mul, z_pr1, z_pr2, nI_clamp, z_m3_40, z_m3_41, z_m3_44, z_m3_u40, z_m3_u41, z_m3_u44, z_m3_m3, pk_us, pk_un]
  rw [h17]
  exact ⟨Or.inl trivial, q⟩
theorem sp_need {q : Nat} (hT : mT I t n) (hn : n ≤ 500) (hq : q < 100) (h : lvM t n f f0 m st) (hQ : okQ (pneed t n q fr st) (fun fr' st' => ∀ f', lvM t n f' f0 m st' → Q (some (.int 1)) (z_ms (z_row I 46 fr') (f', w, y)) (z_R0 kp sp wd) J F cn) (fun c p => ∀ f' fr', ddM f' f0 c p → Q (some (.int 0)) (z_ms (z_row I 46 fr') (f', w, y)) (z_R0 kp sp wd) J F cn)) :
    z_M (z_X0 L xs) z_P0 (d + 8) m_Mod_need [.ref 40, .int (nI q)] (z_ms (z_row I 46 fr) (f, w, y)) (z_R0 kp sp wd) J F cn Q := by
  have h16 := h.2.2.2.2.1
  have hl := tkM_le (t := t) (n := n) (st := st)
  unfold pneed at hQ
  refine z_WP_gos [] 1000 fun K C hK hC => ?_
  conv => whnf
  simp (disch := omega) only [z_lit, nI_add, pk_mul, z_pr1, z_pr2, nI_clamp, z_m3_40, z_m3_41, z_m3_44, z_m3_u40, z_m3_u41, z_m3_u44, z_m3_m3, pk_us, pk_un]
  rw [h16]
  refine ⟨fun g => ?_, fun g => ?_⟩
  · have g' : tkM t n st = q := nI_inj9 (by omega) (by omega) g
    rw [if_pos g'] at hQ
    conv => whnf
    refine hC _ _ _ _ _ _ _ _ _ _ (fun _ _ _ _ _ _ q => q) (sp_next hT hn h (fun f' l' => ?_))
    conv => whnf
    exact ⟨Or.inr rfl, hQ f' l'⟩
  · have g' : ¬ tkM t n st = q := fun z => g (by rw [z])
    rw [if_neg g'] at hQ
    conv => whnf
    refine hC _ _ _ _ _ _ _ _ _ _ (fun _ _ _ _ _ _ q => q) (sp_bad (c := 1) h (fun f' d' => ?_))
    conv => whnf
    exact ⟨Or.inl rfl, hQ f' fr d'⟩
theorem z_ms_u46 {i : Nat} {v : Int32} {s : z_sg} : z_up (z_ms (z_row I 46 fr) s) 46 i v = z_ms (z_row I 46 (upd fr i v)) s := by
  rw [z_up_row]
  funext b
  by_cases h : b = 46
  · subst h; rw [z_row_s]; show upd (z_row I 46 fr 46) i v = z_row I 46 (upd fr i v) 46; rw [z_row_s, z_row_s]
  · rw [z_row_n _ _ h]
    unfold z_ms z_m3
    by_cases h0 : b = 40
    · subst h0; rfl
    · by_cases h1 : b = 41
      · subst h1; rfl
      · by_cases h2 : b = 44
        · subst h2; rfl
        · simp only [z_row, h, h0, h1, h2, if_false]
theorem sp_number {lo hi : Nat} (hT : mT I t n) (hn : n ≤ 500) (hm : m < 24) (hk : k < 14) (hhi : hi < 2 ^ 30) (hlo : lo < 2 ^ 30) (h : lvM t n f f0 m st) (hQ : okQ (pnum t n m k lo hi fr st) (fun fr' st' => ∀ f', lvM t n f' f0 m st' → Q (some (.int 1)) (z_ms (z_row I 46 fr') (f', w, y)) (z_R0 kp sp wd) J F cn) (fun c p => ∀ f' fr', ddM f' f0 c p → Q (some (.int 0)) (z_ms (z_row I 46 fr') (f', w, y)) (z_R0 kp sp wd) J F cn)) :
    z_M (z_X0 L xs) z_P0 (d + 8) m_Mod_number [.ref 40, .int (nI k), .int (nI lo), .int (nI hi)] (z_ms (z_row I 46 fr) (f, w, y)) (z_R0 kp sp wd) J F cn Q := by
  have h16 := h.2.2.2.2.1
  have h19 := h.2.2.2.2.2.2.1
  have hl := tkM_le (t := t) (n := n) (st := st)
  have hv := tkV_lt hT h.1
  unfold pnum at hQ
  refine z_WP_gos [] 1000 fun K C hK hC => ?_
  conv => whnf
  simp (disch := omega) only [z_lit, nI_add, pk_mul, z_pr1, z_pr2, nI_clamp, z_m3_40, z_m3_41, z_m3_44, z_m3_u40, z_m3_u41, z_m3_u44, z_m3_m3, pk_us, pk_un]
  rw [h16]
  refine ⟨fun g => ?_, fun g => ?_⟩
  · have g' : tkM t n st = 2 := nI_inj9 (b := 2) (by omega) (by omega) g
    have h18 := h.2.2.2.2.2.1 g'
    rw [if_pos g'] at hQ
    conv => whnf
    simp (disch := omega) only [z_lit, nI_add, pk_mul, z_pr1, z_pr2, nI_clamp, z_m3_40, z_m3_41, z_m3_44, z_m3_u40, z_m3_u41, z_m3_u44, z_m3_m3, pk_us, pk_un]
    rw [h18]
    refine hC _ _ _ _ _ _ _ _ _ _ (fun _ _ _ _ _ _ q => q) (sp_Mod_isIn (fun x1 x2 => ?_) (fun x => ?_))
    conv => whnf
    · have x1' : lo ≤ tkV t n st := (nI_leI (by omega) (by omega)).mp x1
      have x2' : tkV t n st ≤ hi := (nI_leI (by omega) (by omega)).mp x2
      rw [if_pos ⟨x1', x2'⟩] at hQ
      refine ⟨fun _ => ?_, fun z => absurd z (by decide)⟩
      conv => whnf
      simp (disch := omega) only [z_lit, nI_add, pk_mul, z_pr1, z_pr2, nI_clamp, z_m3_40, z_m3_41, z_m3_44, z_m3_u40, z_m3_u41, z_m3_u44, z_m3_m3, pk_us, pk_un]
      rw [h19, h18]
      repeat ((first | refine And.intro (by (conv => arg 2; whnf); (try simp only [z_lit, nI_add, pk_mul, z_pr1, z_pr2]); exact z_in (by omega) (by decide)) ?_ | refine z_bt1 (by decide) ?_ | refine z_bf1 (by decide) ?_ | refine z_bt2 (by decide) ?_ | refine z_bf2 (by decide) ?_); conv => whnf)
      rw [z_ms_u46]
      simp (disch := omega) only [z_lit, nI_add, pk_mul, z_pr1, z_pr2, nI_clamp, z_m3_40, z_m3_41, z_m3_44, z_m3_u40, z_m3_u41, z_m3_u44, z_m3_m3, pk_us, pk_un]
      refine hC _ _ _ _ _ _ _ _ _ _ (fun _ _ _ _ _ _ q => q) (sp_next hT hn h (fun f' l' => ?_))
      conv => whnf
      exact ⟨Or.inr rfl, hQ f' l'⟩
    · have x' : ¬ (lo ≤ tkV t n st ∧ tkV t n st ≤ hi) := fun z => x ⟨nI_le z.1 (by omega), nI_le z.2 (by omega)⟩
      rw [if_neg x'] at hQ
      refine ⟨fun z => absurd rfl z, fun _ => ?_⟩
      conv => whnf
      refine hC _ _ _ _ _ _ _ _ _ _ (fun _ _ _ _ _ _ q => q) (sp_bad (c := 2) h (fun f' d' => ?_))
      conv => whnf
      exact ⟨Or.inl rfl, hQ f' fr d'⟩
  · have g' : ¬ tkM t n st = 2 := fun z => g (by rw [z])
    rw [if_neg g'] at hQ
    conv => whnf
    refine hC _ _ _ _ _ _ _ _ _ _ (fun _ _ _ _ _ _ q => q) (sp_bad (c := 1) h (fun f' d' => ?_))
    conv => whnf
    exact ⟨Or.inl rfl, hQ f' fr d'⟩
end
