/-! what a line that was read holds -/
def lw (fr : Nat → Int32) : Nat → Int32 := fun j => fr (j - 1584)
theorem pbind_ok {P : Po} {g : (Nat → Int32) → Nat → Po} {a : Nat → Int32} {b : Nat} (h : pbind P g = p_ok a b) : ∃ fr st, P = p_ok fr st ∧ g fr st = p_ok a b := by
  cases P with
  | inl x => cases h
  | inr x => exact ⟨x.1, x.2, rfl, h⟩
theorem p_inj {a b : Nat → Int32} {c e : Nat} (h : p_ok a c = p_ok b e) : a = b ∧ c = e := by
  have h' := Sum.inr.inj h
  exact ⟨congrArg Prod.fst h', congrArg Prod.snd h'⟩
theorem pnum_ok {t : Nat → Nat} {n m k lo hi st st' : Nat} {fr fr' : Nat → Int32} (h : pnum t n m k lo hi fr st = p_ok fr' st') : ∃ v, lo ≤ v ∧ v ≤ hi ∧ fr' = upd fr (14 * m + k) (nI v) ∧ st' = nx t n st ∧ tkM t n st = 2 ∧ v = tkV t n st := by
  unfold pnum at h
  by_cases a : tkM t n st = 2
  · rw [if_pos a] at h
    by_cases b : lo ≤ tkV t n st ∧ tkV t n st ≤ hi
    · rw [if_pos b] at h
      have := p_inj h
      exact ⟨tkV t n st, b.1, b.2, this.1.symm, this.2.symm, a, rfl⟩
    · rw [if_neg b] at h; cases h
  · rw [if_neg a] at h; cases h
theorem pneed_ok {t : Nat → Nat} {n q st st' : Nat} {fr fr' : Nat → Int32} (h : pneed t n q fr st = p_ok fr' st') : fr' = fr ∧ st' = nx t n st ∧ tkM t n st = q := by
  unfold pneed at h
  by_cases a : tkM t n st = q
  · rw [if_pos a] at h
    have := p_inj h
    exact ⟨this.1.symm, this.2.symm, a⟩
  · rw [if_neg a] at h; cases h
theorem fe {fr : Nat → Int32} {m a b : Nat} {v : Int32} : upd fr (14 * m + a) v (14 * m + b) = if b = a then v else fr (14 * m + b) := by
  by_cases h : b = a
  · subst h; rw [if_pos rfl, pk_us]
  · rw [if_neg h, pk_un (by omega)]
theorem fi {fr : Nat → Int32} {m b : Nat} (h : b < 14) : ini fr m 14 (14 * m + b) = if b = 13 then -1 else nI 0 := by
  unfold ini
  rw [if_pos (by omega)]
  by_cases z : b = 13
  · rw [if_pos z, if_pos (by omega)]
  · rw [if_neg z, if_neg (by omega)]
theorem fo {fr : Nat → Int32} {m a j : Nat} {v : Int32} (h : j < 14 * m) : upd fr (14 * m + a) v j = fr j := pk_un (by omega)
/-- the numbers of a line -/
def gl (k T S N U R P Q B A C : Nat) : Nat → Nat
  | 0 => k
  | 1 => T
  | 2 => S
  | 3 => N
  | 4 => U
  | 5 => R
  | 6 => P
  | 7 => Q
  | 8 => B
  | 9 => A
  | 10 => C
  | _ => 0
def lnG (fr : Nat → Int32) (m : Nat) (g : Nat → Nat) : Prop := (∀ f, f < 11 → fr (14 * m + f) = nI (g f) ∧ g f < 2 ^ 20) ∧ fr (14 * m + 11) = nI 0 ∧ fr (14 * m + 12) = nI 0 ∧ fr (14 * m + 13) = -1
theorem lw_at {fr : Nat → Int32} {m f : Nat} : lw fr (1584 + 14 * m + f) = fr (14 * m + f) := by
  have e : 1584 + 14 * m + f - 1584 = 14 * m + f := by omega
  exact congrArg fr e
theorem lnG_n {fr : Nat → Int32} {m f : Nat} {g : Nat → Nat} (h : lnG fr m g) (hf : f < 11) : lnn (lw fr) m f = g f := by
  obtain ⟨a, b⟩ := h.1 f hf
  unfold lnn
  rw [lw_at, a, nI_clamp (by omega)]
def gok (g : Nat → Nat) : Prop := g 0 ≤ 5 ∧ g 1 ≤ 8 ∧ (g 0 < 5 → g 1 < 8) ∧ g 2 ≤ 6 ∧ (g 0 ≤ 3 → 1 ≤ g 2) ∧ g 3 ≤ 8 ∧ (g 0 ≤ 3 → 1 ≤ g 3) ∧ g 4 < 8 ∧ g 5 ≤ 6 ∧ (g 0 = 2 → 1 ≤ g 5 ∧ g 4 ≠ g 1) ∧ (g 6 = 1 ∨ g 6 = 2 ∨ g 6 = 4 ∨ g 6 = 8) ∧ g 7 < g 6 ∧ g 8 < 2 ∧ g 9 < 2 ∧ g 10 < 32 ∧ (g 0 ≠ 4 → g 10 = 0) ∧ (4 ≤ g 0 → g 3 = 0)
theorem lnG_ok {fr : Nat → Int32} {m : Nat} {g : Nat → Nat} (h : lnG fr m g) (hg : gok g) : ln_ok (lw fr) m := by
  unfold ln_ok
  refine ⟨fun f hf => by rw [lw_at, lnG_n h hf]; exact (h.1 f hf).1, ?_⟩
  rw [lnG_n h (by omega), lnG_n h (by omega), lnG_n h (by omega), lnG_n h (by omega), lnG_n h (by omega), lnG_n h (by omega), lnG_n h (by omega), lnG_n h (by omega), lnG_n h (by omega), lnG_n h (by omega), lnG_n h (by omega)]
  exact hg
theorem lnG_of {fr : Nat → Int32} {m k T S N U R P Q B A C : Nat} (h : ∀ b, b < 14 → fr (14 * m + b) = if b = 13 then -1 else nI (gl k T S N U R P Q B A C b)) (hk : k ≤ 5) (hb : T ≤ 8 ∧ S ≤ 6 ∧ N ≤ 8 ∧ U ≤ 7 ∧ R ≤ 6 ∧ P ≤ 8 ∧ Q ≤ 8 ∧ B ≤ 1 ∧ A ≤ 1 ∧ C ≤ 31) : lnG fr m (gl k T S N U R P Q B A C) := by
  refine ⟨fun f hf => ⟨by rw [h f (by omega), if_neg (by omega)], ?_⟩, (h 11 (by omega)).trans (if_neg (by decide)), (h 12 (by omega)).trans (if_neg (by decide)), (h 13 (by omega)).trans (if_pos rfl)⟩
  have : f = 0 ∨ f = 1 ∨ f = 2 ∨ f = 3 ∨ f = 4 ∨ f = 5 ∨ f = 6 ∨ f = 7 ∨ f = 8 ∨ f = 9 ∨ f = 10 := by omega
  have hh : gl k T S N U R P Q B A C f ≤ 31 := by
    rcases this with rfl | rfl | rfl | rfl | rfl | rfl | rfl | rfl | rfl | rfl | rfl <;> (simp only [gl]; omega)
  exact Nat.lt_of_le_of_lt hh (by decide)
/-- what has been told of a line so far -/
def frG (fr fr0 : Nat → Int32) (m k T S N U R P Q B A C : Nat) : Prop := (∀ b, b < 14 → fr (14 * m + b) = if b = 13 then -1 else nI (gl k T S N U R P Q B A C b)) ∧ ∀ j, j < 14 * m → fr j = fr0 j
theorem b14 {p : Nat → Prop} (h0 : p 0) (h1 : p 1) (h2 : p 2) (h3 : p 3) (h4 : p 4) (h5 : p 5) (h6 : p 6) (h7 : p 7) (h8 : p 8) (h9 : p 9) (h10 : p 10) (h11 : p 11) (h12 : p 12) (h13 : p 13) : ∀ b, b < 14 → p b := by
  intro b hb
  have : b = 0 ∨ b = 1 ∨ b = 2 ∨ b = 3 ∨ b = 4 ∨ b = 5 ∨ b = 6 ∨ b = 7 ∨ b = 8 ∨ b = 9 ∨ b = 10 ∨ b = 11 ∨ b = 12 ∨ b = 13 := by omega
  rcases this with rfl | rfl | rfl | rfl | rfl | rfl | rfl | rfl | rfl | rfl | rfl | rfl | rfl | rfl <;> assumption
theorem frG_0 {fr : Nat → Int32} {m k : Nat} : frG (upd (ini fr m 14) (14 * m + 0) (nI k)) fr m k 0 0 0 0 0 0 0 0 0 0 := by
  refine ⟨fun b hb => ?_, fun j hj => ?_⟩
  · rw [fe]
    by_cases z : b = 0
    · subst z; rw [if_pos rfl, if_neg (by decide)]; rfl
    · rw [if_neg z, fi hb]
      by_cases y : b = 13
      · rw [if_pos y, if_pos y]
      · rw [if_neg y, if_neg y]
        have : gl k 0 0 0 0 0 0 0 0 0 0 b = 0 := by
          have : b = 1 ∨ b = 2 ∨ b = 3 ∨ b = 4 ∨ b = 5 ∨ b = 6 ∨ b = 7 ∨ b = 8 ∨ b = 9 ∨ b = 10 ∨ b = 11 ∨ b = 12 := by omega
          rcases this with rfl | rfl | rfl | rfl | rfl | rfl | rfl | rfl | rfl | rfl | rfl | rfl <;> rfl
        rw [this]
  · rw [fo hj]; unfold ini; rw [if_neg (by omega)]
theorem frG_u {fr fr0 : Nat → Int32} {m a v : Nat} {g g' : Nat → Nat} (h : (∀ b, b < 14 → fr (14 * m + b) = if b = 13 then -1 else nI (g b)) ∧ ∀ j, j < 14 * m → fr j = fr0 j) (ha : a < 13) (e : ∀ b, b < 13 → g' b = if b = a then v else g b) : (∀ b, b < 14 → upd fr (14 * m + a) (nI v) (14 * m + b) = if b = 13 then -1 else nI (g' b)) ∧ ∀ j, j < 14 * m → upd fr (14 * m + a) (nI v) j = fr0 j := by
  refine ⟨fun b hb => ?_, fun j hj => by rw [fo hj]; exact h.2 j hj⟩
  rw [fe]
  by_cases z : b = a
  · subst z; rw [if_pos rfl, if_neg (by omega), e b ha, if_pos rfl]
  · rw [if_neg z, h.1 b hb]
    by_cases y : b = 13
    · rw [if_pos y, if_pos y]
    · rw [if_neg y, if_neg y, e b (by omega), if_neg z]
theorem g13 {p : Nat → Prop} (h0 : p 0) (h1 : p 1) (h2 : p 2) (h3 : p 3) (h4 : p 4) (h5 : p 5) (h6 : p 6) (h7 : p 7) (h8 : p 8) (h9 : p 9) (h10 : p 10) (h11 : p 11) (h12 : p 12) : ∀ b, b < 13 → p b := by
  intro b hb
  have : b = 0 ∨ b = 1 ∨ b = 2 ∨ b = 3 ∨ b = 4 ∨ b = 5 ∨ b = 6 ∨ b = 7 ∨ b = 8 ∨ b = 9 ∨ b = 10 ∨ b = 11 ∨ b = 12 := by omega
  rcases this with rfl | rfl | rfl | rfl | rfl | rfl | rfl | rfl | rfl | rfl | rfl | rfl | rfl <;> assumption
section
variable {t : Nat → Nat} {n m k st st' T S N U R P Q B A C v : Nat} {fr fr0 fr' : Nat → Int32}
theorem frG_1 (h : frG fr fr0 m k T S N U R P Q B A C) : frG (upd fr (14 * m + 1) (nI v)) fr0 m k v S N U R P Q B A C := frG_u h (by decide) (g13 rfl rfl rfl rfl rfl rfl rfl rfl rfl rfl rfl rfl rfl)
theorem frG_2 (h : frG fr fr0 m k T S N U R P Q B A C) : frG (upd fr (14 * m + 2) (nI v)) fr0 m k T v N U R P Q B A C := frG_u h (by decide) (g13 rfl rfl rfl rfl rfl rfl rfl rfl rfl rfl rfl rfl rfl)
theorem frG_3 (h : frG fr fr0 m k T S N U R P Q B A C) : frG (upd fr (14 * m + 3) (nI v)) fr0 m k T S v U R P Q B A C := frG_u h (by decide) (g13 rfl rfl rfl rfl rfl rfl rfl rfl rfl rfl rfl rfl rfl)
theorem frG_4 (h : frG fr fr0 m k T S N U R P Q B A C) : frG (upd fr (14 * m + 4) (nI v)) fr0 m k T S N v R P Q B A C := frG_u h (by decide) (g13 rfl rfl rfl rfl rfl rfl rfl rfl rfl rfl rfl rfl rfl)
theorem frG_5 (h : frG fr fr0 m k T S N U R P Q B A C) : frG (upd fr (14 * m + 5) (nI v)) fr0 m k T S N U v P Q B A C := frG_u h (by decide) (g13 rfl rfl rfl rfl rfl rfl rfl rfl rfl rfl rfl rfl rfl)
theorem frG_6 (h : frG fr fr0 m k T S N U R P Q B A C) : frG (upd fr (14 * m + 6) (nI v)) fr0 m k T S N U R v Q B A C := frG_u h (by decide) (g13 rfl rfl rfl rfl rfl rfl rfl rfl rfl rfl rfl rfl rfl)
theorem frG_7 (h : frG fr fr0 m k T S N U R P Q B A C) : frG (upd fr (14 * m + 7) (nI v)) fr0 m k T S N U R P v B A C := frG_u h (by decide) (g13 rfl rfl rfl rfl rfl rfl rfl rfl rfl rfl rfl rfl rfl)
theorem frG_8 (h : frG fr fr0 m k T S N U R P Q B A C) : frG (upd fr (14 * m + 8) (nI v)) fr0 m k T S N U R P Q v A C := frG_u h (by decide) (g13 rfl rfl rfl rfl rfl rfl rfl rfl rfl rfl rfl rfl rfl)
theorem frG_9 (h : frG fr fr0 m k T S N U R P Q B A C) : frG (upd fr (14 * m + 9) (nI v)) fr0 m k T S N U R P Q B v C := frG_u h (by decide) (g13 rfl rfl rfl rfl rfl rfl rfl rfl rfl rfl rfl rfl rfl)
theorem frG_10 (h : frG fr fr0 m k T S N U R P Q B A C) : frG (upd fr (14 * m + 10) (nI v)) fr0 m k T S N U R P Q B A v := frG_u h (by decide) (g13 rfl rfl rfl rfl rfl rfl rfl rfl rfl rfl rfl rfl rfl)
/-- the numbers that a message may tell -/
def msgG (k T S N U R C : Nat) : Prop := (k < 5 → T < 8) ∧ T ≤ 8 ∧ S ≤ 6 ∧ (k ≤ 3 → 1 ≤ S) ∧ N ≤ 8 ∧ (k ≤ 3 → 1 ≤ N) ∧ U < 8 ∧ R ≤ 6 ∧ (k = 2 → 1 ≤ R ∧ U ≠ T) ∧ C < 32 ∧ (k ≠ 4 → C = 0) ∧ (4 ≤ k → N = 0)
theorem pmsg_ok (hk : k ≤ 5) (h : frG fr fr0 m k 0 0 0 0 0 0 0 0 0 0) (e : pmsg t n m k fr st = p_ok fr' st') : ∃ T S N U R C, frG fr' fr0 m k T S N U R 0 0 0 0 C ∧ msgG k T S N U R C := by
  unfold pmsg at e
  by_cases c1 : k ≤ 1
  · rw [if_pos c1] at e
    obtain ⟨f1, s1, e1, e⟩ := pbind_ok e
    obtain ⟨f2, s2, e2, e⟩ := pbind_ok e
    obtain ⟨a, a1, a2, rfl, -⟩ := pnum_ok e1
    obtain ⟨b, b1, b2, rfl, -⟩ := pnum_ok e2
    obtain ⟨c, c1', c2, rfl, -⟩ := pnum_ok e
    exact ⟨a, b, c, 0, 0, 0, frG_3 (frG_2 (frG_1 h)), by unfold msgG; omega⟩
  rw [if_neg c1] at e
  by_cases c2 : k = 2
  · rw [if_pos c2] at e
    obtain ⟨f1, s1, e1, e⟩ := pbind_ok e
    obtain ⟨f2, s2, e2, e⟩ := pbind_ok e
    obtain ⟨a, a1, a2, rfl, -⟩ := pnum_ok e1
    obtain ⟨b, b1, b2, rfl, -⟩ := pnum_ok e2
    have hG := frG_2 (v := b) (frG_1 (v := a) h)
    by_cases c : tkM t n s2 = 2 ∧ nI (tkV t n s2) = (upd (upd fr (14 * m + 1) (nI a)) (14 * m + 2) (nI b)) (14 * m + 1)
    · rw [if_pos c] at e; cases e
    · rw [if_neg c] at e
      obtain ⟨f3, s3, e3, e⟩ := pbind_ok e
      obtain ⟨f4, s4, e4, e⟩ := pbind_ok e
      obtain ⟨u, u1, u2, rfl, -, um, uv⟩ := pnum_ok e3
      obtain ⟨r, r1, r2, rfl, -⟩ := pnum_ok e4
      obtain ⟨q, q1, q2, rfl, -⟩ := pnum_ok e
      have hne : u ≠ a := fun z => c ⟨um, by rw [← uv, z, (hG.1 1 (by omega)), if_neg (by decide)]; rfl⟩
      exact ⟨a, b, q, u, r, 0, frG_3 (frG_5 (frG_4 hG)), by unfold msgG; omega⟩
  rw [if_neg c2] at e
  by_cases c3 : k = 3
  · rw [if_pos c3] at e
    obtain ⟨f1, s1, e1, e⟩ := pbind_ok e
    obtain ⟨a, a1, a2, rfl, -⟩ := pnum_ok e1
    obtain ⟨b, b1, b2, rfl, -⟩ := pnum_ok e
    exact ⟨0, a, b, 0, 0, 0, frG_3 (frG_2 h), by unfold msgG; omega⟩
  rw [if_neg c3] at e
  by_cases c4 : k = 4
  · rw [if_pos c4] at e
    obtain ⟨f1, s1, e1, e⟩ := pbind_ok e
    obtain ⟨a, a1, a2, rfl, -⟩ := pnum_ok e1
    obtain ⟨b, b1, b2, rfl, -⟩ := pnum_ok e
    exact ⟨a, 0, 0, 0, 0, b, frG_10 (frG_1 h), by unfold msgG; omega⟩
  rw [if_neg c4] at e
  obtain ⟨a, a1, a2, rfl, -⟩ := pnum_ok e
  exact ⟨a, 0, 0, 0, 0, 0, frG_1 h, by unfold msgG; omega⟩
theorem pwhen_ok (h : frG fr fr0 m k T S N U R 0 0 0 0 C) (e : pwhen t n m fr st = p_ok fr' st') : ∃ P Q A, frG fr' fr0 m k T S N U R P Q 0 A C ∧ (P = 1 ∨ P = 2 ∨ P = 4 ∨ P = 8) ∧ Q < P ∧ A ≤ 1 := by
  unfold pwhen at e
  obtain ⟨f1, s1, e1, eA⟩ := pbind_ok e
  clear e
  have ef := (pneed_ok e1).1
  subst ef
  by_cases c : tkM t n s1 = 2 ∧ pev (tkV t n s1) = false
  · rw [if_pos c] at eA; cases eA
  rw [if_neg c] at eA
  obtain ⟨f2, s2, e2, eB⟩ := pbind_ok eA
  clear eA
  obtain ⟨p, p1, p2, rfl, -, pm, pv⟩ := pnum_ok e2
  have hG := frG_6 (v := p) h
  have hp : p = 1 ∨ p = 2 ∨ p = 4 ∨ p = 8 := by
    have : ¬ pev p = false := fun z => c ⟨pm, by rw [← pv]; exact z⟩
    unfold pev at this
    simp only [Bool.or_eq_false_iff, decide_eq_false_iff_not] at this
    omega
  by_cases c2 : tkM t n s2 = 11
  · rw [if_pos c2] at eB
    obtain ⟨rfl, -⟩ := p_inj eB
    exact ⟨p, 0, 1, frG_9 hG, hp, by omega, by omega⟩
  rw [if_neg c2] at eB
  obtain ⟨f3, s3, e3, eC⟩ := pbind_ok eB
  clear eB
  have ef3 := (pneed_ok e3).1
  subst ef3
  have e6 : (upd f1 (14 * m + 6) (nI p)) (14 * m + 6) = nI p := pk_us
  rw [e6, nI_clamp (by omega)] at eC
  obtain ⟨q, q1, q2, rfl, -⟩ := pnum_ok eC
  exact ⟨p, q, 0, frG_7 hG, hp, by omega, by omega⟩
theorem pline_ok (hk : k ≤ 5) (e : pline t n m k fr st = p_ok fr' st') : ∃ g, lnG fr' m g ∧ gok g ∧ g 0 = k ∧ ∀ j, j < 14 * m → fr' j = fr j := by
  unfold pline at e
  obtain ⟨f1, s1, e1, e⟩ := pbind_ok e
  obtain ⟨f2, s2, e2, e⟩ := pbind_ok e
  obtain ⟨f3, s3, e3, e⟩ := pbind_ok e
  obtain ⟨f4, s4, e4, e⟩ := pbind_ok e
  obtain ⟨T, S, N, U, R, C, g1, m1⟩ := pmsg_ok hk frG_0 e1
  obtain ⟨P, Q, A, g2, hP, hQ, hA⟩ := pwhen_ok g1 e2
  obtain ⟨rfl, -⟩ := pneed_ok e3
  obtain ⟨b, b1, b2, rfl, -⟩ := pnum_ok e4
  obtain ⟨rfl, -⟩ := pneed_ok e
  have g3 := frG_8 (v := b) g2
  unfold msgG at m1
  refine ⟨gl k T S N U R P Q b A C, lnG_of g3.1 hk (by omega), ?_, rfl, g3.2⟩
  show k ≤ 5 ∧ T ≤ 8 ∧ (k < 5 → T < 8) ∧ S ≤ 6 ∧ (k ≤ 3 → 1 ≤ S) ∧ N ≤ 8 ∧ (k ≤ 3 → 1 ≤ N) ∧ U < 8 ∧ R ≤ 6 ∧ (k = 2 → 1 ≤ R ∧ U ≠ T) ∧ (P = 1 ∨ P = 2 ∨ P = 4 ∨ P = 8) ∧ Q < P ∧ b < 2 ∧ A < 2 ∧ C < 32 ∧ (k ≠ 4 → C = 0) ∧ (4 ≤ k → N = 0)
  exact ⟨hk, m1.2.1, m1.1, m1.2.2.1, m1.2.2.2.1, m1.2.2.2.2.1, m1.2.2.2.2.2.1, m1.2.2.2.2.2.2.1, m1.2.2.2.2.2.2.2.1, m1.2.2.2.2.2.2.2.2.1, hP, hQ, by omega, by omega, m1.2.2.2.2.2.2.2.2.2.1, m1.2.2.2.2.2.2.2.2.2.2.1, m1.2.2.2.2.2.2.2.2.2.2.2⟩
end
theorem pall_ok {t : Nat → Nat} {n : Nat} : ∀ (j m : Nat) (fr : Nat → Int32) (st : Nat) (fr' : Nat → Int32) (c : Nat), m + j = 24 → (∀ i, i < m → ∃ g, lnG fr i g ∧ gok g) → pall t n j m fr st = p_ok fr' c → c ≤ 24 ∧ ∀ i, i < c → ∃ g, lnG fr' i g ∧ gok g := by
  intro j
  induction j with
  | zero =>
    intro m fr st fr' c hm h e
    unfold pall at e
    by_cases a : tkM t n st = 0
    · rw [if_pos a] at e
      obtain ⟨rfl, rfl⟩ := p_inj e
      exact ⟨by omega, h⟩
    · rw [if_neg a] at e
      by_cases b : 3 ≤ tkM t n st ∧ tkM t n st ≤ 8
      · rw [if_pos b] at e; cases e
      · rw [if_neg b] at e; cases e
  | succ j ih =>
    intro m fr st fr' c hm h e
    unfold pall at e
    by_cases a : tkM t n st = 0
    · rw [if_pos a] at e
      obtain ⟨rfl, rfl⟩ := p_inj e
      exact ⟨by omega, h⟩
    · rw [if_neg a] at e
      by_cases b : 3 ≤ tkM t n st ∧ tkM t n st ≤ 8
      · rw [if_pos b] at e
        obtain ⟨f1, s1, e1, e⟩ := pbind_ok e
        obtain ⟨g, g1, g2, g3, g4⟩ := pline_ok (by omega) e1
        refine ih (m + 1) f1 s1 fr' c (by omega) (fun i hi => ?_) e
        by_cases z : i = m
        · subst z; exact ⟨g, g1, g2⟩
        · obtain ⟨g', h1, h2⟩ := h i (by omega)
          refine ⟨g', ⟨fun f hf => by rw [g4 _ (by omega)]; exact h1.1 f hf, ?_, ?_, ?_⟩, h2⟩
          · rw [g4 _ (by omega)]; exact h1.2.1
          · rw [g4 _ (by omega)]; exact h1.2.2.1
          · rw [g4 _ (by omega)]; exact h1.2.2.2
      · rw [if_neg b] at e; cases e
