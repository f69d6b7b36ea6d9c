/-! what is laid: the class beside the model -/
def b16 (v : Int32) : Prop := ∃ b : Nat, b < 65536 ∧ v = nI b
def mR (f c w : Nat → Int32) (n : Nat) : Prop := f 0 = nI 64 ∧ f 1 = nI 4 ∧ f 3 = nI (n % 64) ∧ f 4 = nI n ∧ w 2315 = nI n ∧ ∀ r, r < 64 → r < n → b16 (c (r * 4 + 2)) ∧ c (r * 4) = w (2316 + 4 * r) ∧ c (r * 4 + 1) = w (2316 + 4 * r + 1) ∧ c (r * 4 + 2) = w (2316 + 4 * r + 2) ∧ v01 (c (r * 4 + 3)) ∧ w (2316 + 4 * r + 3) = if c (r * 4 + 3) = nI 0 then s_odd (c (r * 4 + 2)) else nI 1 - s_odd (c (r * 4 + 2))
def tR (f c w : Nat → Int32) (k : Nat) : Prop := f 0 = nI 40 ∧ f 1 = nI 1 ∧ f 3 = nI (k % 40) ∧ f 4 = nI k ∧ w 10 = nI k ∧ ∀ r, r < 40 → c r = w (2220 + r)
def wC (I : z_I) (w : Nat → Int32) (n : Nat) : Prop := (∀ b, b < 2 → I 11 (b * 6 + 0) = w (13 + b)) ∧ (∀ b, b < 2 → ∀ j, j < 5 → I 11 (b * 6 + (j + 1)) = w (2305 + 5 * b + j)) ∧ (∀ b, b < 2 → ∃ p, p ≤ 8 ∧ I 13 b = nI p ∧ (nsl w b).Perm (ncl (I 12) b p)) ∧ (∀ b, b < 2 → ∃ a, a ≤ n ∧ w (13 + b) = nI a) ∧ mR (I 14) (I 15) w n
/-- one word: what the model's row becomes -/
theorem s_lay1_w {w : Nat → Int32} {n bus : Nat} {who bits : Int32} {held : Bool} (h : bus < 2) : (s_lay1 w n bus who bits held).1 (13 + bus) = w (13 + bus) + nI 1 := by
  unfold s_lay1; simp only
  rw [pk_un (by omega), s_hears_lo (by omega), s_clr_13 h, pk_us]
theorem s_lay1_w2 {w : Nat → Int32} {n bus b : Nat} {who bits : Int32} {held : Bool} (h : bus < 2) (hb : b < 2) (hn : b ≠ bus) : (s_lay1 w n bus who bits held).1 (13 + b) = w (13 + b) := by
  unfold s_lay1; simp only
  rw [pk_un (by omega), s_hears_lo (by omega), s_clr_hi h (by omega) (by omega), pk_un (by omega)]
theorem s_lay1_h {w : Nat → Int32} {n bus : Nat} {who bits : Int32} {held : Bool} (h : bus < 2) : (s_lay1 w n bus who bits held).2 = (((List.range 8).any fun k => decide (w (15 + 8 * bus + k) = w (13 + bus) + nI 1)) || held) := by
  unfold s_lay1; simp only [s_hitk]
  congr 2
  funext k
  rw [pk_us]
  by_cases hk : 15 + 8 * bus + k = 13 + bus
  · omega
  · rw [pk_un hk]
theorem s_lay1_b {w : Nat → Int32} {n bus : Nat} {who bits : Int32} {held : Bool} (h : bus < 2) : (s_lay1 w n bus who bits held).1 (2305 + 5 * bus) = w (2305 + 5 * bus) + z_bi (s_lay1 w n bus who bits held).2 := by
  unfold s_lay1; simp only
  rw [pk_us, s_hears_lo (by omega), s_clr_hi h (by omega) (by omega), pk_un (by omega)]
theorem s_lay1_b2 {w : Nat → Int32} {n bus j : Nat} {who bits : Int32} {held : Bool} (h : bus < 2) (h1 : 2305 ≤ j) (h2 : j < 2315) (h3 : j ≠ 2305 + 5 * bus) : (s_lay1 w n bus who bits held).1 j = w j := by
  unfold s_lay1; simp only
  rw [pk_un h3, s_hears_lo (by omega), s_clr_hi h (by omega) (by omega), pk_un (by omega)]
theorem s_lay1_s {w : Nat → Int32} {n bus k : Nat} {who bits : Int32} {held : Bool} (h : bus < 2) (hk : k < 8) : (s_lay1 w n bus who bits held).1 (15 + 8 * bus + k) = if w (15 + 8 * bus + k) = w (13 + bus) + nI 1 then nI 0 else w (15 + 8 * bus + k) := by
  unfold s_lay1; simp only
  rw [pk_un (by omega), s_hears_lo (by omega)]
  unfold s_clr
  rw [pk_us, pk_un (by omega)]
  by_cases h2 : w (15 + 8 * bus + k) = w (13 + bus) + nI 1
  · rw [if_pos ⟨by omega, by omega, h2⟩, if_pos h2]
  · rw [if_neg (fun z => h2 z.2.2), if_neg h2]
theorem s_lay1_s2 {w : Nat → Int32} {n bus b k : Nat} {who bits : Int32} {held : Bool} (h : bus < 2) (hb : b < 2) (hn : b ≠ bus) (hk : k < 8) : (s_lay1 w n bus who bits held).1 (15 + 8 * b + k) = w (15 + 8 * b + k) := by
  unfold s_lay1; simp only
  rw [pk_un (by omega), s_hears_lo (by omega)]
  unfold s_clr
  rw [if_neg (by omega), pk_un (by omega)]
theorem s_lay1_m {w : Nat → Int32} {n bus j : Nat} {who bits : Int32} {held : Bool} (h : bus < 2) (hj : 2316 ≤ j) : (s_lay1 w n bus who bits held).1 j = s_hears w n (nI bus) who bits (z_bi (s_lay1 w n bus who bits held).2) j := by
  unfold s_lay1; simp only
  rw [pk_un (by omega)]
  generalize z_bi _ = q
  unfold s_hears s_hears0
  have : n % 64 < 64 := Nat.mod_lt _ (by decide)
  by_cases h0 : j = 2315
  · omega
  rw [pk_un h0, pk_un h0]
  by_cases h1 : j = 2316 + 4 * (n % 64) + 3
  · subst h1; rw [pk_us, pk_us]
  rw [pk_un h1, pk_un h1]
  by_cases h2 : j = 2316 + 4 * (n % 64) + 2
  · subst h2; rw [pk_us, pk_us]
  rw [pk_un h2, pk_un h2]
  by_cases h3 : j = 2316 + 4 * (n % 64) + 1
  · subst h3; rw [pk_us, pk_us]
  rw [pk_un h3, pk_un h3]
  by_cases h4 : j = 2316 + 4 * (n % 64)
  · subst h4; rw [pk_us, pk_us]
  rw [pk_un h4, pk_un h4, s_clr_hi h (by omega) (by omega), pk_un (by omega)]
theorem nsl_c {w w' : Nat → Int32} {b : Nat} (h : ∀ k, k < 8 → w' (15 + 8 * b + k) = w (15 + 8 * b + k)) : nsl w' b = nsl w b := by
  unfold nsl
  congr 1
  exact List.map_congr_left fun k hk => h k (List.mem_range.mp hk)
theorem s_lay1_nsl {w : Nat → Int32} {n bus : Nat} {who bits : Int32} {held : Bool} (h : bus < 2) : nsl (s_lay1 w n bus who bits held).1 bus = (nsl w bus).filter (z_ne (w (13 + bus) + nI 1)) := by
  unfold nsl
  rw [← nsl_f (f := fun k => w (15 + 8 * bus + k)) (g := fun k => if w (15 + 8 * bus + k) = w (13 + bus) + nI 1 then nI 0 else w (15 + 8 * bus + k)) (fun k => rfl)]
  congr 1
  exact List.map_congr_left fun k hk => s_lay1_s h (List.mem_range.mp hk)
theorem z_pos_nI {a : Nat} (h : a < 2 ^ 30) : z_pos (nI (a + 1)) = true := decide_eq_true (nI_lt (a := 0) (by omega) (by omega))
theorem s_lay1_any {w : Nat → Int32} {n bus a p : Nat} {who bits : Int32} {held : Bool} {r : Nat → Int32} (h : bus < 2) (ha : a < 2 ^ 30) (hw : w (13 + bus) = nI a) (hp : (nsl w bus).Perm (ncl r bus p)) : (s_lay1 w n bus who bits held).2 = ((ncl r bus p).any (z_is (nI (a + 1))) || held) := by
  rw [s_lay1_h h, hw, nI_add]
  congr 1
  have e := nsl_a (f := fun k => w (15 + 8 * bus + k)) (x := nI (a + 1)) (z_pos_nI ha) (List.range 8)
  rw [← e]
  exact hp.any_eq
theorem mR_step {f c w : Nat → Int32} {n bus : Nat} {who bits : Int32} {held : Bool} (h : bus < 2) (hm : mR f c w n) (hb : b16 bits) : mR (upd (upd f 3 (nI ((n + 1) % 64))) 4 (nI (n + 1))) (upd (upd (upd (upd c (n % 64 * 4) (nI bus)) (n % 64 * 4 + 1) who) (n % 64 * 4 + 2) bits) (n % 64 * 4 + 3) (z_bi (s_lay1 w n bus who bits held).2)) (s_lay1 w n bus who bits held).1 (n + 1) := by
  obtain ⟨m0, m1, m3, m4, m5, m6⟩ := hm
  refine ⟨by rw [pk_un (by omega), pk_un (by omega)]; exact m0, by rw [pk_un (by omega), pk_un (by omega)]; exact m1, by rw [pk_un (by omega), pk_us], pk_us, s_lay1_n h, ?_⟩
  intro r hr hr2
  rw [s_lay1_m h (by omega), s_lay1_m h (by omega), s_lay1_m h (by omega), s_lay1_m h (by omega)]
  generalize (s_lay1 w n bus who bits held).2 = q
  unfold s_hears s_hears0
  have hn : n % 64 < 64 := Nat.mod_lt _ (by decide)
  by_cases e : r = n % 64
  · subst e
    simp (disch := omega) only [pk_un, pk_us, Nat.mul_comm 4]
    exact ⟨hb, trivial, trivial, trivial, z_bi_01 q, trivial⟩
  · simp (disch := omega) only [pk_un]
    exact m6 r hr (by
      rcases Nat.lt_or_ge r n with z | z
      · exact z
      · exfalso; apply e; omega)
theorem wC_step {I I' : z_I} {w : Nat → Int32} {n bus a p p' : Nat} {who bits : Int32} {held : Bool} (h : bus < 2) (hn : n < 2 ^ 30) (hC : wC I w n) (hb : b16 bits) (ha : a ≤ n) (hw : w (13 + bus) = nI a) (hp : (nsl w bus).Perm (ncl (I 12) bus p)) (hp' : p' ≤ 8)
    (h11 : I' 11 = bif (s_lay1 w n bus who bits held).2 then upd (upd (I 11) (bus * 6 + 0) (nI (a + 1))) (bus * 6 + 1) (I 11 (bus * 6 + 1) + nI 1) else upd (I 11) (bus * 6 + 0) (nI (a + 1)))
    (h12 : ncl (I' 12) bus p' = (ncl (I 12) bus p).filter (z_ne (nI (a + 1)))) (h12' : ∀ j, j < bus * 8 ∨ bus * 8 + 8 ≤ j → I' 12 j = I 12 j) (h13 : I' 13 = upd (I 13) bus (nI p'))
    (h14 : I' 14 = upd (upd (I 14) 3 (nI ((n + 1) % 64))) 4 (nI (n + 1)))
    (h15 : I' 15 = upd (upd (upd (upd (I 15) (n % 64 * 4) (nI bus)) (n % 64 * 4 + 1) who) (n % 64 * 4 + 2) bits) (n % 64 * 4 + 3) (z_bi (s_lay1 w n bus who bits held).2)) :
    wC I' (s_lay1 w n bus who bits held).1 (n + 1) := by
  obtain ⟨c1, c2, c3, c4, c5⟩ := hC
  refine ⟨?_, ?_, ?_, ?_, ?_⟩
  · intro b hb2
    rw [h11]
    by_cases e : b = bus
    · subst e
      rw [s_lay1_w h, hw, nI_add]
      cases (s_lay1 w n b who bits held).2
      · exact pk_us
      · show upd (upd _ _ _) _ _ _ = _
        rw [pk_un (by omega), pk_us]
    · rw [s_lay1_w2 h hb2 e, ← c1 b hb2]
      cases (s_lay1 w n bus who bits held).2
      · exact pk_un (by omega)
      · show upd (upd _ _ _) _ _ _ = _
        rw [pk_un (by omega), pk_un (by omega)]
  · intro b hb2 j hj
    rw [h11]
    by_cases e : b = bus ∧ j = 0
    · obtain ⟨rfl, rfl⟩ := e
      show _ = (s_lay1 w n b who bits held).1 (2305 + 5 * b)
      rw [s_lay1_b h]
      have : I 11 (b * 6 + 1) = w (2305 + 5 * b) := c2 b h 0 (by omega)
      cases (s_lay1 w n b who bits held).2
      · show upd _ _ _ _ = _ + nI 0
        rw [pk_un (by omega), this]
        exact (Int32.add_zero _).symm
      · show upd (upd _ _ _) _ _ _ = _ + nI 1
        rw [pk_us, ← this]
    · rw [s_lay1_b2 h (by omega) (by omega) (by omega), ← c2 b hb2 j hj]
      cases (s_lay1 w n bus who bits held).2
      · exact pk_un (by omega)
      · show upd (upd _ _ _) _ _ _ = _
        rw [pk_un (by omega), pk_un (by omega)]
  · intro b hb2
    by_cases e : b = bus
    · subst e
      refine ⟨p', hp', by rw [h13]; exact pk_us, ?_⟩
      rw [h12, s_lay1_nsl h, hw, nI_add]
      exact hp.filter _
    · obtain ⟨q, q1, q2, q3⟩ := c3 b hb2
      refine ⟨q, q1, by rw [h13, pk_un e]; exact q2, ?_⟩
      rw [nsl_c fun k hk => s_lay1_s2 h hb2 e hk, ncl_c (r := I 12) fun k hk => h12' _ (by omega)]
      exact q3
  · intro b hb2
    by_cases e : b = bus
    · subst e
      exact ⟨a + 1, by omega, by rw [s_lay1_w h, hw, nI_add]⟩
    · obtain ⟨q, q1, q2⟩ := c4 b hb2
      exact ⟨q, by omega, by rw [s_lay1_w2 h hb2 e]; exact q2⟩
  · rw [h14, h15]
    exact mR_step h c5 hb
