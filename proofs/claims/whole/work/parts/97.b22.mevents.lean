/-! events as a text: the model -/
def evW (q : Nat) : Nat := if q = 8 then 1 else if q = 0 then 8 else 7
def evL (q : Nat) : Nat := if q = 8 then 1 else 0
def evM (q : Nat) : Nat := if q = 8 then 999 else if q = 6 ∨ q = 7 then 3 else 1
def pevt (t : Nat → Nat) (n m q : Nat) (g : Nat → Int32) (st : Nat) : Po := pbind (pnum t n m 2 0 (evW q) (upd g (14 * m + 1) (nI q)) st) fun g st => pbind (pnum t n m 3 (evL q) (evM q) g st) fun g st => pneed t n 13 g st
def pevl (t : Nat → Nat) (n m : Nat) (g : Nat → Int32) (st : Nat) : Po := pbind (pneed t n 10 g st) fun g st => pbind (pnum t n m 0 0 9999 g st) fun g st => if 14 ≤ tkM t n st then pevt t n m (tkM t n st - 14) g (nx t n st) else p_bad 1 st
def peall (t : Nat → Nat) (n : Nat) : Nat → Nat → (Nat → Int32) → Nat → Po
  | 0, m, g, st => if tkM t n st = 0 then p_ok g m else if tkM t n st = 10 then p_bad 3 st else p_bad 1 st
  | j + 1, m, g, st => if tkM t n st = 0 then p_ok g m else if tkM t n st = 10 then pbind (pevl t n m g st) (fun g st => peall t n j (m + 1) g st) else p_bad 1 st
section
variable {L : Nat} {xs : Nat → Int32} {d : Nat} {kp sp wd : Value} {I : z_I} {s : z_sg} {R : z_R} {J : z_J} {F : z_F} {cn : Nat} {Q : z_Q} {n k m st : Nat} {t : Nat → Nat} {f f0 w y fr : Nat → Int32}
theorem sp_eventOf (hT : mT I t n) (hn : n ≤ 500) (hm : m < 24) (h : lvM t n f f0 m st) (hQ : okQ (pevl t n m fr st) (fun fr' st' => ∀ f', lvM t n f' f0 m st' → Q (some (.int 1)) (z_ms (z_row I 46 fr') (f', w, y)) (z_R0 kp sp wd) J F cn) (fun c p => ∀ f' fr', ddM f' f0 c p → Q (some (.int 0)) (z_ms (z_row I 46 fr') (f', w, y)) (z_R0 kp sp wd) J F cn)) :
    z_M (z_X0 L xs) z_P0 (d + 9) m_Mod_eventOf [.ref 40] (z_ms (z_row I 46 fr) (f, w, y)) (z_R0 kp sp wd) J F cn Q := by
  unfold pevl at hQ
  refine z_WP_gos [] 1000 fun K C hK hC => ?_
  conv => whnf
  refine hC _ _ _ _ _ _ _ _ _ _ (fun _ _ _ _ _ _ q => q) (sp_need (q := 10) hT hn (by decide) h (okQ_m (okQ_b hQ) (fun fr2 st2 hQ f2 h => ?_) (fun c p hQ f2 fr2 h => ?_)))
  conv => whnf
  rotate_left
  · repeat ((first | refine And.intro (by (conv => arg 2; whnf); (try simp only [z_lit, nI_add, pk_mul, z_pr1, z_pr2]); exact z_in (by omega) (by decide)) ?_ | refine z_bt1 (by decide) ?_ | refine z_bf1 (by decide) ?_ | refine z_bt2 (by decide) ?_ | refine z_bf2 (by decide) ?_); conv => whnf)
    exact ⟨Or.inl rfl, hQ f2 fr2 h⟩
  repeat ((first | refine And.intro (by (conv => arg 2; whnf); (try simp only [z_lit, nI_add, pk_mul, z_pr1, z_pr2]); exact z_in (by omega) (by decide)) ?_ | refine z_bt1 (by decide) ?_ | refine z_bf1 (by decide) ?_ | refine z_bt2 (by decide) ?_ | refine z_bf2 (by decide) ?_); conv => whnf)
  refine hC _ _ _ _ _ _ _ _ _ _ (fun _ _ _ _ _ _ q => q) (sp_number (k := 0) (lo := 0) (hi := 9999) hT hn hm (by omega) (by decide) (by decide) h (okQ_m (okQ_b hQ) (fun fr3 st3 hQ f3 h => ?_) (fun c p hQ f3 fr3 h => ?_)))
  conv => whnf
  rotate_left
  · repeat ((first | refine And.intro (by (conv => arg 2; whnf); (try simp only [z_lit, nI_add, pk_mul, z_pr1, z_pr2]); exact z_in (by omega) (by decide)) ?_ | refine z_bt1 (by decide) ?_ | refine z_bf1 (by decide) ?_ | refine z_bt2 (by decide) ?_ | refine z_bf2 (by decide) ?_); conv => whnf)
    exact ⟨Or.inl rfl, hQ f3 fr3 h⟩
  have h16 := h.2.2.2.2.1
  have h19 := h.2.2.2.2.2.2.1
  have hl := tkM_le (t := t) (n := n) (st := st3)
  refine ⟨fun _ => ?_, fun z => absurd z (by decide)⟩
  conv => whnf
  simp (disch := omega) only [z_lit, nI_add, pk_mul, z_pr1, z_pr2, nI_clamp, z_m3_40, z_m3_41, z_m3_44, z_m3_u40, z_m3_u41, z_m3_u44, z_m3_m3, pk_us, pk_un]
  rw [h16]
  refine hC _ _ _ _ _ _ _ _ _ _ (fun _ _ _ _ _ _ q => q) (sp_Mod_isIn (fun x1 x2 => ?_) (fun x => ?_))
  conv => whnf
  rotate_left
  · have x' : ¬ 14 ≤ tkM t n st3 := fun z => x ⟨nI_le (a := 14) z (by omega), nI_le (b := 22) hl (by decide)⟩
    rw [if_neg x'] at hQ
    refine ⟨fun z => absurd rfl z, fun _ => ?_⟩
    conv => whnf
    refine hC _ _ _ _ _ _ _ _ _ _ (fun _ _ _ _ _ _ q => q) (sp_bad (c := 1) h (fun f' d' => ?_))
    conv => whnf
    exact ⟨Or.inl rfl, hQ f' fr3 d'⟩
  have x' : 14 ≤ tkM t n st3 := (nI_leI (a := 14) (by omega) (by omega)).mp x1
  rw [if_pos x'] at hQ
  obtain ⟨q, hq⟩ : ∃ q, tkM t n st3 = 14 + q := ⟨tkM t n st3 - 14, by omega⟩
  have e1 : nI (14 + q) - nI 14 = nI q := by rw [pk_sub (by omega), Nat.add_sub_cancel_left]
  rw [show tkM t n st3 - 14 = q by omega] at hQ
  refine ⟨fun _ => ?_, fun z => absurd z (by decide)⟩
  conv => whnf
  simp (disch := omega) only [z_lit, nI_add, pk_mul, z_pr1, z_pr2, nI_clamp, z_m3_40, z_m3_41, z_m3_44, z_m3_u40, z_m3_u41, z_m3_u44, z_m3_m3, pk_us, pk_un]
  rw [h16, h19, hq, e1]
  repeat ((first | refine And.intro (by (conv => arg 2; whnf); (try simp only [z_lit, nI_add, pk_mul, z_pr1, z_pr2]); exact z_in (by omega) (by decide)) ?_ | refine z_bt1 (by decide) ?_ | refine z_bf1 (by decide) ?_ | refine z_bt2 (by decide) ?_ | refine z_bf2 (by decide) ?_); conv => whnf)
  rw [z_ms_u46]
  simp (disch := omega) only [z_lit, nI_add, pk_mul, z_pr1, z_pr2, nI_clamp, z_m3_40, z_m3_41, z_m3_44, z_m3_u40, z_m3_u41, z_m3_u44, z_m3_m3, pk_us, pk_un]
  refine hC _ _ _ _ _ _ _ _ _ _ (fun _ _ _ _ _ _ q => q) (sp_next hT hn h (fun f4 h => ?_))
  conv => whnf
  unfold pevt at hQ
  generalize nx t n st3 = st4 at hQ h
  generalize upd fr3 (14 * m + 1) (nI q) = fr4 at hQ
  have hq' : q = 0 ∨ q = 1 ∨ q = 2 ∨ q = 3 ∨ q = 4 ∨ q = 5 ∨ q = 6 ∨ q = 7 ∨ q = 8 := by omega
  rcases hq' with rfl | rfl | rfl | rfl | rfl | rfl | rfl | rfl | rfl
  · rw [show evW 0 = 8 from rfl, show evL 0 = 0 from rfl, show evM 0 = 1 from rfl] at hQ
    repeat ((first | refine And.intro (by (conv => arg 2; whnf); (try simp only [z_lit, nI_add, pk_mul, z_pr1, z_pr2]); exact z_in (by omega) (by decide)) ?_ | refine z_bt1 (by decide) ?_ | refine z_bf1 (by decide) ?_ | refine z_bt2 (by decide) ?_ | refine z_bf2 (by decide) ?_); conv => whnf)
    refine hC _ _ _ _ _ _ _ _ _ _ (fun _ _ _ _ _ _ q => q) (sp_number (k := 2) (lo := 0) (hi := 8) hT hn hm (by omega) (by decide) (by decide) h (okQ_m (okQ_b hQ) (fun fr5 st5 hQ f5 h => ?_) (fun c p hQ f5 fr5 h => ?_)))
    conv => whnf
    rotate_left
    · repeat ((first | refine And.intro (by (conv => arg 2; whnf); (try simp only [z_lit, nI_add, pk_mul, z_pr1, z_pr2]); exact z_in (by omega) (by decide)) ?_ | refine z_bt1 (by decide) ?_ | refine z_bf1 (by decide) ?_ | refine z_bt2 (by decide) ?_ | refine z_bf2 (by decide) ?_); conv => whnf)
      exact ⟨Or.inl rfl, hQ f5 fr5 h⟩
    repeat ((first | refine And.intro (by (conv => arg 2; whnf); (try simp only [z_lit, nI_add, pk_mul, z_pr1, z_pr2]); exact z_in (by omega) (by decide)) ?_ | refine z_bt1 (by decide) ?_ | refine z_bf1 (by decide) ?_ | refine z_bt2 (by decide) ?_ | refine z_bf2 (by decide) ?_); conv => whnf)
    refine hC _ _ _ _ _ _ _ _ _ _ (fun _ _ _ _ _ _ q => q) (sp_number (k := 3) (lo := 0) (hi := 1) hT hn hm (by omega) (by decide) (by decide) h (okQ_m (okQ_b hQ) (fun fr6 st6 hQ f6 h => ?_) (fun c p hQ f6 fr6 h => ?_)))
    conv => whnf
    rotate_left
    · repeat ((first | refine And.intro (by (conv => arg 2; whnf); (try simp only [z_lit, nI_add, pk_mul, z_pr1, z_pr2]); exact z_in (by omega) (by decide)) ?_ | refine z_bt1 (by decide) ?_ | refine z_bf1 (by decide) ?_ | refine z_bt2 (by decide) ?_ | refine z_bf2 (by decide) ?_); conv => whnf)
      exact ⟨Or.inl rfl, hQ f6 fr6 h⟩
    repeat ((first | refine And.intro (by (conv => arg 2; whnf); (try simp only [z_lit, nI_add, pk_mul, z_pr1, z_pr2]); exact z_in (by omega) (by decide)) ?_ | refine z_bt1 (by decide) ?_ | refine z_bf1 (by decide) ?_ | refine z_bt2 (by decide) ?_ | refine z_bf2 (by decide) ?_); conv => whnf)
    refine hC _ _ _ _ _ _ _ _ _ _ (fun _ _ _ _ _ _ q => q) (sp_need (q := 13) hT hn (by decide) h (okQ_m hQ (fun fr7 st7 hQ f7 h => ?_) (fun c p hQ f7 fr7 h => ?_)))
    conv => whnf
    · repeat ((first | refine And.intro (by (conv => arg 2; whnf); (try simp only [z_lit, nI_add, pk_mul, z_pr1, z_pr2]); exact z_in (by omega) (by decide)) ?_ | refine z_bt1 (by decide) ?_ | refine z_bf1 (by decide) ?_ | refine z_bt2 (by decide) ?_ | refine z_bf2 (by decide) ?_); conv => whnf)
      exact ⟨Or.inr rfl, hQ f7 h⟩
    · repeat ((first | refine And.intro (by (conv => arg 2; whnf); (try simp only [z_lit, nI_add, pk_mul, z_pr1, z_pr2]); exact z_in (by omega) (by decide)) ?_ | refine z_bt1 (by decide) ?_ | refine z_bf1 (by decide) ?_ | refine z_bt2 (by decide) ?_ | refine z_bf2 (by decide) ?_); conv => whnf)
      exact ⟨Or.inl rfl, hQ f7 fr7 h⟩
  · rw [show evW 1 = 7 from rfl, show evL 1 = 0 from rfl, show evM 1 = 1 from rfl] at hQ
    repeat ((first | refine And.intro (by (conv => arg 2; whnf); (try simp only [z_lit, nI_add, pk_mul, z_pr1, z_pr2]); exact z_in (by omega) (by decide)) ?_ | refine z_bt1 (by decide) ?_ | refine z_bf1 (by decide) ?_ | refine z_bt2 (by decide) ?_ | refine z_bf2 (by decide) ?_); conv => whnf)
    refine hC _ _ _ _ _ _ _ _ _ _ (fun _ _ _ _ _ _ q => q) (sp_number (k := 2) (lo := 0) (hi := 7) hT hn hm (by omega) (by decide) (by decide) h (okQ_m (okQ_b hQ) (fun fr5 st5 hQ f5 h => ?_) (fun c p hQ f5 fr5 h => ?_)))
    conv => whnf
    rotate_left
    · repeat ((first | refine And.intro (by (conv => arg 2; whnf); (try simp only [z_lit, nI_add, pk_mul, z_pr1, z_pr2]); exact z_in (by omega) (by decide)) ?_ | refine z_bt1 (by decide) ?_ | refine z_bf1 (by decide) ?_ | refine z_bt2 (by decide) ?_ | refine z_bf2 (by decide) ?_); conv => whnf)
      exact ⟨Or.inl rfl, hQ f5 fr5 h⟩
    repeat ((first | refine And.intro (by (conv => arg 2; whnf); (try simp only [z_lit, nI_add, pk_mul, z_pr1, z_pr2]); exact z_in (by omega) (by decide)) ?_ | refine z_bt1 (by decide) ?_ | refine z_bf1 (by decide) ?_ | refine z_bt2 (by decide) ?_ | refine z_bf2 (by decide) ?_); conv => whnf)
    refine hC _ _ _ _ _ _ _ _ _ _ (fun _ _ _ _ _ _ q => q) (sp_number (k := 3) (lo := 0) (hi := 1) hT hn hm (by omega) (by decide) (by decide) h (okQ_m (okQ_b hQ) (fun fr6 st6 hQ f6 h => ?_) (fun c p hQ f6 fr6 h => ?_)))
    conv => whnf
    rotate_left
    · repeat ((first | refine And.intro (by (conv => arg 2; whnf); (try simp only [z_lit, nI_add, pk_mul, z_pr1, z_pr2]); exact z_in (by omega) (by decide)) ?_ | refine z_bt1 (by decide) ?_ | refine z_bf1 (by decide) ?_ | refine z_bt2 (by decide) ?_ | refine z_bf2 (by decide) ?_); conv => whnf)
      exact ⟨Or.inl rfl, hQ f6 fr6 h⟩
    repeat ((first | refine And.intro (by (conv => arg 2; whnf); (try simp only [z_lit, nI_add, pk_mul, z_pr1, z_pr2]); exact z_in (by omega) (by decide)) ?_ | refine z_bt1 (by decide) ?_ | refine z_bf1 (by decide) ?_ | refine z_bt2 (by decide) ?_ | refine z_bf2 (by decide) ?_); conv => whnf)
    refine hC _ _ _ _ _ _ _ _ _ _ (fun _ _ _ _ _ _ q => q) (sp_need (q := 13) hT hn (by decide) h (okQ_m hQ (fun fr7 st7 hQ f7 h => ?_) (fun c p hQ f7 fr7 h => ?_)))
    conv => whnf
    · repeat ((first | refine And.intro (by (conv => arg 2; whnf); (try simp only [z_lit, nI_add, pk_mul, z_pr1, z_pr2]); exact z_in (by omega) (by decide)) ?_ | refine z_bt1 (by decide) ?_ | refine z_bf1 (by decide) ?_ | refine z_bt2 (by decide) ?_ | refine z_bf2 (by decide) ?_); conv => whnf)
      exact ⟨Or.inr rfl, hQ f7 h⟩
    · repeat ((first | refine And.intro (by (conv => arg 2; whnf); (try simp only [z_lit, nI_add, pk_mul, z_pr1, z_pr2]); exact z_in (by omega) (by decide)) ?_ | refine z_bt1 (by decide) ?_ | refine z_bf1 (by decide) ?_ | refine z_bt2 (by decide) ?_ | refine z_bf2 (by decide) ?_); conv => whnf)
      exact ⟨Or.inl rfl, hQ f7 fr7 h⟩
  · rw [show evW 2 = 7 from rfl, show evL 2 = 0 from rfl, show evM 2 = 1 from rfl] at hQ
    repeat ((first | refine And.intro (by (conv => arg 2; whnf); (try simp only [z_lit, nI_add, pk_mul, z_pr1, z_pr2]); exact z_in (by omega) (by decide)) ?_ | refine z_bt1 (by decide) ?_ | refine z_bf1 (by decide) ?_ | refine z_bt2 (by decide) ?_ | refine z_bf2 (by decide) ?_); conv => whnf)
    refine hC _ _ _ _ _ _ _ _ _ _ (fun _ _ _ _ _ _ q => q) (sp_number (k := 2) (lo := 0) (hi := 7) hT hn hm (by omega) (by decide) (by decide) h (okQ_m (okQ_b hQ) (fun fr5 st5 hQ f5 h => ?_) (fun c p hQ f5 fr5 h => ?_)))
    conv => whnf
    rotate_left
    · repeat ((first | refine And.intro (by (conv => arg 2; whnf); (try simp only [z_lit, nI_add, pk_mul, z_pr1, z_pr2]); exact z_in (by omega) (by decide)) ?_ | refine z_bt1 (by decide) ?_ | refine z_bf1 (by decide) ?_ | refine z_bt2 (by decide) ?_ | refine z_bf2 (by decide) ?_); conv => whnf)
      exact ⟨Or.inl rfl, hQ f5 fr5 h⟩
    repeat ((first | refine And.intro (by (conv => arg 2; whnf); (try simp only [z_lit, nI_add, pk_mul, z_pr1, z_pr2]); exact z_in (by omega) (by decide)) ?_ | refine z_bt1 (by decide) ?_ | refine z_bf1 (by decide) ?_ | refine z_bt2 (by decide) ?_ | refine z_bf2 (by decide) ?_); conv => whnf)
    refine hC _ _ _ _ _ _ _ _ _ _ (fun _ _ _ _ _ _ q => q) (sp_number (k := 3) (lo := 0) (hi := 1) hT hn hm (by omega) (by decide) (by decide) h (okQ_m (okQ_b hQ) (fun fr6 st6 hQ f6 h => ?_) (fun c p hQ f6 fr6 h => ?_)))
    conv => whnf
    rotate_left
    · repeat ((first | refine And.intro (by (conv => arg 2; whnf); (try simp only [z_lit, nI_add, pk_mul, z_pr1, z_pr2]); exact z_in (by omega) (by decide)) ?_ | refine z_bt1 (by decide) ?_ | refine z_bf1 (by decide) ?_ | refine z_bt2 (by decide) ?_ | refine z_bf2 (by decide) ?_); conv => whnf)
      exact ⟨Or.inl rfl, hQ f6 fr6 h⟩
    repeat ((first | refine And.intro (by (conv => arg 2; whnf); (try simp only [z_lit, nI_add, pk_mul, z_pr1, z_pr2]); exact z_in (by omega) (by decide)) ?_ | refine z_bt1 (by decide) ?_ | refine z_bf1 (by decide) ?_ | refine z_bt2 (by decide) ?_ | refine z_bf2 (by decide) ?_); conv => whnf)
    refine hC _ _ _ _ _ _ _ _ _ _ (fun _ _ _ _ _ _ q => q) (sp_need (q := 13) hT hn (by decide) h (okQ_m hQ (fun fr7 st7 hQ f7 h => ?_) (fun c p hQ f7 fr7 h => ?_)))
    conv => whnf
    · repeat ((first | refine And.intro (by (conv => arg 2; whnf); (try simp only [z_lit, nI_add, pk_mul, z_pr1, z_pr2]); exact z_in (by omega) (by decide)) ?_ | refine z_bt1 (by decide) ?_ | refine z_bf1 (by decide) ?_ | refine z_bt2 (by decide) ?_ | refine z_bf2 (by decide) ?_); conv => whnf)
      exact ⟨Or.inr rfl, hQ f7 h⟩
    · repeat ((first | refine And.intro (by (conv => arg 2; whnf); (try simp only [z_lit, nI_add, pk_mul, z_pr1, z_pr2]); exact z_in (by omega) (by decide)) ?_ | refine z_bt1 (by decide) ?_ | refine z_bf1 (by decide) ?_ | refine z_bt2 (by decide) ?_ | refine z_bf2 (by decide) ?_); conv => whnf)
      exact ⟨Or.inl rfl, hQ f7 fr7 h⟩
  · rw [show evW 3 = 7 from rfl, show evL 3 = 0 from rfl, show evM 3 = 1 from rfl] at hQ
    repeat ((first | refine And.intro (by (conv => arg 2; whnf); (try simp only [z_lit, nI_add, pk_mul, z_pr1, z_pr2]); exact z_in (by omega) (by decide)) ?_ | refine z_bt1 (by decide) ?_ | refine z_bf1 (by decide) ?_ | refine z_bt2 (by decide) ?_ | refine z_bf2 (by decide) ?_); conv => whnf)
    refine hC _ _ _ _ _ _ _ _ _ _ (fun _ _ _ _ _ _ q => q) (sp_number (k := 2) (lo := 0) (hi := 7) hT hn hm (by omega) (by decide) (by decide) h (okQ_m (okQ_b hQ) (fun fr5 st5 hQ f5 h => ?_) (fun c p hQ f5 fr5 h => ?_)))
    conv => whnf
    rotate_left
    · repeat ((first | refine And.intro (by (conv => arg 2; whnf); (try simp only [z_lit, nI_add, pk_mul, z_pr1, z_pr2]); exact z_in (by omega) (by decide)) ?_ | refine z_bt1 (by decide) ?_ | refine z_bf1 (by decide) ?_ | refine z_bt2 (by decide) ?_ | refine z_bf2 (by decide) ?_); conv => whnf)
      exact ⟨Or.inl rfl, hQ f5 fr5 h⟩
    repeat ((first | refine And.intro (by (conv => arg 2; whnf); (try simp only [z_lit, nI_add, pk_mul, z_pr1, z_pr2]); exact z_in (by omega) (by decide)) ?_ | refine z_bt1 (by decide) ?_ | refine z_bf1 (by decide) ?_ | refine z_bt2 (by decide) ?_ | refine z_bf2 (by decide) ?_); conv => whnf)
    refine hC _ _ _ _ _ _ _ _ _ _ (fun _ _ _ _ _ _ q => q) (sp_number (k := 3) (lo := 0) (hi := 1) hT hn hm (by omega) (by decide) (by decide) h (okQ_m (okQ_b hQ) (fun fr6 st6 hQ f6 h => ?_) (fun c p hQ f6 fr6 h => ?_)))
    conv => whnf
    rotate_left
    · repeat ((first | refine And.intro (by (conv => arg 2; whnf); (try simp only [z_lit, nI_add, pk_mul, z_pr1, z_pr2]); exact z_in (by omega) (by decide)) ?_ | refine z_bt1 (by decide) ?_ | refine z_bf1 (by decide) ?_ | refine z_bt2 (by decide) ?_ | refine z_bf2 (by decide) ?_); conv => whnf)
      exact ⟨Or.inl rfl, hQ f6 fr6 h⟩
    repeat ((first | refine And.intro (by (conv => arg 2; whnf); (try simp only [z_lit, nI_add, pk_mul, z_pr1, z_pr2]); exact z_in (by omega) (by decide)) ?_ | refine z_bt1 (by decide) ?_ | refine z_bf1 (by decide) ?_ | refine z_bt2 (by decide) ?_ | refine z_bf2 (by decide) ?_); conv => whnf)
    refine hC _ _ _ _ _ _ _ _ _ _ (fun _ _ _ _ _ _ q => q) (sp_need (q := 13) hT hn (by decide) h (okQ_m hQ (fun fr7 st7 hQ f7 h => ?_) (fun c p hQ f7 fr7 h => ?_)))
    conv => whnf
    · repeat ((first | refine And.intro (by (conv => arg 2; whnf); (try simp only [z_lit, nI_add, pk_mul, z_pr1, z_pr2]); exact z_in (by omega) (by decide)) ?_ | refine z_bt1 (by decide) ?_ | refine z_bf1 (by decide) ?_ | refine z_bt2 (by decide) ?_ | refine z_bf2 (by decide) ?_); conv => whnf)
      exact ⟨Or.inr rfl, hQ f7 h⟩
    · repeat ((first | refine And.intro (by (conv => arg 2; whnf); (try simp only [z_lit, nI_add, pk_mul, z_pr1, z_pr2]); exact z_in (by omega) (by decide)) ?_ | refine z_bt1 (by decide) ?_ | refine z_bf1 (by decide) ?_ | refine z_bt2 (by decide) ?_ | refine z_bf2 (by decide) ?_); conv => whnf)
      exact ⟨Or.inl rfl, hQ f7 fr7 h⟩
  · rw [show evW 4 = 7 from rfl, show evL 4 = 0 from rfl, show evM 4 = 1 from rfl] at hQ
    repeat ((first | refine And.intro (by (conv => arg 2; whnf); (try simp only [z_lit, nI_add, pk_mul, z_pr1, z_pr2]); exact z_in (by omega) (by decide)) ?_ | refine z_bt1 (by decide) ?_ | refine z_bf1 (by decide) ?_ | refine z_bt2 (by decide) ?_ | refine z_bf2 (by decide) ?_); conv => whnf)
    refine hC _ _ _ _ _ _ _ _ _ _ (fun _ _ _ _ _ _ q => q) (sp_number (k := 2) (lo := 0) (hi := 7) hT hn hm (by omega) (by decide) (by decide) h (okQ_m (okQ_b hQ) (fun fr5 st5 hQ f5 h => ?_) (fun c p hQ f5 fr5 h => ?_)))
    conv => whnf
    rotate_left
    · repeat ((first | refine And.intro (by (conv => arg 2; whnf); (try simp only [z_lit, nI_add, pk_mul, z_pr1, z_pr2]); exact z_in (by omega) (by decide)) ?_ | refine z_bt1 (by decide) ?_ | refine z_bf1 (by decide) ?_ | refine z_bt2 (by decide) ?_ | refine z_bf2 (by decide) ?_); conv => whnf)
      exact ⟨Or.inl rfl, hQ f5 fr5 h⟩
    repeat ((first | refine And.intro (by (conv => arg 2; whnf); (try simp only [z_lit, nI_add, pk_mul, z_pr1, z_pr2]); exact z_in (by omega) (by decide)) ?_ | refine z_bt1 (by decide) ?_ | refine z_bf1 (by decide) ?_ | refine z_bt2 (by decide) ?_ | refine z_bf2 (by decide) ?_); conv => whnf)
    refine hC _ _ _ _ _ _ _ _ _ _ (fun _ _ _ _ _ _ q => q) (sp_number (k := 3) (lo := 0) (hi := 1) hT hn hm (by omega) (by decide) (by decide) h (okQ_m (okQ_b hQ) (fun fr6 st6 hQ f6 h => ?_) (fun c p hQ f6 fr6 h => ?_)))
    conv => whnf
    rotate_left
    · repeat ((first | refine And.intro (by (conv => arg 2; whnf); (try simp only [z_lit, nI_add, pk_mul, z_pr1, z_pr2]); exact z_in (by omega) (by decide)) ?_ | refine z_bt1 (by decide) ?_ | refine z_bf1 (by decide) ?_ | refine z_bt2 (by decide) ?_ | refine z_bf2 (by decide) ?_); conv => whnf)
      exact ⟨Or.inl rfl, hQ f6 fr6 h⟩
    repeat ((first | refine And.intro (by (conv => arg 2; whnf); (try simp only [z_lit, nI_add, pk_mul, z_pr1, z_pr2]); exact z_in (by omega) (by decide)) ?_ | refine z_bt1 (by decide) ?_ | refine z_bf1 (by decide) ?_ | refine z_bt2 (by decide) ?_ | refine z_bf2 (by decide) ?_); conv => whnf)
    refine hC _ _ _ _ _ _ _ _ _ _ (fun _ _ _ _ _ _ q => q) (sp_need (q := 13) hT hn (by decide) h (okQ_m hQ (fun fr7 st7 hQ f7 h => ?_) (fun c p hQ f7 fr7 h => ?_)))
    conv => whnf
    · repeat ((first | refine And.intro (by (conv => arg 2; whnf); (try simp only [z_lit, nI_add, pk_mul, z_pr1, z_pr2]); exact z_in (by omega) (by decide)) ?_ | refine z_bt1 (by decide) ?_ | refine z_bf1 (by decide) ?_ | refine z_bt2 (by decide) ?_ | refine z_bf2 (by decide) ?_); conv => whnf)
      exact ⟨Or.inr rfl, hQ f7 h⟩
    · repeat ((first | refine And.intro (by (conv => arg 2; whnf); (try simp only [z_lit, nI_add, pk_mul, z_pr1, z_pr2]); exact z_in (by omega) (by decide)) ?_ | refine z_bt1 (by decide) ?_ | refine z_bf1 (by decide) ?_ | refine z_bt2 (by decide) ?_ | refine z_bf2 (by decide) ?_); conv => whnf)
      exact ⟨Or.inl rfl, hQ f7 fr7 h⟩
  · rw [show evW 5 = 7 from rfl, show evL 5 = 0 from rfl, show evM 5 = 1 from rfl] at hQ
    repeat ((first | refine And.intro (by (conv => arg 2; whnf); (try simp only [z_lit, nI_add, pk_mul, z_pr1, z_pr2]); exact z_in (by omega) (by decide)) ?_ | refine z_bt1 (by decide) ?_ | refine z_bf1 (by decide) ?_ | refine z_bt2 (by decide) ?_ | refine z_bf2 (by decide) ?_); conv => whnf)
    refine hC _ _ _ _ _ _ _ _ _ _ (fun _ _ _ _ _ _ q => q) (sp_number (k := 2) (lo := 0) (hi := 7) hT hn hm (by omega) (by decide) (by decide) h (okQ_m (okQ_b hQ) (fun fr5 st5 hQ f5 h => ?_) (fun c p hQ f5 fr5 h => ?_)))
    conv => whnf
    rotate_left
    · repeat ((first | refine And.intro (by (conv => arg 2; whnf); (try simp only [z_lit, nI_add, pk_mul, z_pr1, z_pr2]); exact z_in (by omega) (by decide)) ?_ | refine z_bt1 (by decide) ?_ | refine z_bf1 (by decide) ?_ | refine z_bt2 (by decide) ?_ | refine z_bf2 (by decide) ?_); conv => whnf)
      exact ⟨Or.inl rfl, hQ f5 fr5 h⟩
    repeat ((first | refine And.intro (by (conv => arg 2; whnf); (try simp only [z_lit, nI_add, pk_mul, z_pr1, z_pr2]); exact z_in (by omega) (by decide)) ?_ | refine z_bt1 (by decide) ?_ | refine z_bf1 (by decide) ?_ | refine z_bt2 (by decide) ?_ | refine z_bf2 (by decide) ?_); conv => whnf)
    refine hC _ _ _ _ _ _ _ _ _ _ (fun _ _ _ _ _ _ q => q) (sp_number (k := 3) (lo := 0) (hi := 1) hT hn hm (by omega) (by decide) (by decide) h (okQ_m (okQ_b hQ) (fun fr6 st6 hQ f6 h => ?_) (fun c p hQ f6 fr6 h => ?_)))
    conv => whnf
    rotate_left
    · repeat ((first | refine And.intro (by (conv => arg 2; whnf); (try simp only [z_lit, nI_add, pk_mul, z_pr1, z_pr2]); exact z_in (by omega) (by decide)) ?_ | refine z_bt1 (by decide) ?_ | refine z_bf1 (by decide) ?_ | refine z_bt2 (by decide) ?_ | refine z_bf2 (by decide) ?_); conv => whnf)
      exact ⟨Or.inl rfl, hQ f6 fr6 h⟩
    repeat ((first | refine And.intro (by (conv => arg 2; whnf); (try simp only [z_lit, nI_add, pk_mul, z_pr1, z_pr2]); exact z_in (by omega) (by decide)) ?_ | refine z_bt1 (by decide) ?_ | refine z_bf1 (by decide) ?_ | refine z_bt2 (by decide) ?_ | refine z_bf2 (by decide) ?_); conv => whnf)
    refine hC _ _ _ _ _ _ _ _ _ _ (fun _ _ _ _ _ _ q => q) (sp_need (q := 13) hT hn (by decide) h (okQ_m hQ (fun fr7 st7 hQ f7 h => ?_) (fun c p hQ f7 fr7 h => ?_)))
    conv => whnf
    · repeat ((first | refine And.intro (by (conv => arg 2; whnf); (try simp only [z_lit, nI_add, pk_mul, z_pr1, z_pr2]); exact z_in (by omega) (by decide)) ?_ | refine z_bt1 (by decide) ?_ | refine z_bf1 (by decide) ?_ | refine z_bt2 (by decide) ?_ | refine z_bf2 (by decide) ?_); conv => whnf)
      exact ⟨Or.inr rfl, hQ f7 h⟩
    · repeat ((first | refine And.intro (by (conv => arg 2; whnf); (try simp only [z_lit, nI_add, pk_mul, z_pr1, z_pr2]); exact z_in (by omega) (by decide)) ?_ | refine z_bt1 (by decide) ?_ | refine z_bf1 (by decide) ?_ | refine z_bt2 (by decide) ?_ | refine z_bf2 (by decide) ?_); conv => whnf)
      exact ⟨Or.inl rfl, hQ f7 fr7 h⟩
  · rw [show evW 6 = 7 from rfl, show evL 6 = 0 from rfl, show evM 6 = 3 from rfl] at hQ
    repeat ((first | refine And.intro (by (conv => arg 2; whnf); (try simp only [z_lit, nI_add, pk_mul, z_pr1, z_pr2]); exact z_in (by omega) (by decide)) ?_ | refine z_bt1 (by decide) ?_ | refine z_bf1 (by decide) ?_ | refine z_bt2 (by decide) ?_ | refine z_bf2 (by decide) ?_); conv => whnf)
    refine hC _ _ _ _ _ _ _ _ _ _ (fun _ _ _ _ _ _ q => q) (sp_number (k := 2) (lo := 0) (hi := 7) hT hn hm (by omega) (by decide) (by decide) h (okQ_m (okQ_b hQ) (fun fr5 st5 hQ f5 h => ?_) (fun c p hQ f5 fr5 h => ?_)))
    conv => whnf
    rotate_left
    · repeat ((first | refine And.intro (by (conv => arg 2; whnf); (try simp only [z_lit, nI_add, pk_mul, z_pr1, z_pr2]); exact z_in (by omega) (by decide)) ?_ | refine z_bt1 (by decide) ?_ | refine z_bf1 (by decide) ?_ | refine z_bt2 (by decide) ?_ | refine z_bf2 (by decide) ?_); conv => whnf)
      exact ⟨Or.inl rfl, hQ f5 fr5 h⟩
    repeat ((first | refine And.intro (by (conv => arg 2; whnf); (try simp only [z_lit, nI_add, pk_mul, z_pr1, z_pr2]); exact z_in (by omega) (by decide)) ?_ | refine z_bt1 (by decide) ?_ | refine z_bf1 (by decide) ?_ | refine z_bt2 (by decide) ?_ | refine z_bf2 (by decide) ?_); conv => whnf)
    refine hC _ _ _ _ _ _ _ _ _ _ (fun _ _ _ _ _ _ q => q) (sp_number (k := 3) (lo := 0) (hi := 3) hT hn hm (by omega) (by decide) (by decide) h (okQ_m (okQ_b hQ) (fun fr6 st6 hQ f6 h => ?_) (fun c p hQ f6 fr6 h => ?_)))
    conv => whnf
    rotate_left
    · repeat ((first | refine And.intro (by (conv => arg 2; whnf); (try simp only [z_lit, nI_add, pk_mul, z_pr1, z_pr2]); exact z_in (by omega) (by decide)) ?_ | refine z_bt1 (by decide) ?_ | refine z_bf1 (by decide) ?_ | refine z_bt2 (by decide) ?_ | refine z_bf2 (by decide) ?_); conv => whnf)
      exact ⟨Or.inl rfl, hQ f6 fr6 h⟩
    repeat ((first | refine And.intro (by (conv => arg 2; whnf); (try simp only [z_lit, nI_add, pk_mul, z_pr1, z_pr2]); exact z_in (by omega) (by decide)) ?_ | refine z_bt1 (by decide) ?_ | refine z_bf1 (by decide) ?_ | refine z_bt2 (by decide) ?_ | refine z_bf2 (by decide) ?_); conv => whnf)
    refine hC _ _ _ _ _ _ _ _ _ _ (fun _ _ _ _ _ _ q => q) (sp_need (q := 13) hT hn (by decide) h (okQ_m hQ (fun fr7 st7 hQ f7 h => ?_) (fun c p hQ f7 fr7 h => ?_)))
    conv => whnf
    · repeat ((first | refine And.intro (by (conv => arg 2; whnf); (try simp only [z_lit, nI_add, pk_mul, z_pr1, z_pr2]); exact z_in (by omega) (by decide)) ?_ | refine z_bt1 (by decide) ?_ | refine z_bf1 (by decide) ?_ | refine z_bt2 (by decide) ?_ | refine z_bf2 (by decide) ?_); conv => whnf)
      exact ⟨Or.inr rfl, hQ f7 h⟩
    · repeat ((first | refine And.intro (by (conv => arg 2; whnf); (try simp only [z_lit, nI_add, pk_mul, z_pr1, z_pr2]); exact z_in (by omega) (by decide)) ?_ | refine z_bt1 (by decide) ?_ | refine z_bf1 (by decide) ?_ | refine z_bt2 (by decide) ?_ | refine z_bf2 (by decide) ?_); conv => whnf)
      exact ⟨Or.inl rfl, hQ f7 fr7 h⟩
  · rw [show evW 7 = 7 from rfl, show evL 7 = 0 from rfl, show evM 7 = 3 from rfl] at hQ
    repeat ((first | refine And.intro (by (conv => arg 2; whnf); (try simp only [z_lit, nI_add, pk_mul, z_pr1, z_pr2]); exact z_in (by omega) (by decide)) ?_ | refine z_bt1 (by decide) ?_ | refine z_bf1 (by decide) ?_ | refine z_bt2 (by decide) ?_ | refine z_bf2 (by decide) ?_); conv => whnf)
    refine hC _ _ _ _ _ _ _ _ _ _ (fun _ _ _ _ _ _ q => q) (sp_number (k := 2) (lo := 0) (hi := 7) hT hn hm (by omega) (by decide) (by decide) h (okQ_m (okQ_b hQ) (fun fr5 st5 hQ f5 h => ?_) (fun c p hQ f5 fr5 h => ?_)))
    conv => whnf
    rotate_left
    · repeat ((first | refine And.intro (by (conv => arg 2; whnf); (try simp only [z_lit, nI_add, pk_mul, z_pr1, z_pr2]); exact z_in (by omega) (by decide)) ?_ | refine z_bt1 (by decide) ?_ | refine z_bf1 (by decide) ?_ | refine z_bt2 (by decide) ?_ | refine z_bf2 (by decide) ?_); conv => whnf)
      exact ⟨Or.inl rfl, hQ f5 fr5 h⟩
    repeat ((first | refine And.intro (by (conv => arg 2; whnf); (try simp only [z_lit, nI_add, pk_mul, z_pr1, z_pr2]); exact z_in (by omega) (by decide)) ?_ | refine z_bt1 (by decide) ?_ | refine z_bf1 (by decide) ?_ | refine z_bt2 (by decide) ?_ | refine z_bf2 (by decide) ?_); conv => whnf)
    refine hC _ _ _ _ _ _ _ _ _ _ (fun _ _ _ _ _ _ q => q) (sp_number (k := 3) (lo := 0) (hi := 3) hT hn hm (by omega) (by decide) (by decide) h (okQ_m (okQ_b hQ) (fun fr6 st6 hQ f6 h => ?_) (fun c p hQ f6 fr6 h => ?_)))
    conv => whnf
    rotate_left
    · repeat ((first | refine And.intro (by (conv => arg 2; whnf); (try simp only [z_lit, nI_add, pk_mul, z_pr1, z_pr2]); exact z_in (by omega) (by decide)) ?_ | refine z_bt1 (by decide) ?_ | refine z_bf1 (by decide) ?_ | refine z_bt2 (by decide) ?_ | refine z_bf2 (by decide) ?_); conv => whnf)
      exact ⟨Or.inl rfl, hQ f6 fr6 h⟩
    repeat ((first | refine And.intro (by (conv => arg 2; whnf); (try simp only [z_lit, nI_add, pk_mul, z_pr1, z_pr2]); exact z_in (by omega) (by decide)) ?_ | refine z_bt1 (by decide) ?_ | refine z_bf1 (by decide) ?_ | refine z_bt2 (by decide) ?_ | refine z_bf2 (by decide) ?_); conv => whnf)
    refine hC _ _ _ _ _ _ _ _ _ _ (fun _ _ _ _ _ _ q => q) (sp_need (q := 13) hT hn (by decide) h (okQ_m hQ (fun fr7 st7 hQ f7 h => ?_) (fun c p hQ f7 fr7 h => ?_)))
    conv => whnf
    · repeat ((first | refine And.intro (by (conv => arg 2; whnf); (try simp only [z_lit, nI_add, pk_mul, z_pr1, z_pr2]); exact z_in (by omega) (by decide)) ?_ | refine z_bt1 (by decide) ?_ | refine z_bf1 (by decide) ?_ | refine z_bt2 (by decide) ?_ | refine z_bf2 (by decide) ?_); conv => whnf)
      exact ⟨Or.inr rfl, hQ f7 h⟩
    · repeat ((first | refine And.intro (by (conv => arg 2; whnf); (try simp only [z_lit, nI_add, pk_mul, z_pr1, z_pr2]); exact z_in (by omega) (by decide)) ?_ | refine z_bt1 (by decide) ?_ | refine z_bf1 (by decide) ?_ | refine z_bt2 (by decide) ?_ | refine z_bf2 (by decide) ?_); conv => whnf)
      exact ⟨Or.inl rfl, hQ f7 fr7 h⟩
  · rw [show evW 8 = 1 from rfl, show evL 8 = 1 from rfl, show evM 8 = 999 from rfl] at hQ
    repeat ((first | refine And.intro (by (conv => arg 2; whnf); (try simp only [z_lit, nI_add, pk_mul, z_pr1, z_pr2]); exact z_in (by omega) (by decide)) ?_ | refine z_bt1 (by decide) ?_ | refine z_bf1 (by decide) ?_ | refine z_bt2 (by decide) ?_ | refine z_bf2 (by decide) ?_); conv => whnf)
    refine hC _ _ _ _ _ _ _ _ _ _ (fun _ _ _ _ _ _ q => q) (sp_number (k := 2) (lo := 0) (hi := 1) hT hn hm (by omega) (by decide) (by decide) h (okQ_m (okQ_b hQ) (fun fr5 st5 hQ f5 h => ?_) (fun c p hQ f5 fr5 h => ?_)))
    conv => whnf
    rotate_left
    · repeat ((first | refine And.intro (by (conv => arg 2; whnf); (try simp only [z_lit, nI_add, pk_mul, z_pr1, z_pr2]); exact z_in (by omega) (by decide)) ?_ | refine z_bt1 (by decide) ?_ | refine z_bf1 (by decide) ?_ | refine z_bt2 (by decide) ?_ | refine z_bf2 (by decide) ?_); conv => whnf)
      exact ⟨Or.inl rfl, hQ f5 fr5 h⟩
    repeat ((first | refine And.intro (by (conv => arg 2; whnf); (try simp only [z_lit, nI_add, pk_mul, z_pr1, z_pr2]); exact z_in (by omega) (by decide)) ?_ | refine z_bt1 (by decide) ?_ | refine z_bf1 (by decide) ?_ | refine z_bt2 (by decide) ?_ | refine z_bf2 (by decide) ?_); conv => whnf)
    refine hC _ _ _ _ _ _ _ _ _ _ (fun _ _ _ _ _ _ q => q) (sp_number (k := 3) (lo := 1) (hi := 999) hT hn hm (by omega) (by decide) (by decide) h (okQ_m (okQ_b hQ) (fun fr6 st6 hQ f6 h => ?_) (fun c p hQ f6 fr6 h => ?_)))
    conv => whnf
    rotate_left
    · repeat ((first | refine And.intro (by (conv => arg 2; whnf); (try simp only [z_lit, nI_add, pk_mul, z_pr1, z_pr2]); exact z_in (by omega) (by decide)) ?_ | refine z_bt1 (by decide) ?_ | refine z_bf1 (by decide) ?_ | refine z_bt2 (by decide) ?_ | refine z_bf2 (by decide) ?_); conv => whnf)
      exact ⟨Or.inl rfl, hQ f6 fr6 h⟩
    repeat ((first | refine And.intro (by (conv => arg 2; whnf); (try simp only [z_lit, nI_add, pk_mul, z_pr1, z_pr2]); exact z_in (by omega) (by decide)) ?_ | refine z_bt1 (by decide) ?_ | refine z_bf1 (by decide) ?_ | refine z_bt2 (by decide) ?_ | refine z_bf2 (by decide) ?_); conv => whnf)
    refine hC _ _ _ _ _ _ _ _ _ _ (fun _ _ _ _ _ _ q => q) (sp_need (q := 13) hT hn (by decide) h (okQ_m hQ (fun fr7 st7 hQ f7 h => ?_) (fun c p hQ f7 fr7 h => ?_)))
    conv => whnf
    · repeat ((first | refine And.intro (by (conv => arg 2; whnf); (try simp only [z_lit, nI_add, pk_mul, z_pr1, z_pr2]); exact z_in (by omega) (by decide)) ?_ | refine z_bt1 (by decide) ?_ | refine z_bf1 (by decide) ?_ | refine z_bt2 (by decide) ?_ | refine z_bf2 (by decide) ?_); conv => whnf)
      exact ⟨Or.inr rfl, hQ f7 h⟩
    · repeat ((first | refine And.intro (by (conv => arg 2; whnf); (try simp only [z_lit, nI_add, pk_mul, z_pr1, z_pr2]); exact z_in (by omega) (by decide)) ?_ | refine z_bt1 (by decide) ?_ | refine z_bf1 (by decide) ?_ | refine z_bt2 (by decide) ?_ | refine z_bf2 (by decide) ?_); conv => whnf)
      exact ⟨Or.inl rfl, hQ f7 fr7 h⟩
theorem lp_revents (hT : mT I t n) (hn : n ≤ 500) :
    ∀ j m fr f st, m + j = 24 → lvM t n f f0 m st → okQ (peall t n j m fr st) (fun fr' c => ∀ f', enM f' f0 c → Q (some (.int 1)) (z_ms (z_row I 46 fr') (f', w, y)) (z_R0 kp sp wd) J F cn) (fun c p => ∀ f' fr', ddM f' f0 c p → Q (some (.int 0)) (z_ms (z_row I 46 fr') (f', w, y)) (z_R0 kp sp wd) J F cn) →
    z_WP (z_X0 L xs) z_P0 (d + 10) m_Mod_readsEvents 14 [some (.ref 40)] [] (z_ms (z_row I 46 fr) (f, w, y)) (z_R0 kp sp wd) J F cn 0 0 Q := by
  intro j
  induction j with
  | zero =>
    intro m fr f st hm h hQ
    have h16 := h.2.2.2.2.1
    have h19 := h.2.2.2.2.2.2.1
    have hl := tkM_le (t := t) (n := n) (st := st)
    unfold peall at hQ
    obtain rfl : m = 24 := by omega
    refine z_WP_gos [14] 1000 fun K C hK hC => ?_
    conv => whnf
    simp (disch := omega) only [z_lit, nI_add, pk_mul, z_pr1, z_pr2, nI_clamp, z_m3_40, z_m3_41, z_m3_44, z_m3_u40, z_m3_u41, z_m3_u44, z_m3_m3, pk_us, pk_un]
    rw [h16]
    refine ⟨fun g => ?_, fun g => ?_⟩
    · have g' : tkM t n st = 0 := nI_inj9 (b := 0) (by omega) (by omega) g
      rw [if_pos g'] at hQ
      conv => whnf
      exact ⟨Or.inr rfl, hQ f ⟨h19, h.2.2.2.2.2.2.2⟩⟩
    have g' : ¬ tkM t n st = 0 := fun z => g (by rw [z])
    rw [if_neg g'] at hQ
    conv => whnf
    simp (disch := omega) only [z_lit, nI_add, pk_mul, z_pr1, z_pr2, nI_clamp, z_m3_40, z_m3_41, z_m3_44, z_m3_u40, z_m3_u41, z_m3_u44, z_m3_m3, pk_us, pk_un]
    rw [h16]
    refine ⟨fun g2 => ?_, fun g2 => ?_⟩
    · rw [if_pos (nI_inj9 (b := 10) (by omega) (by omega) g2)] at hQ
      conv => whnf
      simp (disch := omega) only [z_lit, nI_add, pk_mul, z_pr1, z_pr2, nI_clamp, z_m3_40, z_m3_41, z_m3_44, z_m3_u40, z_m3_u41, z_m3_u44, z_m3_m3, pk_us, pk_un]
      rw [h19]
      repeat ((first | refine And.intro (by (conv => arg 2; whnf); (try simp only [z_lit, nI_add, pk_mul, z_pr1, z_pr2]); exact z_in (by omega) (by decide)) ?_ | refine z_bt1 (by decide) ?_ | refine z_bf1 (by decide) ?_ | refine z_bt2 (by decide) ?_ | refine z_bf2 (by decide) ?_); conv => whnf)
      refine hC _ _ _ _ _ _ _ _ _ _ (fun _ _ _ _ _ _ q => q) (sp_bad (c := 3) h (fun f' d' => ?_))
      conv => whnf
      exact ⟨Or.inl rfl, hQ f' fr d'⟩
    · rw [if_neg fun z => g2 (by rw [z])] at hQ
      conv => whnf
      refine hC _ _ _ _ _ _ _ _ _ _ (fun _ _ _ _ _ _ q => q) (sp_bad (c := 1) h (fun f' d' => ?_))
      conv => whnf
      exact ⟨Or.inl rfl, hQ f' fr d'⟩
  | succ j ih =>
    intro m fr f st hm h hQ
    have h16 := h.2.2.2.2.1
    have h19 := h.2.2.2.2.2.2.1
    have hl := tkM_le (t := t) (n := n) (st := st)
    unfold peall at hQ
    refine z_WP_gos [14] 1000 fun K C hK hC => ?_
    conv => whnf
    simp (disch := omega) only [z_lit, nI_add, pk_mul, z_pr1, z_pr2, nI_clamp, z_m3_40, z_m3_41, z_m3_44, z_m3_u40, z_m3_u41, z_m3_u44, z_m3_m3, pk_us, pk_un]
    rw [h16]
    refine ⟨fun g => ?_, fun g => ?_⟩
    · have g' : tkM t n st = 0 := nI_inj9 (b := 0) (by omega) (by omega) g
      rw [if_pos g'] at hQ
      conv => whnf
      exact ⟨Or.inr rfl, hQ f ⟨h19, h.2.2.2.2.2.2.2⟩⟩
    have g' : ¬ tkM t n st = 0 := fun z => g (by rw [z])
    rw [if_neg g'] at hQ
    conv => whnf
    simp (disch := omega) only [z_lit, nI_add, pk_mul, z_pr1, z_pr2, nI_clamp, z_m3_40, z_m3_41, z_m3_44, z_m3_u40, z_m3_u41, z_m3_u44, z_m3_m3, pk_us, pk_un]
    rw [h16]
    refine ⟨fun g2 => ?_, fun g2 => ?_⟩
    rotate_left
    · rw [if_neg fun z => g2 (by rw [z])] at hQ
      conv => whnf
      refine hC _ _ _ _ _ _ _ _ _ _ (fun _ _ _ _ _ _ q => q) (sp_bad (c := 1) h (fun f' d' => ?_))
      conv => whnf
      exact ⟨Or.inl rfl, hQ f' fr d'⟩
    rw [if_pos (nI_inj9 (b := 10) (by omega) (by omega) g2)] at hQ
    conv => whnf
    simp (disch := omega) only [z_lit, nI_add, pk_mul, z_pr1, z_pr2, nI_clamp, z_m3_40, z_m3_41, z_m3_44, z_m3_u40, z_m3_u41, z_m3_u44, z_m3_m3, pk_us, pk_un]
    rw [h19]
    refine ⟨fun _ => ?_, fun z => absurd (nI_inj9 (b := 24) (by omega) (by omega) z) (by omega)⟩
    conv => whnf
    refine hC _ _ _ _ _ _ _ _ _ _ (fun _ _ _ _ _ _ q => q) (sp_eventOf hT hn (by omega) h (okQ_m (okQ_b hQ) (fun fr2 st2 hQ f2 h => ?_) (fun c p hQ f2 fr2 h => ?_)))
    conv => whnf
    rotate_left
    · repeat ((first | refine And.intro (by (conv => arg 2; whnf); (try simp only [z_lit, nI_add, pk_mul, z_pr1, z_pr2]); exact z_in (by omega) (by decide)) ?_ | refine z_bt1 (by decide) ?_ | refine z_bf1 (by decide) ?_ | refine z_bt2 (by decide) ?_ | refine z_bf2 (by decide) ?_); conv => whnf)
      exact ⟨Or.inl rfl, hQ f2 fr2 h⟩
    have j19 := h.2.2.2.2.2.2.1
    refine ⟨fun _ => ?_, fun z => absurd z (by decide)⟩
    conv => whnf
    simp (disch := omega) only [z_lit, nI_add, pk_mul, z_pr1, z_pr2, nI_clamp, z_m3_40, z_m3_41, z_m3_44, z_m3_u40, z_m3_u41, z_m3_u44, z_m3_m3, pk_us, pk_un]
    rw [j19]
    simp (disch := omega) only [z_lit, nI_add, pk_mul, z_pr1, z_pr2, nI_clamp, z_m3_40, z_m3_41, z_m3_44, z_m3_u40, z_m3_u41, z_m3_u44, z_m3_m3, pk_us, pk_un]
    refine hK _ _ _ _ _ _ _ _ _ _ (ih (m + 1) fr2 (upd f2 19 (nI (m + 1))) st2 (by omega) ?_ hQ)
    obtain ⟨i0, i14, i15, i17, i16, i18, i19, ik⟩ := h
    exact ⟨i0, by rw [pk_un (by omega)]; exact i14, by rw [pk_un (by omega)]; exact i15, by rw [pk_un (by omega)]; exact i17, by rw [pk_un (by omega)]; exact i16, fun z => by rw [pk_un (by omega)]; exact i18 z, pk_us, fun j hj => by rw [pk_un (by omega)]; exact ik j hj⟩
theorem sp_readsEvents (hT : mT I t n) (hn : n ≤ 500) (h14 : s.1 14 = nI n) (hQ : okQ (peall t n 24 0 (I 46) (tkS t n 0)) (fun fr' c => ∀ f', enM f' s.1 c → Q (some (.int 1)) (z_ms (z_row I 46 fr') (f', s.2.1, s.2.2)) (z_R0 kp sp wd) J F cn) (fun c p => ∀ f' fr', ddM f' s.1 c p → Q (some (.int 0)) (z_ms (z_row I 46 fr') (f', s.2.1, s.2.2)) (z_R0 kp sp wd) J F cn)) :
    z_M (z_X0 L xs) z_P0 (d + 10) m_Mod_readsEvents [.ref 40] (z_ms I s) (z_R0 kp sp wd) J F cn Q := by
  obtain ⟨f0, w, y⟩ := s
  have h14' : f0 14 = nI n := h14
  have c := tkS_b (t := t) (n := n) (p := 0) (by omega)
  refine z_WP_gos [14] 1000 fun K C hK hC => ?_
  conv => whnf
  simp (disch := omega) only [z_lit, nI_add, pk_mul, z_pr1, z_pr2, nI_clamp, z_m3_40, z_m3_41, z_m3_44, z_m3_u40, z_m3_u41, z_m3_u44, z_m3_m3, pk_us, pk_un]
  refine hC _ _ _ _ _ _ _ _ _ _ (fun _ _ _ _ _ _ q => q) (sp_goesOn (s := (upd (upd f0 19 (nI 0)) 15 (nI 0), w, y)) (p := 0) hT hn (by show upd (upd f0 19 (nI 0)) 15 (nI 0) 14 = _; rw [pk_un (by omega), pk_un (by omega)]; exact h14') (show upd (upd f0 19 (nI 0)) 15 (nI 0) 15 = nI 0 from pk_us) (by omega) (fun f' hf a1 a2 a3 a4 => ?_))
  conv => whnf
  have lp := lp_revents (L := L) (xs := xs) (d := d) (kp := kp) (sp := sp) (wd := wd) (I := I) (J := J) (F := F) (cn := cn) (Q := Q) (w := w) (y := y) (f0 := f0) hT hn 24 0 (I 46) f' (tkS t n 0) rfl ?_ hQ
  · rw [z_row_id] at lp
    refine hK _ _ _ _ _ _ _ _ _ _ (lp)
  · refine ⟨c.2, (hf 14 (by omega)).trans ?_, a1, a2, a3, a4, (hf 19 (by omega)).trans ?_, fun j hj => (hf j (by omega)).trans ?_⟩
    · show upd (upd f0 19 (nI 0)) 15 (nI 0) 14 = _
      rw [pk_un (by omega), pk_un (by omega)]; exact h14'
    · show upd (upd f0 19 (nI 0)) 15 (nI 0) 19 = _
      rw [pk_un (by omega), pk_us]
    · show upd (upd f0 19 (nI 0)) 15 (nI 0) j = _
      rw [pk_un (by omega), pk_un (by omega)]
end
