/-! strings -/
section
variable {L : Nat} {xs : Nat → Int32} {d : Nat} {kp sp wd : Value} {I : z_I} {s : z_sg} {R : z_R} {J : z_J} {F : z_F} {cn : Nat} {Q : z_Q} {n k : Nat}
theorem st_chk {k n : Nat} (hk : k < n) (hn : n < 2 ^ 30) (hQ : Q (some (.int (nI k))) I R J F cn) {v : Value} : z_M (z_X0 L xs) z_P0 d m_Preconditions_checkIndex [.int (nI k), .int (nI n), v] I R J F cn Q := by
  refine z_WP_gos [] 1000 fun K C hK hC => ?_
  conv => whnf
  refine ⟨fun z => absurd z (nI_pos (by omega)), fun _ => ?_⟩
  conv => whnf
  refine ⟨fun _ => ?_, fun z => absurd (nI_lt hk (by omega)) z⟩
  conv => whnf
  exact hQ
theorem st_chk2 {k n : Nat} (hk : k < n) (hn : n < 2 ^ 30) (hQ : Q none I R J F cn) : z_M (z_X0 L xs) z_P0 (d + 1) m_String_checkIndex [.int (nI k), .int (nI n)] I R J F cn Q := by
  refine z_WP_gos [] 1000 fun K C hK hC => ?_
  conv => whnf
  refine hC _ _ _ _ _ _ _ _ _ _ (fun _ _ _ _ _ _ q => q) (st_chk hk hn ?_)
  conv => whnf
  exact hQ
abbrev S2 : List Nat := [115, 101, 110, 100, 32, 103, 101, 116, 32, 112, 97, 115, 115, 32, 97, 108, 108, 32, 109, 111, 100, 101, 32, 104, 97, 110, 100, 32, 101, 118, 101, 114, 121, 32, 97, 116, 32, 97, 110, 121, 32, 111, 110, 32]
theorem st_cod2 (hQ : Q (some (.int 0)) I R J F cn) : z_M (z_X0 L xs) z_P0 d m_String_coder [.retAddr 2] I R J F cn Q := by
  refine z_WP_gos [] 1000 fun K C hK hC => ?_
  conv => whnf
  repeat ((first | refine And.intro (by (conv => arg 2; whnf); (try simp only [z_lit, nI_add, pk_mul, z_pr1, z_pr2]); exact z_in (by omega) (by decide)) ?_ | refine z_bt1 (by decide) ?_ | refine z_bf1 (by decide) ?_ | refine z_bt2 (by decide) ?_ | refine z_bf2 (by decide) ?_); conv => whnf)
  exact ⟨by decide, hQ⟩
theorem st_lat2 (hQ : Q (some (.int 1)) I R J F cn) : z_M (z_X0 L xs) z_P0 d m_String_isLatin1 [.retAddr 2] I R J F cn Q := by
  refine z_WP_gos [] 1000 fun K C hK hC => ?_
  conv => whnf
  repeat ((first | refine And.intro (by (conv => arg 2; whnf); (try simp only [z_lit, nI_add, pk_mul, z_pr1, z_pr2]); exact z_in (by omega) (by decide)) ?_ | refine z_bt1 (by decide) ?_ | refine z_bf1 (by decide) ?_ | refine z_bt2 (by decide) ?_ | refine z_bf2 (by decide) ?_); conv => whnf)
  exact ⟨Or.inr rfl, hQ⟩
theorem st_len2 (hQ : Q (some (.int (nI 44))) I R J F cn) : z_M (z_X0 L xs) z_P0 (d + 1) m_String_length [.retAddr 2] I R J F cn Q := by
  refine z_WP_gos [] 1000 fun K C hK hC => ?_
  conv => whnf
  refine hC _ _ _ _ _ _ _ _ _ _ (fun _ _ _ _ _ _ q => q) (st_cod2 ?_)
  conv => whnf
  exact hQ
theorem st_lch2 {k : Nat} (hk : k < 44) (hQ : Q (some (.int (nI (S2.getD k 0)))) I R J F cn) : z_M (z_X0 L xs) z_P0 (d + 2) m_StringLatin1_charAt [.retAddr 3, .int (nI k)] I R J F cn Q := by
  have hc : ∀ k, k < 44 → (((([115, 101, 110, 100, 32, 103, 101, 116, 32, 112, 97, 115, 115, 32, 97, 108, 108, 32, 109, 111, 100, 101, 32, 104, 97, 110, 100, 32, 101, 118, 101, 114, 121, 32, 97, 116, 32, 97, 110, 121, 32, 111, 110, 32] : List Int32).getD k 0) &&& 255).toUInt32 % 65536).toInt32 = nI (S2.getD k 0) := by decide +kernel
  have h2 : ∀ k, k < 44 → ((nI (S2.getD k 0)).toUInt32 % 65536).toInt32 = nI (S2.getD k 0) := by decide +kernel
  have key : ∀ V : Int32, V = nI (S2.getD k 0) → ((V.toUInt32 % 65536).toInt32 = V ∧ Q (some (.int V)) I R J F cn) := fun V e => by subst e; exact ⟨h2 k hk, hQ⟩
  refine z_WP_gos [] 1000 fun K C hK hC => ?_
  conv => whnf
  refine hC _ _ _ _ _ _ _ _ _ _ (fun _ _ _ _ _ _ q => q) (st_chk2 (n := 44) hk (by decide) ?_)
  conv => whnf
  refine ⟨vp_in_nI (N := 44) hk (by decide), ?_⟩
  conv => whnf
  rw [nI_clamp (by omega), show ((z_X0 L xs).2.1 3).2.2 k = ([115, 101, 110, 100, 32, 103, 101, 116, 32, 112, 97, 115, 115, 32, 97, 108, 108, 32, 109, 111, 100, 101, 32, 104, 97, 110, 100, 32, 101, 118, 101, 114, 121, 32, 97, 116, 32, 97, 110, 121, 32, 111, 110, 32] : List Int32).getD k 0 from rfl]
  exact key _ (hc k hk)
theorem st_chr2 {k : Nat} (hk : k < 44) (hQ : Q (some (.int (nI (S2.getD k 0)))) I R J F cn) : z_M (z_X0 L xs) z_P0 (d + 3) m_String_charAt [.retAddr 2, .int (nI k)] I R J F cn Q := by
  refine z_WP_gos [] 1000 fun K C hK hC => ?_
  conv => whnf
  refine hC _ _ _ _ _ _ _ _ _ _ (fun _ _ _ _ _ _ q => q) (st_lat2 ?_)
  conv => whnf
  repeat ((first | refine And.intro (by (conv => arg 2; whnf); (try simp only [z_lit, nI_add, pk_mul, z_pr1, z_pr2]); exact z_in (by omega) (by decide)) ?_ | refine z_bt1 (by decide) ?_ | refine z_bf1 (by decide) ?_ | refine z_bt2 (by decide) ?_ | refine z_bf2 (by decide) ?_); conv => whnf)
  refine hC _ _ _ _ _ _ _ _ _ _ (fun _ _ _ _ _ _ q => q) (st_lch2 hk ?_)
  conv => whnf
  have h2 : ∀ k, k < 44 → ((nI (S2.getD k 0)).toUInt32 % 65536).toInt32 = nI (S2.getD k 0) := by decide +kernel
  exact ⟨h2 k hk, hQ⟩
abbrev S4 : List Nat := [112, 111, 119, 101, 114, 32, 98, 117, 115, 121, 32, 115, 101, 114, 118, 105, 99, 101, 32, 115, 121, 115, 116, 101, 109, 32, 102, 108, 97, 103, 32, 97, 99, 99, 101, 112, 116, 32, 100, 101, 97, 102, 32, 98, 97, 98, 98, 108, 101, 32, 110, 111, 105, 115, 101, 32, 97, 116, 32]
theorem st_cod4 (hQ : Q (some (.int 0)) I R J F cn) : z_M (z_X0 L xs) z_P0 d m_String_coder [.retAddr 4] I R J F cn Q := by
  refine z_WP_gos [] 1000 fun K C hK hC => ?_
  conv => whnf
  repeat ((first | refine And.intro (by (conv => arg 2; whnf); (try simp only [z_lit, nI_add, pk_mul, z_pr1, z_pr2]); exact z_in (by omega) (by decide)) ?_ | refine z_bt1 (by decide) ?_ | refine z_bf1 (by decide) ?_ | refine z_bt2 (by decide) ?_ | refine z_bf2 (by decide) ?_); conv => whnf)
  exact ⟨by decide, hQ⟩
theorem st_lat4 (hQ : Q (some (.int 1)) I R J F cn) : z_M (z_X0 L xs) z_P0 d m_String_isLatin1 [.retAddr 4] I R J F cn Q := by
  refine z_WP_gos [] 1000 fun K C hK hC => ?_
  conv => whnf
  repeat ((first | refine And.intro (by (conv => arg 2; whnf); (try simp only [z_lit, nI_add, pk_mul, z_pr1, z_pr2]); exact z_in (by omega) (by decide)) ?_ | refine z_bt1 (by decide) ?_ | refine z_bf1 (by decide) ?_ | refine z_bt2 (by decide) ?_ | refine z_bf2 (by decide) ?_); conv => whnf)
  exact ⟨Or.inr rfl, hQ⟩
theorem st_len4 (hQ : Q (some (.int (nI 59))) I R J F cn) : z_M (z_X0 L xs) z_P0 (d + 1) m_String_length [.retAddr 4] I R J F cn Q := by
  refine z_WP_gos [] 1000 fun K C hK hC => ?_
  conv => whnf
  refine hC _ _ _ _ _ _ _ _ _ _ (fun _ _ _ _ _ _ q => q) (st_cod4 ?_)
  conv => whnf
  exact hQ
theorem st_lch4 {k : Nat} (hk : k < 59) (hQ : Q (some (.int (nI (S4.getD k 0)))) I R J F cn) : z_M (z_X0 L xs) z_P0 (d + 2) m_StringLatin1_charAt [.retAddr 5, .int (nI k)] I R J F cn Q := by
  have hc : ∀ k, k < 59 → (((([112, 111, 119, 101, 114, 32, 98, 117, 115, 121, 32, 115, 101, 114, 118, 105, 99, 101, 32, 115, 121, 115, 116, 101, 109, 32, 102, 108, 97, 103, 32, 97, 99, 99, 101, 112, 116, 32, 100, 101, 97, 102, 32, 98, 97, 98, 98, 108, 101, 32, 110, 111, 105, 115, 101, 32, 97, 116, 32] : List Int32).getD k 0) &&& 255).toUInt32 % 65536).toInt32 = nI (S4.getD k 0) := by decide +kernel
  have h2 : ∀ k, k < 59 → ((nI (S4.getD k 0)).toUInt32 % 65536).toInt32 = nI (S4.getD k 0) := by decide +kernel
  have key : ∀ V : Int32, V = nI (S4.getD k 0) → ((V.toUInt32 % 65536).toInt32 = V ∧ Q (some (.int V)) I R J F cn) := fun V e => by subst e; exact ⟨h2 k hk, hQ⟩
  refine z_WP_gos [] 1000 fun K C hK hC => ?_
  conv => whnf
  refine hC _ _ _ _ _ _ _ _ _ _ (fun _ _ _ _ _ _ q => q) (st_chk2 (n := 59) hk (by decide) ?_)
  conv => whnf
  refine ⟨vp_in_nI (N := 59) hk (by decide), ?_⟩
  conv => whnf
  rw [nI_clamp (by omega), show ((z_X0 L xs).2.1 5).2.2 k = ([112, 111, 119, 101, 114, 32, 98, 117, 115, 121, 32, 115, 101, 114, 118, 105, 99, 101, 32, 115, 121, 115, 116, 101, 109, 32, 102, 108, 97, 103, 32, 97, 99, 99, 101, 112, 116, 32, 100, 101, 97, 102, 32, 98, 97, 98, 98, 108, 101, 32, 110, 111, 105, 115, 101, 32, 97, 116, 32] : List Int32).getD k 0 from rfl]
  exact key _ (hc k hk)
theorem st_chr4 {k : Nat} (hk : k < 59) (hQ : Q (some (.int (nI (S4.getD k 0)))) I R J F cn) : z_M (z_X0 L xs) z_P0 (d + 3) m_String_charAt [.retAddr 4, .int (nI k)] I R J F cn Q := by
  refine z_WP_gos [] 1000 fun K C hK hC => ?_
  conv => whnf
  refine hC _ _ _ _ _ _ _ _ _ _ (fun _ _ _ _ _ _ q => q) (st_lat4 ?_)
  conv => whnf
  repeat ((first | refine And.intro (by (conv => arg 2; whnf); (try simp only [z_lit, nI_add, pk_mul, z_pr1, z_pr2]); exact z_in (by omega) (by decide)) ?_ | refine z_bt1 (by decide) ?_ | refine z_bf1 (by decide) ?_ | refine z_bt2 (by decide) ?_ | refine z_bf2 (by decide) ?_); conv => whnf)
  refine hC _ _ _ _ _ _ _ _ _ _ (fun _ _ _ _ _ _ q => q) (st_lch4 hk ?_)
  conv => whnf
  have h2 : ∀ k, k < 59 → ((nI (S4.getD k 0)).toUInt32 % 65536).toInt32 = nI (S4.getD k 0) := by decide +kernel
  exact ⟨h2 k hk, hQ⟩
abbrev S6 : List Nat := [115, 101, 110, 100]
theorem st_cod6 (hQ : Q (some (.int 0)) I R J F cn) : z_M (z_X0 L xs) z_P0 d m_String_coder [.retAddr 6] I R J F cn Q := by
  refine z_WP_gos [] 1000 fun K C hK hC => ?_
  conv => whnf
  repeat ((first | refine And.intro (by (conv => arg 2; whnf); (try simp only [z_lit, nI_add, pk_mul, z_pr1, z_pr2]); exact z_in (by omega) (by decide)) ?_ | refine z_bt1 (by decide) ?_ | refine z_bf1 (by decide) ?_ | refine z_bt2 (by decide) ?_ | refine z_bf2 (by decide) ?_); conv => whnf)
  exact ⟨by decide, hQ⟩
theorem st_lat6 (hQ : Q (some (.int 1)) I R J F cn) : z_M (z_X0 L xs) z_P0 d m_String_isLatin1 [.retAddr 6] I R J F cn Q := by
  refine z_WP_gos [] 1000 fun K C hK hC => ?_
  conv => whnf
  repeat ((first | refine And.intro (by (conv => arg 2; whnf); (try simp only [z_lit, nI_add, pk_mul, z_pr1, z_pr2]); exact z_in (by omega) (by decide)) ?_ | refine z_bt1 (by decide) ?_ | refine z_bf1 (by decide) ?_ | refine z_bt2 (by decide) ?_ | refine z_bf2 (by decide) ?_); conv => whnf)
  exact ⟨Or.inr rfl, hQ⟩
theorem st_len6 (hQ : Q (some (.int (nI 4))) I R J F cn) : z_M (z_X0 L xs) z_P0 (d + 1) m_String_length [.retAddr 6] I R J F cn Q := by
  refine z_WP_gos [] 1000 fun K C hK hC => ?_
  conv => whnf
  refine hC _ _ _ _ _ _ _ _ _ _ (fun _ _ _ _ _ _ q => q) (st_cod6 ?_)
  conv => whnf
  exact hQ
theorem st_lch6 {k : Nat} (hk : k < 4) (hQ : Q (some (.int (nI (S6.getD k 0)))) I R J F cn) : z_M (z_X0 L xs) z_P0 (d + 2) m_StringLatin1_charAt [.retAddr 7, .int (nI k)] I R J F cn Q := by
  have hc : ∀ k, k < 4 → (((([115, 101, 110, 100] : List Int32).getD k 0) &&& 255).toUInt32 % 65536).toInt32 = nI (S6.getD k 0) := by decide +kernel
  have h2 : ∀ k, k < 4 → ((nI (S6.getD k 0)).toUInt32 % 65536).toInt32 = nI (S6.getD k 0) := by decide +kernel
  have key : ∀ V : Int32, V = nI (S6.getD k 0) → ((V.toUInt32 % 65536).toInt32 = V ∧ Q (some (.int V)) I R J F cn) := fun V e => by subst e; exact ⟨h2 k hk, hQ⟩
  refine z_WP_gos [] 1000 fun K C hK hC => ?_
  conv => whnf
  refine hC _ _ _ _ _ _ _ _ _ _ (fun _ _ _ _ _ _ q => q) (st_chk2 (n := 4) hk (by decide) ?_)
  conv => whnf
  refine ⟨vp_in_nI (N := 4) hk (by decide), ?_⟩
  conv => whnf
  rw [nI_clamp (by omega), show ((z_X0 L xs).2.1 7).2.2 k = ([115, 101, 110, 100] : List Int32).getD k 0 from rfl]
  exact key _ (hc k hk)
theorem st_chr6 {k : Nat} (hk : k < 4) (hQ : Q (some (.int (nI (S6.getD k 0)))) I R J F cn) : z_M (z_X0 L xs) z_P0 (d + 3) m_String_charAt [.retAddr 6, .int (nI k)] I R J F cn Q := by
  refine z_WP_gos [] 1000 fun K C hK hC => ?_
  conv => whnf
  refine hC _ _ _ _ _ _ _ _ _ _ (fun _ _ _ _ _ _ q => q) (st_lat6 ?_)
  conv => whnf
  repeat ((first | refine And.intro (by (conv => arg 2; whnf); (try simp only [z_lit, nI_add, pk_mul, z_pr1, z_pr2]); exact z_in (by omega) (by decide)) ?_ | refine z_bt1 (by decide) ?_ | refine z_bf1 (by decide) ?_ | refine z_bt2 (by decide) ?_ | refine z_bf2 (by decide) ?_); conv => whnf)
  refine hC _ _ _ _ _ _ _ _ _ _ (fun _ _ _ _ _ _ q => q) (st_lch6 hk ?_)
  conv => whnf
  have h2 : ∀ k, k < 4 → ((nI (S6.getD k 0)).toUInt32 % 65536).toInt32 = nI (S6.getD k 0) := by decide +kernel
  exact ⟨h2 k hk, hQ⟩
abbrev S8 : List Nat := [103, 101, 116]
theorem st_cod8 (hQ : Q (some (.int 0)) I R J F cn) : z_M (z_X0 L xs) z_P0 d m_String_coder [.retAddr 8] I R J F cn Q := by
  refine z_WP_gos [] 1000 fun K C hK hC => ?_
  conv => whnf
  repeat ((first | refine And.intro (by (conv => arg 2; whnf); (try simp only [z_lit, nI_add, pk_mul, z_pr1, z_pr2]); exact z_in (by omega) (by decide)) ?_ | refine z_bt1 (by decide) ?_ | refine z_bf1 (by decide) ?_ | refine z_bt2 (by decide) ?_ | refine z_bf2 (by decide) ?_); conv => whnf)
  exact ⟨by decide, hQ⟩
theorem st_lat8 (hQ : Q (some (.int 1)) I R J F cn) : z_M (z_X0 L xs) z_P0 d m_String_isLatin1 [.retAddr 8] I R J F cn Q := by
  refine z_WP_gos [] 1000 fun K C hK hC => ?_
  conv => whnf
  repeat ((first | refine And.intro (by (conv => arg 2; whnf); (try simp only [z_lit, nI_add, pk_mul, z_pr1, z_pr2]); exact z_in (by omega) (by decide)) ?_ | refine z_bt1 (by decide) ?_ | refine z_bf1 (by decide) ?_ | refine z_bt2 (by decide) ?_ | refine z_bf2 (by decide) ?_); conv => whnf)
  exact ⟨Or.inr rfl, hQ⟩
theorem st_len8 (hQ : Q (some (.int (nI 3))) I R J F cn) : z_M (z_X0 L xs) z_P0 (d + 1) m_String_length [.retAddr 8] I R J F cn Q := by
  refine z_WP_gos [] 1000 fun K C hK hC => ?_
  conv => whnf
  refine hC _ _ _ _ _ _ _ _ _ _ (fun _ _ _ _ _ _ q => q) (st_cod8 ?_)
  conv => whnf
  exact hQ
theorem st_lch8 {k : Nat} (hk : k < 3) (hQ : Q (some (.int (nI (S8.getD k 0)))) I R J F cn) : z_M (z_X0 L xs) z_P0 (d + 2) m_StringLatin1_charAt [.retAddr 9, .int (nI k)] I R J F cn Q := by
  have hc : ∀ k, k < 3 → (((([103, 101, 116] : List Int32).getD k 0) &&& 255).toUInt32 % 65536).toInt32 = nI (S8.getD k 0) := by decide +kernel
  have h2 : ∀ k, k < 3 → ((nI (S8.getD k 0)).toUInt32 % 65536).toInt32 = nI (S8.getD k 0) := by decide +kernel
  have key : ∀ V : Int32, V = nI (S8.getD k 0) → ((V.toUInt32 % 65536).toInt32 = V ∧ Q (some (.int V)) I R J F cn) := fun V e => by subst e; exact ⟨h2 k hk, hQ⟩
  refine z_WP_gos [] 1000 fun K C hK hC => ?_
  conv => whnf
  refine hC _ _ _ _ _ _ _ _ _ _ (fun _ _ _ _ _ _ q => q) (st_chk2 (n := 3) hk (by decide) ?_)
  conv => whnf
  refine ⟨vp_in_nI (N := 3) hk (by decide), ?_⟩
  conv => whnf
  rw [nI_clamp (by omega), show ((z_X0 L xs).2.1 9).2.2 k = ([103, 101, 116] : List Int32).getD k 0 from rfl]
  exact key _ (hc k hk)
theorem st_chr8 {k : Nat} (hk : k < 3) (hQ : Q (some (.int (nI (S8.getD k 0)))) I R J F cn) : z_M (z_X0 L xs) z_P0 (d + 3) m_String_charAt [.retAddr 8, .int (nI k)] I R J F cn Q := by
  refine z_WP_gos [] 1000 fun K C hK hC => ?_
  conv => whnf
  refine hC _ _ _ _ _ _ _ _ _ _ (fun _ _ _ _ _ _ q => q) (st_lat8 ?_)
  conv => whnf
  repeat ((first | refine And.intro (by (conv => arg 2; whnf); (try simp only [z_lit, nI_add, pk_mul, z_pr1, z_pr2]); exact z_in (by omega) (by decide)) ?_ | refine z_bt1 (by decide) ?_ | refine z_bf1 (by decide) ?_ | refine z_bt2 (by decide) ?_ | refine z_bf2 (by decide) ?_); conv => whnf)
  refine hC _ _ _ _ _ _ _ _ _ _ (fun _ _ _ _ _ _ q => q) (st_lch8 hk ?_)
  conv => whnf
  have h2 : ∀ k, k < 3 → ((nI (S8.getD k 0)).toUInt32 % 65536).toInt32 = nI (S8.getD k 0) := by decide +kernel
  exact ⟨h2 k hk, hQ⟩
abbrev S10 : List Nat := [112, 97, 115, 115]
theorem st_cod10 (hQ : Q (some (.int 0)) I R J F cn) : z_M (z_X0 L xs) z_P0 d m_String_coder [.retAddr 10] I R J F cn Q := by
  refine z_WP_gos [] 1000 fun K C hK hC => ?_
  conv => whnf
  repeat ((first | refine And.intro (by (conv => arg 2; whnf); (try simp only [z_lit, nI_add, pk_mul, z_pr1, z_pr2]); exact z_in (by omega) (by decide)) ?_ | refine z_bt1 (by decide) ?_ | refine z_bf1 (by decide) ?_ | refine z_bt2 (by decide) ?_ | refine z_bf2 (by decide) ?_); conv => whnf)
  exact ⟨by decide, hQ⟩
theorem st_lat10 (hQ : Q (some (.int 1)) I R J F cn) : z_M (z_X0 L xs) z_P0 d m_String_isLatin1 [.retAddr 10] I R J F cn Q := by
  refine z_WP_gos [] 1000 fun K C hK hC => ?_
  conv => whnf
  repeat ((first | refine And.intro (by (conv => arg 2; whnf); (try simp only [z_lit, nI_add, pk_mul, z_pr1, z_pr2]); exact z_in (by omega) (by decide)) ?_ | refine z_bt1 (by decide) ?_ | refine z_bf1 (by decide) ?_ | refine z_bt2 (by decide) ?_ | refine z_bf2 (by decide) ?_); conv => whnf)
  exact ⟨Or.inr rfl, hQ⟩
theorem st_len10 (hQ : Q (some (.int (nI 4))) I R J F cn) : z_M (z_X0 L xs) z_P0 (d + 1) m_String_length [.retAddr 10] I R J F cn Q := by
  refine z_WP_gos [] 1000 fun K C hK hC => ?_
  conv => whnf
  refine hC _ _ _ _ _ _ _ _ _ _ (fun _ _ _ _ _ _ q => q) (st_cod10 ?_)
  conv => whnf
  exact hQ
theorem st_lch10 {k : Nat} (hk : k < 4) (hQ : Q (some (.int (nI (S10.getD k 0)))) I R J F cn) : z_M (z_X0 L xs) z_P0 (d + 2) m_StringLatin1_charAt [.retAddr 11, .int (nI k)] I R J F cn Q := by
  have hc : ∀ k, k < 4 → (((([112, 97, 115, 115] : List Int32).getD k 0) &&& 255).toUInt32 % 65536).toInt32 = nI (S10.getD k 0) := by decide +kernel
  have h2 : ∀ k, k < 4 → ((nI (S10.getD k 0)).toUInt32 % 65536).toInt32 = nI (S10.getD k 0) := by decide +kernel
  have key : ∀ V : Int32, V = nI (S10.getD k 0) → ((V.toUInt32 % 65536).toInt32 = V ∧ Q (some (.int V)) I R J F cn) := fun V e => by subst e; exact ⟨h2 k hk, hQ⟩
  refine z_WP_gos [] 1000 fun K C hK hC => ?_
  conv => whnf
  refine hC _ _ _ _ _ _ _ _ _ _ (fun _ _ _ _ _ _ q => q) (st_chk2 (n := 4) hk (by decide) ?_)
  conv => whnf
  refine ⟨vp_in_nI (N := 4) hk (by decide), ?_⟩
  conv => whnf
  rw [nI_clamp (by omega), show ((z_X0 L xs).2.1 11).2.2 k = ([112, 97, 115, 115] : List Int32).getD k 0 from rfl]
  exact key _ (hc k hk)
theorem st_chr10 {k : Nat} (hk : k < 4) (hQ : Q (some (.int (nI (S10.getD k 0)))) I R J F cn) : z_M (z_X0 L xs) z_P0 (d + 3) m_String_charAt [.retAddr 10, .int (nI k)] I R J F cn Q := by
  refine z_WP_gos [] 1000 fun K C hK hC => ?_
  conv => whnf
  refine hC _ _ _ _ _ _ _ _ _ _ (fun _ _ _ _ _ _ q => q) (st_lat10 ?_)
  conv => whnf
  repeat ((first | refine And.intro (by (conv => arg 2; whnf); (try simp only [z_lit, nI_add, pk_mul, z_pr1, z_pr2]); exact z_in (by omega) (by decide)) ?_ | refine z_bt1 (by decide) ?_ | refine z_bf1 (by decide) ?_ | refine z_bt2 (by decide) ?_ | refine z_bf2 (by decide) ?_); conv => whnf)
  refine hC _ _ _ _ _ _ _ _ _ _ (fun _ _ _ _ _ _ q => q) (st_lch10 hk ?_)
  conv => whnf
  have h2 : ∀ k, k < 4 → ((nI (S10.getD k 0)).toUInt32 % 65536).toInt32 = nI (S10.getD k 0) := by decide +kernel
  exact ⟨h2 k hk, hQ⟩
abbrev S12 : List Nat := [97, 108, 108]
theorem st_cod12 (hQ : Q (some (.int 0)) I R J F cn) : z_M (z_X0 L xs) z_P0 d m_String_coder [.retAddr 12] I R J F cn Q := by
  refine z_WP_gos [] 1000 fun K C hK hC => ?_
  conv => whnf
  repeat ((first | refine And.intro (by (conv => arg 2; whnf); (try simp only [z_lit, nI_add, pk_mul, z_pr1, z_pr2]); exact z_in (by omega) (by decide)) ?_ | refine z_bt1 (by decide) ?_ | refine z_bf1 (by decide) ?_ | refine z_bt2 (by decide) ?_ | refine z_bf2 (by decide) ?_); conv => whnf)
  exact ⟨by decide, hQ⟩
theorem st_lat12 (hQ : Q (some (.int 1)) I R J F cn) : z_M (z_X0 L xs) z_P0 d m_String_isLatin1 [.retAddr 12] I R J F cn Q := by
  refine z_WP_gos [] 1000 fun K C hK hC => ?_
  conv => whnf
  repeat ((first | refine And.intro (by (conv => arg 2; whnf); (try simp only [z_lit, nI_add, pk_mul, z_pr1, z_pr2]); exact z_in (by omega) (by decide)) ?_ | refine z_bt1 (by decide) ?_ | refine z_bf1 (by decide) ?_ | refine z_bt2 (by decide) ?_ | refine z_bf2 (by decide) ?_); conv => whnf)
  exact ⟨Or.inr rfl, hQ⟩
theorem st_len12 (hQ : Q (some (.int (nI 3))) I R J F cn) : z_M (z_X0 L xs) z_P0 (d + 1) m_String_length [.retAddr 12] I R J F cn Q := by
  refine z_WP_gos [] 1000 fun K C hK hC => ?_
  conv => whnf
  refine hC _ _ _ _ _ _ _ _ _ _ (fun _ _ _ _ _ _ q => q) (st_cod12 ?_)
  conv => whnf
  exact hQ
theorem st_lch12 {k : Nat} (hk : k < 3) (hQ : Q (some (.int (nI (S12.getD k 0)))) I R J F cn) : z_M (z_X0 L xs) z_P0 (d + 2) m_StringLatin1_charAt [.retAddr 13, .int (nI k)] I R J F cn Q := by
  have hc : ∀ k, k < 3 → (((([97, 108, 108] : List Int32).getD k 0) &&& 255).toUInt32 % 65536).toInt32 = nI (S12.getD k 0) := by decide +kernel
  have h2 : ∀ k, k < 3 → ((nI (S12.getD k 0)).toUInt32 % 65536).toInt32 = nI (S12.getD k 0) := by decide +kernel
  have key : ∀ V : Int32, V = nI (S12.getD k 0) → ((V.toUInt32 % 65536).toInt32 = V ∧ Q (some (.int V)) I R J F cn) := fun V e => by subst e; exact ⟨h2 k hk, hQ⟩
  refine z_WP_gos [] 1000 fun K C hK hC => ?_
  conv => whnf
  refine hC _ _ _ _ _ _ _ _ _ _ (fun _ _ _ _ _ _ q => q) (st_chk2 (n := 3) hk (by decide) ?_)
  conv => whnf
  refine ⟨vp_in_nI (N := 3) hk (by decide), ?_⟩
  conv => whnf
  rw [nI_clamp (by omega), show ((z_X0 L xs).2.1 13).2.2 k = ([97, 108, 108] : List Int32).getD k 0 from rfl]
  exact key _ (hc k hk)
theorem st_chr12 {k : Nat} (hk : k < 3) (hQ : Q (some (.int (nI (S12.getD k 0)))) I R J F cn) : z_M (z_X0 L xs) z_P0 (d + 3) m_String_charAt [.retAddr 12, .int (nI k)] I R J F cn Q := by
  refine z_WP_gos [] 1000 fun K C hK hC => ?_
  conv => whnf
  refine hC _ _ _ _ _ _ _ _ _ _ (fun _ _ _ _ _ _ q => q) (st_lat12 ?_)
  conv => whnf
  repeat ((first | refine And.intro (by (conv => arg 2; whnf); (try simp only [z_lit, nI_add, pk_mul, z_pr1, z_pr2]); exact z_in (by omega) (by decide)) ?_ | refine z_bt1 (by decide) ?_ | refine z_bf1 (by decide) ?_ | refine z_bt2 (by decide) ?_ | refine z_bf2 (by decide) ?_); conv => whnf)
  refine hC _ _ _ _ _ _ _ _ _ _ (fun _ _ _ _ _ _ q => q) (st_lch12 hk ?_)
  conv => whnf
  have h2 : ∀ k, k < 3 → ((nI (S12.getD k 0)).toUInt32 % 65536).toInt32 = nI (S12.getD k 0) := by decide +kernel
  exact ⟨h2 k hk, hQ⟩
abbrev S14 : List Nat := [109, 111, 100, 101]
theorem st_cod14 (hQ : Q (some (.int 0)) I R J F cn) : z_M (z_X0 L xs) z_P0 d m_String_coder [.retAddr 14] I R J F cn Q := by
  refine z_WP_gos [] 1000 fun K C hK hC => ?_
  conv => whnf
  repeat ((first | refine And.intro (by (conv => arg 2; whnf); (try simp only [z_lit, nI_add, pk_mul, z_pr1, z_pr2]); exact z_in (by omega) (by decide)) ?_ | refine z_bt1 (by decide) ?_ | refine z_bf1 (by decide) ?_ | refine z_bt2 (by decide) ?_ | refine z_bf2 (by decide) ?_); conv => whnf)
  exact ⟨by decide, hQ⟩
theorem st_lat14 (hQ : Q (some (.int 1)) I R J F cn) : z_M (z_X0 L xs) z_P0 d m_String_isLatin1 [.retAddr 14] I R J F cn Q := by
  refine z_WP_gos [] 1000 fun K C hK hC => ?_
  conv => whnf
  repeat ((first | refine And.intro (by (conv => arg 2; whnf); (try simp only [z_lit, nI_add, pk_mul, z_pr1, z_pr2]); exact z_in (by omega) (by decide)) ?_ | refine z_bt1 (by decide) ?_ | refine z_bf1 (by decide) ?_ | refine z_bt2 (by decide) ?_ | refine z_bf2 (by decide) ?_); conv => whnf)
  exact ⟨Or.inr rfl, hQ⟩
theorem st_len14 (hQ : Q (some (.int (nI 4))) I R J F cn) : z_M (z_X0 L xs) z_P0 (d + 1) m_String_length [.retAddr 14] I R J F cn Q := by
  refine z_WP_gos [] 1000 fun K C hK hC => ?_
  conv => whnf
  refine hC _ _ _ _ _ _ _ _ _ _ (fun _ _ _ _ _ _ q => q) (st_cod14 ?_)
  conv => whnf
  exact hQ
theorem st_lch14 {k : Nat} (hk : k < 4) (hQ : Q (some (.int (nI (S14.getD k 0)))) I R J F cn) : z_M (z_X0 L xs) z_P0 (d + 2) m_StringLatin1_charAt [.retAddr 15, .int (nI k)] I R J F cn Q := by
  have hc : ∀ k, k < 4 → (((([109, 111, 100, 101] : List Int32).getD k 0) &&& 255).toUInt32 % 65536).toInt32 = nI (S14.getD k 0) := by decide +kernel
  have h2 : ∀ k, k < 4 → ((nI (S14.getD k 0)).toUInt32 % 65536).toInt32 = nI (S14.getD k 0) := by decide +kernel
  have key : ∀ V : Int32, V = nI (S14.getD k 0) → ((V.toUInt32 % 65536).toInt32 = V ∧ Q (some (.int V)) I R J F cn) := fun V e => by subst e; exact ⟨h2 k hk, hQ⟩
  refine z_WP_gos [] 1000 fun K C hK hC => ?_
  conv => whnf
  refine hC _ _ _ _ _ _ _ _ _ _ (fun _ _ _ _ _ _ q => q) (st_chk2 (n := 4) hk (by decide) ?_)
  conv => whnf
  refine ⟨vp_in_nI (N := 4) hk (by decide), ?_⟩
  conv => whnf
  rw [nI_clamp (by omega), show ((z_X0 L xs).2.1 15).2.2 k = ([109, 111, 100, 101] : List Int32).getD k 0 from rfl]
  exact key _ (hc k hk)
theorem st_chr14 {k : Nat} (hk : k < 4) (hQ : Q (some (.int (nI (S14.getD k 0)))) I R J F cn) : z_M (z_X0 L xs) z_P0 (d + 3) m_String_charAt [.retAddr 14, .int (nI k)] I R J F cn Q := by
  refine z_WP_gos [] 1000 fun K C hK hC => ?_
  conv => whnf
  refine hC _ _ _ _ _ _ _ _ _ _ (fun _ _ _ _ _ _ q => q) (st_lat14 ?_)
  conv => whnf
  repeat ((first | refine And.intro (by (conv => arg 2; whnf); (try simp only [z_lit, nI_add, pk_mul, z_pr1, z_pr2]); exact z_in (by omega) (by decide)) ?_ | refine z_bt1 (by decide) ?_ | refine z_bf1 (by decide) ?_ | refine z_bt2 (by decide) ?_ | refine z_bf2 (by decide) ?_); conv => whnf)
  refine hC _ _ _ _ _ _ _ _ _ _ (fun _ _ _ _ _ _ q => q) (st_lch14 hk ?_)
  conv => whnf
  have h2 : ∀ k, k < 4 → ((nI (S14.getD k 0)).toUInt32 % 65536).toInt32 = nI (S14.getD k 0) := by decide +kernel
  exact ⟨h2 k hk, hQ⟩
abbrev S16 : List Nat := [104, 97, 110, 100]
theorem st_cod16 (hQ : Q (some (.int 0)) I R J F cn) : z_M (z_X0 L xs) z_P0 d m_String_coder [.retAddr 16] I R J F cn Q := by
  refine z_WP_gos [] 1000 fun K C hK hC => ?_
  conv => whnf
  repeat ((first | refine And.intro (by (conv => arg 2; whnf); (try simp only [z_lit, nI_add, pk_mul, z_pr1, z_pr2]); exact z_in (by omega) (by decide)) ?_ | refine z_bt1 (by decide) ?_ | refine z_bf1 (by decide) ?_ | refine z_bt2 (by decide) ?_ | refine z_bf2 (by decide) ?_); conv => whnf)
  exact ⟨by decide, hQ⟩
theorem st_lat16 (hQ : Q (some (.int 1)) I R J F cn) : z_M (z_X0 L xs) z_P0 d m_String_isLatin1 [.retAddr 16] I R J F cn Q := by
  refine z_WP_gos [] 1000 fun K C hK hC => ?_
  conv => whnf
  repeat ((first | refine And.intro (by (conv => arg 2; whnf); (try simp only [z_lit, nI_add, pk_mul, z_pr1, z_pr2]); exact z_in (by omega) (by decide)) ?_ | refine z_bt1 (by decide) ?_ | refine z_bf1 (by decide) ?_ | refine z_bt2 (by decide) ?_ | refine z_bf2 (by decide) ?_); conv => whnf)
  exact ⟨Or.inr rfl, hQ⟩
theorem st_len16 (hQ : Q (some (.int (nI 4))) I R J F cn) : z_M (z_X0 L xs) z_P0 (d + 1) m_String_length [.retAddr 16] I R J F cn Q := by
  refine z_WP_gos [] 1000 fun K C hK hC => ?_
  conv => whnf
  refine hC _ _ _ _ _ _ _ _ _ _ (fun _ _ _ _ _ _ q => q) (st_cod16 ?_)
  conv => whnf
  exact hQ
theorem st_lch16 {k : Nat} (hk : k < 4) (hQ : Q (some (.int (nI (S16.getD k 0)))) I R J F cn) : z_M (z_X0 L xs) z_P0 (d + 2) m_StringLatin1_charAt [.retAddr 17, .int (nI k)] I R J F cn Q := by
  have hc : ∀ k, k < 4 → (((([104, 97, 110, 100] : List Int32).getD k 0) &&& 255).toUInt32 % 65536).toInt32 = nI (S16.getD k 0) := by decide +kernel
  have h2 : ∀ k, k < 4 → ((nI (S16.getD k 0)).toUInt32 % 65536).toInt32 = nI (S16.getD k 0) := by decide +kernel
  have key : ∀ V : Int32, V = nI (S16.getD k 0) → ((V.toUInt32 % 65536).toInt32 = V ∧ Q (some (.int V)) I R J F cn) := fun V e => by subst e; exact ⟨h2 k hk, hQ⟩
  refine z_WP_gos [] 1000 fun K C hK hC => ?_
  conv => whnf
  refine hC _ _ _ _ _ _ _ _ _ _ (fun _ _ _ _ _ _ q => q) (st_chk2 (n := 4) hk (by decide) ?_)
  conv => whnf
  refine ⟨vp_in_nI (N := 4) hk (by decide), ?_⟩
  conv => whnf
  rw [nI_clamp (by omega), show ((z_X0 L xs).2.1 17).2.2 k = ([104, 97, 110, 100] : List Int32).getD k 0 from rfl]
  exact key _ (hc k hk)
theorem st_chr16 {k : Nat} (hk : k < 4) (hQ : Q (some (.int (nI (S16.getD k 0)))) I R J F cn) : z_M (z_X0 L xs) z_P0 (d + 3) m_String_charAt [.retAddr 16, .int (nI k)] I R J F cn Q := by
  refine z_WP_gos [] 1000 fun K C hK hC => ?_
  conv => whnf
  refine hC _ _ _ _ _ _ _ _ _ _ (fun _ _ _ _ _ _ q => q) (st_lat16 ?_)
  conv => whnf
  repeat ((first | refine And.intro (by (conv => arg 2; whnf); (try simp only [z_lit, nI_add, pk_mul, z_pr1, z_pr2]); exact z_in (by omega) (by decide)) ?_ | refine z_bt1 (by decide) ?_ | refine z_bf1 (by decide) ?_ | refine z_bt2 (by decide) ?_ | refine z_bf2 (by decide) ?_); conv => whnf)
  refine hC _ _ _ _ _ _ _ _ _ _ (fun _ _ _ _ _ _ q => q) (st_lch16 hk ?_)
  conv => whnf
  have h2 : ∀ k, k < 4 → ((nI (S16.getD k 0)).toUInt32 % 65536).toInt32 = nI (S16.getD k 0) := by decide +kernel
  exact ⟨h2 k hk, hQ⟩
abbrev S18 : List Nat := [101, 118, 101, 114, 121]
theorem st_cod18 (hQ : Q (some (.int 0)) I R J F cn) : z_M (z_X0 L xs) z_P0 d m_String_coder [.retAddr 18] I R J F cn Q := by
  refine z_WP_gos [] 1000 fun K C hK hC => ?_
  conv => whnf
  repeat ((first | refine And.intro (by (conv => arg 2; whnf); (try simp only [z_lit, nI_add, pk_mul, z_pr1, z_pr2]); exact z_in (by omega) (by decide)) ?_ | refine z_bt1 (by decide) ?_ | refine z_bf1 (by decide) ?_ | refine z_bt2 (by decide) ?_ | refine z_bf2 (by decide) ?_); conv => whnf)
  exact ⟨by decide, hQ⟩
theorem st_lat18 (hQ : Q (some (.int 1)) I R J F cn) : z_M (z_X0 L xs) z_P0 d m_String_isLatin1 [.retAddr 18] I R J F cn Q := by
  refine z_WP_gos [] 1000 fun K C hK hC => ?_
  conv => whnf
  repeat ((first | refine And.intro (by (conv => arg 2; whnf); (try simp only [z_lit, nI_add, pk_mul, z_pr1, z_pr2]); exact z_in (by omega) (by decide)) ?_ | refine z_bt1 (by decide) ?_ | refine z_bf1 (by decide) ?_ | refine z_bt2 (by decide) ?_ | refine z_bf2 (by decide) ?_); conv => whnf)
  exact ⟨Or.inr rfl, hQ⟩
theorem st_len18 (hQ : Q (some (.int (nI 5))) I R J F cn) : z_M (z_X0 L xs) z_P0 (d + 1) m_String_length [.retAddr 18] I R J F cn Q := by
  refine z_WP_gos [] 1000 fun K C hK hC => ?_
  conv => whnf
  refine hC _ _ _ _ _ _ _ _ _ _ (fun _ _ _ _ _ _ q => q) (st_cod18 ?_)
  conv => whnf
  exact hQ
theorem st_lch18 {k : Nat} (hk : k < 5) (hQ : Q (some (.int (nI (S18.getD k 0)))) I R J F cn) : z_M (z_X0 L xs) z_P0 (d + 2) m_StringLatin1_charAt [.retAddr 19, .int (nI k)] I R J F cn Q := by
  have hc : ∀ k, k < 5 → (((([101, 118, 101, 114, 121] : List Int32).getD k 0) &&& 255).toUInt32 % 65536).toInt32 = nI (S18.getD k 0) := by decide +kernel
  have h2 : ∀ k, k < 5 → ((nI (S18.getD k 0)).toUInt32 % 65536).toInt32 = nI (S18.getD k 0) := by decide +kernel
  have key : ∀ V : Int32, V = nI (S18.getD k 0) → ((V.toUInt32 % 65536).toInt32 = V ∧ Q (some (.int V)) I R J F cn) := fun V e => by subst e; exact ⟨h2 k hk, hQ⟩
  refine z_WP_gos [] 1000 fun K C hK hC => ?_
  conv => whnf
  refine hC _ _ _ _ _ _ _ _ _ _ (fun _ _ _ _ _ _ q => q) (st_chk2 (n := 5) hk (by decide) ?_)
  conv => whnf
  refine ⟨vp_in_nI (N := 5) hk (by decide), ?_⟩
  conv => whnf
  rw [nI_clamp (by omega), show ((z_X0 L xs).2.1 19).2.2 k = ([101, 118, 101, 114, 121] : List Int32).getD k 0 from rfl]
  exact key _ (hc k hk)
theorem st_chr18 {k : Nat} (hk : k < 5) (hQ : Q (some (.int (nI (S18.getD k 0)))) I R J F cn) : z_M (z_X0 L xs) z_P0 (d + 3) m_String_charAt [.retAddr 18, .int (nI k)] I R J F cn Q := by
  refine z_WP_gos [] 1000 fun K C hK hC => ?_
  conv => whnf
  refine hC _ _ _ _ _ _ _ _ _ _ (fun _ _ _ _ _ _ q => q) (st_lat18 ?_)
  conv => whnf
  repeat ((first | refine And.intro (by (conv => arg 2; whnf); (try simp only [z_lit, nI_add, pk_mul, z_pr1, z_pr2]); exact z_in (by omega) (by decide)) ?_ | refine z_bt1 (by decide) ?_ | refine z_bf1 (by decide) ?_ | refine z_bt2 (by decide) ?_ | refine z_bf2 (by decide) ?_); conv => whnf)
  refine hC _ _ _ _ _ _ _ _ _ _ (fun _ _ _ _ _ _ q => q) (st_lch18 hk ?_)
  conv => whnf
  have h2 : ∀ k, k < 5 → ((nI (S18.getD k 0)).toUInt32 % 65536).toInt32 = nI (S18.getD k 0) := by decide +kernel
  exact ⟨h2 k hk, hQ⟩
abbrev S20 : List Nat := [97, 116]
theorem st_cod20 (hQ : Q (some (.int 0)) I R J F cn) : z_M (z_X0 L xs) z_P0 d m_String_coder [.retAddr 20] I R J F cn Q := by
  refine z_WP_gos [] 1000 fun K C hK hC => ?_
  conv => whnf
  repeat ((first | refine And.intro (by (conv => arg 2; whnf); (try simp only [z_lit, nI_add, pk_mul, z_pr1, z_pr2]); exact z_in (by omega) (by decide)) ?_ | refine z_bt1 (by decide) ?_ | refine z_bf1 (by decide) ?_ | refine z_bt2 (by decide) ?_ | refine z_bf2 (by decide) ?_); conv => whnf)
  exact ⟨by decide, hQ⟩
theorem st_lat20 (hQ : Q (some (.int 1)) I R J F cn) : z_M (z_X0 L xs) z_P0 d m_String_isLatin1 [.retAddr 20] I R J F cn Q := by
  refine z_WP_gos [] 1000 fun K C hK hC => ?_
  conv => whnf
  repeat ((first | refine And.intro (by (conv => arg 2; whnf); (try simp only [z_lit, nI_add, pk_mul, z_pr1, z_pr2]); exact z_in (by omega) (by decide)) ?_ | refine z_bt1 (by decide) ?_ | refine z_bf1 (by decide) ?_ | refine z_bt2 (by decide) ?_ | refine z_bf2 (by decide) ?_); conv => whnf)
  exact ⟨Or.inr rfl, hQ⟩
theorem st_len20 (hQ : Q (some (.int (nI 2))) I R J F cn) : z_M (z_X0 L xs) z_P0 (d + 1) m_String_length [.retAddr 20] I R J F cn Q := by
  refine z_WP_gos [] 1000 fun K C hK hC => ?_
  conv => whnf
  refine hC _ _ _ _ _ _ _ _ _ _ (fun _ _ _ _ _ _ q => q) (st_cod20 ?_)
  conv => whnf
  exact hQ
theorem st_lch20 {k : Nat} (hk : k < 2) (hQ : Q (some (.int (nI (S20.getD k 0)))) I R J F cn) : z_M (z_X0 L xs) z_P0 (d + 2) m_StringLatin1_charAt [.retAddr 21, .int (nI k)] I R J F cn Q := by
  have hc : ∀ k, k < 2 → (((([97, 116] : List Int32).getD k 0) &&& 255).toUInt32 % 65536).toInt32 = nI (S20.getD k 0) := by decide +kernel
  have h2 : ∀ k, k < 2 → ((nI (S20.getD k 0)).toUInt32 % 65536).toInt32 = nI (S20.getD k 0) := by decide +kernel
  have key : ∀ V : Int32, V = nI (S20.getD k 0) → ((V.toUInt32 % 65536).toInt32 = V ∧ Q (some (.int V)) I R J F cn) := fun V e => by subst e; exact ⟨h2 k hk, hQ⟩
  refine z_WP_gos [] 1000 fun K C hK hC => ?_
  conv => whnf
  refine hC _ _ _ _ _ _ _ _ _ _ (fun _ _ _ _ _ _ q => q) (st_chk2 (n := 2) hk (by decide) ?_)
  conv => whnf
  refine ⟨vp_in_nI (N := 2) hk (by decide), ?_⟩
  conv => whnf
  rw [nI_clamp (by omega), show ((z_X0 L xs).2.1 21).2.2 k = ([97, 116] : List Int32).getD k 0 from rfl]
  exact key _ (hc k hk)
theorem st_chr20 {k : Nat} (hk : k < 2) (hQ : Q (some (.int (nI (S20.getD k 0)))) I R J F cn) : z_M (z_X0 L xs) z_P0 (d + 3) m_String_charAt [.retAddr 20, .int (nI k)] I R J F cn Q := by
  refine z_WP_gos [] 1000 fun K C hK hC => ?_
  conv => whnf
  refine hC _ _ _ _ _ _ _ _ _ _ (fun _ _ _ _ _ _ q => q) (st_lat20 ?_)
  conv => whnf
  repeat ((first | refine And.intro (by (conv => arg 2; whnf); (try simp only [z_lit, nI_add, pk_mul, z_pr1, z_pr2]); exact z_in (by omega) (by decide)) ?_ | refine z_bt1 (by decide) ?_ | refine z_bf1 (by decide) ?_ | refine z_bt2 (by decide) ?_ | refine z_bf2 (by decide) ?_); conv => whnf)
  refine hC _ _ _ _ _ _ _ _ _ _ (fun _ _ _ _ _ _ q => q) (st_lch20 hk ?_)
  conv => whnf
  have h2 : ∀ k, k < 2 → ((nI (S20.getD k 0)).toUInt32 % 65536).toInt32 = nI (S20.getD k 0) := by decide +kernel
  exact ⟨h2 k hk, hQ⟩
abbrev S22 : List Nat := [97, 110, 121]
theorem st_cod22 (hQ : Q (some (.int 0)) I R J F cn) : z_M (z_X0 L xs) z_P0 d m_String_coder [.retAddr 22] I R J F cn Q := by
  refine z_WP_gos [] 1000 fun K C hK hC => ?_
  conv => whnf
  repeat ((first | refine And.intro (by (conv => arg 2; whnf); (try simp only [z_lit, nI_add, pk_mul, z_pr1, z_pr2]); exact z_in (by omega) (by decide)) ?_ | refine z_bt1 (by decide) ?_ | refine z_bf1 (by decide) ?_ | refine z_bt2 (by decide) ?_ | refine z_bf2 (by decide) ?_); conv => whnf)
  exact ⟨by decide, hQ⟩
theorem st_lat22 (hQ : Q (some (.int 1)) I R J F cn) : z_M (z_X0 L xs) z_P0 d m_String_isLatin1 [.retAddr 22] I R J F cn Q := by
  refine z_WP_gos [] 1000 fun K C hK hC => ?_
  conv => whnf
  repeat ((first | refine And.intro (by (conv => arg 2; whnf); (try simp only [z_lit, nI_add, pk_mul, z_pr1, z_pr2]); exact z_in (by omega) (by decide)) ?_ | refine z_bt1 (by decide) ?_ | refine z_bf1 (by decide) ?_ | refine z_bt2 (by decide) ?_ | refine z_bf2 (by decide) ?_); conv => whnf)
  exact ⟨Or.inr rfl, hQ⟩
theorem st_len22 (hQ : Q (some (.int (nI 3))) I R J F cn) : z_M (z_X0 L xs) z_P0 (d + 1) m_String_length [.retAddr 22] I R J F cn Q := by
  refine z_WP_gos [] 1000 fun K C hK hC => ?_
  conv => whnf
  refine hC _ _ _ _ _ _ _ _ _ _ (fun _ _ _ _ _ _ q => q) (st_cod22 ?_)
  conv => whnf
  exact hQ
theorem st_lch22 {k : Nat} (hk : k < 3) (hQ : Q (some (.int (nI (S22.getD k 0)))) I R J F cn) : z_M (z_X0 L xs) z_P0 (d + 2) m_StringLatin1_charAt [.retAddr 23, .int (nI k)] I R J F cn Q := by
  have hc : ∀ k, k < 3 → (((([97, 110, 121] : List Int32).getD k 0) &&& 255).toUInt32 % 65536).toInt32 = nI (S22.getD k 0) := by decide +kernel
  have h2 : ∀ k, k < 3 → ((nI (S22.getD k 0)).toUInt32 % 65536).toInt32 = nI (S22.getD k 0) := by decide +kernel
  have key : ∀ V : Int32, V = nI (S22.getD k 0) → ((V.toUInt32 % 65536).toInt32 = V ∧ Q (some (.int V)) I R J F cn) := fun V e => by subst e; exact ⟨h2 k hk, hQ⟩
  refine z_WP_gos [] 1000 fun K C hK hC => ?_
  conv => whnf
  refine hC _ _ _ _ _ _ _ _ _ _ (fun _ _ _ _ _ _ q => q) (st_chk2 (n := 3) hk (by decide) ?_)
  conv => whnf
  refine ⟨vp_in_nI (N := 3) hk (by decide), ?_⟩
  conv => whnf
  rw [nI_clamp (by omega), show ((z_X0 L xs).2.1 23).2.2 k = ([97, 110, 121] : List Int32).getD k 0 from rfl]
  exact key _ (hc k hk)
theorem st_chr22 {k : Nat} (hk : k < 3) (hQ : Q (some (.int (nI (S22.getD k 0)))) I R J F cn) : z_M (z_X0 L xs) z_P0 (d + 3) m_String_charAt [.retAddr 22, .int (nI k)] I R J F cn Q := by
  refine z_WP_gos [] 1000 fun K C hK hC => ?_
  conv => whnf
  refine hC _ _ _ _ _ _ _ _ _ _ (fun _ _ _ _ _ _ q => q) (st_lat22 ?_)
  conv => whnf
  repeat ((first | refine And.intro (by (conv => arg 2; whnf); (try simp only [z_lit, nI_add, pk_mul, z_pr1, z_pr2]); exact z_in (by omega) (by decide)) ?_ | refine z_bt1 (by decide) ?_ | refine z_bf1 (by decide) ?_ | refine z_bt2 (by decide) ?_ | refine z_bf2 (by decide) ?_); conv => whnf)
  refine hC _ _ _ _ _ _ _ _ _ _ (fun _ _ _ _ _ _ q => q) (st_lch22 hk ?_)
  conv => whnf
  have h2 : ∀ k, k < 3 → ((nI (S22.getD k 0)).toUInt32 % 65536).toInt32 = nI (S22.getD k 0) := by decide +kernel
  exact ⟨h2 k hk, hQ⟩
abbrev S24 : List Nat := [111, 110]
theorem st_cod24 (hQ : Q (some (.int 0)) I R J F cn) : z_M (z_X0 L xs) z_P0 d m_String_coder [.retAddr 24] I R J F cn Q := by
  refine z_WP_gos [] 1000 fun K C hK hC => ?_
  conv => whnf
  repeat ((first | refine And.intro (by (conv => arg 2; whnf); (try simp only [z_lit, nI_add, pk_mul, z_pr1, z_pr2]); exact z_in (by omega) (by decide)) ?_ | refine z_bt1 (by decide) ?_ | refine z_bf1 (by decide) ?_ | refine z_bt2 (by decide) ?_ | refine z_bf2 (by decide) ?_); conv => whnf)
  exact ⟨by decide, hQ⟩
theorem st_lat24 (hQ : Q (some (.int 1)) I R J F cn) : z_M (z_X0 L xs) z_P0 d m_String_isLatin1 [.retAddr 24] I R J F cn Q := by
  refine z_WP_gos [] 1000 fun K C hK hC => ?_
  conv => whnf
  repeat ((first | refine And.intro (by (conv => arg 2; whnf); (try simp only [z_lit, nI_add, pk_mul, z_pr1, z_pr2]); exact z_in (by omega) (by decide)) ?_ | refine z_bt1 (by decide) ?_ | refine z_bf1 (by decide) ?_ | refine z_bt2 (by decide) ?_ | refine z_bf2 (by decide) ?_); conv => whnf)
  exact ⟨Or.inr rfl, hQ⟩
theorem st_len24 (hQ : Q (some (.int (nI 2))) I R J F cn) : z_M (z_X0 L xs) z_P0 (d + 1) m_String_length [.retAddr 24] I R J F cn Q := by
  refine z_WP_gos [] 1000 fun K C hK hC => ?_
  conv => whnf
  refine hC _ _ _ _ _ _ _ _ _ _ (fun _ _ _ _ _ _ q => q) (st_cod24 ?_)
  conv => whnf
  exact hQ
theorem st_lch24 {k : Nat} (hk : k < 2) (hQ : Q (some (.int (nI (S24.getD k 0)))) I R J F cn) : z_M (z_X0 L xs) z_P0 (d + 2) m_StringLatin1_charAt [.retAddr 25, .int (nI k)] I R J F cn Q := by
  have hc : ∀ k, k < 2 → (((([111, 110] : List Int32).getD k 0) &&& 255).toUInt32 % 65536).toInt32 = nI (S24.getD k 0) := by decide +kernel
  have h2 : ∀ k, k < 2 → ((nI (S24.getD k 0)).toUInt32 % 65536).toInt32 = nI (S24.getD k 0) := by decide +kernel
  have key : ∀ V : Int32, V = nI (S24.getD k 0) → ((V.toUInt32 % 65536).toInt32 = V ∧ Q (some (.int V)) I R J F cn) := fun V e => by subst e; exact ⟨h2 k hk, hQ⟩
  refine z_WP_gos [] 1000 fun K C hK hC => ?_
  conv => whnf
  refine hC _ _ _ _ _ _ _ _ _ _ (fun _ _ _ _ _ _ q => q) (st_chk2 (n := 2) hk (by decide) ?_)
  conv => whnf
  refine ⟨vp_in_nI (N := 2) hk (by decide), ?_⟩
  conv => whnf
  rw [nI_clamp (by omega), show ((z_X0 L xs).2.1 25).2.2 k = ([111, 110] : List Int32).getD k 0 from rfl]
  exact key _ (hc k hk)
theorem st_chr24 {k : Nat} (hk : k < 2) (hQ : Q (some (.int (nI (S24.getD k 0)))) I R J F cn) : z_M (z_X0 L xs) z_P0 (d + 3) m_String_charAt [.retAddr 24, .int (nI k)] I R J F cn Q := by
  refine z_WP_gos [] 1000 fun K C hK hC => ?_
  conv => whnf
  refine hC _ _ _ _ _ _ _ _ _ _ (fun _ _ _ _ _ _ q => q) (st_lat24 ?_)
  conv => whnf
  repeat ((first | refine And.intro (by (conv => arg 2; whnf); (try simp only [z_lit, nI_add, pk_mul, z_pr1, z_pr2]); exact z_in (by omega) (by decide)) ?_ | refine z_bt1 (by decide) ?_ | refine z_bf1 (by decide) ?_ | refine z_bt2 (by decide) ?_ | refine z_bf2 (by decide) ?_); conv => whnf)
  refine hC _ _ _ _ _ _ _ _ _ _ (fun _ _ _ _ _ _ q => q) (st_lch24 hk ?_)
  conv => whnf
  have h2 : ∀ k, k < 2 → ((nI (S24.getD k 0)).toUInt32 % 65536).toInt32 = nI (S24.getD k 0) := by decide +kernel
  exact ⟨h2 k hk, hQ⟩
abbrev S26 : List Nat := [112, 111, 119, 101, 114]
theorem st_cod26 (hQ : Q (some (.int 0)) I R J F cn) : z_M (z_X0 L xs) z_P0 d m_String_coder [.retAddr 26] I R J F cn Q := by
  refine z_WP_gos [] 1000 fun K C hK hC => ?_
  conv => whnf
  repeat ((first | refine And.intro (by (conv => arg 2; whnf); (try simp only [z_lit, nI_add, pk_mul, z_pr1, z_pr2]); exact z_in (by omega) (by decide)) ?_ | refine z_bt1 (by decide) ?_ | refine z_bf1 (by decide) ?_ | refine z_bt2 (by decide) ?_ | refine z_bf2 (by decide) ?_); conv => whnf)
  exact ⟨by decide, hQ⟩
theorem st_lat26 (hQ : Q (some (.int 1)) I R J F cn) : z_M (z_X0 L xs) z_P0 d m_String_isLatin1 [.retAddr 26] I R J F cn Q := by
  refine z_WP_gos [] 1000 fun K C hK hC => ?_
  conv => whnf
  repeat ((first | refine And.intro (by (conv => arg 2; whnf); (try simp only [z_lit, nI_add, pk_mul, z_pr1, z_pr2]); exact z_in (by omega) (by decide)) ?_ | refine z_bt1 (by decide) ?_ | refine z_bf1 (by decide) ?_ | refine z_bt2 (by decide) ?_ | refine z_bf2 (by decide) ?_); conv => whnf)
  exact ⟨Or.inr rfl, hQ⟩
theorem st_len26 (hQ : Q (some (.int (nI 5))) I R J F cn) : z_M (z_X0 L xs) z_P0 (d + 1) m_String_length [.retAddr 26] I R J F cn Q := by
  refine z_WP_gos [] 1000 fun K C hK hC => ?_
  conv => whnf
  refine hC _ _ _ _ _ _ _ _ _ _ (fun _ _ _ _ _ _ q => q) (st_cod26 ?_)
  conv => whnf
  exact hQ
theorem st_lch26 {k : Nat} (hk : k < 5) (hQ : Q (some (.int (nI (S26.getD k 0)))) I R J F cn) : z_M (z_X0 L xs) z_P0 (d + 2) m_StringLatin1_charAt [.retAddr 27, .int (nI k)] I R J F cn Q := by
  have hc : ∀ k, k < 5 → (((([112, 111, 119, 101, 114] : List Int32).getD k 0) &&& 255).toUInt32 % 65536).toInt32 = nI (S26.getD k 0) := by decide +kernel
  have h2 : ∀ k, k < 5 → ((nI (S26.getD k 0)).toUInt32 % 65536).toInt32 = nI (S26.getD k 0) := by decide +kernel
  have key : ∀ V : Int32, V = nI (S26.getD k 0) → ((V.toUInt32 % 65536).toInt32 = V ∧ Q (some (.int V)) I R J F cn) := fun V e => by subst e; exact ⟨h2 k hk, hQ⟩
  refine z_WP_gos [] 1000 fun K C hK hC => ?_
  conv => whnf
  refine hC _ _ _ _ _ _ _ _ _ _ (fun _ _ _ _ _ _ q => q) (st_chk2 (n := 5) hk (by decide) ?_)
  conv => whnf
  refine ⟨vp_in_nI (N := 5) hk (by decide), ?_⟩
  conv => whnf
  rw [nI_clamp (by omega), show ((z_X0 L xs).2.1 27).2.2 k = ([112, 111, 119, 101, 114] : List Int32).getD k 0 from rfl]
  exact key _ (hc k hk)
theorem st_chr26 {k : Nat} (hk : k < 5) (hQ : Q (some (.int (nI (S26.getD k 0)))) I R J F cn) : z_M (z_X0 L xs) z_P0 (d + 3) m_String_charAt [.retAddr 26, .int (nI k)] I R J F cn Q := by
  refine z_WP_gos [] 1000 fun K C hK hC => ?_
  conv => whnf
  refine hC _ _ _ _ _ _ _ _ _ _ (fun _ _ _ _ _ _ q => q) (st_lat26 ?_)
  conv => whnf
  repeat ((first | refine And.intro (by (conv => arg 2; whnf); (try simp only [z_lit, nI_add, pk_mul, z_pr1, z_pr2]); exact z_in (by omega) (by decide)) ?_ | refine z_bt1 (by decide) ?_ | refine z_bf1 (by decide) ?_ | refine z_bt2 (by decide) ?_ | refine z_bf2 (by decide) ?_); conv => whnf)
  refine hC _ _ _ _ _ _ _ _ _ _ (fun _ _ _ _ _ _ q => q) (st_lch26 hk ?_)
  conv => whnf
  have h2 : ∀ k, k < 5 → ((nI (S26.getD k 0)).toUInt32 % 65536).toInt32 = nI (S26.getD k 0) := by decide +kernel
  exact ⟨h2 k hk, hQ⟩
abbrev S28 : List Nat := [98, 117, 115, 121]
theorem st_cod28 (hQ : Q (some (.int 0)) I R J F cn) : z_M (z_X0 L xs) z_P0 d m_String_coder [.retAddr 28] I R J F cn Q := by
  refine z_WP_gos [] 1000 fun K C hK hC => ?_
  conv => whnf
  repeat ((first | refine And.intro (by (conv => arg 2; whnf); (try simp only [z_lit, nI_add, pk_mul, z_pr1, z_pr2]); exact z_in (by omega) (by decide)) ?_ | refine z_bt1 (by decide) ?_ | refine z_bf1 (by decide) ?_ | refine z_bt2 (by decide) ?_ | refine z_bf2 (by decide) ?_); conv => whnf)
  exact ⟨by decide, hQ⟩
theorem st_lat28 (hQ : Q (some (.int 1)) I R J F cn) : z_M (z_X0 L xs) z_P0 d m_String_isLatin1 [.retAddr 28] I R J F cn Q := by
  refine z_WP_gos [] 1000 fun K C hK hC => ?_
  conv => whnf
  repeat ((first | refine And.intro (by (conv => arg 2; whnf); (try simp only [z_lit, nI_add, pk_mul, z_pr1, z_pr2]); exact z_in (by omega) (by decide)) ?_ | refine z_bt1 (by decide) ?_ | refine z_bf1 (by decide) ?_ | refine z_bt2 (by decide) ?_ | refine z_bf2 (by decide) ?_); conv => whnf)
  exact ⟨Or.inr rfl, hQ⟩
theorem st_len28 (hQ : Q (some (.int (nI 4))) I R J F cn) : z_M (z_X0 L xs) z_P0 (d + 1) m_String_length [.retAddr 28] I R J F cn Q := by
  refine z_WP_gos [] 1000 fun K C hK hC => ?_
  conv => whnf
  refine hC _ _ _ _ _ _ _ _ _ _ (fun _ _ _ _ _ _ q => q) (st_cod28 ?_)
  conv => whnf
  exact hQ
theorem st_lch28 {k : Nat} (hk : k < 4) (hQ : Q (some (.int (nI (S28.getD k 0)))) I R J F cn) : z_M (z_X0 L xs) z_P0 (d + 2) m_StringLatin1_charAt [.retAddr 29, .int (nI k)] I R J F cn Q := by
  have hc : ∀ k, k < 4 → (((([98, 117, 115, 121] : List Int32).getD k 0) &&& 255).toUInt32 % 65536).toInt32 = nI (S28.getD k 0) := by decide +kernel
  have h2 : ∀ k, k < 4 → ((nI (S28.getD k 0)).toUInt32 % 65536).toInt32 = nI (S28.getD k 0) := by decide +kernel
  have key : ∀ V : Int32, V = nI (S28.getD k 0) → ((V.toUInt32 % 65536).toInt32 = V ∧ Q (some (.int V)) I R J F cn) := fun V e => by subst e; exact ⟨h2 k hk, hQ⟩
  refine z_WP_gos [] 1000 fun K C hK hC => ?_
  conv => whnf
  refine hC _ _ _ _ _ _ _ _ _ _ (fun _ _ _ _ _ _ q => q) (st_chk2 (n := 4) hk (by decide) ?_)
  conv => whnf
  refine ⟨vp_in_nI (N := 4) hk (by decide), ?_⟩
  conv => whnf
  rw [nI_clamp (by omega), show ((z_X0 L xs).2.1 29).2.2 k = ([98, 117, 115, 121] : List Int32).getD k 0 from rfl]
  exact key _ (hc k hk)
theorem st_chr28 {k : Nat} (hk : k < 4) (hQ : Q (some (.int (nI (S28.getD k 0)))) I R J F cn) : z_M (z_X0 L xs) z_P0 (d + 3) m_String_charAt [.retAddr 28, .int (nI k)] I R J F cn Q := by
  refine z_WP_gos [] 1000 fun K C hK hC => ?_
  conv => whnf
  refine hC _ _ _ _ _ _ _ _ _ _ (fun _ _ _ _ _ _ q => q) (st_lat28 ?_)
  conv => whnf
  repeat ((first | refine And.intro (by (conv => arg 2; whnf); (try simp only [z_lit, nI_add, pk_mul, z_pr1, z_pr2]); exact z_in (by omega) (by decide)) ?_ | refine z_bt1 (by decide) ?_ | refine z_bf1 (by decide) ?_ | refine z_bt2 (by decide) ?_ | refine z_bf2 (by decide) ?_); conv => whnf)
  refine hC _ _ _ _ _ _ _ _ _ _ (fun _ _ _ _ _ _ q => q) (st_lch28 hk ?_)
  conv => whnf
  have h2 : ∀ k, k < 4 → ((nI (S28.getD k 0)).toUInt32 % 65536).toInt32 = nI (S28.getD k 0) := by decide +kernel
  exact ⟨h2 k hk, hQ⟩
abbrev S30 : List Nat := [115, 101, 114, 118, 105, 99, 101]
theorem st_cod30 (hQ : Q (some (.int 0)) I R J F cn) : z_M (z_X0 L xs) z_P0 d m_String_coder [.retAddr 30] I R J F cn Q := by
  refine z_WP_gos [] 1000 fun K C hK hC => ?_
  conv => whnf
  repeat ((first | refine And.intro (by (conv => arg 2; whnf); (try simp only [z_lit, nI_add, pk_mul, z_pr1, z_pr2]); exact z_in (by omega) (by decide)) ?_ | refine z_bt1 (by decide) ?_ | refine z_bf1 (by decide) ?_ | refine z_bt2 (by decide) ?_ | refine z_bf2 (by decide) ?_); conv => whnf)
  exact ⟨by decide, hQ⟩
theorem st_lat30 (hQ : Q (some (.int 1)) I R J F cn) : z_M (z_X0 L xs) z_P0 d m_String_isLatin1 [.retAddr 30] I R J F cn Q := by
  refine z_WP_gos [] 1000 fun K C hK hC => ?_
  conv => whnf
  repeat ((first | refine And.intro (by (conv => arg 2; whnf); (try simp only [z_lit, nI_add, pk_mul, z_pr1, z_pr2]); exact z_in (by omega) (by decide)) ?_ | refine z_bt1 (by decide) ?_ | refine z_bf1 (by decide) ?_ | refine z_bt2 (by decide) ?_ | refine z_bf2 (by decide) ?_); conv => whnf)
  exact ⟨Or.inr rfl, hQ⟩
theorem st_len30 (hQ : Q (some (.int (nI 7))) I R J F cn) : z_M (z_X0 L xs) z_P0 (d + 1) m_String_length [.retAddr 30] I R J F cn Q := by
  refine z_WP_gos [] 1000 fun K C hK hC => ?_
  conv => whnf
  refine hC _ _ _ _ _ _ _ _ _ _ (fun _ _ _ _ _ _ q => q) (st_cod30 ?_)
  conv => whnf
  exact hQ
theorem st_lch30 {k : Nat} (hk : k < 7) (hQ : Q (some (.int (nI (S30.getD k 0)))) I R J F cn) : z_M (z_X0 L xs) z_P0 (d + 2) m_StringLatin1_charAt [.retAddr 31, .int (nI k)] I R J F cn Q := by
  have hc : ∀ k, k < 7 → (((([115, 101, 114, 118, 105, 99, 101] : List Int32).getD k 0) &&& 255).toUInt32 % 65536).toInt32 = nI (S30.getD k 0) := by decide +kernel
  have h2 : ∀ k, k < 7 → ((nI (S30.getD k 0)).toUInt32 % 65536).toInt32 = nI (S30.getD k 0) := by decide +kernel
  have key : ∀ V : Int32, V = nI (S30.getD k 0) → ((V.toUInt32 % 65536).toInt32 = V ∧ Q (some (.int V)) I R J F cn) := fun V e => by subst e; exact ⟨h2 k hk, hQ⟩
  refine z_WP_gos [] 1000 fun K C hK hC => ?_
  conv => whnf
  refine hC _ _ _ _ _ _ _ _ _ _ (fun _ _ _ _ _ _ q => q) (st_chk2 (n := 7) hk (by decide) ?_)
  conv => whnf
  refine ⟨vp_in_nI (N := 7) hk (by decide), ?_⟩
  conv => whnf
  rw [nI_clamp (by omega), show ((z_X0 L xs).2.1 31).2.2 k = ([115, 101, 114, 118, 105, 99, 101] : List Int32).getD k 0 from rfl]
  exact key _ (hc k hk)
theorem st_chr30 {k : Nat} (hk : k < 7) (hQ : Q (some (.int (nI (S30.getD k 0)))) I R J F cn) : z_M (z_X0 L xs) z_P0 (d + 3) m_String_charAt [.retAddr 30, .int (nI k)] I R J F cn Q := by
  refine z_WP_gos [] 1000 fun K C hK hC => ?_
  conv => whnf
  refine hC _ _ _ _ _ _ _ _ _ _ (fun _ _ _ _ _ _ q => q) (st_lat30 ?_)
  conv => whnf
  repeat ((first | refine And.intro (by (conv => arg 2; whnf); (try simp only [z_lit, nI_add, pk_mul, z_pr1, z_pr2]); exact z_in (by omega) (by decide)) ?_ | refine z_bt1 (by decide) ?_ | refine z_bf1 (by decide) ?_ | refine z_bt2 (by decide) ?_ | refine z_bf2 (by decide) ?_); conv => whnf)
  refine hC _ _ _ _ _ _ _ _ _ _ (fun _ _ _ _ _ _ q => q) (st_lch30 hk ?_)
  conv => whnf
  have h2 : ∀ k, k < 7 → ((nI (S30.getD k 0)).toUInt32 % 65536).toInt32 = nI (S30.getD k 0) := by decide +kernel
  exact ⟨h2 k hk, hQ⟩
abbrev S32 : List Nat := [115, 121, 115, 116, 101, 109]
theorem st_cod32 (hQ : Q (some (.int 0)) I R J F cn) : z_M (z_X0 L xs) z_P0 d m_String_coder [.retAddr 32] I R J F cn Q := by
  refine z_WP_gos [] 1000 fun K C hK hC => ?_
  conv => whnf
  repeat ((first | refine And.intro (by (conv => arg 2; whnf); (try simp only [z_lit, nI_add, pk_mul, z_pr1, z_pr2]); exact z_in (by omega) (by decide)) ?_ | refine z_bt1 (by decide) ?_ | refine z_bf1 (by decide) ?_ | refine z_bt2 (by decide) ?_ | refine z_bf2 (by decide) ?_); conv => whnf)
  exact ⟨by decide, hQ⟩
theorem st_lat32 (hQ : Q (some (.int 1)) I R J F cn) : z_M (z_X0 L xs) z_P0 d m_String_isLatin1 [.retAddr 32] I R J F cn Q := by
  refine z_WP_gos [] 1000 fun K C hK hC => ?_
  conv => whnf
  repeat ((first | refine And.intro (by (conv => arg 2; whnf); (try simp only [z_lit, nI_add, pk_mul, z_pr1, z_pr2]); exact z_in (by omega) (by decide)) ?_ | refine z_bt1 (by decide) ?_ | refine z_bf1 (by decide) ?_ | refine z_bt2 (by decide) ?_ | refine z_bf2 (by decide) ?_); conv => whnf)
  exact ⟨Or.inr rfl, hQ⟩
theorem st_len32 (hQ : Q (some (.int (nI 6))) I R J F cn) : z_M (z_X0 L xs) z_P0 (d + 1) m_String_length [.retAddr 32] I R J F cn Q := by
  refine z_WP_gos [] 1000 fun K C hK hC => ?_
  conv => whnf
  refine hC _ _ _ _ _ _ _ _ _ _ (fun _ _ _ _ _ _ q => q) (st_cod32 ?_)
  conv => whnf
  exact hQ
theorem st_lch32 {k : Nat} (hk : k < 6) (hQ : Q (some (.int (nI (S32.getD k 0)))) I R J F cn) : z_M (z_X0 L xs) z_P0 (d + 2) m_StringLatin1_charAt [.retAddr 33, .int (nI k)] I R J F cn Q := by
  have hc : ∀ k, k < 6 → (((([115, 121, 115, 116, 101, 109] : List Int32).getD k 0) &&& 255).toUInt32 % 65536).toInt32 = nI (S32.getD k 0) := by decide +kernel
  have h2 : ∀ k, k < 6 → ((nI (S32.getD k 0)).toUInt32 % 65536).toInt32 = nI (S32.getD k 0) := by decide +kernel
  have key : ∀ V : Int32, V = nI (S32.getD k 0) → ((V.toUInt32 % 65536).toInt32 = V ∧ Q (some (.int V)) I R J F cn) := fun V e => by subst e; exact ⟨h2 k hk, hQ⟩
  refine z_WP_gos [] 1000 fun K C hK hC => ?_
  conv => whnf
  refine hC _ _ _ _ _ _ _ _ _ _ (fun _ _ _ _ _ _ q => q) (st_chk2 (n := 6) hk (by decide) ?_)
  conv => whnf
  refine ⟨vp_in_nI (N := 6) hk (by decide), ?_⟩
  conv => whnf
  rw [nI_clamp (by omega), show ((z_X0 L xs).2.1 33).2.2 k = ([115, 121, 115, 116, 101, 109] : List Int32).getD k 0 from rfl]
  exact key _ (hc k hk)
theorem st_chr32 {k : Nat} (hk : k < 6) (hQ : Q (some (.int (nI (S32.getD k 0)))) I R J F cn) : z_M (z_X0 L xs) z_P0 (d + 3) m_String_charAt [.retAddr 32, .int (nI k)] I R J F cn Q := by
  refine z_WP_gos [] 1000 fun K C hK hC => ?_
  conv => whnf
  refine hC _ _ _ _ _ _ _ _ _ _ (fun _ _ _ _ _ _ q => q) (st_lat32 ?_)
  conv => whnf
  repeat ((first | refine And.intro (by (conv => arg 2; whnf); (try simp only [z_lit, nI_add, pk_mul, z_pr1, z_pr2]); exact z_in (by omega) (by decide)) ?_ | refine z_bt1 (by decide) ?_ | refine z_bf1 (by decide) ?_ | refine z_bt2 (by decide) ?_ | refine z_bf2 (by decide) ?_); conv => whnf)
  refine hC _ _ _ _ _ _ _ _ _ _ (fun _ _ _ _ _ _ q => q) (st_lch32 hk ?_)
  conv => whnf
  have h2 : ∀ k, k < 6 → ((nI (S32.getD k 0)).toUInt32 % 65536).toInt32 = nI (S32.getD k 0) := by decide +kernel
  exact ⟨h2 k hk, hQ⟩
abbrev S34 : List Nat := [102, 108, 97, 103]
theorem st_cod34 (hQ : Q (some (.int 0)) I R J F cn) : z_M (z_X0 L xs) z_P0 d m_String_coder [.retAddr 34] I R J F cn Q := by
  refine z_WP_gos [] 1000 fun K C hK hC => ?_
  conv => whnf
  repeat ((first | refine And.intro (by (conv => arg 2; whnf); (try simp only [z_lit, nI_add, pk_mul, z_pr1, z_pr2]); exact z_in (by omega) (by decide)) ?_ | refine z_bt1 (by decide) ?_ | refine z_bf1 (by decide) ?_ | refine z_bt2 (by decide) ?_ | refine z_bf2 (by decide) ?_); conv => whnf)
  exact ⟨by decide, hQ⟩
theorem st_lat34 (hQ : Q (some (.int 1)) I R J F cn) : z_M (z_X0 L xs) z_P0 d m_String_isLatin1 [.retAddr 34] I R J F cn Q := by
  refine z_WP_gos [] 1000 fun K C hK hC => ?_
  conv => whnf
  repeat ((first | refine And.intro (by (conv => arg 2; whnf); (try simp only [z_lit, nI_add, pk_mul, z_pr1, z_pr2]); exact z_in (by omega) (by decide)) ?_ | refine z_bt1 (by decide) ?_ | refine z_bf1 (by decide) ?_ | refine z_bt2 (by decide) ?_ | refine z_bf2 (by decide) ?_); conv => whnf)
  exact ⟨Or.inr rfl, hQ⟩
theorem st_len34 (hQ : Q (some (.int (nI 4))) I R J F cn) : z_M (z_X0 L xs) z_P0 (d + 1) m_String_length [.retAddr 34] I R J F cn Q := by
  refine z_WP_gos [] 1000 fun K C hK hC => ?_
  conv => whnf
  refine hC _ _ _ _ _ _ _ _ _ _ (fun _ _ _ _ _ _ q => q) (st_cod34 ?_)
  conv => whnf
  exact hQ
theorem st_lch34 {k : Nat} (hk : k < 4) (hQ : Q (some (.int (nI (S34.getD k 0)))) I R J F cn) : z_M (z_X0 L xs) z_P0 (d + 2) m_StringLatin1_charAt [.retAddr 35, .int (nI k)] I R J F cn Q := by
  have hc : ∀ k, k < 4 → (((([102, 108, 97, 103] : List Int32).getD k 0) &&& 255).toUInt32 % 65536).toInt32 = nI (S34.getD k 0) := by decide +kernel
  have h2 : ∀ k, k < 4 → ((nI (S34.getD k 0)).toUInt32 % 65536).toInt32 = nI (S34.getD k 0) := by decide +kernel
  have key : ∀ V : Int32, V = nI (S34.getD k 0) → ((V.toUInt32 % 65536).toInt32 = V ∧ Q (some (.int V)) I R J F cn) := fun V e => by subst e; exact ⟨h2 k hk, hQ⟩
  refine z_WP_gos [] 1000 fun K C hK hC => ?_
  conv => whnf
  refine hC _ _ _ _ _ _ _ _ _ _ (fun _ _ _ _ _ _ q => q) (st_chk2 (n := 4) hk (by decide) ?_)
  conv => whnf
  refine ⟨vp_in_nI (N := 4) hk (by decide), ?_⟩
  conv => whnf
  rw [nI_clamp (by omega), show ((z_X0 L xs).2.1 35).2.2 k = ([102, 108, 97, 103] : List Int32).getD k 0 from rfl]
  exact key _ (hc k hk)
theorem st_chr34 {k : Nat} (hk : k < 4) (hQ : Q (some (.int (nI (S34.getD k 0)))) I R J F cn) : z_M (z_X0 L xs) z_P0 (d + 3) m_String_charAt [.retAddr 34, .int (nI k)] I R J F cn Q := by
  refine z_WP_gos [] 1000 fun K C hK hC => ?_
  conv => whnf
  refine hC _ _ _ _ _ _ _ _ _ _ (fun _ _ _ _ _ _ q => q) (st_lat34 ?_)
  conv => whnf
  repeat ((first | refine And.intro (by (conv => arg 2; whnf); (try simp only [z_lit, nI_add, pk_mul, z_pr1, z_pr2]); exact z_in (by omega) (by decide)) ?_ | refine z_bt1 (by decide) ?_ | refine z_bf1 (by decide) ?_ | refine z_bt2 (by decide) ?_ | refine z_bf2 (by decide) ?_); conv => whnf)
  refine hC _ _ _ _ _ _ _ _ _ _ (fun _ _ _ _ _ _ q => q) (st_lch34 hk ?_)
  conv => whnf
  have h2 : ∀ k, k < 4 → ((nI (S34.getD k 0)).toUInt32 % 65536).toInt32 = nI (S34.getD k 0) := by decide +kernel
  exact ⟨h2 k hk, hQ⟩
abbrev S36 : List Nat := [97, 99, 99, 101, 112, 116]
theorem st_cod36 (hQ : Q (some (.int 0)) I R J F cn) : z_M (z_X0 L xs) z_P0 d m_String_coder [.retAddr 36] I R J F cn Q := by
  refine z_WP_gos [] 1000 fun K C hK hC => ?_
  conv => whnf
  repeat ((first | refine And.intro (by (conv => arg 2; whnf); (try simp only [z_lit, nI_add, pk_mul, z_pr1, z_pr2]); exact z_in (by omega) (by decide)) ?_ | refine z_bt1 (by decide) ?_ | refine z_bf1 (by decide) ?_ | refine z_bt2 (by decide) ?_ | refine z_bf2 (by decide) ?_); conv => whnf)
  exact ⟨by decide, hQ⟩
theorem st_lat36 (hQ : Q (some (.int 1)) I R J F cn) : z_M (z_X0 L xs) z_P0 d m_String_isLatin1 [.retAddr 36] I R J F cn Q := by
  refine z_WP_gos [] 1000 fun K C hK hC => ?_
  conv => whnf
  repeat ((first | refine And.intro (by (conv => arg 2; whnf); (try simp only [z_lit, nI_add, pk_mul, z_pr1, z_pr2]); exact z_in (by omega) (by decide)) ?_ | refine z_bt1 (by decide) ?_ | refine z_bf1 (by decide) ?_ | refine z_bt2 (by decide) ?_ | refine z_bf2 (by decide) ?_); conv => whnf)
  exact ⟨Or.inr rfl, hQ⟩
theorem st_len36 (hQ : Q (some (.int (nI 6))) I R J F cn) : z_M (z_X0 L xs) z_P0 (d + 1) m_String_length [.retAddr 36] I R J F cn Q := by
  refine z_WP_gos [] 1000 fun K C hK hC => ?_
  conv => whnf
  refine hC _ _ _ _ _ _ _ _ _ _ (fun _ _ _ _ _ _ q => q) (st_cod36 ?_)
  conv => whnf
  exact hQ
theorem st_lch36 {k : Nat} (hk : k < 6) (hQ : Q (some (.int (nI (S36.getD k 0)))) I R J F cn) : z_M (z_X0 L xs) z_P0 (d + 2) m_StringLatin1_charAt [.retAddr 37, .int (nI k)] I R J F cn Q := by
  have hc : ∀ k, k < 6 → (((([97, 99, 99, 101, 112, 116] : List Int32).getD k 0) &&& 255).toUInt32 % 65536).toInt32 = nI (S36.getD k 0) := by decide +kernel
  have h2 : ∀ k, k < 6 → ((nI (S36.getD k 0)).toUInt32 % 65536).toInt32 = nI (S36.getD k 0) := by decide +kernel
  have key : ∀ V : Int32, V = nI (S36.getD k 0) → ((V.toUInt32 % 65536).toInt32 = V ∧ Q (some (.int V)) I R J F cn) := fun V e => by subst e; exact ⟨h2 k hk, hQ⟩
  refine z_WP_gos [] 1000 fun K C hK hC => ?_
  conv => whnf
  refine hC _ _ _ _ _ _ _ _ _ _ (fun _ _ _ _ _ _ q => q) (st_chk2 (n := 6) hk (by decide) ?_)
  conv => whnf
  refine ⟨vp_in_nI (N := 6) hk (by decide), ?_⟩
  conv => whnf
  rw [nI_clamp (by omega), show ((z_X0 L xs).2.1 37).2.2 k = ([97, 99, 99, 101, 112, 116] : List Int32).getD k 0 from rfl]
  exact key _ (hc k hk)
theorem st_chr36 {k : Nat} (hk : k < 6) (hQ : Q (some (.int (nI (S36.getD k 0)))) I R J F cn) : z_M (z_X0 L xs) z_P0 (d + 3) m_String_charAt [.retAddr 36, .int (nI k)] I R J F cn Q := by
  refine z_WP_gos [] 1000 fun K C hK hC => ?_
  conv => whnf
  refine hC _ _ _ _ _ _ _ _ _ _ (fun _ _ _ _ _ _ q => q) (st_lat36 ?_)
  conv => whnf
  repeat ((first | refine And.intro (by (conv => arg 2; whnf); (try simp only [z_lit, nI_add, pk_mul, z_pr1, z_pr2]); exact z_in (by omega) (by decide)) ?_ | refine z_bt1 (by decide) ?_ | refine z_bf1 (by decide) ?_ | refine z_bt2 (by decide) ?_ | refine z_bf2 (by decide) ?_); conv => whnf)
  refine hC _ _ _ _ _ _ _ _ _ _ (fun _ _ _ _ _ _ q => q) (st_lch36 hk ?_)
  conv => whnf
  have h2 : ∀ k, k < 6 → ((nI (S36.getD k 0)).toUInt32 % 65536).toInt32 = nI (S36.getD k 0) := by decide +kernel
  exact ⟨h2 k hk, hQ⟩
abbrev S38 : List Nat := [100, 101, 97, 102]
theorem st_cod38 (hQ : Q (some (.int 0)) I R J F cn) : z_M (z_X0 L xs) z_P0 d m_String_coder [.retAddr 38] I R J F cn Q := by
  refine z_WP_gos [] 1000 fun K C hK hC => ?_
  conv => whnf
  repeat ((first | refine And.intro (by (conv => arg 2; whnf); (try simp only [z_lit, nI_add, pk_mul, z_pr1, z_pr2]); exact z_in (by omega) (by decide)) ?_ | refine z_bt1 (by decide) ?_ | refine z_bf1 (by decide) ?_ | refine z_bt2 (by decide) ?_ | refine z_bf2 (by decide) ?_); conv => whnf)
  exact ⟨by decide, hQ⟩
theorem st_lat38 (hQ : Q (some (.int 1)) I R J F cn) : z_M (z_X0 L xs) z_P0 d m_String_isLatin1 [.retAddr 38] I R J F cn Q := by
  refine z_WP_gos [] 1000 fun K C hK hC => ?_
  conv => whnf
  repeat ((first | refine And.intro (by (conv => arg 2; whnf); (try simp only [z_lit, nI_add, pk_mul, z_pr1, z_pr2]); exact z_in (by omega) (by decide)) ?_ | refine z_bt1 (by decide) ?_ | refine z_bf1 (by decide) ?_ | refine z_bt2 (by decide) ?_ | refine z_bf2 (by decide) ?_); conv => whnf)
  exact ⟨Or.inr rfl, hQ⟩
theorem st_len38 (hQ : Q (some (.int (nI 4))) I R J F cn) : z_M (z_X0 L xs) z_P0 (d + 1) m_String_length [.retAddr 38] I R J F cn Q := by
  refine z_WP_gos [] 1000 fun K C hK hC => ?_
  conv => whnf
  refine hC _ _ _ _ _ _ _ _ _ _ (fun _ _ _ _ _ _ q => q) (st_cod38 ?_)
  conv => whnf
  exact hQ
theorem st_lch38 {k : Nat} (hk : k < 4) (hQ : Q (some (.int (nI (S38.getD k 0)))) I R J F cn) : z_M (z_X0 L xs) z_P0 (d + 2) m_StringLatin1_charAt [.retAddr 39, .int (nI k)] I R J F cn Q := by
  have hc : ∀ k, k < 4 → (((([100, 101, 97, 102] : List Int32).getD k 0) &&& 255).toUInt32 % 65536).toInt32 = nI (S38.getD k 0) := by decide +kernel
  have h2 : ∀ k, k < 4 → ((nI (S38.getD k 0)).toUInt32 % 65536).toInt32 = nI (S38.getD k 0) := by decide +kernel
  have key : ∀ V : Int32, V = nI (S38.getD k 0) → ((V.toUInt32 % 65536).toInt32 = V ∧ Q (some (.int V)) I R J F cn) := fun V e => by subst e; exact ⟨h2 k hk, hQ⟩
  refine z_WP_gos [] 1000 fun K C hK hC => ?_
  conv => whnf
  refine hC _ _ _ _ _ _ _ _ _ _ (fun _ _ _ _ _ _ q => q) (st_chk2 (n := 4) hk (by decide) ?_)
  conv => whnf
  refine ⟨vp_in_nI (N := 4) hk (by decide), ?_⟩
  conv => whnf
  rw [nI_clamp (by omega), show ((z_X0 L xs).2.1 39).2.2 k = ([100, 101, 97, 102] : List Int32).getD k 0 from rfl]
  exact key _ (hc k hk)
theorem st_chr38 {k : Nat} (hk : k < 4) (hQ : Q (some (.int (nI (S38.getD k 0)))) I R J F cn) : z_M (z_X0 L xs) z_P0 (d + 3) m_String_charAt [.retAddr 38, .int (nI k)] I R J F cn Q := by
  refine z_WP_gos [] 1000 fun K C hK hC => ?_
  conv => whnf
  refine hC _ _ _ _ _ _ _ _ _ _ (fun _ _ _ _ _ _ q => q) (st_lat38 ?_)
  conv => whnf
  repeat ((first | refine And.intro (by (conv => arg 2; whnf); (try simp only [z_lit, nI_add, pk_mul, z_pr1, z_pr2]); exact z_in (by omega) (by decide)) ?_ | refine z_bt1 (by decide) ?_ | refine z_bf1 (by decide) ?_ | refine z_bt2 (by decide) ?_ | refine z_bf2 (by decide) ?_); conv => whnf)
  refine hC _ _ _ _ _ _ _ _ _ _ (fun _ _ _ _ _ _ q => q) (st_lch38 hk ?_)
  conv => whnf
  have h2 : ∀ k, k < 4 → ((nI (S38.getD k 0)).toUInt32 % 65536).toInt32 = nI (S38.getD k 0) := by decide +kernel
  exact ⟨h2 k hk, hQ⟩
abbrev S40 : List Nat := [98, 97, 98, 98, 108, 101]
theorem st_cod40 (hQ : Q (some (.int 0)) I R J F cn) : z_M (z_X0 L xs) z_P0 d m_String_coder [.retAddr 40] I R J F cn Q := by
  refine z_WP_gos [] 1000 fun K C hK hC => ?_
  conv => whnf
  repeat ((first | refine And.intro (by (conv => arg 2; whnf); (try simp only [z_lit, nI_add, pk_mul, z_pr1, z_pr2]); exact z_in (by omega) (by decide)) ?_ | refine z_bt1 (by decide) ?_ | refine z_bf1 (by decide) ?_ | refine z_bt2 (by decide) ?_ | refine z_bf2 (by decide) ?_); conv => whnf)
  exact ⟨by decide, hQ⟩
theorem st_lat40 (hQ : Q (some (.int 1)) I R J F cn) : z_M (z_X0 L xs) z_P0 d m_String_isLatin1 [.retAddr 40] I R J F cn Q := by
  refine z_WP_gos [] 1000 fun K C hK hC => ?_
  conv => whnf
  repeat ((first | refine And.intro (by (conv => arg 2; whnf); (try simp only [z_lit, nI_add, pk_mul, z_pr1, z_pr2]); exact z_in (by omega) (by decide)) ?_ | refine z_bt1 (by decide) ?_ | refine z_bf1 (by decide) ?_ | refine z_bt2 (by decide) ?_ | refine z_bf2 (by decide) ?_); conv => whnf)
  exact ⟨Or.inr rfl, hQ⟩
theorem st_len40 (hQ : Q (some (.int (nI 6))) I R J F cn) : z_M (z_X0 L xs) z_P0 (d + 1) m_String_length [.retAddr 40] I R J F cn Q := by
  refine z_WP_gos [] 1000 fun K C hK hC => ?_
  conv => whnf
  refine hC _ _ _ _ _ _ _ _ _ _ (fun _ _ _ _ _ _ q => q) (st_cod40 ?_)
  conv => whnf
  exact hQ
theorem st_lch40 {k : Nat} (hk : k < 6) (hQ : Q (some (.int (nI (S40.getD k 0)))) I R J F cn) : z_M (z_X0 L xs) z_P0 (d + 2) m_StringLatin1_charAt [.retAddr 41, .int (nI k)] I R J F cn Q := by
  have hc : ∀ k, k < 6 → (((([98, 97, 98, 98, 108, 101] : List Int32).getD k 0) &&& 255).toUInt32 % 65536).toInt32 = nI (S40.getD k 0) := by decide +kernel
  have h2 : ∀ k, k < 6 → ((nI (S40.getD k 0)).toUInt32 % 65536).toInt32 = nI (S40.getD k 0) := by decide +kernel
  have key : ∀ V : Int32, V = nI (S40.getD k 0) → ((V.toUInt32 % 65536).toInt32 = V ∧ Q (some (.int V)) I R J F cn) := fun V e => by subst e; exact ⟨h2 k hk, hQ⟩
  refine z_WP_gos [] 1000 fun K C hK hC => ?_
  conv => whnf
  refine hC _ _ _ _ _ _ _ _ _ _ (fun _ _ _ _ _ _ q => q) (st_chk2 (n := 6) hk (by decide) ?_)
  conv => whnf
  refine ⟨vp_in_nI (N := 6) hk (by decide), ?_⟩
  conv => whnf
  rw [nI_clamp (by omega), show ((z_X0 L xs).2.1 41).2.2 k = ([98, 97, 98, 98, 108, 101] : List Int32).getD k 0 from rfl]
  exact key _ (hc k hk)
theorem st_chr40 {k : Nat} (hk : k < 6) (hQ : Q (some (.int (nI (S40.getD k 0)))) I R J F cn) : z_M (z_X0 L xs) z_P0 (d + 3) m_String_charAt [.retAddr 40, .int (nI k)] I R J F cn Q := by
  refine z_WP_gos [] 1000 fun K C hK hC => ?_
  conv => whnf
  refine hC _ _ _ _ _ _ _ _ _ _ (fun _ _ _ _ _ _ q => q) (st_lat40 ?_)
  conv => whnf
  repeat ((first | refine And.intro (by (conv => arg 2; whnf); (try simp only [z_lit, nI_add, pk_mul, z_pr1, z_pr2]); exact z_in (by omega) (by decide)) ?_ | refine z_bt1 (by decide) ?_ | refine z_bf1 (by decide) ?_ | refine z_bt2 (by decide) ?_ | refine z_bf2 (by decide) ?_); conv => whnf)
  refine hC _ _ _ _ _ _ _ _ _ _ (fun _ _ _ _ _ _ q => q) (st_lch40 hk ?_)
  conv => whnf
  have h2 : ∀ k, k < 6 → ((nI (S40.getD k 0)).toUInt32 % 65536).toInt32 = nI (S40.getD k 0) := by decide +kernel
  exact ⟨h2 k hk, hQ⟩
abbrev S42 : List Nat := [110, 111, 105, 115, 101]
theorem st_cod42 (hQ : Q (some (.int 0)) I R J F cn) : z_M (z_X0 L xs) z_P0 d m_String_coder [.retAddr 42] I R J F cn Q := by
  refine z_WP_gos [] 1000 fun K C hK hC => ?_
  conv => whnf
  repeat ((first | refine And.intro (by (conv => arg 2; whnf); (try simp only [z_lit, nI_add, pk_mul, z_pr1, z_pr2]); exact z_in (by omega) (by decide)) ?_ | refine z_bt1 (by decide) ?_ | refine z_bf1 (by decide) ?_ | refine z_bt2 (by decide) ?_ | refine z_bf2 (by decide) ?_); conv => whnf)
  exact ⟨by decide, hQ⟩
theorem st_lat42 (hQ : Q (some (.int 1)) I R J F cn) : z_M (z_X0 L xs) z_P0 d m_String_isLatin1 [.retAddr 42] I R J F cn Q := by
  refine z_WP_gos [] 1000 fun K C hK hC => ?_
  conv => whnf
  repeat ((first | refine And.intro (by (conv => arg 2; whnf); (try simp only [z_lit, nI_add, pk_mul, z_pr1, z_pr2]); exact z_in (by omega) (by decide)) ?_ | refine z_bt1 (by decide) ?_ | refine z_bf1 (by decide) ?_ | refine z_bt2 (by decide) ?_ | refine z_bf2 (by decide) ?_); conv => whnf)
  exact ⟨Or.inr rfl, hQ⟩
theorem st_len42 (hQ : Q (some (.int (nI 5))) I R J F cn) : z_M (z_X0 L xs) z_P0 (d + 1) m_String_length [.retAddr 42] I R J F cn Q := by
  refine z_WP_gos [] 1000 fun K C hK hC => ?_
  conv => whnf
  refine hC _ _ _ _ _ _ _ _ _ _ (fun _ _ _ _ _ _ q => q) (st_cod42 ?_)
  conv => whnf
  exact hQ
theorem st_lch42 {k : Nat} (hk : k < 5) (hQ : Q (some (.int (nI (S42.getD k 0)))) I R J F cn) : z_M (z_X0 L xs) z_P0 (d + 2) m_StringLatin1_charAt [.retAddr 43, .int (nI k)] I R J F cn Q := by
  have hc : ∀ k, k < 5 → (((([110, 111, 105, 115, 101] : List Int32).getD k 0) &&& 255).toUInt32 % 65536).toInt32 = nI (S42.getD k 0) := by decide +kernel
  have h2 : ∀ k, k < 5 → ((nI (S42.getD k 0)).toUInt32 % 65536).toInt32 = nI (S42.getD k 0) := by decide +kernel
  have key : ∀ V : Int32, V = nI (S42.getD k 0) → ((V.toUInt32 % 65536).toInt32 = V ∧ Q (some (.int V)) I R J F cn) := fun V e => by subst e; exact ⟨h2 k hk, hQ⟩
  refine z_WP_gos [] 1000 fun K C hK hC => ?_
  conv => whnf
  refine hC _ _ _ _ _ _ _ _ _ _ (fun _ _ _ _ _ _ q => q) (st_chk2 (n := 5) hk (by decide) ?_)
  conv => whnf
  refine ⟨vp_in_nI (N := 5) hk (by decide), ?_⟩
  conv => whnf
  rw [nI_clamp (by omega), show ((z_X0 L xs).2.1 43).2.2 k = ([110, 111, 105, 115, 101] : List Int32).getD k 0 from rfl]
  exact key _ (hc k hk)
theorem st_chr42 {k : Nat} (hk : k < 5) (hQ : Q (some (.int (nI (S42.getD k 0)))) I R J F cn) : z_M (z_X0 L xs) z_P0 (d + 3) m_String_charAt [.retAddr 42, .int (nI k)] I R J F cn Q := by
  refine z_WP_gos [] 1000 fun K C hK hC => ?_
  conv => whnf
  refine hC _ _ _ _ _ _ _ _ _ _ (fun _ _ _ _ _ _ q => q) (st_lat42 ?_)
  conv => whnf
  repeat ((first | refine And.intro (by (conv => arg 2; whnf); (try simp only [z_lit, nI_add, pk_mul, z_pr1, z_pr2]); exact z_in (by omega) (by decide)) ?_ | refine z_bt1 (by decide) ?_ | refine z_bf1 (by decide) ?_ | refine z_bt2 (by decide) ?_ | refine z_bf2 (by decide) ?_); conv => whnf)
  refine hC _ _ _ _ _ _ _ _ _ _ (fun _ _ _ _ _ _ q => q) (st_lch42 hk ?_)
  conv => whnf
  have h2 : ∀ k, k < 5 → ((nI (S42.getD k 0)).toUInt32 % 65536).toInt32 = nI (S42.getD k 0) := by decide +kernel
  exact ⟨h2 k hk, hQ⟩
end
