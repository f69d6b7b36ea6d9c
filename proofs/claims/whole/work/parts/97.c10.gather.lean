/-! the class: times behind all lines -/
theorem fcr_no {w : Nat → Int32} {f i : Nat} {v : Int32} (h : fcr w f i v) (hn : ¬ crd w f i) : fcr w f (i + 1) v := by
  rcases h with ⟨a, b⟩ | ⟨k, a, b, c, e⟩
  · refine Or.inl ⟨a, fun j hj => ?_⟩
    rcases Nat.lt_or_eq_of_le (Nat.le_of_lt_succ hj) with z | z
    · exact b j z
    · rw [z]; exact hn
  · exact Or.inr ⟨k, by omega, b, c, e⟩
theorem fcr_old {w : Nat → Int32} {f i : Nat} {v : Int32} (h : fcr w f i v) (hv : ¬ v = -1) : fcr w f (i + 1) v := by
  rcases h with ⟨a, b⟩ | ⟨k, a, b, c, e⟩
  · exact (hv a).elim
  · exact Or.inr ⟨k, by omega, b, c, e⟩
theorem fcr_new {w : Nat → Int32} {f i : Nat} {v : Int32} (hi : i ≤ 24) (h : fcr w f i v) (hv : v = -1) (hc : crd w f i) : fcr w f (i + 1) (nI i) := by
  rcases h with ⟨a, b⟩ | ⟨k, a, b, c, e⟩
  · exact Or.inr ⟨i, by omega, rfl, hc, b⟩
  · rw [b] at hv
    have : (nI k).toInt = -1 := by rw [hv]; rfl
    rw [nI_toInt (by omega)] at this
    omega
section
variable {L : Nat} {xs : Nat → Int32} {d : Nat} {kp sp wd : Value} {I : z_I} {s : z_sg} {R : z_R} {J : z_J} {F : z_F} {cn : Nat} {Q : z_Q}
theorem lp_go73 {w : Nat → Int32} {i M rt n : Nat} {A : Nat → Prop} {l6 : Option Value} (hp : pS I w) (ht : tb_ok w) (hi : i < (w 8).toNatClampNeg) (h6 : I 1 6 = nI rt) (hr : rt ≤ 3) (hM9 : M ≤ 9999) (hsp : I 35 4 = nI n) (hn : n ≤ 157) (hM : M < 64 * n)
    (hO : hasS (J 38) n (fun x => A x ∧ x + s_time w i ≤ M)) (hN : hasS (J 37) n (fun x => A x ∧ ¬ x + s_time w i ≤ M))
    (hQ : ∀ J', hasS (J' 36) n (fun t => ∃ x, A x ∧ rch M (s_time w i) (s_q w i) (decide (lnn w i 0 = 3)) (rt + 1) x t) → Q none I (z_R0 kp sp wd) J' F cn) :
    z_WP (z_X0 L xs) z_P0 (d + 2) m_Times_goThrough 73 [some (.ref 35), some (.ref 1), some (.int (nI i)), some (.int (nI (s_time w i))), some (.int (z_bi (decide (lnn w i 0 = 3)))), some (.int (nI M - nI (s_time w i))), l6] [] I (z_R0 kp sp wd) J F cn 0 0 Q := by
  refine z_WP_gos [76] 1000 fun K C hK hC => ?_
  conv => whnf
  refine hK _ _ _ _ _ _ _ _ _ _ (lp_go hp ht hi h6 hr hM9 hsp hn hM hQ (rt + 1) 0 J _ _ (by omega) hO hN (fun x z => z.2) (fun z => by omega) (fun t h => ?_))
  constructor
  · rintro (⟨a, b⟩ | ⟨x, ⟨a, b⟩, c⟩)
    · exact ⟨t, a, by rw [rch_s, if_neg b]⟩
    · exact ⟨x, a, c⟩
  · rintro ⟨x, a, b⟩
    by_cases c : x + s_time w i ≤ M
    · exact Or.inr ⟨x, ⟨a, c⟩, b⟩
    · rw [rch_s, if_neg c] at b
      rw [b]
      exact Or.inl ⟨a, c⟩
theorem ct_goThrough {w : Nat → Int32} {f i M rt n : Nat} (hp : pS I w) (ht : tb_ok w) (hi : i < (w 8).toNatClampNeg) (h5 : I 1 5 = nI M) (h6 : I 1 6 = nI rt) (eM : s_M w = M) (er : s_rt w = rt) (hr : rt ≤ 3) (hM9 : M ≤ 9999) (hsp : I 35 4 = nI n) (hn : n ≤ 157) (hM : M < 64 * n) (hact : s_act w f i = true)
    (hA : hasS (J 36) n (sr w f i)) (hc : fcr w f i (I 35 5)) (hQ : ∀ J' c, hasS (J' 36) n (sr w f (i + 1)) → fcr w f (i + 1) c → Q none (z_row I 35 (upd (I 35) 5 c)) (z_R0 kp sp wd) J' F cn) :
    z_M (z_X0 L xs) z_P0 (d + 2) m_Times_goThrough [.ref 35, .ref 1, .int (nI i)] I (z_R0 kp sp wd) J F cn Q := by
  have h24 := ht.2.1
  have ho := ht.2.2 i hi
  obtain ⟨q1, q2, q3⟩ := s_q_ok ho
  have hlim := sub_nI (dm := s_time w i) hM9 q3
  obtain ⟨b0, -, -, -, -, -, -, -, -, -, b10⟩ := hp.2 i hi
  have hin : ∀ x, sr w f i x → x ≤ M := fun x hx => by rw [← eM]; exact sr_le (fun j hj => ht.2.2 j (by omega)) hx
  have hT : ∀ J' : z_J, hasS (J' 36) n (fun t => ∃ x, sr w f i x ∧ rch M (s_time w i) (s_q w i) (decide (lnn w i 0 = 3)) (rt + 1) x t) → hasS (J' 36) n (sr w f (i + 1)) := fun J' h => hasS_c h fun t _ => by
    show _ ↔ ∃ x, sr w f i x ∧ edg w f i x t
    rw [edg_on hact, eM, er]
  have fin : ∀ (I' : z_I) (o x : Nat → Int64) (r : Nat → Int64) (l6 : Option Value), pS I' w → I' 1 6 = nI rt → I' 35 4 = nI n → (∀ t, t < 157 → r t = 0) →
      (∀ t, t < 64 * n → lb o t = (lb (J 36) t && decide ((t : Int) ≤ (nI M - nI (s_time w i)).toInt))) → (∀ t, t < 64 * n → lb x t = (lb r t || (lb (J 36) t && !decide ((t : Int) ≤ (nI M - nI (s_time w i)).toInt)))) →
      (∀ J', hasS (J' 36) n (sr w f (i + 1)) → Q none I' (z_R0 kp sp wd) J' F cn) →
      z_WP (z_X0 L xs) z_P0 (d + 2) m_Times_goThrough 73 [some (.ref 35), some (.ref 1), some (.int (nI i)), some (.int (nI (s_time w i))), some (.int (z_bi (decide (lnn w i 0 = 3)))), some (.int (nI M - nI (s_time w i))), l6] [] I' (z_R0 kp sp wd) (z_row (z_row (z_row J 37 r) 38 o) 37 x) F cn 0 0 Q := by
    intro I' o x r l6 hp' h6' hsp' hr0 ho hx hq
    refine lp_go73 (A := sr w f i) hp' ht hi h6' hr hM9 hsp' hn hM ?_ ?_ (fun J' hJ => hq J' (hT J' hJ))
    · rw [z_row_n _ _ (show (38 : Nat) ≠ 37 by decide), z_row_s]
      intro t h
      rw [ho t h, Bool.and_eq_true, decide_eq_true_eq, hA t h, hlim]
      constructor
      · rintro ⟨a, b⟩; exact ⟨a, by omega⟩
      · rintro ⟨a, b⟩; exact ⟨a, by omega⟩
    · rw [z_row_s]
      intro t h
      have hz : lb r t = false := by unfold lb; rw [hr0 _ (by omega), wbt_zero]
      rw [hx t h, hz, Bool.false_or, Bool.and_eq_true, Bool.not_eq_true', decide_eq_false_iff_not, hA t h, hlim]
      constructor
      · rintro ⟨a, b⟩; exact ⟨a, by omega⟩
      · rintro ⟨a, b⟩; exact ⟨a, by omega⟩
  have crdI : crd w f i ↔ ∃ t, t < 64 * n ∧ lb (J 36) t = true ∧ ¬ (t : Int) ≤ (nI M - nI (s_time w i)).toInt := by
    unfold crd
    rw [eM, hlim]
    constructor
    · rintro ⟨-, x, a, b⟩
      have := hin x a
      exact ⟨x, by omega, (hA x (by omega)).mpr a, by omega⟩
    · rintro ⟨t, a, b, c⟩
      exact ⟨hact, t, (hA t a).mp b, by omega⟩
  have same : z_row I 35 (upd (I 35) 5 (I 35 5)) = I := by
    have e : upd (I 35) 5 (I 35 5) = I 35 := by
      funext j
      by_cases h : j = 5
      · rw [h, pk_us]
      · rw [pk_un h]
    rw [e, z_row_idJ]
  have cont : ∀ (B : Bool), B = decide (lnn w i 0 = 3) → z_WP (z_X0 L xs) z_P0 (d + 2) m_Times_goThrough 29 [some (.ref 35), some (.ref 1), some (.int (nI i)), some (.int (nI (s_time w i))), none, none, none] [.int (z_bi B)] I (z_R0 kp sp wd) J F cn 0 0 Q := by
    intro B hB
    subst hB
    refine z_WP_gos [73, 76] 1000 fun K C hK hC => ?_
    conv => whnf
    rw [h5]
    refine hC _ _ _ _ _ _ _ _ _ _ (fun _ _ _ _ _ _ q => q) (ct_fill37 (fun r hr0 => ?_))
    conv => whnf
    refine hC _ _ _ _ _ _ _ _ _ _ (fun _ _ _ _ _ _ q => q) (ct_part36 hsp hn (by rw [hlim]; omega) (by rw [hlim]; omega) (fun o x v hox hxx hv => ?_))
    conv => whnf
    rw [z_row_n _ _ (show (36 : Nat) ≠ 37 by decide)] at hox hxx hv
    rw [z_row_s] at hxx
    rcases hv with ⟨rfl, hv⟩ | ⟨rfl, hv⟩
    · refine z_bt1 rfl ?_
      conv => whnf
      refine hK _ _ _ _ _ _ _ _ _ _ (fin I o x r _ hp h6 hsp hr0 hox hxx fun J' hJ => ?_)
      have := hQ J' (I 35 5) hJ (fcr_no hc fun z => by
        obtain ⟨t, a, b, c⟩ := crdI.mp z
        exact c (hv t a b))
      rw [same] at this
      exact this
    · refine z_bf1 (by decide) ?_
      conv => whnf
      have hcr : crd w f i := crdI.mpr hv
      refine ⟨fun g => ?_, fun g => ?_⟩
      · conv => whnf
        refine hK _ _ _ _ _ _ _ _ _ _ (fin I o x r _ hp h6 hsp hr0 hox hxx fun J' hJ => ?_)
        have := hQ J' (I 35 5) hJ (fcr_old hc g)
        rw [same] at this
        exact this
      · conv => whnf
        simp (disch := omega) only [z_lit, nI_add, pk_mul, z_pr1, z_pr2, nI_clamp, z_up_row, z_row_s, z_row_n, z_row_row, pk_us, pk_un]
        refine hK _ _ _ _ _ _ _ _ _ _ (fin _ o x r _ ?_ ?_ ?_ hr0 hox hxx fun J' hJ => hQ J' (nI i) hJ (fcr_new (by omega) hc g hcr))
        · exact pS_c hp (by rw [z_row_n _ _ (by decide)]) (z_row_n _ _ (by decide)) rfl h24 (fun _ _ _ _ => rfl)
        · rw [z_row_n _ _ (by decide)]; exact h6
        · rw [z_row_s, pk_un (by decide)]; exact hsp
  refine z_WP_gos [29] 1000 fun K C hK hC => ?_
  conv => whnf
  refine hC _ _ _ _ _ _ _ _ _ _ (fun _ _ _ _ _ _ q => q) (cp_told (f := 10) (by omega) (by decide) b10 ?_)
  conv => whnf
  refine hC _ _ _ _ _ _ _ _ _ _ (fun _ _ _ _ _ _ q => q) (cp_told (f := 0) (by omega) (by decide) b0 ?_)
  conv => whnf
  refine ⟨fun g => ?_, fun g => ?_⟩
  · conv => whnf
    refine hK _ _ _ _ _ _ _ _ _ _ (cont false ?_)
    rw [decide_eq_false fun z => g (by rw [z]; rfl)]
  · conv => whnf
    refine hK _ _ _ _ _ _ _ _ _ _ (cont true ?_)
    rw [decide_eq_true (nI_inj9 (by have := ho.2.1; omega) (by decide) g)]
end
