/-! elimination rows -/
theorem z_vi_el {st : List Value} {k : Int32 → List Value → Prop} (h : z_vi st k) : ∃ x t, st = .int x :: t ∧ k x t := by
  unfold z_vi at h; split at h
  · exact ⟨_, _, rfl, h⟩
  · exact h.elim
theorem z_vf_el {st : List Value} {k : UInt32 → List Value → Prop} (h : z_vf st k) : ∃ x t, st = .float x :: t ∧ k x t := by
  unfold z_vf at h; split at h
  · exact ⟨_, _, rfl, h⟩
  · exact h.elim
theorem z_vj_el {st : List Value} {k : Int64 → List Value → Prop} (h : z_vj st k) : ∃ x t, st = .long x :: t ∧ k x t := by
  unfold z_vj at h; split at h
  · exact ⟨_, _, rfl, h⟩
  · exact h.elim
theorem z_vr_el {st : List Value} {k : Nat → List Value → Prop} (h : z_vr st k) : ∃ x t, st = .ref x :: t ∧ k x t := by
  unfold z_vr at h; split at h
  · exact ⟨_, _, rfl, h⟩
  · exact h.elim
theorem z_vo_el {st : List Value} {k ko : Nat → List Value → Prop} {kn : List Value → Prop} (h : z_vo st k ko kn) : (∃ x t, st = .ref x :: t ∧ k x t) ∨ (∃ x t, st = .retAddr x :: t ∧ ko x t) ∨ ∃ t, st = .null :: t ∧ kn t := by
  unfold z_vo at h; split at h
  · exact Or.inl ⟨_, _, rfl, h⟩
  · exact Or.inr (Or.inl ⟨_, _, rfl, h⟩)
  · exact Or.inr (Or.inr ⟨_, rfl, h⟩)
  · exact h.elim
theorem z_vir_el {st : List Value} {k : Int32 → List Value → Prop} {kr : Nat → List Value → Prop} (h : z_vir st k kr) : (∃ x t, st = .int x :: t ∧ k x t) ∨ (∃ x t, st = .ref x :: t ∧ kr x t) := by
  unfold z_vir at h; split at h
  · exact Or.inl ⟨_, _, rfl, h⟩
  · exact Or.inr ⟨_, _, rfl, h⟩
  · exact h.elim
theorem z_b_el {b : Bool} {k : Prop} (h : z_b b k) : b = true ∧ k := by
  unfold z_b at h; split at h
  · exact ⟨rfl, h⟩
  · exact h.elim
theorem z_int_el {L : z_L} {i : Nat} {k : Int32 → Prop} (h : z_int L i k) : ∃ x, z_get L i = some (.int x) ∧ k x := by
  unfold z_int at h; split at h
  · rename_i x e; exact ⟨x, e, h⟩
  · exact h.elim
theorem z_flt_el {L : z_L} {i : Nat} {k : UInt32 → Prop} (h : z_flt L i k) : ∃ x, z_get L i = some (.float x) ∧ k x := by
  unfold z_flt at h; split at h
  · rename_i x e; exact ⟨x, e, h⟩
  · exact h.elim
theorem z_lng_el {L : z_L} {i : Nat} {k : Int64 → Prop} (h : z_lng L i k) : ∃ x, z_get L i = some (.long x) ∧ k x := by
  unfold z_lng at h; split at h
  · rename_i x e; exact ⟨x, e, h⟩
  · exact h.elim
theorem z_ref_el {L : z_L} {i : Nat} {k ko : Nat → Prop} {kn : Prop} (h : z_ref L i k ko kn) : (∃ x, z_get L i = some (.ref x) ∧ k x) ∨ (∃ x, z_get L i = some (.retAddr x) ∧ ko x) ∨ (z_get L i = some .null ∧ kn) := by
  unfold z_ref at h; split at h
  · rename_i x e; exact Or.inl ⟨x, e, h⟩
  · rename_i x e; exact Or.inr (Or.inl ⟨x, e, h⟩)
  · rename_i e; exact Or.inr (Or.inr ⟨e, h⟩)
  · exact h.elim
theorem z_fc_iff : ∀ (l : z_L) (k : z_L → Prop), z_fc l k ↔ k l
  | [], k => Iff.rfl
  | a :: l, k => z_fc_iff l (fun l => k (a :: l))
theorem z_pop_el : ∀ (n : Nat) (st as : List Value) (k : List Value → List Value → Prop), z_pop n st as k → ∃ as' t, as'.length = n ∧ st = as'.reverse ++ t ∧ k (as' ++ as) t
  | 0, st, as, k, h => ⟨[], st, rfl, rfl, h⟩
  | n + 1, [], as, k, h => h.elim
  | n + 1, v :: st, as, k, h => by
    obtain ⟨as', t, e1, e2, h⟩ := z_pop_el n st (v :: as) k h
    refine ⟨as' ++ [v], t, by simp [e1], by simp [e2], ?_⟩
    simpa using h
theorem z_pop_in : ∀ (n : Nat) (st as : List Value) (k : List Value → List Value → Prop) (as' t : List Value), as'.length = n → st = as'.reverse ++ t → k (as' ++ as) t → z_pop n st as k
  | 0, st, as, k, as', t, e1, e2, h => by
    cases as' with
    | nil => subst e2; exact h
    | cons a l => simp at e1
  | n + 1, st, as, k, as', t, e1, e2, h => by
    rcases List.eq_nil_or_concat as' with rfl | ⟨l, b, rfl⟩
    · simp at e1
    · subst e2
      have e3 : l.length = n := by simpa using e1
      simp only [List.concat_eq_append, List.reverse_append, List.reverse_cons, List.reverse_nil, List.nil_append, List.cons_append]
      exact z_pop_in n (l.reverse ++ t) (b :: as) k l t e3 rfl (by simpa using h)
theorem z_if1_mono {c : ClassFile.Cond} {x : Int32} {A B A' B' : Prop} (hA : A → A') (hB : B → B') (h : z_if1 c x A B) : z_if1 c x A' B' := by
  cases c <;> exact ⟨fun q => hA (h.1 q), fun q => hB (h.2 q)⟩
theorem z_if2_mono {c : ClassFile.Cond} {x y : Int32} {A B A' B' : Prop} (hA : A → A') (hB : B → B') (h : z_if2 c x y A B) : z_if2 c x y A' B' := by
  cases c <;> exact ⟨fun q => hA (h.1 q), fun q => hB (h.2 q)⟩
theorem z_sw_mono {x : Int32} {k k' : Nat → Prop} {d : Nat} (hk : ∀ t, k t → k' t) : ∀ (ps : List (Int32 × Nat)), z_sw x k d ps → z_sw x k' d ps
  | [], h => hk _ h
  | (v, t) :: r, h => ⟨fun q => hk _ (h.1 q), fun q => z_sw_mono hk r (h.2 q)⟩
theorem z_ii_el {st : List Value} {f : Int32 → Int32 → Int32} {k : List Value → Prop} (h : z_ii st f k) : ∃ x y t, st = .int y :: .int x :: t ∧ k (.int (f x y) :: t) := by
  obtain ⟨y, t, rfl, h1⟩ := z_vi_el h
  obtain ⟨x, t, rfl, h2⟩ := z_vi_el h1
  exact ⟨x, y, t, rfl, h2⟩
theorem z_i1_el {st : List Value} {f : Int32 → Int32} {k : List Value → Prop} (h : z_i1 st f k) : ∃ x t, st = .int x :: t ∧ k (.int (f x) :: t) := z_vi_el h
theorem z_jj_el {st : List Value} {f : Int64 → Int64 → Int64} {k : List Value → Prop} (h : z_jj st f k) : ∃ x y t, st = .long y :: .long x :: t ∧ k (.long (f x y) :: t) := by
  obtain ⟨y, t, rfl, h1⟩ := z_vj_el h
  obtain ⟨x, t, rfl, h2⟩ := z_vj_el h1
  exact ⟨x, y, t, rfl, h2⟩
theorem z_ff_el {st : List Value} {f : UInt32 → UInt32 → UInt32} {k : List Value → Prop} (h : z_ff st f k) : ∃ x y t, st = .float y :: .float x :: t ∧ vf_n32 (f x y) ∧ k (.float (f x y) :: t) := by
  obtain ⟨y, t, rfl, h1⟩ := z_vf_el h
  obtain ⟨x, t, rfl, h2⟩ := z_vf_el h1
  exact ⟨x, y, t, rfl, h2⟩
/-! one instruction is monotone in what follows it -/
theorem z_vi_m {st : List Value} {k k' : Int32 → List Value → Prop} (h : ∀ x t, k x t → k' x t) (q : z_vi st k) : z_vi st k' := by
  obtain ⟨x, t, rfl, q⟩ := z_vi_el q; exact h _ _ q
theorem z_vf_m {st : List Value} {k k' : UInt32 → List Value → Prop} (h : ∀ x t, k x t → k' x t) (q : z_vf st k) : z_vf st k' := by
  obtain ⟨x, t, rfl, q⟩ := z_vf_el q; exact h _ _ q
theorem z_vj_m {st : List Value} {k k' : Int64 → List Value → Prop} (h : ∀ x t, k x t → k' x t) (q : z_vj st k) : z_vj st k' := by
  obtain ⟨x, t, rfl, q⟩ := z_vj_el q; exact h _ _ q
theorem z_vr_m {st : List Value} {k k' : Nat → List Value → Prop} (h : ∀ x t, k x t → k' x t) (q : z_vr st k) : z_vr st k' := by
  obtain ⟨x, t, rfl, q⟩ := z_vr_el q; exact h _ _ q
theorem z_vo_m {st : List Value} {k k' ko ko' : Nat → List Value → Prop} {kn kn' : List Value → Prop} (h : ∀ x t, k x t → k' x t) (ho : ∀ x t, ko x t → ko' x t) (hn : ∀ t, kn t → kn' t) (q : z_vo st k ko kn) : z_vo st k' ko' kn' := by
  rcases z_vo_el q with ⟨x, t, rfl, q⟩ | ⟨x, t, rfl, q⟩ | ⟨t, rfl, q⟩
  · exact h _ _ q
  · exact ho _ _ q
  · exact hn _ q
theorem z_vir_m {st : List Value} {k k' : Int32 → List Value → Prop} {kr kr' : Nat → List Value → Prop} (h : ∀ x t, k x t → k' x t) (hr : ∀ x t, kr x t → kr' x t) (q : z_vir st k kr) : z_vir st k' kr' := by
  rcases z_vir_el q with ⟨x, t, rfl, q⟩ | ⟨x, t, rfl, q⟩
  · exact h _ _ q
  · exact hr _ _ q
theorem z_b_m {b : Bool} {k k' : Prop} (h : k → k') (q : z_b b k) : z_b b k' := by
  obtain ⟨rfl, q⟩ := z_b_el q; exact h q
theorem z_int_m {L : z_L} {i : Nat} {k k' : Int32 → Prop} (h : ∀ x, k x → k' x) (q : z_int L i k) : z_int L i k' := by
  obtain ⟨x, e, q⟩ := z_int_el q; unfold z_int; rw [e]; exact h _ q
theorem z_flt_m {L : z_L} {i : Nat} {k k' : UInt32 → Prop} (h : ∀ x, k x → k' x) (q : z_flt L i k) : z_flt L i k' := by
  obtain ⟨x, e, q⟩ := z_flt_el q; unfold z_flt; rw [e]; exact h _ q
theorem z_lng_m {L : z_L} {i : Nat} {k k' : Int64 → Prop} (h : ∀ x, k x → k' x) (q : z_lng L i k) : z_lng L i k' := by
  obtain ⟨x, e, q⟩ := z_lng_el q; unfold z_lng; rw [e]; exact h _ q
theorem z_ref_m {L : z_L} {i : Nat} {k k' ko ko' : Nat → Prop} {kn kn' : Prop} (h : ∀ x, k x → k' x) (ho : ∀ x, ko x → ko' x) (hn : kn → kn') (q : z_ref L i k ko kn) : z_ref L i k' ko' kn' := by
  rcases z_ref_el q with ⟨x, e, q⟩ | ⟨x, e, q⟩ | ⟨e, q⟩ <;> unfold z_ref <;> rw [e]
  · exact h _ q
  · exact ho _ q
  · exact hn q
theorem z_fc_m {l : z_L} {k k' : z_L → Prop} (h : ∀ l, k l → k' l) (q : z_fc l k) : z_fc l k' := (z_fc_iff _ _).mpr (h _ ((z_fc_iff _ _).mp q))
theorem z_ii_m {st : List Value} {f : Int32 → Int32 → Int32} {k k' : List Value → Prop} (h : ∀ t, k t → k' t) (q : z_ii st f k) : z_ii st f k' := z_vi_m (fun _ _ => z_vi_m fun _ _ => h _) q
theorem z_i1_m {st : List Value} {f : Int32 → Int32} {k k' : List Value → Prop} (h : ∀ t, k t → k' t) (q : z_i1 st f k) : z_i1 st f k' := z_vi_m (fun _ _ => h _) q
theorem z_jj_m {st : List Value} {f : Int64 → Int64 → Int64} {k k' : List Value → Prop} (h : ∀ t, k t → k' t) (q : z_jj st f k) : z_jj st f k' := z_vj_m (fun _ _ => z_vj_m fun _ _ => h _) q
theorem z_ff_m {st : List Value} {f : UInt32 → UInt32 → UInt32} {k k' : List Value → Prop} (h : ∀ t, k t → k' t) (q : z_ff st f k) : z_ff st f k' := z_vf_m (fun _ _ => z_vf_m fun _ _ z => ⟨z.1, h _ z.2⟩) q
theorem z_pop_m {n : Nat} {st as : List Value} {k k' : List Value → List Value → Prop} (h : ∀ a t, k a t → k' a t) (q : z_pop n st as k) : z_pop n st as k' := by
  obtain ⟨as', t, e1, e2, q⟩ := z_pop_el n st as k q
  exact z_pop_in n st as k' as' t e1 e2 (h _ _ q)
theorem z_ild_m {X : z_X} {kd : Nat} {st : List Value} {I : z_I} {k k' : List Value → Prop} (h : ∀ t, k t → k' t) (q : z_ild X kd st I k) : z_ild X kd st I k' :=
  z_vi_m (fun _ _ => z_vo_m (fun _ _ => z_b_m fun z => ⟨z.1, h _ z.2⟩) (fun _ _ => z_b_m fun z => ⟨z.1, h _ z.2⟩) (fun _ z => z)) q
theorem z_jld_m {X : z_X} {st : List Value} {J : z_J} {k k' : List Value → Prop} (h : ∀ t, k t → k' t) (q : z_jld X st J k) : z_jld X st J k' :=
  z_vi_m (fun _ _ => z_vr_m fun _ _ => z_b_m fun z => ⟨z.1, h _ z.2⟩) q
theorem z_fld_m {X : z_X} {st : List Value} {F : z_F} {k k' : List Value → Prop} (h : ∀ t, k t → k' t) (q : z_fld X st F k) : z_fld X st F k' :=
  z_vi_m (fun _ _ => z_vr_m fun _ _ => z_b_m fun z => ⟨z.1, h _ z.2⟩) q
theorem z_ist_m {X : z_X} {st : List Value} {I : z_I} {k k' : List Value → z_I → Prop} (h : ∀ t I, k t I → k' t I) (q : z_ist X st I k) : z_ist X st I k' :=
  z_vi_m (fun _ _ => z_vi_m fun _ _ => z_vr_m fun _ _ => z_b_m fun z => ⟨z.1, h _ _ z.2⟩) q
theorem z_bst_m {X : z_X} {st : List Value} {I : z_I} {k k' : List Value → z_I → Prop} (h : ∀ t I, k t I → k' t I) (q : z_bst X st I k) : z_bst X st I k' :=
  z_vi_m (fun _ _ => z_vi_m fun _ _ => z_vr_m fun _ _ => z_b_m fun z => ⟨z.1, h _ _ z.2⟩) q
theorem z_jst_m {X : z_X} {st : List Value} {J : z_J} {k k' : List Value → z_J → Prop} (h : ∀ t I, k t I → k' t I) (q : z_jst X st J k) : z_jst X st J k' :=
  z_vj_m (fun _ _ => z_vi_m fun _ _ => z_vr_m fun _ _ => z_b_m fun z => ⟨z.1, h _ _ z.2⟩) q
theorem z_fst_m {X : z_X} {st : List Value} {F : z_F} {k k' : List Value → z_F → Prop} (h : ∀ t I, k t I → k' t I) (q : z_fst X st F k) : z_fst X st F k' :=
  z_vf_m (fun _ _ => z_vi_m fun _ _ => z_vr_m fun _ _ => z_b_m fun z => ⟨z.1, h _ _ z.2⟩) q
theorem z_len_m {X : z_X} {st : List Value} {k k' : List Value → Prop} (h : ∀ t, k t → k' t) (q : z_len X st k) : z_len X st k' :=
  z_vo_m (fun _ _ => z_b_m (h _)) (fun _ _ => z_b_m (h _)) (fun _ z => z) q
theorem z_gf_m {X : z_X} {a b c : Nat} {st : List Value} {I : z_I} {R : z_R} {k k' : List Value → Prop} (h : ∀ t, k t → k' t) (q : z_gf X a b c st I R k) : z_gf X a b c st I R k' := by
  unfold z_gf at q ⊢
  split at q
  · exact z_vr_m (fun _ _ => z_b_m (h _)) q
  · exact z_vr_m (fun _ _ => z_b_m (z_vo_m (fun _ _ => h _) (fun _ _ => h _) (fun _ => h _))) q
  · exact z_vo_m (fun _ _ z => z) (fun _ _ => z_vi_m (fun _ _ => h _)) (fun _ z => z) q
  · exact z_vo_m (fun _ _ z => z) (fun _ _ => z_vo_m (fun _ _ z => z) (fun _ _ => h _) (fun _ z => z)) (fun _ z => z) q
  · exact q.elim
theorem z_pf_m {X : z_X} {a b c : Nat} {st : List Value} {I : z_I} {R : z_R} {k k' : List Value → z_I → z_R → Prop} (h : ∀ t I R, k t I R → k' t I R) (q : z_pf X a b c st I R k) : z_pf X a b c st I R k' := by
  unfold z_pf at q ⊢
  split at q
  · exact z_vi_m (fun _ _ => z_vr_m fun _ _ => z_b_m (h _ _ _)) q
  · exact z_vo_m (fun _ _ => z_vr_m fun _ _ => z_b_m (h _ _ _)) (fun _ _ => z_vr_m fun _ _ => z_b_m (h _ _ _)) (fun _ => z_vr_m fun _ _ => z_b_m (h _ _ _)) q
  · exact z_vi_m (fun _ _ => z_vr_m fun _ _ => z_b_m fun z => ⟨z.1, h _ _ _ z.2⟩) q
  · exact q.elim
theorem z_na_m {X : z_X} {kd : Nat} {st : List Value} {I : z_I} {J : z_J} {F : z_F} {cn uc us mc ms : Nat} {k k' : List Value → z_I → z_J → z_F → Nat → Nat → Nat → Prop} (h : ∀ t I J F cn uc us, k t I J F cn uc us → k' t I J F cn uc us) (q : z_na X kd st I J F cn uc us mc ms k) : z_na X kd st I J F cn uc us mc ms k' :=
  z_vi_m (fun _ _ => z_b_m fun z => ⟨z.1, h _ _ _ _ _ _ _ z.2⟩) q
theorem z_no_m {X : z_X} {a n : Nat} {I : z_I} {R : z_R} {cn uc us mc ms : Nat} {k k' : Value → z_I → z_R → Nat → Nat → Nat → Prop} (h : ∀ t I R cn uc us, k t I R cn uc us → k' t I R cn uc us) (q : z_no X a n I R cn uc us mc ms k) : z_no X a n I R cn uc us mc ms k' :=
  z_b_m (fun z => ⟨z.1, h _ _ _ _ _ _ z.2⟩) q
theorem z_cp_m {X : z_X} {st : List Value} {I : z_I} {J : z_J} {F : z_F} {k k' : List Value → z_I → z_J → z_F → Prop} (h : ∀ t I J F, k t I J F → k' t I J F) (q : z_cp X st I J F k) : z_cp X st I J F k' := by
  refine z_vi_m (fun n _ => z_vi_m fun dp _ => z_vr_m fun q _ => z_vi_m fun sp _ => z_vr_m fun p _ => z_b_m fun z => ⟨z.1, ?_⟩) q
  have z := z.2
  split at z
  · exact h _ _ _ _ z
  · exact h _ _ _ _ z
  · exact h _ _ _ _ z
  · exact z.elim
theorem z_rcv_m {X : z_X} {c d : Nat} {as : List Value} {k k' : Prop} (h : k → k') (q : z_rcv X c d as k) : z_rcv X c d as k' := by
  unfold z_rcv at q ⊢
  split at q
  · exact h q
  · exact h q
  · exact z_vo_m (fun _ _ z => z) (fun _ _ => z_vi_m fun _ _ => h) (fun _ z => z) q
  · exact z_vr_m (fun _ _ => z_b_m h) q
abbrev z_CM (C C' : z_C) : Prop := ∀ (d k : Nat) (as : List Value) (I : z_I) (R : z_R) (J : z_J) (F : z_F) (cn : Nat) (Q Q' : z_Q), (∀ v I R J F cn, Q v I R J F cn → Q' v I R J F cn) → C d k as I R J F cn Q → C' d k as I R J F cn Q'
abbrev z_KM (K K' : z_K) : Prop := ∀ pc L st I R J F cn uc us, K pc L st I R J F cn uc us → K' pc L st I R J F cn uc us
theorem z_call_m {X : z_X} {dp a b c d pc : Nat} {L : z_L} {st : List Value} {I : z_I} {R : z_R} {J : z_J} {F : z_F} {cn uc us mc ms : Nat} {K K' : z_K} {C C' : z_C} (hK : z_KM K K') (hC : z_CM C C') (q : z_call X dp a b c d pc L st I R J F cn uc us mc ms K C) : z_call X dp a b c d pc L st I R J F cn uc us mc ms K' C' := by
  refine z_pop_m (fun _ _ => z_b_m (z_rcv_m fun z => ?_)) q
  cases dp with
  | zero => exact z
  | succ dp =>
    simp only at z ⊢
    split at z
    · exact hC _ _ _ _ _ _ _ _ _ _ (fun _ _ _ _ _ _ => hK _ _ _ _ _ _ _ _ _ _) z
    · exact ⟨z.1, hC _ _ _ _ _ _ _ _ _ _ (fun _ _ _ _ _ _ => hK _ _ _ _ _ _ _ _ _ _) z.2⟩

theorem z_step_m {X : z_X} {rt mc ms dp : Nat} {e : z_E} {L : z_L} {st : List Value} {I : z_I} {R : z_R} {J : z_J} {F : z_F} {cn uc us : Nat} {K K' : z_K} {C C' : z_C} {Q : z_Q} (hK : z_KM K K') (hC : z_CM C C') (q : z_step X rt mc ms dp e L st I R J F cn uc us K C Q) : z_step X rt mc ms dp e L st I R J F cn uc us K' C' Q := by
  obtain ⟨pc, ins, len, ⟨a, b, c, d⟩, v, ps⟩ := e
  have g : ∀ {pc L st I R J F cn uc us}, K pc L st I R J F cn uc us → K' pc L st I R J F cn uc us := fun q => hK _ _ _ _ _ _ _ _ _ _ q
  cases ins <;> simp only [z_step] at q ⊢ <;> first
    | exact q
    | exact g q
    | exact z_ii_m (fun _ => g) q
    | exact z_i1_m (fun _ => g) q
    | exact z_jj_m (fun _ => g) q
    | exact z_ff_m (fun _ => g) q
    | exact z_int_m (fun _ => g) q
    | exact z_flt_m (fun _ => g) q
    | exact z_lng_m (fun _ => g) q
    | exact z_ref_m (fun _ => g) (fun _ => g) g q
    | exact z_vi_m (fun _ _ => z_fc_m fun _ => g) q
    | exact z_vf_m (fun _ _ => z_fc_m fun _ => g) q
    | exact z_vj_m (fun _ _ => z_fc_m fun _ => g) q
    | exact z_vr_m (fun _ _ => z_fc_m fun _ => g) q
    | exact z_int_m (fun _ => z_fc_m fun _ => g) q
    | exact z_vi_m (fun _ _ => g) q
    | exact z_vf_m (fun _ _ => g) q
    | exact z_vj_m (fun _ _ => g) q
    | exact z_vi_m (fun _ _ => z_vi_m fun _ _ z => ⟨z.1, g z.2⟩) q
    | exact z_vi_m (fun _ _ => z_vj_m fun _ _ => g) q
    | exact z_vj_m (fun _ _ => z_vj_m fun _ _ => g) q
    | exact z_vf_m (fun _ _ => z_vf_m fun _ _ => g) q
    | exact z_vi_m (fun _ _ => z_vr_m fun _ _ => g) q
    | exact z_vir_m (fun _ _ => g) (fun _ _ => g) q
    | exact z_vi_m (fun _ _ => z_if1_mono g g) q
    | exact z_vi_m (fun _ _ => z_vi_m fun _ _ => z_if2_mono g g) q
    | exact z_vo_m (fun _ _ => g) (fun _ _ z => z) (fun _ => g) q
    | exact z_vi_m (fun _ _ => z_sw_mono (fun _ => g) _) q
    | exact z_gf_m (fun _ => g) q
    | exact z_pf_m (fun _ _ _ => g) q
    | exact z_ild_m (fun _ => g) q
    | exact z_jld_m (fun _ => g) q
    | exact z_fld_m (fun _ => g) q
    | exact z_ist_m (fun _ _ => g) q
    | exact z_bst_m (fun _ _ => g) q
    | exact z_jst_m (fun _ _ => g) q
    | exact z_fst_m (fun _ _ => g) q
    | exact z_len_m (fun _ => g) q
    | exact z_na_m (fun _ _ _ _ _ _ _ => g) q
    | exact z_no_m (fun _ _ _ _ _ _ => g) q
    | exact z_call_m hK hC q
    | (split at q <;> first
      | exact q
      | exact g q
      | exact q.elim
      | exact z_cp_m (fun _ _ _ _ => g) q
      | exact z_vf_m (fun _ _ => z_b_m g) q
      | exact z_vr_m (fun _ _ => z_b_m g) q
      | exact z_vi_m (fun _ _ => z_b_m fun z => ⟨z.1, g z.2⟩) q
      | exact z_call_m hK hC q)
theorem z_from_sub {pc : Nat} : ∀ {l : List z_E} {e : z_E}, e ∈ z_from pc l → e ∈ l
  | [], _, h => h
  | a :: l, e, h => by
    unfold z_from at h
    cases hb : Nat.beq a.1 pc with
    | true => rw [hb] at h; exact h
    | false => rw [hb] at h; exact List.mem_cons_of_mem _ (z_from_sub h)
theorem z_from_hd {pc : Nat} : ∀ {l : List z_E} {e : z_E} {r : List z_E}, z_from pc l = e :: r → e.1 = pc
  | [], _, _, h => by cases h
  | a :: l, e, r, h => by
    unfold z_from at h
    cases hb : Nat.beq a.1 pc with
    | true => rw [hb] at h; cases h; exact Nat.eq_of_beq_eq_true hb
    | false => rw [hb] at h; exact z_from_hd h
theorem z_nx_sub {pc : Nat} {cs cd : List z_E} (hs : ∀ e ∈ cs, e ∈ cd) : ∀ e ∈ z_nx pc cs cd, e ∈ cd := by
  intro e h
  unfold z_nx at h
  split at h
  · exact z_from_sub h
  · rename_i a l
    cases hb : Nat.beq a.1 pc with
    | true => rw [hb] at h; exact hs e h
    | false => rw [hb] at h; exact z_from_sub h
theorem z_nx_hd {pc : Nat} {cs cd : List z_E} {e : z_E} {r : List z_E} (h : z_nx pc cs cd = e :: r) : e.1 = pc := by
  unfold z_nx at h
  split at h
  · exact z_from_hd h
  · rename_i a l
    cases hb : Nat.beq a.1 pc with
    | true => rw [hb] at h; cases h; exact Nat.eq_of_beq_eq_true hb
    | false => rw [hb] at h; exact z_from_hd h
theorem z_WP_mo {X : z_X} {P : z_P} : z_Mo (z_WP X P) := fun d m pc L st I R J F cn uc us Q Q' h w Z hm hc => hm _ _ _ _ _ _ _ _ _ _ _ _ Q Q' h (w Z hm hc)
theorem z_WP_cl {X : z_X} {P : z_P} : z_Cl X P (z_WP X P) := by
  intro d m e L st I R J F cn uc us Q he q Z hm hc
  refine hc d m e L st I R J F cn uc us Q he (z_step_m ?_ ?_ q)
  · exact fun _ _ _ _ _ _ _ _ _ _ w => w Z hm hc
  · exact fun _ _ _ _ _ _ _ _ Q1 Q2 h w => hm _ _ _ _ _ _ _ _ _ _ _ _ Q1 Q2 h (w Z hm hc)
theorem z_run_s (X : z_X) (P : z_P) (m d n : Nat) (e : z_E) (cs : List z_E) (L : z_L) (st : List Value) (I : z_I) (R : z_R) (J : z_J) (F : z_F) (cn uc us : Nat) (K : z_K) (C : z_C) (Q : z_Q) : z_run X P m d (n + 1) (e :: cs) L st I R J F cn uc us K C Q = z_step X (P m).1 (X.2.2.2.1 m).1 (X.2.2.2.1 m).2 d e L st I R J F cn uc us (fun pc L st I R J F cn uc us => z_run X P m d n (z_nx pc cs (P m).2.2) L st I R J F cn uc us K C Q) C Q := rfl
/-- a stretch of the plain reading, up to n instructions; what follows it is named by K and C, so that nothing unfolds there -/
theorem z_WP_go0 {X : z_X} {P : z_P} {d m : Nat} {Q : z_Q} : ∀ (n : Nat) (cs : List z_E) (L : z_L) (st : List Value) (I : z_I) (R : z_R) (J : z_J) (F : z_F) (cn uc us pc : Nat), (∀ e ∈ cs, e ∈ (P m).2.2) → (∀ e r, cs = e :: r → e.1 = pc) →
    z_run X P m d n cs L st I R J F cn uc us (fun pc L st I R J F cn uc us => z_WP X P d m pc L st I R J F cn uc us Q) (z_M X P) Q → z_WP X P d m pc L st I R J F cn uc us Q := by
  intro n
  induction n with
  | zero =>
    intro cs L st I R J F cn uc us pc hs hp q
    cases cs with
    | nil => exact q.elim
    | cons e r => rw [← hp e r rfl]; exact q
  | succ n ih =>
    intro cs L st I R J F cn uc us pc hs hp q
    cases cs with
    | nil => exact q.elim
    | cons e r =>
      rw [← hp e r rfl]
      rw [z_run_s] at q
      refine z_WP_cl d m e L st I R J F cn uc us Q (hs e List.mem_cons_self) (z_step_m ?_ ?_ q)
      · intro pc L st I R J F cn uc us q
        exact ih _ L st I R J F cn uc us pc (z_nx_sub fun e h => hs e (List.mem_cons_of_mem _ h)) (fun e r h => z_nx_hd h) q
      · exact fun _ _ _ _ _ _ _ _ Q1 Q2 h w => z_WP_mo _ _ _ _ _ _ _ _ _ _ _ _ Q1 Q2 h w
theorem z_run_m {X : z_X} {P : z_P} {m d : Nat} {K K' : z_K} {C C' : z_C} {Q : z_Q} (hK : z_KM K K') (hC : z_CM C C') : ∀ (n : Nat) (cs : List z_E) (L : z_L) (st : List Value) (I : z_I) (R : z_R) (J : z_J) (F : z_F) (cn uc us : Nat),
    z_run X P m d n cs L st I R J F cn uc us K C Q → z_run X P m d n cs L st I R J F cn uc us K' C' Q := by
  intro n
  induction n with
  | zero =>
    intro cs L st I R J F cn uc us q
    cases cs with
    | nil => exact q
    | cons e r => exact hK _ _ _ _ _ _ _ _ _ _ q
  | succ n ih =>
    intro cs L st I R J F cn uc us q
    cases cs with
    | nil => exact q
    | cons e r =>
      rw [z_run_s] at q ⊢
      exact z_step_m (fun _ _ _ _ _ _ _ _ _ _ q => ih _ _ _ _ _ _ _ _ _ _ q) hC q
theorem z_WP_go {X : z_X} {P : z_P} {d m pc : Nat} {L : z_L} {st : List Value} {I : z_I} {R : z_R} {J : z_J} {F : z_F} {cn uc us : Nat} {Q : z_Q} (n : Nat)
    (h : ∀ (K : z_K) (C : z_C), z_KM (fun pc L st I R J F cn uc us => z_WP X P d m pc L st I R J F cn uc us Q) K → z_CM (z_M X P) C → z_run X P m d n (z_from pc (P m).2.2) L st I R J F cn uc us K C Q) : z_WP X P d m pc L st I R J F cn uc us Q :=
  z_WP_go0 n (z_from pc (P m).2.2) L st I R J F cn uc us pc (fun _ h => z_from_sub h) (fun _ _ h => z_from_hd h) (h _ _ (fun _ _ _ _ _ _ _ _ _ _ q => q) (fun d k as I R J F cn Q Q' hq w => z_WP_mo _ _ _ _ _ _ _ _ _ _ _ _ Q Q' hq w))
