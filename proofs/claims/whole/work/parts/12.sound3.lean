theorem z_inits : (z_msL.all fun a => bif z_kd a 2 then decide ((z_MT a).2.2.2 = none) else true) = true := by decide +kernel
theorem z_plain : ∀ (ci : Nat) (q : vw_C), z_cl[ci]? = some q → ∀ j, j < q.2.2 → (match z_ty (q.2.1 j).2.2.1 with
    | .object _ => true
    | .array _ => true
    | .int => true
    | .boolean => true
    | _ => false) = true := by
  intro ci q h
  match ci, h with
  | 0, h => cases h; decide +kernel
  | 1, h => cases h; decide +kernel
  | 2, h => cases h; decide +kernel
  | 3, h => cases h; decide +kernel
  | 4, h => cases h; decide +kernel
  | 5, h => cases h; decide +kernel
  | 6, h => cases h; decide +kernel
  | 7, h => cases h; decide +kernel
  | 8, h => cases h; decide +kernel
  | 9, h => cases h; decide +kernel
  | 10, h => cases h; decide +kernel
  | 11, h => cases h; decide +kernel
  | _ + 12, h => simp [z_cl] at h
theorem z_chk_el {m pc len a b c d : Nat} {ins : Instr} {v : Int32} {ps : List (Int32 × Nat)} (h : z_chk m (pc, ins, len, (a, b, c, d), v, ps) = true) : decode (z_MT m).2.1 pc = .ok (ins, len) ∧ z_ck2 (z_oc m) m pc ins len a b c d v ps = true := by
  unfold z_chk at h
  simp only [Bool.and_eq_true] at h
  obtain ⟨h1, h2⟩ := h
  refine ⟨?_, h2⟩
  split at h1
  · rename_i i n hd
    simp only [Bool.and_eq_true, decide_eq_true_eq] at h1
    rw [hd, h1.1, Nat.eq_of_beq_eq_true h1.2]
  · cases h1
theorem z_and3 {x y z : Bool} (h : (x && y && z) = true) : x = true ∧ y = true ∧ z = true := by
  simp only [Bool.and_eq_true] at h; exact ⟨h.1.1, h.1.2, h.2⟩
theorem z_and2 {x y : Bool} (h : (x && y) = true) : x = true ∧ y = true := by
  simp only [Bool.and_eq_true] at h; exact h
theorem z_set1_wf {cn i : Nat} {L : z_L} {v : Value} (hL : ∀ i v, z_get L i = some v → z_ok cn v) (hv : z_ok cn v) : ∀ j w, z_get (z_set1 L i v) j = some w → z_ok cn w := by
  intro j w h
  rcases z_set1_get h with ⟨-, rfl⟩ | ⟨-, h, -⟩
  · exact hv
  · exact hL j w h
theorem z_set2_wf {cn i : Nat} {L : z_L} {v : Value} (hL : ∀ i v, z_get L i = some v → z_ok cn v) (hv : z_ok cn v) : ∀ j w, z_get (z_set2 L i v) j = some w → z_ok cn w := by
  intro j w h
  rcases z_set2_get h with ⟨-, rfl⟩ | ⟨-, -, h, -⟩
  · exact hv
  · exact hL j w h
theorem z_isr_cl {a b : Nat} {q : vw_C} (hq : z_cl[a]? = some q) : z_isr a b = (match z_ty (q.2.1 b).2.2.1 with
    | .object _ => true
    | .array _ => true
    | _ => false) := by unfold z_isr; rw [hq]; rfl
def z_ptk (a b k : Nat) (T : u_T) : Bool := match k with
    | 0 => decide (z_ty (T b).2.2.1 = .int)
    | 1 => z_isr a b
    | 2 => decide (z_ty (T b).2.2.1 = .boolean)
    | _ => false
theorem z_pt_el {a b k : Nat} {y : MethodName} {C : String} {T : u_T} {N : Nat} (hqq : z_cl[a]? = some (C, T, N)) (h : z_pt a b k y = true) : z_ptk a b k T = true ∧ ((T b).2.2.2 = false ∨ ((T b).2.2.2 = true ∧ y.name = "<init>" ∧ C = y.cls)) := by
  unfold z_pt at h
  rw [hqq] at h
  obtain ⟨h1, h2⟩ := z_and2 h
  refine ⟨h1, ?_⟩
  cases hf : (T b).2.2.2 with
  | false => exact Or.inl rfl
  | true =>
    simp only [hf, Bool.not_true, Bool.false_or] at h2
    obtain ⟨h3, h4⟩ := z_and2 h2
    exact Or.inr ⟨rfl, of_decide_eq_true h3, of_decide_eq_true h4⟩
theorem z_nar_ref {a b : Nat} {C : String} {T : u_T} {N : Nat} (hqq : z_cl[a]? = some (C, T, N)) (h : z_isr a b = true) {w : Value} (hw : w = .null ∨ ∃ r, w = .ref r) : narrow (z_ty (T b).2.2.1) w = w ∧ fits (z_ty (T b).2.2.1) w = true := by
  rw [z_isr_cl hqq] at h
  simp only at h
  generalize z_ty (T b).2.2.1 = ty at h ⊢
  cases ty <;> first
    | exact (Bool.false_ne_true h).elim
    | (rcases hw with rfl | ⟨r, rfl⟩ <;> exact ⟨rfl, rfl⟩)
theorem z_ceA {ad : Nat → Nat} {ex : Nat → Value} {cA : Nat → ClassId} {I : z_I} {R : z_R} {J : z_J} {F : z_F} {q : Nat} (h : 1 ≤ (z_sh0 q).1) : ∃ (t0 : Nat) (cx : ClassId) (ty : FieldType) (x : vp_A), z_ce ad ex cA I R J F q = .inl (cx, x) ∧ (z_tys cA)[t0]? = some (cx, ty) ∧ x.1 = (z_sh0 q).2 := by
  unfold z_ce
  generalize (z_sh0 q).1 = k at h ⊢
  match k, h with
  | 1, _ => exact ⟨0, _, _, _, rfl, rfl, rfl⟩
  | 2, _ => exact ⟨1, _, _, _, rfl, rfl, rfl⟩
  | 3, _ => exact ⟨2, _, _, _, rfl, rfl, rfl⟩
  | k + 4, _ => exact ⟨3, _, _, _, rfl, rfl, rfl⟩
theorem z_cond_le {b : Bool} {x y : Nat × Nat × (Nat → Int32)} (hx : x.1 ≤ 2) (hy : y.1 ≤ 2) : (bif b then x else y).1 ≤ 2 := by cases b <;> assumption
theorem z_xa_le (L : Nat) (xs : Nat → Int32) (j : Nat) : (z_xa0 L xs j).1 ≤ 2 := by
  unfold z_xa0
  repeat' (first | exact Nat.le_refl _ | exact Nat.zero_le _ | exact Nat.le_succ 1 | refine z_cond_le ?_ ?_)
theorem z_arr_same {D : va_G} {cA : Nat → ClassId} {s : State} {cx : ClassId} {ty : FieldType} (hK : va_K D z_cl (z_tys cA) s) (p0 : va_K D z_cl (z_tys cA ++ [(cx, ty)]) s) (ti : Nat) {c0 : ClassId} (h : (z_tys cA)[ti]? = some (c0, ty)) (hr : ∀ c, va_RA s c ty = (s.vm.findClass ("[" ++ ty.toString) = some c)) : cx = c0 := by
  have h1 := (hK.2 ti _ h).2
  have h2 := (p0.2 4 (cx, ty) rfl).2
  rw [hr] at h1 h2
  exact Option.some.inj (h2.symm.trans h1)
theorem z_fv_congr {ad ad' : Nat → Nat} {ex : Nat → Value} {I I' : z_I} {R R' : z_R} {cn i c : Nat} (ha : ∀ i, i < cn → ad' i = ad i) (hI : I' i = I i) (hR : R' i = R i) (hok : ∀ k, z_ok cn (R i k)) : z_fv ad' ex I' R' c i = z_fv ad ex I R c i := by
  funext k
  unfold z_fv
  rw [hI, hR, z_cc_congr ha (hok k)]
theorem z_push_old {ad : Nat → Nat} {ex : Nat → Value} {cA : Nat → ClassId} {I I' : z_I} {R R' : z_R} {J J' : z_J} {F F' : z_F} {cn ra : Nat} (hR : ∀ i k, i < cn → (z_sh0 i).1 = 0 → z_ok cn (R i k)) (h : ∀ i, i < cn → I' i = I i ∧ R' i = R i ∧ J' i = J i ∧ F' i = F i) :
    ∀ i, i < cn → z_row ad cn ra i = ad i ∧ z_ce (z_row ad cn ra) ex cA I' R' J' F' i = z_ce ad ex cA I R J F i := by
  intro i hi
  refine ⟨z_row_ne (Nat.ne_of_lt hi), ?_⟩
  obtain ⟨h1, h2, h3, h4⟩ := h i hi
  by_cases hk : (z_sh0 i).1 = 0
  · rw [z_ce0 hk, z_ce0 hk, z_fv_congr (fun i hi => z_row_ne (Nat.ne_of_lt hi)) h1 h2 (fun k => hR i k hi hk)]
  · unfold z_ce
    generalize hg : (z_sh0 i).1 = k at hk ⊢
    match k, hk with
    | 0, hk => exact absurd rfl hk
    | 1, _ => simp only [h1]
    | 2, _ => simp only [h1]
    | 3, _ => simp only [h3]
    | k + 4, _ => simp only [h4]
theorem z_rcv_el {X : z_X} {c d : Nat} {as : List Value} {k : Prop} (h : z_rcv X c d as k) : z_rcv X c d as True ∧ k := by
  refine ⟨z_rcv_m (fun _ => trivial) h, ?_⟩
  unfold z_rcv at h
  split at h
  · exact h
  · exact h
  · rcases z_vo_el h with ⟨x, t, rfl, h⟩ | ⟨x, t, rfl, h⟩ | ⟨t, rfl, h⟩
    · exact h.elim
    · obtain ⟨_, _, _, h⟩ := z_vi_el h; exact h
    · exact h.elim
  · obtain ⟨x, t, rfl, h⟩ := z_vr_el h
    exact (z_b_el h).2
theorem z_call_el {X : z_X} {d a b c dd pc : Nat} {L : z_L} {st : List Value} {I : z_I} {R : z_R} {J : z_J} {F : z_F} {cn uc us mc ms : Nat} {K : z_K} {C : z_C} (huc : uc ≤ mc) (hus : us ≤ ms) (q : z_call X d a b c dd pc L st I R J F cn uc us mc ms K C) :
    ∃ as t dp, as.length = b ∧ st = as.reverse ++ t ∧ z_cat t ≤ 8 ∧ z_cat as ≤ X.2.2.2.2 a ∧ d = dp + 1 ∧ uc + (X.2.2.2.1 a).1 ≤ mc ∧ us + (X.2.2.2.1 a).2 ≤ ms ∧ z_rcv X c dd as True ∧ C dp a as I R J F cn (fun r I R J F cn => K (pc + 3) L (z_push r t) I R J F cn (uc + (X.2.2.2.1 a).1) (us + (X.2.2.2.1 a).2)) := by
  obtain ⟨as, t, e1, e2, q⟩ := z_pop_el _ _ _ _ q
  rw [List.append_nil] at q
  obtain ⟨hb, q⟩ := z_b_el q
  obtain ⟨h8, h9⟩ := z_and2 hb
  obtain ⟨hr, q⟩ := z_rcv_el q
  cases d with
  | zero => exact q.elim
  | succ dp =>
    refine ⟨as, t, dp, e1, e2, Nat.le_of_ble_eq_true h8, Nat.le_of_ble_eq_true h9, rfl, ?_⟩
    simp only at q
    split at q
    · rename_i hz
      obtain ⟨z1, z2⟩ := z_and2 hz
      have z1 := Nat.eq_of_beq_eq_true z1
      have z2 := Nat.eq_of_beq_eq_true z2
      rw [z1, z2]
      exact ⟨huc, hus, hr, q⟩
    · exact ⟨q.1.1, q.1.2, hr, q.2⟩
theorem z_nfw : nativeFrameWords "java/lang/System" "arraycopy" 5 ≤ 20 := by decide
theorem z_init_none {a : Nat} (h : a ∈ z_msL) (hk : z_kd a 2 = true) : (z_MT a).2.2.2 = none := of_decide_eq_true (by
  have := List.all_eq_true.mp z_inits a h
  rw [hk] at this
  exact this)
theorem z_df {a : Nat} {C : String} {T : u_T} {N : Nat} (hqq : z_cl[a]? = some (C, T, N)) : ∀ j, j < N → defaultValue (z_ty (T j).2.2.1) = (bif z_isr a j then .null else .int 0) := by
  intro j hj
  rw [z_isr_cl hqq]
  have h := z_plain a _ hqq j hj
  simp only at h ⊢
  generalize z_ty (T j).2.2.1 = ty at h ⊢
  cases ty <;> first
    | exact (Bool.false_ne_true h).elim
    | rfl
theorem z_shape {L : Nat} {xs : Nat → Int32} {q k n : Nat} (h : (Nat.beq ((z_X0 L xs).1 q).1 k && Nat.beq ((z_X0 L xs).1 q).2 n) = true) : z_sh0 q = (k, n) := by
  obtain ⟨h1, h2⟩ := z_and2 h
  have h1 := Nat.eq_of_beq_eq_true h1
  have h2 := Nat.eq_of_beq_eq_true h2
  exact Prod.ext h1 h2

section ZC
variable {l : Launch} {D : va_G} {cA : Nat → ClassId} {base : Nat} {ex : Nat → Value} {L : Nat} {xs : Nat → Int32}
set_option maxHeartbeats 4000000 in
set_option maxRecDepth 100000 in
theorem z_S_cl : z_Cl (z_X0 L xs) z_P0 (z_S l D cA base ex L xs) := by
  intro d m e LL st I R J F cn uc us Q he q
  have hck := z_ok_row he
  obtain ⟨pc, ins, len, ⟨a, b, k, dd⟩, v, ps⟩ := e
  intro p e Rm s mi args below meth c H locs ls Qf ad ad0 cn0 Cx hHR hS hl hwf hGG huc hus hret
  obtain ⟨hx, hb, hml, hown, hts, hnm, hK, hE, hbs, hfr, hlo, hrc, hrs, hoc⟩ := id Cx
  obtain ⟨hst, hL, hR⟩ := id hwf
  have hxx := hE.1
  obtain ⟨hdg, hck⟩ := z_chk_el hck
  have go : ∀ {pc' LL' st' I' R' J' F' cn' uc' us' H' locs' ls' ad'}, z_S l D cA base ex L xs d m pc' LL' st' I' R' J' F' cn' uc' us' Q → z_HR D cA base ad' ex I' R' J' F' cn' H' → va_S (z_A base) s.heap H' locs' → lv_has ls' (z_P0 m).2.1 (z_al ad' ex 0 LL') → z_wf cn' LL' st' R' → (cn0 ≤ cn' ∧ ∀ i, i < cn0 → ad' i = ad0 i) → uc' ≤ (z_bd0 m).1 → us' ≤ (z_bd0 m).2 → W p l e Rm s mi args below meth c H' locs' uc' us' Qf (F0 mi pc' ls' (st'.map (z_cc ad' ex))) :=
    fun q h1 h2 h3 h4 h7 h5 h6 => q p e Rm s mi args below meth c _ _ _ Qf _ ad0 cn0 Cx h1 h2 h3 h4 h7 h5 h6 hret
  have g1 : ∀ {pc' st'}, z_S l D cA base ex L xs d m pc' LL st' I R J F cn uc us Q → (∀ v ∈ st', z_ok cn v) → W p l e Rm s mi args below meth c H locs uc us Qf (F0 mi pc' ls (st'.map (z_cc ad ex))) := fun q h => go q hHR hS hl ⟨h, hL, hR⟩ hGG huc hus
  have gl : ∀ {i w}, z_get LL i = some w → ls[i]? = some (.val (z_cc ad ex w)) := fun h => hl.2.2 _ (by have := z_al_mem (ad := ad) (ex := ex) (k := 0) h; rwa [Nat.zero_add] at this)
  show W p l e Rm s mi args below meth c H locs uc us Qf (F0 mi pc ls (st.map (z_cc ad ex)))
  cases ins with
  | iconst n =>
    obtain ⟨h1, h2⟩ := z_and2 hck
    have h1 : len = 1 := Nat.eq_of_beq_eq_true h1; subst h1
    exact lv_iconst hx hb hdg (of_decide_eq_true h2) (g1 q (z_p trivial hst))
  | bipush n =>
    obtain ⟨h1, h2⟩ := z_and2 hck
    have h1 : len = 2 := Nat.eq_of_beq_eq_true h1; subst h1
    exact lv_bipush hx hb hdg (of_decide_eq_true h2) (g1 q (z_p trivial hst))
  | sipush n =>
    obtain ⟨h1, h2⟩ := z_and2 hck
    have h1 : len = 3 := Nat.eq_of_beq_eq_true h1; subst h1
    exact lv_sipush hx hb hdg (of_decide_eq_true h2) (g1 q (z_p trivial hst))
  | ldc i =>
    obtain ⟨h1, h2⟩ := z_and2 hck
    have h1 : len = 2 := Nat.eq_of_beq_eq_true h1; subst h1
    match k, q, h2 with
    | 0, q, h2 => exact lv_ldc hx hb hown (hts _ (z_hv_ok h2)) hdg (g1 q (z_p trivial hst))
    | 1, q, h2 => exact lv_ldcf hx hb hown (hts _ (z_cf_ok h2)) hdg (g1 q (z_p trivial hst))
    | 2, q, h2 =>
      obtain ⟨t, ht, h3, h4, h5⟩ := z_hs_el h2
      obtain ⟨tx, ra, e1, e2⟩ := hE.2.2.2.2.1 t ht
      rw [h3, h4] at e2
      rw [h5] at e1
      have := g1 q (z_p trivial hst)
      simp only [List.map_cons, z_cc, e1] at this
      exact va_ldcS hx hb hown e2 hdg this
    | _ + 3, q, h2 => cases h2
  | ldc_w i =>
    obtain ⟨h1, h2⟩ := z_and2 hck
    have h1 : len = 3 := Nat.eq_of_beq_eq_true h1; subst h1
    match k, q, h2 with
    | 0, q, h2 => exact lv_ldcw hx hb hown (hts _ (z_hv_ok h2)) hdg (g1 q (z_p trivial hst))
    | 1, q, h2 => exact z_ldcwF hx hb hown (hts _ (z_cf_ok h2)) hdg (g1 q (z_p trivial hst))
    | 2, q, h2 =>
      obtain ⟨t, ht, h3, h4, h5⟩ := z_hs_el h2
      obtain ⟨tx, ra, e1, e2⟩ := hE.2.2.2.2.1 t ht
      rw [h3, h4] at e2
      rw [h5] at e1
      have := g1 q (z_p trivial hst)
      simp only [List.map_cons, z_cc, e1] at this
      exact z_ldcwS hx hb hown e2 hdg this
    | _ + 3, q, h2 => cases h2
  | ldc2_w i =>
    obtain ⟨h1, h2⟩ := z_and2 hck
    have h1 : len = 3 := Nat.eq_of_beq_eq_true h1; subst h1
    exact lv_ldc2 hx hb hown (hts _ (z_cj_ok h2)) hdg (g1 q (z_p trivial hst))
  | lconst n =>
    have h1 : len = 1 := Nat.eq_of_beq_eq_true hck; subst h1
    exact lv_lconst hx hb hdg rfl (g1 q (z_p trivial hst))
  | fconst n =>
    have h1 : len = 1 := Nat.eq_of_beq_eq_true hck; subst h1
    match n, q, hdg with
    | 0, q, hdg => exact lv_fconst0 hx hb hdg (g1 q (z_p trivial hst))
    | 1, q, hdg => exact lv_fconst1 hx hb hdg (g1 q (z_p trivial hst))
    | 2, q, hdg => exact lv_fconst2 hx hb hdg (g1 q (z_p trivial hst))
  | aconst_null =>
    have h1 : len = 1 := Nat.eq_of_beq_eq_true hck; subst h1
    exact lv_null hx hb hdg (g1 q (z_p trivial hst))
  | iload i =>
    have h1 : len = 2 := Nat.eq_of_beq_eq_true hck; subst h1
    obtain ⟨x, hg, q⟩ := z_int_el q
    exact lv_iload hx hb hdg (gl hg) (g1 q (z_p trivial hst))
  | iload_n i =>
    have h1 : len = 1 := Nat.eq_of_beq_eq_true hck; subst h1
    obtain ⟨x, hg, q⟩ := z_int_el q
    exact lv_iload_n hx hb hdg rfl (gl hg) (g1 q (z_p trivial hst))
  | fload i =>
    have h1 : len = 2 := Nat.eq_of_beq_eq_true hck; subst h1
    obtain ⟨x, hg, q⟩ := z_flt_el q
    exact lv_fload hx hb hdg (gl hg) (g1 q (z_p trivial hst))
  | fload_n i =>
    have h1 : len = 1 := Nat.eq_of_beq_eq_true hck; subst h1
    obtain ⟨x, hg, q⟩ := z_flt_el q
    exact lv_fload_n hx hb hdg rfl (gl hg) (g1 q (z_p trivial hst))
  | lload i =>
    have h1 : len = 2 := Nat.eq_of_beq_eq_true hck; subst h1
    obtain ⟨x, hg, q⟩ := z_lng_el q
    exact lv_lload hx hb hdg (gl hg) (g1 q (z_p trivial hst))
  | lload_n i =>
    have h1 : len = 1 := Nat.eq_of_beq_eq_true hck; subst h1
    obtain ⟨x, hg, q⟩ := z_lng_el q
    exact lv_lload_n hx hb hdg rfl (gl hg) (g1 q (z_p trivial hst))
  | aload i =>
    have h1 : len = 2 := Nat.eq_of_beq_eq_true hck; subst h1
    rcases z_ref_el q with ⟨x, hg, q⟩ | ⟨x, hg, q⟩ | ⟨hg, q⟩
    · exact lv_aload hx hb hdg (gl hg) (g1 q (z_p (hL _ _ hg) hst))
    · have h3 := gl hg
      have h4 := g1 q (z_p trivial hst)
      simp only [List.map_cons, z_cc] at h3 h4
      rcases hxx x with hz | ⟨ra, hz⟩
      · rw [hz] at h3 h4; exact lv_aloadN hx hb hdg h3 h4
      · rw [hz] at h3 h4; exact lv_aload hx hb hdg h3 h4
    · exact lv_aloadN hx hb hdg (gl hg) (g1 q (z_p trivial hst))
  | aload_n i =>
    have h1 : len = 1 := Nat.eq_of_beq_eq_true hck; subst h1
    rcases z_ref_el q with ⟨x, hg, q⟩ | ⟨x, hg, q⟩ | ⟨hg, q⟩
    · exact lv_aload_n hx hb hdg rfl (gl hg) (g1 q (z_p (hL _ _ hg) hst))
    · have h3 := gl hg
      have h4 := g1 q (z_p trivial hst)
      simp only [List.map_cons, z_cc] at h3 h4
      rcases hxx x with hz | ⟨ra, hz⟩
      · rw [hz] at h3 h4; exact lv_aload_nN hx hb hdg rfl h3 h4
      · rw [hz] at h3 h4; exact lv_aload_n hx hb hdg rfl h3 h4
    · exact lv_aload_nN hx hb hdg rfl (gl hg) (g1 q (z_p trivial hst))
  | istore i =>
    obtain ⟨h1, h2⟩ := z_and2 hck
    have h1 : len = 2 := Nat.eq_of_beq_eq_true h1; subst h1
    have h2 := Nat.le_of_ble_eq_true h2
    obtain ⟨x, t, rfl, q⟩ := z_vi_el q
    have q := (z_fc_iff _ _).mp q
    exact lv_istore hx hb hdg hl h2 rfl (fun ls hl => go q hHR hS (z_store1 hxx hl) ⟨z_t hst, z_set1_wf hL trivial, hR⟩ hGG huc hus)
  | istore_n i =>
    obtain ⟨h1, h2⟩ := z_and2 hck
    have h1 : len = 1 := Nat.eq_of_beq_eq_true h1; subst h1
    have h2 := Nat.le_of_ble_eq_true h2
    obtain ⟨x, t, rfl, q⟩ := z_vi_el q
    have q := (z_fc_iff _ _).mp q
    exact lv_istore_n hx hb hdg rfl hl h2 rfl (fun ls hl => go q hHR hS (z_store1 hxx hl) ⟨z_t hst, z_set1_wf hL trivial, hR⟩ hGG huc hus)
  | fstore i =>
    obtain ⟨h1, h2⟩ := z_and2 hck
    have h1 : len = 2 := Nat.eq_of_beq_eq_true h1; subst h1
    have h2 := Nat.le_of_ble_eq_true h2
    obtain ⟨x, t, rfl, q⟩ := z_vf_el q
    have q := (z_fc_iff _ _).mp q
    exact lv_fstore hx hb hdg hl h2 rfl (fun ls hl => go q hHR hS (z_store1 hxx hl) ⟨z_t hst, z_set1_wf hL trivial, hR⟩ hGG huc hus)
  | fstore_n i =>
    obtain ⟨h1, h2⟩ := z_and2 hck
    have h1 : len = 1 := Nat.eq_of_beq_eq_true h1; subst h1
    have h2 := Nat.le_of_ble_eq_true h2
    obtain ⟨x, t, rfl, q⟩ := z_vf_el q
    have q := (z_fc_iff _ _).mp q
    exact lv_fstore_n hx hb hdg rfl hl h2 rfl (fun ls hl => go q hHR hS (z_store1 hxx hl) ⟨z_t hst, z_set1_wf hL trivial, hR⟩ hGG huc hus)
  | astore i =>
    obtain ⟨h1, h2⟩ := z_and2 hck
    have h1 : len = 2 := Nat.eq_of_beq_eq_true h1; subst h1
    have h2 := Nat.le_of_ble_eq_true h2
    obtain ⟨x, t, rfl, q⟩ := z_vr_el q
    have q := (z_fc_iff _ _).mp q
    exact lv_astore hx hb hdg hl h2 rfl (fun ls hl => go q hHR hS (z_store1 hxx hl) ⟨z_t hst, z_set1_wf hL (z_hd hst), hR⟩ hGG huc hus)
  | astore_n i =>
    obtain ⟨h1, h2⟩ := z_and2 hck
    have h1 : len = 1 := Nat.eq_of_beq_eq_true h1; subst h1
    have h2 := Nat.le_of_ble_eq_true h2
    obtain ⟨x, t, rfl, q⟩ := z_vr_el q
    have q := (z_fc_iff _ _).mp q
    exact lv_astore_n hx hb hdg rfl hl h2 rfl (fun ls hl => go q hHR hS (z_store1 hxx hl) ⟨z_t hst, z_set1_wf hL (z_hd hst), hR⟩ hGG huc hus)
  | lstore i =>
    obtain ⟨h1, h2⟩ := z_and2 hck
    have h1 : len = 2 := Nat.eq_of_beq_eq_true h1; subst h1
    have h2 := Nat.le_of_ble_eq_true h2
    obtain ⟨x, t, rfl, q⟩ := z_vj_el q
    have q := (z_fc_iff _ _).mp q
    exact lv_lstore hx hb hdg hl h2 rfl (fun ls hl => go q hHR hS (z_store2 hxx hl) ⟨z_t hst, z_set2_wf hL trivial, hR⟩ hGG huc hus)
  | lstore_n i =>
    obtain ⟨h1, h2⟩ := z_and2 hck
    have h1 : len = 1 := Nat.eq_of_beq_eq_true h1; subst h1
    have h2 := Nat.le_of_ble_eq_true h2
    obtain ⟨x, t, rfl, q⟩ := z_vj_el q
    have q := (z_fc_iff _ _).mp q
    exact lv_lstore_n hx hb hdg rfl hl h2 rfl (fun ls hl => go q hHR hS (z_store2 hxx hl) ⟨z_t hst, z_set2_wf hL trivial, hR⟩ hGG huc hus)
  | iinc i n =>
    obtain ⟨h1, h2, h3⟩ := z_and3 hck
    have h1 : len = 3 := Nat.eq_of_beq_eq_true h1; subst h1
    have h3 := Nat.le_of_ble_eq_true h3
    have h2 := of_decide_eq_true h2
    obtain ⟨x, hg, q⟩ := z_int_el q
    have q := (z_fc_iff _ _).mp q
    obtain ⟨kk, hkk⟩ := List.getElem?_of_mem (z_al_mem (ad := ad) (ex := ex) (k := 0) hg)
    rw [Nat.zero_add] at hkk
    exact lv_iinc (v := x + v) hx hb hdg hl hkk (by rw [h2]) h3 rfl (fun ls hl => go q hHR hS (z_store1 (v := .int (x + v)) hxx hl) ⟨hst, z_set1_wf hL trivial, hR⟩ hGG huc hus)
  | iadd =>
    have h1 : len = 1 := Nat.eq_of_beq_eq_true hck; subst h1
    simp only [z_step] at q
    obtain ⟨x, y, t, rfl, q⟩ := z_ii_el q
    exact lv_iadd hx hb hdg (g1 q (z_p trivial (z_t (z_t hst))))
  | isub =>
    have h1 : len = 1 := Nat.eq_of_beq_eq_true hck; subst h1
    simp only [z_step] at q
    obtain ⟨x, y, t, rfl, q⟩ := z_ii_el q
    exact lv_isub hx hb hdg (g1 q (z_p trivial (z_t (z_t hst))))
  | imul =>
    have h1 : len = 1 := Nat.eq_of_beq_eq_true hck; subst h1
    simp only [z_step] at q
    obtain ⟨x, y, t, rfl, q⟩ := z_ii_el q
    exact lv_imul hx hb hdg (g1 q (z_p trivial (z_t (z_t hst))))
  | iand =>
    have h1 : len = 1 := Nat.eq_of_beq_eq_true hck; subst h1
    simp only [z_step] at q
    obtain ⟨x, y, t, rfl, q⟩ := z_ii_el q
    exact lv_iand hx hb hdg (g1 q (z_p trivial (z_t (z_t hst))))
  | ior =>
    have h1 : len = 1 := Nat.eq_of_beq_eq_true hck; subst h1
    simp only [z_step] at q
    obtain ⟨x, y, t, rfl, q⟩ := z_ii_el q
    exact lv_ior hx hb hdg (g1 q (z_p trivial (z_t (z_t hst))))
  | ixor =>
    have h1 : len = 1 := Nat.eq_of_beq_eq_true hck; subst h1
    simp only [z_step] at q
    obtain ⟨x, y, t, rfl, q⟩ := z_ii_el q
    exact lv_ixor hx hb hdg (g1 q (z_p trivial (z_t (z_t hst))))
  | ishl =>
    have h1 : len = 1 := Nat.eq_of_beq_eq_true hck; subst h1
    simp only [z_step] at q
    obtain ⟨x, y, t, rfl, q⟩ := z_ii_el q
    exact lv_ishl hx hb hdg (g1 q (z_p trivial (z_t (z_t hst))))
  | ishr =>
    have h1 : len = 1 := Nat.eq_of_beq_eq_true hck; subst h1
    simp only [z_step] at q
    obtain ⟨x, y, t, rfl, q⟩ := z_ii_el q
    exact lv_ishr hx hb hdg (g1 q (z_p trivial (z_t (z_t hst))))
  | iushr =>
    have h1 : len = 1 := Nat.eq_of_beq_eq_true hck; subst h1
    simp only [z_step] at q
    obtain ⟨x, y, t, rfl, q⟩ := z_ii_el q
    exact lv_iushr hx hb hdg rfl (g1 q (z_p trivial (z_t (z_t hst))))
  | idiv =>
    have h1 : len = 1 := Nat.eq_of_beq_eq_true hck; subst h1
    obtain ⟨y, t, rfl, q1⟩ := z_vi_el q
    obtain ⟨x, t, rfl, q2⟩ := z_vi_el q1
    exact lv_idiv hx hb hdg q2.1 (g1 q2.2 (z_p trivial (z_t (z_t hst))))
  | irem =>
    have h1 : len = 1 := Nat.eq_of_beq_eq_true hck; subst h1
    obtain ⟨y, t, rfl, q1⟩ := z_vi_el q
    obtain ⟨x, t, rfl, q2⟩ := z_vi_el q1
    exact lv_irem hx hb hdg q2.1 (g1 q2.2 (z_p trivial (z_t (z_t hst))))
  | ineg =>
    have h1 : len = 1 := Nat.eq_of_beq_eq_true hck; subst h1
    simp only [z_step] at q
    obtain ⟨x, t, rfl, q⟩ := z_i1_el q
    exact lv_ineg hx hb hdg (g1 q (z_p trivial (z_t hst)))
  | i2b =>
    have h1 : len = 1 := Nat.eq_of_beq_eq_true hck; subst h1
    simp only [z_step] at q
    obtain ⟨x, t, rfl, q⟩ := z_i1_el q
    exact lv_i2b hx hb hdg rfl (g1 q (z_p trivial (z_t hst)))
  | i2c =>
    have h1 : len = 1 := Nat.eq_of_beq_eq_true hck; subst h1
    simp only [z_step] at q
    obtain ⟨x, t, rfl, q⟩ := z_i1_el q
    exact lv_i2c hx hb hdg rfl (g1 q (z_p trivial (z_t hst)))
  | ladd =>
    have h1 : len = 1 := Nat.eq_of_beq_eq_true hck; subst h1
    simp only [z_step] at q
    obtain ⟨x, y, t, rfl, q⟩ := z_jj_el q
    exact lv_ladd hx hb hdg (g1 q (z_p trivial (z_t (z_t hst))))
  | lsub =>
    have h1 : len = 1 := Nat.eq_of_beq_eq_true hck; subst h1
    simp only [z_step] at q
    obtain ⟨x, y, t, rfl, q⟩ := z_jj_el q
    exact lv_lsub hx hb hdg (g1 q (z_p trivial (z_t (z_t hst))))
  | land =>
    have h1 : len = 1 := Nat.eq_of_beq_eq_true hck; subst h1
    simp only [z_step] at q
    obtain ⟨x, y, t, rfl, q⟩ := z_jj_el q
    exact lv_land hx hb hdg (g1 q (z_p trivial (z_t (z_t hst))))
  | lor =>
    have h1 : len = 1 := Nat.eq_of_beq_eq_true hck; subst h1
    simp only [z_step] at q
    obtain ⟨x, y, t, rfl, q⟩ := z_jj_el q
    exact lv_lor hx hb hdg (g1 q (z_p trivial (z_t (z_t hst))))
  | lxor =>
    have h1 : len = 1 := Nat.eq_of_beq_eq_true hck; subst h1
    simp only [z_step] at q
    obtain ⟨x, y, t, rfl, q⟩ := z_jj_el q
    exact lv_lxor hx hb hdg (g1 q (z_p trivial (z_t (z_t hst))))
  | lshl =>
    have h1 : len = 1 := Nat.eq_of_beq_eq_true hck; subst h1
    obtain ⟨y, t, rfl, q1⟩ := z_vi_el q
    obtain ⟨x, t, rfl, q2⟩ := z_vj_el q1
    exact lv_lshl hx hb hdg rfl (g1 q2 (z_p trivial (z_t (z_t hst))))
  | lushr =>
    have h1 : len = 1 := Nat.eq_of_beq_eq_true hck; subst h1
    obtain ⟨y, t, rfl, q1⟩ := z_vi_el q
    obtain ⟨x, t, rfl, q2⟩ := z_vj_el q1
    exact lv_lushr hx hb hdg rfl (g1 q2 (z_p trivial (z_t (z_t hst))))
  | lcmp =>
    have h1 : len = 1 := Nat.eq_of_beq_eq_true hck; subst h1
    obtain ⟨y, t, rfl, q1⟩ := z_vj_el q
    obtain ⟨x, t, rfl, q2⟩ := z_vj_el q1
    exact W.lcmp hx hb hdg (g1 q2 (z_p trivial (z_t (z_t hst))))
  | l2i =>
    have h1 : len = 1 := Nat.eq_of_beq_eq_true hck; subst h1
    obtain ⟨x, t, rfl, q⟩ := z_vj_el q
    exact lv_l2i hx hb hdg rfl (g1 q (z_p trivial (z_t hst)))
  | i2f =>
    have h1 : len = 1 := Nat.eq_of_beq_eq_true hck; subst h1
    obtain ⟨x, t, rfl, q⟩ := z_vi_el q
    exact lv_i2f hx hb hdg (g1 q (z_p trivial (z_t hst)))
  | f2i =>
    have h1 : len = 1 := Nat.eq_of_beq_eq_true hck; subst h1
    obtain ⟨x, t, rfl, q⟩ := z_vf_el q
    exact lv_f2i hx hb hdg (g1 q (z_p trivial (z_t hst)))
  | fneg =>
    have h1 : len = 1 := Nat.eq_of_beq_eq_true hck; subst h1
    obtain ⟨x, t, rfl, q⟩ := z_vf_el q
    exact lv_fneg hx hb hdg (g1 q (z_p trivial (z_t hst)))
  | fadd =>
    have h1 : len = 1 := Nat.eq_of_beq_eq_true hck; subst h1
    simp only [z_step] at q
    obtain ⟨x, y, t, rfl, hn, q⟩ := z_ff_el q
    exact lv_fadd hx hb hdg hn (g1 q (z_p trivial (z_t (z_t hst))))
  | fsub =>
    have h1 : len = 1 := Nat.eq_of_beq_eq_true hck; subst h1
    simp only [z_step] at q
    obtain ⟨x, y, t, rfl, hn, q⟩ := z_ff_el q
    exact lv_fsub hx hb hdg hn (g1 q (z_p trivial (z_t (z_t hst))))
  | fmul =>
    have h1 : len = 1 := Nat.eq_of_beq_eq_true hck; subst h1
    simp only [z_step] at q
    obtain ⟨x, y, t, rfl, hn, q⟩ := z_ff_el q
    exact lv_fmul hx hb hdg hn (g1 q (z_p trivial (z_t (z_t hst))))
  | fdiv =>
    have h1 : len = 1 := Nat.eq_of_beq_eq_true hck; subst h1
    simp only [z_step] at q
    obtain ⟨x, y, t, rfl, hn, q⟩ := z_ff_el q
    exact lv_fdiv hx hb hdg hn (g1 q (z_p trivial (z_t (z_t hst))))
  | fcmp op =>
    have h1 : len = 1 := Nat.eq_of_beq_eq_true hck; subst h1
    obtain ⟨y, t, rfl, q1⟩ := z_vf_el q
    obtain ⟨x, t, rfl, q2⟩ := z_vf_el q1
    exact lv_fcmp hx hb hdg (g1 q2 (z_p trivial (z_t (z_t hst))))
  | dup =>
    have h1 : len = 1 := Nat.eq_of_beq_eq_true hck; subst h1
    rcases z_vir_el q with ⟨x, t, rfl, q⟩ | ⟨x, t, rfl, q⟩
    · exact lv_dup hx hb hdg rfl (g1 q (z_p trivial (z_p trivial (z_t hst))))
    · exact lv_dup hx hb hdg rfl (g1 q (z_p (z_hd hst) hst))
  | dup2 =>
    have h1 : len = 1 := Nat.eq_of_beq_eq_true hck; subst h1
    obtain ⟨x, t, rfl, q1⟩ := z_vi_el q
    obtain ⟨y, t, rfl, q2⟩ := z_vr_el q1
    exact lv_dup2_11 hx hb hdg rfl rfl (g1 q2 (z_p trivial (z_p (z_hd (z_t hst)) hst)))
  | pop =>
    have h1 : len = 1 := Nat.eq_of_beq_eq_true hck; subst h1
    rcases z_vir_el q with ⟨x, t, rfl, q⟩ | ⟨x, t, rfl, q⟩
    · exact lv_pop hx hb hdg rfl (g1 q (z_t hst))
    · exact lv_pop hx hb hdg rfl (g1 q (z_t hst))
  | goto f =>
    obtain ⟨h1, h2⟩ := z_and2 hck
    have h1 : len = 3 := Nat.eq_of_beq_eq_true h1; subst h1
    have h2 := of_decide_eq_true h2
    exact lv_goto hx hb hdg h2 (g1 q hst)
  | ifCond cd f =>
    obtain ⟨h1, h2⟩ := z_and2 hck
    have h1 : len = 3 := Nat.eq_of_beq_eq_true h1; subst h1
    have h2 := of_decide_eq_true h2
    obtain ⟨x, t, rfl, q⟩ := z_vi_el q
    cases cd with
    | eq => exact lv_if_eq hx hb hdg h2 (fun z => g1 (q.1 z) (z_t hst)) (fun z => g1 (q.2 z) (z_t hst))
    | ne => exact lv_if_ne hx hb hdg h2 (fun z => g1 (q.1 z) (z_t hst)) (fun z => g1 (q.2 z) (z_t hst))
    | lt => exact lv_if_lt hx hb hdg h2 (fun z => g1 (q.1 z) (z_t hst)) (fun z => g1 (q.2 z) (z_t hst))
    | ge => exact lv_if_ge hx hb hdg h2 (fun z => g1 (q.1 z) (z_t hst)) (fun z => g1 (q.2 z) (z_t hst))
    | gt => exact lv_if_gt hx hb hdg h2 (fun z => g1 (q.1 z) (z_t hst)) (fun z => g1 (q.2 z) (z_t hst))
    | le => exact lv_if_le hx hb hdg h2 (fun z => g1 (q.1 z) (z_t hst)) (fun z => g1 (q.2 z) (z_t hst))
  | if_icmp cd f =>
    obtain ⟨h1, h2⟩ := z_and2 hck
    have h1 : len = 3 := Nat.eq_of_beq_eq_true h1; subst h1
    have h2 := of_decide_eq_true h2
    obtain ⟨y, t, rfl, q1⟩ := z_vi_el q
    obtain ⟨x, t, rfl, q⟩ := z_vi_el q1
    cases cd with
    | eq => exact lv_icmp_eq hx hb hdg h2 (fun z => g1 (q.1 z) (z_t (z_t hst))) (fun z => g1 (q.2 z) (z_t (z_t hst)))
    | ne => exact lv_icmp_ne hx hb hdg h2 (fun z => g1 (q.1 z) (z_t (z_t hst))) (fun z => g1 (q.2 z) (z_t (z_t hst)))
    | lt => exact lv_icmp_lt hx hb hdg h2 (fun z => g1 (q.1 z) (z_t (z_t hst))) (fun z => g1 (q.2 z) (z_t (z_t hst)))
    | ge => exact lv_icmp_ge hx hb hdg h2 (fun z => g1 (q.1 z) (z_t (z_t hst))) (fun z => g1 (q.2 z) (z_t (z_t hst)))
    | gt => exact lv_icmp_gt hx hb hdg h2 (fun z => g1 (q.1 z) (z_t (z_t hst))) (fun z => g1 (q.2 z) (z_t (z_t hst)))
    | le => exact lv_icmp_le hx hb hdg h2 (fun z => g1 (q.1 z) (z_t (z_t hst))) (fun z => g1 (q.2 z) (z_t (z_t hst)))
  | ifnull f =>
    obtain ⟨h1, h2⟩ := z_and2 hck
    have h1 : len = 3 := Nat.eq_of_beq_eq_true h1; subst h1
    have h2 := of_decide_eq_true h2
    rcases z_vo_el q with ⟨x, t, rfl, q⟩ | ⟨x, t, rfl, q⟩ | ⟨t, rfl, q⟩
    · exact lv_ifnull hx hb hdg (g1 q (z_t hst))
    · exact q.elim
    · exact lv_ifnullN hx hb hdg h2 (g1 q (z_t hst))
  | ifnonnull f =>
    obtain ⟨h1, h2⟩ := z_and2 hck
    have h1 : len = 3 := Nat.eq_of_beq_eq_true h1; subst h1
    have h2 := of_decide_eq_true h2
    rcases z_vo_el q with ⟨x, t, rfl, q⟩ | ⟨x, t, rfl, q⟩ | ⟨t, rfl, q⟩
    · exact lv_ifnonnull hx hb hdg h2 (g1 q (z_t hst))
    · exact q.elim
    · exact lv_ifnonnullN hx hb hdg (g1 q (z_t hst))
  | tableswitch f lo hi offs =>
    obtain ⟨h1, h2, h3⟩ := z_and3 hck
    have h1 := of_decide_eq_true h1
    have h2 := of_decide_eq_true h2
    obtain ⟨x, t, rfl, q⟩ := z_vi_el q
    obtain ⟨hlen, hat⟩ := z_tsw_at h3
    have hsz : offs.size = ps.length := by rw [← Array.length_toList, hlen]
    rcases z_sw_el q with ⟨tt, hm, q⟩ | ⟨hno, q⟩
    · obtain ⟨i, hi⟩ := List.getElem?_of_mem hm
      obtain ⟨e1, o, e2, e3⟩ := hat i _ hi
      have hilt : i < ps.length := (List.getElem?_eq_some_iff.mp hi).1
      have e1 : x.toInt = lo + i := e1
      exact lv_tableIn hx hb hdg (by omega) (by omega) (by rw [show (x.toInt - lo).toNat = i by omega, ← Array.getElem?_toList]; exact e2) e3 (g1 q (z_t hst))
    · refine lv_tableOut hx hb hdg ?_ h1 (g1 q (z_t hst))
      by_cases hin : x.toInt < lo ∨ hi < x.toInt
      · exact hin
      · exfalso
        have hilt : (x.toInt - lo).toNat < ps.length := by omega
        have hi := List.getElem?_eq_getElem hilt
        obtain ⟨e1, -⟩ := hat _ _ hi
        exact hno _ (List.getElem_mem hilt) (Int32.toInt_inj.mp (by rw [e1]; omega))
  | lookupswitch f prs =>
    obtain ⟨h1, h2, h3⟩ := z_and3 hck
    have h1 := of_decide_eq_true h1
    obtain ⟨x, t, rfl, q⟩ := z_vi_el q
    obtain ⟨tt, e1, q⟩ := z_lsw_off h1 h3 q
    exact lv_lookup hx hb hdg h2 rfl e1 (g1 q (z_t hst))
  | getfield i =>
    obtain ⟨h1, h2⟩ := z_and2 hck
    have h1 : len = 3 := Nat.eq_of_beq_eq_true h1; subst h1
    match k, q, h2 with
    | 0, q, h2 =>
      obtain ⟨h2, h3⟩ := z_and2 h2
      obtain ⟨qq, hqq, hbN, hlk⟩ := z_h4_ok h2
      obtain ⟨x, t, rfl, q⟩ := z_vr_el q
      obtain ⟨hsh, q⟩ := z_b_el q
      have hsh := z_shape hsh
      have hxc : x < cn := z_hd hst
      obtain ⟨C, T, N⟩ := qq
      refine va_get hx hb hts (z_hin a _ hqq) hown hK hHR.1 x (fs := (List.range N).map (z_fv ad ex I R a x)) (by rw [z_w_get hxc, z_ce0 (by rw [hsh]), hsh, z_nf_cl hqq]) hqq b hbN (hts _ hlk) (fun _ h => h) (z_fvs hbN) hdg ?_
      have hz : z_fv ad ex I R a x b = .int (I x b) := by unfold z_fv; rw [show z_isr a b = false by simpa using h3]; rfl
      rw [hz]
      exact g1 q (z_p trivial (z_t hst))
    | 1, q, h2 =>
      obtain ⟨h2, h3⟩ := z_and2 h2
      obtain ⟨qq, hqq, hbN, hlk⟩ := z_h4_ok h2
      obtain ⟨x, t, rfl, q⟩ := z_vr_el q
      obtain ⟨hsh, q⟩ := z_b_el q
      have hsh := z_shape hsh
      have hxc : x < cn := z_hd hst
      obtain ⟨C, T, N⟩ := qq
      refine va_get hx hb hts (z_hin a _ hqq) hown hK hHR.1 x (fs := (List.range N).map (z_fv ad ex I R a x)) (by rw [z_w_get hxc, z_ce0 (by rw [hsh]), hsh, z_nf_cl hqq]) hqq b hbN (hts _ hlk) (fun _ h => h) (z_fvs hbN) hdg ?_
      have hz : z_fv ad ex I R a x b = z_cc ad ex (R x b) := by unfold z_fv; rw [h3]; rfl
      rw [hz]
      have hRx := hR x b hxc (by rw [hsh])
      rcases z_vo_el q with ⟨w, t1, e1, q⟩ | ⟨w, t1, e1, q⟩ | ⟨t1, e1, q⟩
      · have e1 : R x b = .ref w := (List.cons.inj e1).1
        rw [e1] at hRx ⊢
        exact g1 q (z_p hRx (z_t hst))
      · have e1 : R x b = .retAddr w := (List.cons.inj e1).1
        rw [e1] at hRx ⊢
        exact g1 q (z_p hRx (z_t hst))
      · have e1 : R x b = .null := (List.cons.inj e1).1
        rw [e1] at hRx ⊢
        exact g1 q (z_p hRx (z_t hst))
    | 2, q, h2 =>
      obtain ⟨h2a, h3⟩ := z_and2 h2
      have h3 := Nat.eq_of_beq_eq_true h3; subst h3
      rcases z_vo_el q with ⟨w, t, rfl, q⟩ | ⟨j, t, rfl, q⟩ | ⟨t, rfl, q⟩
      · exact q.elim
      · obtain ⟨y, t1, e1, q⟩ := z_vi_el q
        have hj : z_isS j = true := by
          by_cases hz : z_isS j = true
          · exact hz
          · have e2 : z_xf0 j 1 = .int y := (List.cons.inj e1).1
            unfold z_xf0 at e2
            rw [Bool.not_eq_true _ |>.mp hz] at e2
            cases e2
        have hy : y = 0 := by
          have e2 : z_xf0 j 1 = .int y := (List.cons.inj e1).1
          unfold z_xf0 at e2
          rw [hj] at e2
          cases e2; rfl
        subst hy
        obtain ⟨ra, rb, hja, -, -, hco, -⟩ := hE.2.2.2.1 j hj
        have := g1 q (z_p trivial (z_t hst))
        show W p l e Rm s mi args below meth c H locs uc us Qf (F0 mi pc ls (ex j :: t.map (z_cc ad ex)))
        rw [hja]
        exact vk_getf hx hb hco hS hown (hts _ (z_fx_ok.2 h2a)) (fun _ h => h) hdg this
      · exact q.elim
    | 3, q, h2 =>
      obtain ⟨h2a, h3⟩ := z_and2 h2
      have h3 := Nat.eq_of_beq_eq_true h3; subst h3
      rcases z_vo_el q with ⟨w, t, rfl, q⟩ | ⟨j, t, rfl, q⟩ | ⟨t, rfl, q⟩
      · exact q.elim
      · rcases z_vo_el q with ⟨w, t1, e1, q⟩ | ⟨w, t1, e1, q⟩ | ⟨t1, e1, q⟩
        · exact q.elim
        · have hj : z_isS j = true := by
            by_cases hz : z_isS j = true
            · exact hz
            · have e2 : z_xf0 j 0 = .retAddr w := (List.cons.inj e1).1
              unfold z_xf0 at e2
              rw [Bool.not_eq_true _ |>.mp hz] at e2
              cases e2
          have hy : w = j + 1 := by
            have e2 : z_xf0 j 0 = .retAddr w := (List.cons.inj e1).1
            unfold z_xf0 at e2
            rw [hj] at e2
            cases e2; rfl
          subst hy
          obtain ⟨ra, rb, hja, hjb, -, -, hva⟩ := hE.2.2.2.1 j hj
          have := g1 q (z_p trivial (z_t hst))
          simp only [List.map_cons, z_cc, hjb] at this
          show W p l e Rm s mi args below meth c H locs uc us Qf (F0 mi pc ls (ex j :: t.map (z_cc ad ex)))
          rw [hja]
          exact vk_getf hx hb hva hS hown (hts _ (z_fx_ok.1 h2a)) (fun _ h => h) hdg this
        · exact q.elim
      · exact q.elim
    | _ + 4, q, h2 => cases h2
  | putfield i =>
    obtain ⟨h1, h2, h3⟩ := z_and3 hck
    have h1 : len = 3 := Nat.eq_of_beq_eq_true h1; subst h1
    obtain ⟨⟨C, T, N⟩, hqq, hbN, hlk⟩ := z_h4_ok h2
    obtain ⟨h3, hfin⟩ := z_pt_el hqq h3
    match k, q, h3 with
    | 0, q, h3 =>
      obtain ⟨x, t, rfl, q1⟩ := z_vi_el q
      obtain ⟨o, t, rfl, q2⟩ := z_vr_el q1
      obtain ⟨hsh, q⟩ := z_b_el q2
      have hsh := z_shape hsh
      have h3 := of_decide_eq_true h3
      have hnr : z_isr a b = false := by rw [z_isr_cl hqq, show z_ty (T b).2.2.1 = .int from h3]
      refine z_putW (w := .int x) (t := t.map (z_cc ad ex)) (I' := z_up I o b x) (R' := R) Cx hHR hS (z_hd (z_t hst)) hsh hqq hbN hlk hfin (by rw [h3]; rfl) (by rw [h3]; rfl) ?_ ?_ (fun j hj => ⟨z_up_ne hj, rfl⟩) hdg (fun H1 locs1 p1 p3 => go q p1 p3 hl ⟨z_t (z_t hst), hL, hR⟩ hGG huc hus)
      · unfold z_fv; rw [hnr, z_up_eq]; simp
      · intro j hj; unfold z_fv; rw [z_up_eq]; simp [hj]
    | 1, q, h3 =>
      have h3r : z_isr a b = true := h3
      have key : ∀ (y : Value) (o : Nat) (t : List Value), z_sh0 o = (0, a) → o < cn → (y = .null ∨ (∃ x, y = .ref x) ∨ ∃ x, y = .retAddr x) → z_ok cn y → (∀ v ∈ t, z_ok cn v) → z_S l D cA base ex L xs d m (pc + 3) LL t I (z_up R o b y) J F cn uc us Q → W p l e Rm s mi args below meth c H locs uc us Qf (F0 mi pc ls (z_cc ad ex y :: .ref (ad o) :: t.map (z_cc ad ex))) := by
        intro y o t hsh ho hy hyo ht q
        have hyv : z_cc ad ex y = .null ∨ ∃ r, z_cc ad ex y = .ref r := by
          rcases hy with rfl | ⟨x, rfl⟩ | ⟨x, rfl⟩
          · exact Or.inl rfl
          · exact Or.inr ⟨_, rfl⟩
          · exact hxx x
        have hnf := z_nar_ref (T := T) (b := b) hqq h3r hyv
        refine z_putW (w := z_cc ad ex y) (t := t.map (z_cc ad ex)) (I' := I) (R' := z_up R o b y) Cx hHR hS ho hsh hqq hbN hlk hfin hnf.1 hnf.2 ?_ ?_ (fun j hj => ⟨rfl, z_up_ne hj⟩) hdg (fun H1 locs1 p1 p3 => go q p1 p3 hl ⟨ht, hL, ?_⟩ hGG huc hus)
        · unfold z_fv; rw [h3r, z_up_eq]; simp
        · intro j hj; unfold z_fv; rw [z_up_eq]; simp [hj]
        · intro i k hi hz0
          by_cases ho2 : i = o
          · subst ho2
            rw [z_up_eq]
            show z_ok cn (if k = b then y else R i k)
            by_cases hkb : k = b
            · rw [if_pos hkb]; exact hyo
            · rw [if_neg hkb]; exact hR i k hi hz0
          · rw [z_up_ne ho2]; exact hR i k hi hz0
      rcases z_vo_el q with ⟨x, t, rfl, q⟩ | ⟨x, t, rfl, q⟩ | ⟨t, rfl, q⟩
      · obtain ⟨o, t, rfl, q⟩ := z_vr_el q
        obtain ⟨hsh, q⟩ := z_b_el q
        exact key (.ref x) o t (z_shape hsh) (z_hd (z_t hst)) (Or.inr (Or.inl ⟨x, rfl⟩)) (z_hd hst) (z_t (z_t hst)) q
      · obtain ⟨o, t, rfl, q⟩ := z_vr_el q
        obtain ⟨hsh, q⟩ := z_b_el q
        exact key (.retAddr x) o t (z_shape hsh) (z_hd (z_t hst)) (Or.inr (Or.inr ⟨x, rfl⟩)) (z_hd hst) (z_t (z_t hst)) q
      · obtain ⟨o, t, rfl, q⟩ := z_vr_el q
        obtain ⟨hsh, q⟩ := z_b_el q
        exact key .null o t (z_shape hsh) (z_hd (z_t hst)) (Or.inl rfl) (z_hd hst) (z_t (z_t hst)) q
    | 2, q, h3 =>
      obtain ⟨x, t, rfl, q1⟩ := z_vi_el q
      obtain ⟨o, t, rfl, q2⟩ := z_vr_el q1
      obtain ⟨hsh, q⟩ := z_b_el q2
      have hsh := z_shape hsh
      have h3 := of_decide_eq_true h3
      have hnr : z_isr a b = false := by rw [z_isr_cl hqq, show z_ty (T b).2.2.1 = .boolean from h3]
      refine z_putW (w := .int x) (t := t.map (z_cc ad ex)) (I' := z_up I o b x) (R' := R) Cx hHR hS (z_hd (z_t hst)) hsh hqq hbN hlk hfin (by rw [h3]; rcases q.1 with rfl | rfl <;> rfl) (by rw [h3]; rcases q.1 with rfl | rfl <;> rfl) ?_ ?_ (fun j hj => ⟨z_up_ne hj, rfl⟩) hdg (fun H1 locs1 p1 p3 => go q.2 p1 p3 hl ⟨z_t (z_t hst), hL, hR⟩ hGG huc hus)
      · unfold z_fv; rw [hnr, z_up_eq]; simp
      · intro j hj; unfold z_fv; rw [z_up_eq]; simp [hj]
    | _ + 3, q, h3 => cases h3
  | getstatic i =>
    obtain ⟨h1, h2⟩ := z_and2 hck
    have h1 : len = 3 := Nat.eq_of_beq_eq_true h1; subst h1
    match k, q, h2 with
    | 0, q, h2 =>
      obtain ⟨h2a, h3⟩ := z_and2 h2
      have h3 := of_decide_eq_true h3
      subst h3
      exact va_gets hx hb hE.2.2.2.2.2.2.1 hS hown (hts _ (z_gs_ok h2a)) (fun _ h => h) hdg (g1 q (z_p trivial hst))
    | 1, q, h2 =>
      have key : ∀ j, (∃ C n dd, va_Z C n dd (ex j) (z_A base) s s.heap ∧ Cond.fieldLink (z_cn (z_oc m)) i C n dd ∈ z_tb) → z_S l D cA base ex L xs d m (pc + 3) LL (.retAddr j :: st) I R J F cn uc us Q → W p l e Rm s mi args below meth c H locs uc us Qf (F0 mi pc ls (st.map (z_cc ad ex))) := by
        intro j ⟨C, n, dd, hz, hlk⟩ q
        have := g1 q (z_p trivial hst)
        exact va_gets hx hb hz hS hown (hts _ hlk) (fun _ h => h) hdg this
      by_cases ha0 : a = 0
      · subst ha0; exact key 0 ⟨_, _, _, hE.2.2.2.2.2.1, z_gs_ok h2⟩ q
      · by_cases ha6 : a = 60
        · subst ha6; exact key 60 ⟨_, _, _, hE.2.2.2.2.2.2.2.1, z_gs_ok h2⟩ q
        · exfalso
          simp only at h2
          cases h2
    | _ + 2, q, h2 => cases h2
  | iaload =>
    have h1 : len = 1 := Nat.eq_of_beq_eq_true hck; subst h1
    obtain ⟨i, t, rfl, q⟩ := z_vi_el q
    rcases z_vo_el q with ⟨x, t, rfl, q⟩ | ⟨j, t, rfl, q⟩ | ⟨t, rfl, q⟩
    · obtain ⟨hk, q⟩ := z_b_el q
      have hk := Nat.eq_of_beq_eq_true hk
      exact va_iald (n := (z_sh0 x).2) hx hb hK hHR.1 x 0 (by rw [z_w_get (z_hd (z_t hst)), z_ce1 hk]) rfl q.1 hdg (g1 q.2 (z_p trivial (z_t (z_t hst))))
    · obtain ⟨hk, q⟩ := z_b_el q
      have hk := Nat.eq_of_beq_eq_true hk
      obtain ⟨ra, e1, hT⟩ := hE.2.1 j hk
      show W p l e Rm s mi args below meth c H locs uc us Qf (F0 mi pc ls (.int i :: ex j :: t.map (z_cc ad ex)))
      rw [e1]
      exact va_ti hx hb hT hS q.1 rfl hdg (g1 q.2 (z_p trivial (z_t (z_t hst))))
    · exact q.elim
  | baload =>
    have h1 : len = 1 := Nat.eq_of_beq_eq_true hck; subst h1
    obtain ⟨i, t, rfl, q⟩ := z_vi_el q
    rcases z_vo_el q with ⟨x, t, rfl, q⟩ | ⟨j, t, rfl, q⟩ | ⟨t, rfl, q⟩
    · obtain ⟨hk, q⟩ := z_b_el q
      have hk := Nat.eq_of_beq_eq_true hk
      exact va_bald (n := (z_sh0 x).2) hx hb hK hHR.1 x 1 (by rw [z_w_get (z_hd (z_t hst)), z_ce2 hk]) rfl q.1 hdg (g1 q.2 (z_p trivial (z_t (z_t hst))))
    · obtain ⟨hk, q⟩ := z_b_el q
      have hk := Nat.eq_of_beq_eq_true hk
      obtain ⟨ra, e1, hT⟩ := hE.2.2.1 j hk
      show W p l e Rm s mi args below meth c H locs uc us Qf (F0 mi pc ls (.int i :: ex j :: t.map (z_cc ad ex)))
      rw [e1]
      exact va_tb hx hb hT hS q.1 rfl hdg (g1 q.2 (z_p trivial (z_t (z_t hst))))
    · exact q.elim
  | laload =>
    have h1 : len = 1 := Nat.eq_of_beq_eq_true hck; subst h1
    obtain ⟨i, t, rfl, q1⟩ := z_vi_el q
    obtain ⟨x, t, rfl, q2⟩ := z_vr_el q1
    obtain ⟨hk, q⟩ := z_b_el q2
    have hk := Nat.eq_of_beq_eq_true hk
    exact va_lald (n := (z_sh0 x).2) hx hb hK hHR.1 x 2 (by rw [z_w_get (z_hd (z_t hst)), z_ce3 hk]) rfl q.1 hdg (g1 q.2 (z_p trivial (z_t (z_t hst))))
  | faload =>
    have h1 : len = 1 := Nat.eq_of_beq_eq_true hck; subst h1
    obtain ⟨i, t, rfl, q1⟩ := z_vi_el q
    obtain ⟨x, t, rfl, q2⟩ := z_vr_el q1
    obtain ⟨hk, q⟩ := z_b_el q2
    have hk := Nat.eq_of_beq_eq_true hk
    exact va_fald (n := (z_sh0 x).2) hx hb hK hHR.1 x 3 (by rw [z_w_get (z_hd (z_t hst)), z_ce4 hk]) rfl q.1 hdg (g1 q.2 (z_p trivial (z_t (z_t hst))))
  | iastore =>
    have h1 : len = 1 := Nat.eq_of_beq_eq_true hck; subst h1
    obtain ⟨y, t, rfl, q1⟩ := z_vi_el q
    obtain ⟨i, t, rfl, q2⟩ := z_vi_el q1
    obtain ⟨x, t, rfl, q3⟩ := z_vr_el q2
    obtain ⟨hk, q⟩ := z_b_el q3
    have hk := Nat.eq_of_beq_eq_true hk
    have hxc : x < cn := z_hd (z_t (z_t hst))
    refine va_iast (n := (z_sh0 x).2) (f := I x) hx hb hK hHR.1 hHR.2 hS x 0 (by rw [z_w_get hxc, z_ce1 hk]) rfl q.1 hdg (fun H1 locs1 p1 p2 p3 => ?_)
    rw [z_w_set hxc (by rw [z_ce1 hk, z_up_upd]) (fun i hi => z_ce_congr (z_up_ne hi) rfl rfl rfl)] at p1 p2
    exact go q.2 ⟨p1, p2⟩ p3 hl ⟨z_t (z_t (z_t hst)), hL, hR⟩ hGG huc hus
  | bastore =>
    have h1 : len = 1 := Nat.eq_of_beq_eq_true hck; subst h1
    obtain ⟨y, t, rfl, q1⟩ := z_vi_el q
    obtain ⟨i, t, rfl, q2⟩ := z_vi_el q1
    obtain ⟨x, t, rfl, q3⟩ := z_vr_el q2
    obtain ⟨hk, q⟩ := z_b_el q3
    have hk := Nat.eq_of_beq_eq_true hk
    have hxc : x < cn := z_hd (z_t (z_t hst))
    refine va_bast (n := (z_sh0 x).2) (f := I x) hx hb hK hHR.1 hHR.2 hS x 1 (by rw [z_w_get hxc, z_ce2 hk]) rfl q.1 hdg (fun H1 locs1 p1 p2 p3 => ?_)
    rw [z_w_set hxc (by rw [z_ce2 hk, z_up_upd, vp_nar_byte]) (fun i hi => z_ce_congr (z_up_ne hi) rfl rfl rfl)] at p1 p2
    exact go q.2 ⟨p1, p2⟩ p3 hl ⟨z_t (z_t (z_t hst)), hL, hR⟩ hGG huc hus
  | lastore =>
    have h1 : len = 1 := Nat.eq_of_beq_eq_true hck; subst h1
    obtain ⟨y, t, rfl, q1⟩ := z_vj_el q
    obtain ⟨i, t, rfl, q2⟩ := z_vi_el q1
    obtain ⟨x, t, rfl, q3⟩ := z_vr_el q2
    obtain ⟨hk, q⟩ := z_b_el q3
    have hk := Nat.eq_of_beq_eq_true hk
    have hxc : x < cn := z_hd (z_t (z_t hst))
    refine va_last (n := (z_sh0 x).2) (f := J x) hx hb hK hHR.1 hHR.2 hS x 2 (by rw [z_w_get hxc, z_ce3 hk]) rfl q.1 hdg (fun H1 locs1 p1 p2 p3 => ?_)
    rw [z_w_set hxc (by rw [z_ce3 hk, z_up_updL]) (fun i hi => z_ce_congr rfl rfl (z_up_ne hi) rfl)] at p1 p2
    exact go q.2 ⟨p1, p2⟩ p3 hl ⟨z_t (z_t (z_t hst)), hL, hR⟩ hGG huc hus
  | fastore =>
    have h1 : len = 1 := Nat.eq_of_beq_eq_true hck; subst h1
    obtain ⟨y, t, rfl, q1⟩ := z_vf_el q
    obtain ⟨i, t, rfl, q2⟩ := z_vi_el q1
    obtain ⟨x, t, rfl, q3⟩ := z_vr_el q2
    obtain ⟨hk, q⟩ := z_b_el q3
    have hk := Nat.eq_of_beq_eq_true hk
    have hxc : x < cn := z_hd (z_t (z_t hst))
    refine va_fast (n := (z_sh0 x).2) (f := F x) hx hb hK hHR.1 hHR.2 hS x 3 (by rw [z_w_get hxc, z_ce4 hk]) rfl q.1 hdg (fun H1 locs1 p1 p2 p3 => ?_)
    rw [z_w_set hxc (by rw [z_ce4 hk, z_up_updF]) (fun i hi => z_ce_congr rfl rfl rfl (z_up_ne hi))] at p1 p2
    exact go q.2 ⟨p1, p2⟩ p3 hl ⟨z_t (z_t (z_t hst)), hL, hR⟩ hGG huc hus
  | arraylength =>
    have h1 : len = 1 := Nat.eq_of_beq_eq_true hck; subst h1
    rcases z_vo_el q with ⟨x, t, rfl, q⟩ | ⟨j, t, rfl, q⟩ | ⟨t, rfl, q⟩
    · obtain ⟨hk, q⟩ := z_b_el q
      obtain ⟨t0, cx, ty, xx, e1, e2, e3⟩ := z_ceA (ad := ad) (ex := ex) (cA := cA) (I := I) (R := R) (J := J) (F := F) (Nat.le_of_ble_eq_true hk)
      exact va_alen hx hb hK hHR.1 x t0 (by rw [z_w_get (z_hd hst), e1]) e2 (by rw [e3]; rfl) hdg (g1 q (z_p trivial (z_t hst)))
    · obtain ⟨hk, q⟩ := z_b_el q
      have hk := Nat.le_of_ble_eq_true hk
      have h2 := z_xa_le L xs j
      have hk : 1 ≤ (z_xa0 L xs j).1 := hk
      show W p l e Rm s mi args below meth c H locs uc us Qf (F0 mi pc ls (ex j :: t.map (z_cc ad ex)))
      rcases (show (z_xa0 L xs j).1 = 1 ∨ (z_xa0 L xs j).1 = 2 by omega) with hz | hz
      · obtain ⟨ra, e1, hT⟩ := hE.2.1 j hz
        rw [e1]
        exact va_tlen hx hb hT hS rfl hdg (g1 q (z_p trivial (z_t hst)))
      · obtain ⟨ra, e1, hT⟩ := hE.2.2.1 j hz
        rw [e1]
        exact va_tlen hx hb hT hS rfl hdg (g1 q (z_p trivial (z_t hst)))
    · exact q.elim
  | newarray at_ =>
    obtain ⟨h1, h2⟩ := z_and2 hck
    have h1 : len = 2 := Nat.eq_of_beq_eq_true h1; subst h1
    obtain ⟨n, t, rfl, q⟩ := z_vi_el q
    obtain ⟨hk, ⟨g1n, g2, g3, g4⟩, q2⟩ := z_b_el q
    have g1n : n = nI (z_sh0 cn).2 := g1n
    have g2 : (z_sh0 cn).2 < 65536 := g2
    have hA : ∀ q : Nat, s.heap.size ≤ q → z_A base q := fun q h => Nat.le_trans hbs h
    cases at_ with
    | int =>
      have hkd := Nat.eq_of_beq_eq_true h2; subst hkd
      have hk : (z_sh0 cn).1 = 1 := Nat.eq_of_beq_eq_true hk
      refine va_newa (atype := .int) hx hb (hts _ z_ac1) (ty := .int) rfl hK hHR.1 hHR.2 hS hA (N' := (z_sh0 cn).2) (a0 := ((z_sh0 cn).2, .inl (fun _ => 0))) (fun _ => rfl) (by rw [g1n]; exact nI_pos (by omega)) (by rw [g1n]; exact nI_clamp (by omega)) (by show _ * 4 ≤ _; omega) (Nat.le_trans g3 hrc) (Nat.le_trans g4 hrs) hdg (fun ra cx H1 p0 p1 p2 p3 => ?_)
      have hcx : cx = cA 1 := z_arr_same hK p0 0 rfl (fun _ => rfl)
      subst hcx
      rw [z_w_push (ad' := z_row ad cn ra) (I' := z_row I cn (fun _ => 0)) (R' := R) (J' := z_row J cn (fun _ => 0)) (F' := z_row F cn (fun _ => 0)) z_row_eq (by rw [z_ce1 hk, z_row_eq]) (z_push_old hR (fun i hi => ⟨z_row_ne (Nat.ne_of_lt hi), rfl, z_row_ne (Nat.ne_of_lt hi), z_row_ne (Nat.ne_of_lt hi)⟩))] at p1 p2
      have e3 : (Value.ref cn :: t).map (z_cc (z_row ad cn ra) ex) = .ref ra :: t.map (z_cc ad ex) := by
        show Value.ref (z_row ad cn ra cn) :: t.map (z_cc (z_row ad cn ra) ex) = _
        rw [z_row_eq, z_map_congr (fun i hi => z_row_ne (Nat.ne_of_lt hi)) (z_t hst)]
      have hRn : ∀ i k, i < cn + 1 → (z_sh0 i).1 = 0 → z_ok (cn + 1) (R i k) := by
        intro i k hi hz
        by_cases hic : i = cn
        · subst hic; rw [hz] at hk; cases hk
        · exact z_ok_mono (Nat.le_succ cn) (hR i k (by omega) hz)
      have := go q2 ⟨p1, p2⟩ p3 (by rw [z_al_congr (fun i hi => z_row_ne (Nat.ne_of_lt hi)) LL 0 hL]; exact hl) ⟨z_p (Nat.lt_succ_self cn) (fun v hv => z_ok_mono (Nat.le_succ cn) (z_t hst v hv)), fun i v h => z_ok_mono (Nat.le_succ cn) (hL i v h), hRn⟩ ⟨Nat.le_succ_of_le hGG.1, fun i hi => by rw [z_row_ne (by have := hGG.1; omega)]; exact hGG.2 i hi⟩ g3 g4
      rw [e3] at this
      exact this
    | byte =>
      have hkd := Nat.eq_of_beq_eq_true h2; subst hkd
      have hk : (z_sh0 cn).1 = 2 := Nat.eq_of_beq_eq_true hk
      refine va_newa (atype := .byte) hx hb (hts _ z_ac2) (ty := .byte) rfl hK hHR.1 hHR.2 hS hA (N' := (z_sh0 cn).2) (a0 := ((z_sh0 cn).2, .inl (fun _ => 0))) (fun _ => rfl) (by rw [g1n]; exact nI_pos (by omega)) (by rw [g1n]; exact nI_clamp (by omega)) (by show _ * 1 ≤ _; omega) (Nat.le_trans g3 hrc) (Nat.le_trans g4 hrs) hdg (fun ra cx H1 p0 p1 p2 p3 => ?_)
      have hcx : cx = cA 2 := z_arr_same hK p0 1 rfl (fun _ => rfl)
      subst hcx
      rw [z_w_push (ad' := z_row ad cn ra) (I' := z_row I cn (fun _ => 0)) (R' := R) (J' := z_row J cn (fun _ => 0)) (F' := z_row F cn (fun _ => 0)) z_row_eq (by rw [z_ce2 hk, z_row_eq]) (z_push_old hR (fun i hi => ⟨z_row_ne (Nat.ne_of_lt hi), rfl, z_row_ne (Nat.ne_of_lt hi), z_row_ne (Nat.ne_of_lt hi)⟩))] at p1 p2
      have e3 : (Value.ref cn :: t).map (z_cc (z_row ad cn ra) ex) = .ref ra :: t.map (z_cc ad ex) := by
        show Value.ref (z_row ad cn ra cn) :: t.map (z_cc (z_row ad cn ra) ex) = _
        rw [z_row_eq, z_map_congr (fun i hi => z_row_ne (Nat.ne_of_lt hi)) (z_t hst)]
      have hRn : ∀ i k, i < cn + 1 → (z_sh0 i).1 = 0 → z_ok (cn + 1) (R i k) := by
        intro i k hi hz
        by_cases hic : i = cn
        · subst hic; rw [hz] at hk; cases hk
        · exact z_ok_mono (Nat.le_succ cn) (hR i k (by omega) hz)
      have := go q2 ⟨p1, p2⟩ p3 (by rw [z_al_congr (fun i hi => z_row_ne (Nat.ne_of_lt hi)) LL 0 hL]; exact hl) ⟨z_p (Nat.lt_succ_self cn) (fun v hv => z_ok_mono (Nat.le_succ cn) (z_t hst v hv)), fun i v h => z_ok_mono (Nat.le_succ cn) (hL i v h), hRn⟩ ⟨Nat.le_succ_of_le hGG.1, fun i hi => by rw [z_row_ne (by have := hGG.1; omega)]; exact hGG.2 i hi⟩ g3 g4
      rw [e3] at this
      exact this
    | long =>
      have hkd := Nat.eq_of_beq_eq_true h2; subst hkd
      have hk : (z_sh0 cn).1 = 3 := Nat.eq_of_beq_eq_true hk
      refine va_newa (atype := .long) hx hb (hts _ z_ac3) (ty := .long) rfl hK hHR.1 hHR.2 hS hA (N' := (z_sh0 cn).2) (a0 := ((z_sh0 cn).2, .inr (.inl (fun _ => 0)))) (fun _ => rfl) (by rw [g1n]; exact nI_pos (by omega)) (by rw [g1n]; exact nI_clamp (by omega)) (by show _ * 8 ≤ _; omega) (Nat.le_trans g3 hrc) (Nat.le_trans g4 hrs) hdg (fun ra cx H1 p0 p1 p2 p3 => ?_)
      have hcx : cx = cA 3 := z_arr_same hK p0 2 rfl (fun _ => rfl)
      subst hcx
      rw [z_w_push (ad' := z_row ad cn ra) (I' := z_row I cn (fun _ => 0)) (R' := R) (J' := z_row J cn (fun _ => 0)) (F' := z_row F cn (fun _ => 0)) z_row_eq (by rw [z_ce3 hk, z_row_eq]) (z_push_old hR (fun i hi => ⟨z_row_ne (Nat.ne_of_lt hi), rfl, z_row_ne (Nat.ne_of_lt hi), z_row_ne (Nat.ne_of_lt hi)⟩))] at p1 p2
      have e3 : (Value.ref cn :: t).map (z_cc (z_row ad cn ra) ex) = .ref ra :: t.map (z_cc ad ex) := by
        show Value.ref (z_row ad cn ra cn) :: t.map (z_cc (z_row ad cn ra) ex) = _
        rw [z_row_eq, z_map_congr (fun i hi => z_row_ne (Nat.ne_of_lt hi)) (z_t hst)]
      have hRn : ∀ i k, i < cn + 1 → (z_sh0 i).1 = 0 → z_ok (cn + 1) (R i k) := by
        intro i k hi hz
        by_cases hic : i = cn
        · subst hic; rw [hz] at hk; cases hk
        · exact z_ok_mono (Nat.le_succ cn) (hR i k (by omega) hz)
      have := go q2 ⟨p1, p2⟩ p3 (by rw [z_al_congr (fun i hi => z_row_ne (Nat.ne_of_lt hi)) LL 0 hL]; exact hl) ⟨z_p (Nat.lt_succ_self cn) (fun v hv => z_ok_mono (Nat.le_succ cn) (z_t hst v hv)), fun i v h => z_ok_mono (Nat.le_succ cn) (hL i v h), hRn⟩ ⟨Nat.le_succ_of_le hGG.1, fun i hi => by rw [z_row_ne (by have := hGG.1; omega)]; exact hGG.2 i hi⟩ g3 g4
      rw [e3] at this
      exact this
    | float =>
      have hkd := Nat.eq_of_beq_eq_true h2; subst hkd
      have hk : (z_sh0 cn).1 = 4 := Nat.eq_of_beq_eq_true hk
      refine va_newa (atype := .float) hx hb (hts _ z_ac4) (ty := .float) rfl hK hHR.1 hHR.2 hS hA (N' := (z_sh0 cn).2) (a0 := ((z_sh0 cn).2, .inr (.inr (.inl (fun _ => 0))))) (fun _ => rfl) (by rw [g1n]; exact nI_pos (by omega)) (by rw [g1n]; exact nI_clamp (by omega)) (by show _ * 4 ≤ _; omega) (Nat.le_trans g3 hrc) (Nat.le_trans g4 hrs) hdg (fun ra cx H1 p0 p1 p2 p3 => ?_)
      have hcx : cx = cA 4 := z_arr_same hK p0 3 rfl (fun _ => rfl)
      subst hcx
      rw [z_w_push (ad' := z_row ad cn ra) (I' := z_row I cn (fun _ => 0)) (R' := R) (J' := z_row J cn (fun _ => 0)) (F' := z_row F cn (fun _ => 0)) z_row_eq (by rw [z_ce4 hk, z_row_eq]) (z_push_old hR (fun i hi => ⟨z_row_ne (Nat.ne_of_lt hi), rfl, z_row_ne (Nat.ne_of_lt hi), z_row_ne (Nat.ne_of_lt hi)⟩))] at p1 p2
      have e3 : (Value.ref cn :: t).map (z_cc (z_row ad cn ra) ex) = .ref ra :: t.map (z_cc ad ex) := by
        show Value.ref (z_row ad cn ra cn) :: t.map (z_cc (z_row ad cn ra) ex) = _
        rw [z_row_eq, z_map_congr (fun i hi => z_row_ne (Nat.ne_of_lt hi)) (z_t hst)]
      have hRn : ∀ i k, i < cn + 1 → (z_sh0 i).1 = 0 → z_ok (cn + 1) (R i k) := by
        intro i k hi hz
        by_cases hic : i = cn
        · subst hic; rw [hz] at hk; cases hk
        · exact z_ok_mono (Nat.le_succ cn) (hR i k (by omega) hz)
      have := go q2 ⟨p1, p2⟩ p3 (by rw [z_al_congr (fun i hi => z_row_ne (Nat.ne_of_lt hi)) LL 0 hL]; exact hl) ⟨z_p (Nat.lt_succ_self cn) (fun v hv => z_ok_mono (Nat.le_succ cn) (z_t hst v hv)), fun i v h => z_ok_mono (Nat.le_succ cn) (hL i v h), hRn⟩ ⟨Nat.le_succ_of_le hGG.1, fun i hi => by rw [z_row_ne (by have := hGG.1; omega)]; exact hGG.2 i hi⟩ g3 g4
      rw [e3] at this
      exact this
    | _ => cases h2
  | new i =>
    obtain ⟨h1, h2, h3⟩ := z_and3 hck
    have h1 : len = 3 := Nat.eq_of_beq_eq_true h1; subst h1
    obtain ⟨⟨C, T, N⟩, hqq, hlk⟩ := z_nl_ok h2
    obtain ⟨hk, ⟨g3, g4⟩, q2⟩ := z_b_el q
    have hsh : z_sh0 cn = (0, a) := z_shape hk
    rw [hqq] at h3
    have hN : N = b := Nat.eq_of_beq_eq_true h3
    subst hN
    have hA : ∀ q : Nat, s.heap.size ≤ q → z_A base q := fun q h => Nat.le_trans hbs h
    have hic := z_ic a _ hqq
    refine va_new hx hb hts (z_hin a _ hqq) (fun k => z_ty (T k).2.2.1) (z_tk a _ hqq) hown (hts _ hlk) (hts _ hic.1) (hts _ hic.2) hK hHR.1 hHR.2 hS hA hqq (fs := (List.range N).map (z_fv ad ex (z_row I cn (fun _ => 0)) (z_row R cn (fun _ => .null)) a cn)) ?_ (Nat.le_trans g3 hrc) (Nat.le_trans g4 hrs) hdg (fun ra H1 p1 p2 p3 => ?_)
    · intro j hj
      rw [z_df hqq j hj]
      unfold vp_V
      rw [List.getD_eq_getElem?_getD, z_fvs hj]
      unfold z_fv
      rw [z_row_eq, z_row_eq]
      cases z_isr a j <;> rfl
    · rw [z_w_push (ad' := z_row ad cn ra) (I' := z_row I cn (fun _ => 0)) (R' := z_row R cn (fun _ => .null)) (J' := J) (F' := F) z_row_eq (by rw [z_ce0 (by rw [hsh]), hsh, z_nf_cl hqq]; congr 2; apply List.map_congr_left; intro k _; unfold z_fv; rw [z_row_eq]; rfl) (z_push_old hR (fun i hi => ⟨z_row_ne (Nat.ne_of_lt hi), z_row_ne (Nat.ne_of_lt hi), rfl, rfl⟩))] at p1 p2
      have e3 : (Value.ref cn :: st).map (z_cc (z_row ad cn ra) ex) = .ref ra :: st.map (z_cc ad ex) := by
        show Value.ref (z_row ad cn ra cn) :: st.map (z_cc (z_row ad cn ra) ex) = _
        rw [z_row_eq, z_map_congr (fun i hi => z_row_ne (Nat.ne_of_lt hi)) hst]
      have hRn : ∀ i k, i < cn + 1 → (z_sh0 i).1 = 0 → z_ok (cn + 1) (z_row R cn (fun _ => .null) i k) := by
        intro i k hi hz
        by_cases hic : i = cn
        · subst hic; rw [z_row_eq]; trivial
        · rw [z_row_ne hic]; exact z_ok_mono (Nat.le_succ cn) (hR i k (by omega) hz)
      have := go q2 ⟨p1, p2⟩ p3 (by rw [z_al_congr (fun i hi => z_row_ne (Nat.ne_of_lt hi)) LL 0 hL]; exact hl) ⟨z_p (Nat.lt_succ_self cn) (fun v hv => z_ok_mono (Nat.le_succ cn) (hst v hv)), fun i v h => z_ok_mono (Nat.le_succ cn) (hL i v h), hRn⟩ ⟨Nat.le_succ_of_le hGG.1, fun i hi => by rw [z_row_ne (by have := hGG.1; omega)]; exact hGG.2 i hi⟩ g3 g4
      rw [e3] at this
      exact this
  | invokestatic i =>
    obtain ⟨h1, h2⟩ := z_and2 hck
    have h1 : len = 3 := Nat.eq_of_beq_eq_true h1; subst h1
    match k, q, h2 with
    | 10, q, h2 =>
      obtain ⟨n, t, rfl, q1⟩ := z_vi_el q
      obtain ⟨dp, t, rfl, q2⟩ := z_vi_el q1
      obtain ⟨qq, t, rfl, q3⟩ := z_vr_el q2
      obtain ⟨sp, t, rfl, q4⟩ := z_vi_el q3
      obtain ⟨pp, t, rfl, q5⟩ := z_vr_el q4
      obtain ⟨hbb, ⟨c1, c2, c3, c4, c5⟩, q⟩ := z_b_el q5
      obtain ⟨hk, h8⟩ := z_and2 hbb
      have hk : (z_sh0 pp).1 = (z_sh0 qq).1 := Nat.eq_of_beq_eq_true hk
      have h8 := Nat.le_of_ble_eq_true h8
      have hqc : qq < cn := z_hd (z_t (z_t hst))
      generalize hkq : ((z_X0 L xs).1 qq).1 = kd at q
      have hkq : (z_sh0 qq).1 = kd := hkq
      match kd, q, hk, hkq with
      | 1, q, hk, hkq =>
        refine va_copyi (n0 := (z_sh0 pp).2) (n1 := (z_sh0 qq).2) (f := I pp) (g := I qq) hx hb (by rw [hml, hl.1]) hown (hts _ (z_la_ok h2)) (hts _ z_nat_a) (hts _ z_st_a) (hts _ z_ini_sys) hK hHR.1 hHR.2 hS pp qq 0 0 (by rw [z_w_get (z_hd (z_t (z_t (z_t (z_t hst))))), z_ce1 (hk.trans hkq)]) (by rw [z_w_get hqc, z_ce1 hkq]) rfl rfl rfl c1 c2 c3 c4 c5 (fun _ _ => rfl) (by omega) (by rw [z_cat_sum hxx]; have := z_nfw; omega) hdg (fun H1 locs1 p1 p2 p3 => ?_)
        rw [z_w_set (I' := z_cpy I pp qq sp.toNatClampNeg dp.toNatClampNeg n.toNatClampNeg) (R' := R) (J' := J) (F' := F) hqc (by rw [z_ce1 hkq]; unfold z_cpy; rw [z_row_eq]) (fun i hi => z_ce_congr (z_row_ne hi) rfl rfl rfl)] at p1 p2
        exact go q ⟨p1, p2⟩ p3 hl ⟨z_t (z_t (z_t (z_t (z_t hst)))), hL, hR⟩ hGG huc hus
      | 3, q, hk, hkq =>
        refine va_copyl (n0 := (z_sh0 pp).2) (n1 := (z_sh0 qq).2) (f := J pp) (g := J qq) hx hb (by rw [hml, hl.1]) hown (hts _ (z_la_ok h2)) (hts _ z_nat_a) (hts _ z_st_a) (hts _ z_ini_sys) hK hHR.1 hHR.2 hS pp qq 2 2 (by rw [z_w_get (z_hd (z_t (z_t (z_t (z_t hst))))), z_ce3 (hk.trans hkq)]) (by rw [z_w_get hqc, z_ce3 hkq]) rfl rfl rfl c1 c2 c3 c4 c5 (fun _ _ => rfl) (by omega) (by rw [z_cat_sum hxx]; have := z_nfw; omega) hdg (fun H1 locs1 p1 p2 p3 => ?_)
        rw [z_w_set (I' := I) (R' := R) (J' := z_cpy J pp qq sp.toNatClampNeg dp.toNatClampNeg n.toNatClampNeg) (F' := F) hqc (by rw [z_ce3 hkq]; unfold z_cpy; rw [z_row_eq]) (fun i hi => z_ce_congr rfl rfl (z_row_ne hi) rfl)] at p1 p2
        exact go q ⟨p1, p2⟩ p3 hl ⟨z_t (z_t (z_t (z_t (z_t hst)))), hL, hR⟩ hGG huc hus
      | 4, q, hk, hkq =>
        refine va_copyf (n0 := (z_sh0 pp).2) (n1 := (z_sh0 qq).2) (f := F pp) (g := F qq) hx hb (by rw [hml, hl.1]) hown (hts _ (z_la_ok h2)) (hts _ z_nat_a) (hts _ z_st_a) (hts _ z_ini_sys) hK hHR.1 hHR.2 hS pp qq 3 3 (by rw [z_w_get (z_hd (z_t (z_t (z_t (z_t hst))))), z_ce4 (hk.trans hkq)]) (by rw [z_w_get hqc, z_ce4 hkq]) rfl rfl rfl c1 c2 c3 c4 c5 (fun _ _ => rfl) (by omega) (by rw [z_cat_sum hxx]; have := z_nfw; omega) hdg (fun H1 locs1 p1 p2 p3 => ?_)
        rw [z_w_set (I' := I) (R' := R) (J' := J) (F' := z_cpy F pp qq sp.toNatClampNeg dp.toNatClampNeg n.toNatClampNeg) hqc (by rw [z_ce4 hkq]; unfold z_cpy; rw [z_row_eq]) (fun i hi => z_ce_congr rfl rfl rfl (z_row_ne hi))] at p1 p2
        exact go q ⟨p1, p2⟩ p3 hl ⟨z_t (z_t (z_t (z_t (z_t hst)))), hL, hR⟩ hGG huc hus
      | 0, q, _, _ => exact q.elim
      | 2, q, _, _ => exact q.elim
      | _ + 5, q, _, _ => exact q.elim
    | 11, q, h2 =>
      obtain ⟨x, t, rfl, q⟩ := z_vf_el q
      obtain ⟨h8, q⟩ := z_b_el q
      have h8 := Nat.le_of_ble_eq_true h8
      exact vn_f2i hx hb (by rw [hml, hl.1]) hown (hts _ (z_lr_ok h2)) (hts _ z_nat_r) (hts _ z_st_r) (hts _ z_ini_flt) (by omega) (by rw [z_cat_sum hxx]; omega) hdg (g1 q (z_p trivial (z_t hst)))
    | 12, q, h2 =>
      obtain ⟨x, t, rfl, q⟩ := z_vi_el q
      obtain ⟨h8, hsn, q⟩ := z_b_el q
      have h8 := Nat.le_of_ble_eq_true h8
      exact vn_i2f hx hb (by rw [hml, hl.1]) hown (hts _ (z_lb_ok h2)) (hts _ z_nat_b) (hts _ z_st_b) (hts _ z_ini_flt) hsn (by omega) (by rw [z_cat_sum hxx]; omega) hdg (g1 q (z_p trivial (z_t hst)))
    | 0, q, h2 =>
      obtain ⟨h2, h3, h4⟩ := z_and3 h2
      simp only [z_step] at q
      obtain ⟨as, t, dp, hlen, rfl, h8, h9, hd, hu1, hu2, hrv, hC⟩ := z_call_el huc hus q
      exact z_callS Cx hd hHR hS hl hwf hu1 hu2 hGG hret hdg h2 h3 h4 hlen h8 h9 hC
    | 1, q, h2 => cases h2
    | 2, q, h2 => cases h2
    | 3, q, h2 => cases h2
    | 4, q, h2 => cases h2
    | 5, q, h2 => cases h2
    | 6, q, h2 => cases h2
    | 7, q, h2 => cases h2
    | 8, q, h2 => cases h2
    | 9, q, h2 => cases h2
    | _ + 13, q, h2 => cases h2
  | invokevirtual i =>
    obtain ⟨h1, h2⟩ := z_and2 hck
    have h1 : len = 3 := Nat.eq_of_beq_eq_true h1; subst h1
    match k, q, h2 with
    | 1, q, h2 =>
      simp only [Bool.and_eq_true] at h2
      obtain ⟨⟨⟨⟨h2, h3⟩, h4⟩, h5⟩, h6⟩ := h2
      simp only [z_step] at q
      obtain ⟨as, t, dp, hlen, rfl, h8, h9, hd, hu1, hu2, hrv, hC⟩ := z_call_el huc hus q
      obtain ⟨x, as2, rfl, hrv⟩ := z_vr_el hrv
      obtain ⟨hsh, -⟩ := z_b_el hrv
      exact z_callV Cx hd hHR hS hl hwf hu1 hu2 hGG hret hdg h2 h3 h4 h6 hlen h8 h9 (z_shape hsh) hC
    | 3, q, h2 =>
      simp only [Bool.and_eq_true] at h2
      obtain ⟨⟨⟨⟨h2, h3⟩, h4⟩, h5⟩, h6⟩ := h2
      simp only [z_step] at q
      obtain ⟨as, t, dp, hlen, rfl, h8, h9, hd, hu1, hu2, hrv, hC⟩ := z_call_el huc hus q
      rcases z_vo_el hrv with ⟨x, as2, rfl, hrv⟩ | ⟨j, as2, rfl, hrv⟩ | ⟨as2, rfl, hrv⟩
      · exact hrv.elim
      · obtain ⟨y, t1, e1, -⟩ := z_vi_el hrv
        have hj : z_isS j = true := by
          by_cases hz : z_isS j = true
          · exact hz
          · have e2 : z_xf0 j 1 = .int y := (List.cons.inj e1).1
            unfold z_xf0 at e2
            rw [Bool.not_eq_true _ |>.mp hz] at e2
            cases e2
        exact z_callT Cx hd hHR hS hl hwf hu1 hu2 hGG hret hdg h2 h3 (of_decide_eq_true h4) h6 hlen h8 h9 hj hC
      · exact hrv.elim
    | 0, q, h2 => cases h2
    | 2, q, h2 => cases h2
    | _ + 4, q, h2 => cases h2
  | invokespecial i =>
    obtain ⟨h1, h2⟩ := z_and2 hck
    have h1 : len = 3 := Nat.eq_of_beq_eq_true h1; subst h1
    match k, q, h2 with
    | 13, q, h2 =>
      obtain ⟨x, t, rfl, q⟩ := z_vr_el q
      obtain ⟨h8, q⟩ := z_b_el q
      have h8 := Nat.le_of_ble_eq_true h8
      exact W.objInit hx hb hown (hts _ (z_lo_ok h2)) (hts _ z_obj.1) (hts _ z_obj.2) rfl (by rw [hml]; exact hl.1) (a := ad x) (rest := t.map (z_cc ad ex)) rfl hdg (by omega) (by show 2 * 0 + _ + 12 ≤ _; rw [z_cat_sum hxx]; omega) (g1 q (z_t hst))
    | 2, q, h2 =>
      simp only [Bool.and_eq_true] at h2
      obtain ⟨⟨⟨⟨h2, h3⟩, h4⟩, h5⟩, h6⟩ := h2
      simp only [z_step] at q
      obtain ⟨as, t, dp, hlen, rfl, h8, h9, hd, hu1, hu2, hrv, hC⟩ := z_call_el huc hus q
      obtain ⟨x, as2, rfl, hrv⟩ := z_vr_el hrv
      exact z_callI Cx hd hHR hS hl hwf hu1 hu2 hGG hret hdg (Or.inl h2) h3 (z_init_none (z_ml_in h2) h3) h6 hlen h8 h9 hC
    | 6, q, h2 =>
      simp only [Bool.and_eq_true] at h2
      obtain ⟨⟨⟨⟨h2, h3⟩, h4⟩, h5⟩, h6⟩ := h2
      simp only [z_step] at q
      obtain ⟨as, t, dp, hlen, rfl, h8, h9, hd, hu1, hu2, hrv, hC⟩ := z_call_el huc hus q
      obtain ⟨x, as2, rfl, hrv⟩ := z_vr_el hrv
      exact z_callI Cx hd hHR hS hl hwf hu1 hu2 hGG hret hdg (Or.inr h2) h3 (z_init_none ((z_mn_in h2).1) h3) h6 hlen h8 h9 hC
    | 0, q, h2 => cases h2
    | 1, q, h2 => cases h2
    | 3, q, h2 => cases h2
    | 4, q, h2 => cases h2
    | 5, q, h2 => cases h2
    | 7, q, h2 => cases h2
    | 8, q, h2 => cases h2
    | 9, q, h2 => cases h2
    | 10, q, h2 => cases h2
    | 11, q, h2 => cases h2
    | 12, q, h2 => cases h2
    | _ + 14, q, h2 => cases h2
  | ireturn =>
    have h1 : len = 1 := Nat.eq_of_beq_eq_true hck; subst h1
    simp only [z_step] at q
    obtain ⟨x, t, rfl, q1⟩ := z_vi_el q
    have hv : ∀ w, some (Value.int x) = some w → z_ok cn w := fun w hw => by cases hw; trivial
    split at q1
    · rename_i hrt; exact hret (some (.int x)) I R J F cn uc us H locs ls pc ad q1 hHR hS hv hR hGG huc hus ⟨Or.inl hrt, hdg⟩
    · rename_i hrt; exact hret (some (.int x)) I R J F cn uc us H locs ls pc ad q1.2 hHR hS hv hR hGG huc hus ⟨Or.inr (Or.inl ⟨hrt, q1.1⟩), hdg⟩
    · rename_i hrt; exact hret (some (.int x)) I R J F cn uc us H locs ls pc ad q1.2 hHR hS hv hR hGG huc hus ⟨Or.inr (Or.inr (Or.inl ⟨hrt, q1.1⟩)), hdg⟩
    · rename_i hrt; exact hret (some (.int x)) I R J F cn uc us H locs ls pc ad q1.2 hHR hS hv hR hGG huc hus ⟨Or.inr (Or.inr (Or.inr ⟨hrt, q1.1⟩)), hdg⟩
    · exact q1.elim
  | freturn =>
    have h1 : len = 1 := Nat.eq_of_beq_eq_true hck; subst h1
    simp only [z_step] at q
    obtain ⟨x, t, rfl, q1⟩ := z_vf_el q
    split at q1
    · rename_i hrt; exact hret (some (.float x)) I R J F cn uc us H locs ls pc ad q1 hHR hS (fun w hw => by cases hw; trivial) hR hGG huc hus ⟨hrt, hdg⟩
    · exact q1.elim
  | lreturn =>
    have h1 : len = 1 := Nat.eq_of_beq_eq_true hck; subst h1
    simp only [z_step] at q
    obtain ⟨x, t, rfl, q1⟩ := z_vj_el q
    split at q1
    · rename_i hrt; exact hret (some (.long x)) I R J F cn uc us H locs ls pc ad q1 hHR hS (fun w hw => by cases hw; trivial) hR hGG huc hus ⟨hrt, hdg⟩
    · exact q1.elim
  | return_ =>
    have h1 : len = 1 := Nat.eq_of_beq_eq_true hck; subst h1
    match st, q, hst with
    | [], q, hst =>
      generalize hrt : (z_P0 m).1 = r at q
      match r, q, hrt with
      | 0, q, hrt => exact hret none I R J F cn uc us H locs ls pc ad q hHR hS (fun w hw => by cases hw) hR hGG huc hus ⟨hrt, hdg⟩
      | _ + 1, q, _ => exact q.elim
    | _ :: _, q, _ => exact q.elim
  | _ => exact q.elim
end ZC