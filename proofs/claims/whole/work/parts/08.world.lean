/-! the plain cells over the machine's heap -/
def z_cc (ad : Nat → Nat) (ex : Nat → Value) : Value → Value
  | .ref q => .ref (ad q)
  | .retAddr j => ex j
  | v => v
def z_fv (ad : Nat → Nat) (ex : Nat → Value) (I : z_I) (R : z_R) (c i k : Nat) : Value := bif z_isr c k then z_cc ad ex (R i k) else .int (I i k)
def z_nf (c : Nat) : Nat := match z_cl[c]? with
  | some q => q.2.2
  | none => 0
def z_ce (ad : Nat → Nat) (ex : Nat → Value) (cA : Nat → ClassId) (I : z_I) (R : z_R) (J : z_J) (F : z_F) (i : Nat) : va_E := match (z_sh0 i).1 with
  | 0 => .inr ((z_sh0 i).2, (List.range (z_nf (z_sh0 i).2)).map (z_fv ad ex I R (z_sh0 i).2 i))
  | 1 => .inl (cA 1, (z_sh0 i).2, .inl (I i))
  | 2 => .inl (cA 2, (z_sh0 i).2, .inl (I i))
  | 3 => .inl (cA 3, (z_sh0 i).2, .inr (.inl (J i)))
  | _ => .inl (cA 4, (z_sh0 i).2, .inr (.inr (.inl (F i))))
def z_w (ad : Nat → Nat) (ex : Nat → Value) (cA : Nat → ClassId) (I : z_I) (R : z_R) (J : z_J) (F : z_F) (cn : Nat) : va_W := (List.range cn).map fun i => (ad i, z_ce ad ex cA I R J F i)
theorem z_w_get {ad : Nat → Nat} {ex : Nat → Value} {cA : Nat → ClassId} {I : z_I} {R : z_R} {J : z_J} {F : z_F} {cn q : Nat} (h : q < cn) : (z_w ad ex cA I R J F cn)[q]? = some (ad q, z_ce ad ex cA I R J F q) := by
  simp [z_w, h]
theorem z_w_some {ad : Nat → Nat} {ex : Nat → Value} {cA : Nat → ClassId} {I : z_I} {R : z_R} {J : z_J} {F : z_F} {cn k : Nat} {p : Nat × va_E} (h : (z_w ad ex cA I R J F cn)[k]? = some p) : k < cn ∧ p = (ad k, z_ce ad ex cA I R J F k) := by
  have hk : k < cn := by
    have := (List.getElem?_eq_some_iff.mp h).1
    simpa [z_w] using this
  exact ⟨hk, (Option.some.inj (h.symm.trans (z_w_get hk)))⟩
/-- a world in which one cell is another -/
theorem z_w_set {ad : Nat → Nat} {ex : Nat → Value} {cA : Nat → ClassId} {I I' : z_I} {R R' : z_R} {J J' : z_J} {F F' : z_F} {cn q : Nat} {e : va_E} (hq : q < cn) (he : z_ce ad ex cA I' R' J' F' q = e) (ho : ∀ i, i ≠ q → z_ce ad ex cA I' R' J' F' i = z_ce ad ex cA I R J F i) :
    (z_w ad ex cA I R J F cn).set q (ad q, e) = z_w ad ex cA I' R' J' F' cn := by
  apply List.ext_getElem?
  intro i
  rw [List.getElem?_set]
  by_cases hi : q = i
  · subst hi
    rw [if_pos rfl, z_w_get hq, he]
    simp [z_w, hq]
  · rw [if_neg hi]
    by_cases hc : i < cn
    · rw [z_w_get hc, z_w_get hc, ho i (fun z => hi z.symm)]
    · rw [List.getElem?_eq_none (by simp [z_w]; omega), List.getElem?_eq_none (by simp [z_w]; omega)]
theorem z_w_push {ad ad' : Nat → Nat} {ex : Nat → Value} {cA : Nat → ClassId} {I I' : z_I} {R R' : z_R} {J J' : z_J} {F F' : z_F} {cn q : Nat} {e : va_E} (hq : ad' cn = q) (he : z_ce ad' ex cA I' R' J' F' cn = e) (ho : ∀ i, i < cn → ad' i = ad i ∧ z_ce ad' ex cA I' R' J' F' i = z_ce ad ex cA I R J F i) :
    z_w ad ex cA I R J F cn ++ [(q, e)] = z_w ad' ex cA I' R' J' F' (cn + 1) := by
  unfold z_w
  rw [List.range_succ, List.map_append]
  congr 1
  · apply List.map_congr_left
    intro i hi
    obtain ⟨h1, h2⟩ := ho i (List.mem_range.mp hi)
    rw [h1, h2]
  · simp [he, hq]
def z_A (base : Nat) : Nat → Prop := fun q => base ≤ q
def z_HR (D : va_G) (cA : Nat → ClassId) (base : Nat) (ad : Nat → Nat) (ex : Nat → Value) (I : z_I) (R : z_R) (J : z_J) (F : z_F) (cn : Nat) (H : Heap) : Prop := va_P D z_cl (z_w ad ex cA I R J F cn) H ∧ va_D (z_A base) (z_w ad ex cA I R J F cn)
def z_tys (cA : Nat → ClassId) : List (ClassId × FieldType) := [(cA 1, .int), (cA 2, .byte), (cA 3, .long), (cA 4, .float)]
/-- what lies outside and is only read: rows, Strings, statics; links of private constructors -/
def z_Ex (base : Nat) (ex : Nat → Value) (L : Nat) (xs : Nat → Int32) (U : State) (H : Heap) : Prop :=
  (∀ j, (ex j = .null ∨ ∃ a, ex j = .ref a)) ∧
  (∀ j, (z_xa0 L xs j).1 = 1 → ∃ t, ex j = .ref t ∧ va_T .int t (z_xa0 L xs j).2.1 (fun k => .int ((z_xa0 L xs j).2.2 k)) (z_A base) U H) ∧
  (∀ j, (z_xa0 L xs j).1 = 2 → ∃ t, ex j = .ref t ∧ va_T .byte t (z_xa0 L xs j).2.1 (fun k => .int ((z_xa0 L xs j).2.2 k)) (z_A base) U H) ∧
  (∀ j, z_isS j = true → ∃ a b, ex j = .ref a ∧ ex (j + 1) = .ref b ∧ va_O "java/lang/String" a (z_A base) U H ∧ va_OF "java/lang/String" "coder" "B" (.int 0) a (z_A base) U H ∧ va_OF "java/lang/String" "value" "[B" (.ref b) a (z_A base) U H) ∧
  (∀ t ∈ z_SL, ∃ (tx : String) (a : Nat), ex t.2.2 = .ref a ∧ vk_R (z_cn t.1) t.2.1 tx a U) ∧
  va_Z "CommandBus$Units" "MOST" "[I" (ex 0) (z_A base) U H ∧ va_Z "java/lang/String" "COMPACT_STRINGS" "Z" (.int 1) (z_A base) U H ∧ va_Z "jdk/internal/util/Preconditions" "SIOOBE_FORMATTER" "Ljava/util/function/BiFunction;" (ex 60) (z_A base) U H ∧
  (∀ t ∈ z_MN, va_Nw (.methodLinkNest (z_cn t.1) t.2.1 (z_MT t.2.2).1 "CommandBus") U)
theorem z_Ex.kept {base : Nat} {ex : Nat → Value} {L : Nat} {xs : Nat → Int32} {U : State} {H H1 : Heap} (h : z_Ex base ex L xs U H) (hq : ∀ a : Nat, a < H.size → ¬ z_A base a → H1[a]? = H[a]?) : z_Ex base ex L xs U H1 := by
  obtain ⟨h0, h1, h2, h3, h4, h5, h6, h7, h8⟩ := h
  refine ⟨h0, fun j hj => ?_, fun j hj => ?_, fun j hj => ?_, h4, h5.kept hq, h6.kept hq, h7.kept hq, h8⟩
  · obtain ⟨t, e, z⟩ := h1 j hj; exact ⟨t, e, z.kept hq⟩
  · obtain ⟨t, e, z⟩ := h2 j hj; exact ⟨t, e, z.kept hq⟩
  · obtain ⟨a, b, e1, e2, z1, z2, z3⟩ := h3 j hj; exact ⟨a, b, e1, e2, z1.kept hq, z2.kept hq, z3.kept hq⟩
theorem z_Ex.warm {base : Nat} {ex : Nat → Value} {L : Nat} {xs : Nat → Int32} {s U : State} {H : Heap} (hW : s.WarmedH U.vm) (h : z_Ex base ex L xs s H) : z_Ex base ex L xs U H := by
  obtain ⟨h0, h1, h2, h3, h4, h5, h6, h7, h8⟩ := h
  have hvm := hW.alike
  refine ⟨h0, fun j hj => ?_, fun j hj => ?_, fun j hj => ?_, fun t ht => ?_, h5.moved hvm, h6.moved hvm, h7.moved hvm, fun t ht => va_Nw.warmM hW (h8 t ht)⟩
  · obtain ⟨t, e, z⟩ := h1 j hj; exact ⟨t, e, z.moved hvm⟩
  · obtain ⟨t, e, z⟩ := h2 j hj; exact ⟨t, e, z.moved hvm⟩
  · obtain ⟨a, b, e1, e2, z1, z2, z3⟩ := h3 j hj; exact ⟨a, b, e1, e2, z1.moved hvm, z2.moved hvm, z3.moved hvm⟩
  · obtain ⟨tx, a, e, z⟩ := h4 t ht; exact ⟨tx, a, e, z.warm hW⟩
theorem z_Ex.same {base : Nat} {ex : Nat → Value} {L : Nat} {xs : Nat → Int32} {u U : State} {H : Heap} (hv : U.vm = u.vm) (h : z_Ex base ex L xs u H) : z_Ex base ex L xs U H := by
  obtain ⟨h0, h1, h2, h3, h4, h5, h6, h7, h8⟩ := h
  have hvm : u.vm.Alike U.vm := by rw [hv]; exact Vm.Alike.refl _
  refine ⟨h0, fun j hj => ?_, fun j hj => ?_, fun j hj => ?_, fun t ht => ?_, h5.moved hvm, h6.moved hvm, h7.moved hvm, fun t ht => va_Nw.same rfl hv.symm (h8 t ht)⟩
  · obtain ⟨t, e, z⟩ := h1 j hj; exact ⟨t, e, z.moved hvm⟩
  · obtain ⟨t, e, z⟩ := h2 j hj; exact ⟨t, e, z.moved hvm⟩
  · obtain ⟨a, b, e1, e2, z1, z2, z3⟩ := h3 j hj; exact ⟨a, b, e1, e2, z1.moved hvm, z2.moved hvm, z3.moved hvm⟩
  · obtain ⟨tx, a, e, z⟩ := h4 t ht; exact ⟨tx, a, e, z.same hv⟩
/-- a reference is of a cell that there is -/
def z_ok (cn : Nat) (v : Value) : Prop := match v with
  | .ref q => q < cn
  | .double _ => False
  | _ => True
theorem z_ok_mono {cn cn' : Nat} {v : Value} (h : cn ≤ cn') (q : z_ok cn v) : z_ok cn' v := by
  cases v <;> first | trivial | exact q.elim | exact Nat.lt_of_lt_of_le q h
def z_wf (cn : Nat) (L : z_L) (st : List Value) (R : z_R) : Prop := (∀ v ∈ st, z_ok cn v) ∧ (∀ i v, z_get L i = some v → z_ok cn v) ∧ ∀ i k, i < cn → (z_sh0 i).1 = 0 → z_ok cn (R i k)
def z_al (ad : Nat → Nat) (ex : Nat → Value) : Nat → z_L → List (Nat × Value)
  | _, [] => []
  | i, some v :: l => (i, z_cc ad ex v) :: z_al ad ex (i + 1) l
  | i, none :: l => z_al ad ex (i + 1) l
theorem z_al_mem {ad : Nat → Nat} {ex : Nat → Value} : ∀ {l : z_L} {k j : Nat} {v : Value}, z_get l j = some v → (k + j, z_cc ad ex v) ∈ z_al ad ex k l
  | [], _, _, _, h => by cases h
  | some a :: l, k, 0, v, h => by cases h; exact List.mem_cons_self
  | none :: l, k, 0, v, h => by cases h
  | some a :: l, k, j + 1, v, h => by
    have := z_al_mem (ad := ad) (ex := ex) (k := k + 1) (l := l) (j := j) h
    exact List.mem_cons_of_mem _ (by rw [show k + (j + 1) = k + 1 + j by omega]; exact this)
  | none :: l, k, j + 1, v, h => by
    have := z_al_mem (ad := ad) (ex := ex) (k := k + 1) (l := l) (j := j) h
    show (k + (j + 1), _) ∈ z_al ad ex (k + 1) l
    rw [show k + (j + 1) = k + 1 + j by omega]; exact this
theorem z_al_of {ad : Nat → Nat} {ex : Nat → Value} : ∀ {l : z_L} {k : Nat} {q : Nat × Value}, q ∈ z_al ad ex k l → ∃ j v, z_get l j = some v ∧ q = (k + j, z_cc ad ex v)
  | [], _, _, h => by cases h
  | some a :: l, k, q, h => by
    rcases List.mem_cons.mp h with rfl | h
    · exact ⟨0, a, rfl, rfl⟩
    · obtain ⟨j, v, e1, e2⟩ := z_al_of (l := l) (k := k + 1) h
      exact ⟨j + 1, v, e1, by rw [e2]; congr 1; omega⟩
  | none :: l, k, q, h => by
    obtain ⟨j, v, e1, e2⟩ := z_al_of (l := l) (k := k + 1) h
    exact ⟨j + 1, v, e1, by rw [e2]; congr 1; omega⟩
theorem z_lv_mono {ls : Array Slot} {nL : Nat} {l l' : List (Nat × Value)} (h : lv_has ls nL l) (hs : ∀ q ∈ l', q ∈ l) : lv_has ls nL l' := ⟨h.1, h.2.1, fun q hq => h.2.2 q (hs q hq)⟩
theorem z_kill_some {a : Option Value} {i : Nat} {v : Value} (h : z_kill a i = some v) : a = some v ∧ (i = 0 → v.category = 1) := by
  cases i with
  | zero =>
    unfold z_kill at h
    simp only at h
    split at h
    · cases h
    · cases h
    · rename_i h1 h2
      refine ⟨h, fun _ => ?_⟩
      subst h
      cases v <;> first | rfl | exact absurd rfl (h1 _) | exact absurd rfl (h2 _)
  | succ i => exact ⟨h, fun z => by cases z⟩
theorem z_set1_get : ∀ {l : z_L} {i j : Nat} {v w : Value}, z_get (z_set1 l i v) j = some w → (j = i ∧ w = v) ∨ (j ≠ i ∧ z_get l j = some w ∧ (j + 1 = i → w.category = 1))
  | [], _, _, _, _, h => by cases h
  | a :: l, 0, 0, v, w, h => by cases h; exact Or.inl ⟨rfl, rfl⟩
  | a :: l, 0, j + 1, v, w, h => Or.inr ⟨by omega, h, fun z => by cases z⟩
  | a :: l, i + 1, 0, v, w, h => by
    obtain ⟨h1, h2⟩ := z_kill_some (show z_kill a i = some w from h)
    exact Or.inr ⟨by omega, h1, fun z => h2 (by omega)⟩
  | a :: l, i + 1, j + 1, v, w, h => by
    rcases z_set1_get (l := l) (i := i) (j := j) h with ⟨e1, e2⟩ | ⟨e1, e2, e3⟩
    · exact Or.inl ⟨by omega, e2⟩
    · exact Or.inr ⟨by omega, e2, fun z => e3 (by omega)⟩
theorem z_set2_get : ∀ {l : z_L} {i j : Nat} {v w : Value}, z_get (z_set2 l i v) j = some w → (j = i ∧ w = v) ∨ (j ≠ i ∧ j ≠ i + 1 ∧ z_get l j = some w ∧ (j + 1 = i → w.category = 1))
  | [], _, _, _, _, h => by cases h
  | a :: l, 0, 0, v, w, h => by cases h; exact Or.inl ⟨rfl, rfl⟩
  | a :: [], 0, j + 1, v, w, h => by cases h
  | a :: b :: l, 0, 1, v, w, h => by cases h
  | a :: b :: l, 0, j + 2, v, w, h => Or.inr ⟨by omega, by omega, h, fun z => by cases z⟩
  | a :: l, i + 1, 0, v, w, h => by
    obtain ⟨h1, h2⟩ := z_kill_some (show z_kill a i = some w from h)
    exact Or.inr ⟨by omega, by omega, h1, fun z => h2 (by omega)⟩
  | a :: l, i + 1, j + 1, v, w, h => by
    rcases z_set2_get (l := l) (i := i) (j := j) h with ⟨e1, e2⟩ | ⟨e1, e2, e3, e4⟩
    · exact Or.inl ⟨by omega, e2⟩
    · exact Or.inr ⟨by omega, by omega, e3, fun z => e4 (by omega)⟩
theorem z_cc_cat {ad : Nat → Nat} {ex : Nat → Value} (hx : ∀ j, (ex j = .null ∨ ∃ a, ex j = .ref a)) (v : Value) : (z_cc ad ex v).category = v.category := by
  cases v with
  | retAddr j =>
    show (ex j).category = 1
    rcases hx j with h | ⟨a, h⟩ <;> rw [h] <;> rfl
  | _ => rfl
theorem z_cat_sum {ad : Nat → Nat} {ex : Nat → Value} (hx : ∀ j, (ex j = .null ∨ ∃ a, ex j = .ref a)) : ∀ l : List Value, ((l.map (z_cc ad ex)).map fun v => v.category).sum = z_cat l
  | [] => rfl
  | v :: l => by
    simp only [List.map_cons, List.sum_cons, z_cat, z_cc_cat hx v, z_cat_sum hx l]
theorem z_store1 {ad : Nat → Nat} {ex : Nat → Value} (hx : ∀ j, (ex j = .null ∨ ∃ a, ex j = .ref a)) {ls : Array Slot} {nL i : Nat} {L : z_L} {v : Value} (h : lv_has ls nL ((i, z_cc ad ex v) :: (z_al ad ex 0 L).filter (fun q => !(q.1 == i) && !(q.1 + 1 == i && q.2.category == 2)))) : lv_has ls nL (z_al ad ex 0 (z_set1 L i v)) := by
  refine z_lv_mono h fun q hq => ?_
  obtain ⟨j, w, e1, rfl⟩ := z_al_of hq
  rcases z_set1_get e1 with ⟨rfl, rfl⟩ | ⟨e2, e3, e4⟩
  · rw [Nat.zero_add]; exact List.mem_cons_self
  · refine List.mem_cons_of_mem _ (List.mem_filter.mpr ⟨z_al_mem e3, ?_⟩)
    simp only [Nat.zero_add, Bool.and_eq_true, Bool.not_eq_true', beq_eq_false_iff_ne, Bool.and_eq_false_iff, ne_eq]
    refine ⟨e2, ?_⟩
    by_cases z : j + 1 = i
    · right; rw [z_cc_cat hx, e4 z]; decide
    · left; exact z
theorem z_store2 {ad : Nat → Nat} {ex : Nat → Value} (hx : ∀ j, (ex j = .null ∨ ∃ a, ex j = .ref a)) {ls : Array Slot} {nL i : Nat} {L : z_L} {v : Value} (h : lv_has ls nL ((i, z_cc ad ex v) :: (z_al ad ex 0 L).filter (fun q => !(q.1 == i) && (!(q.1 == i + 1) && !(q.1 + 1 == i && q.2.category == 2))))) : lv_has ls nL (z_al ad ex 0 (z_set2 L i v)) := by
  refine z_lv_mono h fun q hq => ?_
  obtain ⟨j, w, e1, rfl⟩ := z_al_of hq
  rcases z_set2_get e1 with ⟨rfl, rfl⟩ | ⟨e2, e5, e3, e4⟩
  · rw [Nat.zero_add]; exact List.mem_cons_self
  · refine List.mem_cons_of_mem _ (List.mem_filter.mpr ⟨z_al_mem e3, ?_⟩)
    simp only [Nat.zero_add, Bool.and_eq_true, Bool.not_eq_true', beq_eq_false_iff_ne, Bool.and_eq_false_iff, ne_eq]
    refine ⟨e2, e5, ?_⟩
    by_cases z : j + 1 = i
    · right; rw [z_cc_cat hx, e4 z]; decide
    · left; exact z
theorem z_cc_congr {ad ad' : Nat → Nat} {ex : Nat → Value} {cn : Nat} {v : Value} (h : ∀ i, i < cn → ad' i = ad i) (hv : z_ok cn v) : z_cc ad' ex v = z_cc ad ex v := by
  cases v with
  | ref q => show Value.ref (ad' q) = .ref (ad q); rw [h q hv]
  | _ => rfl
theorem z_map_congr {ad ad' : Nat → Nat} {ex : Nat → Value} {cn : Nat} {st : List Value} (h : ∀ i, i < cn → ad' i = ad i) (hv : ∀ v ∈ st, z_ok cn v) : st.map (z_cc ad' ex) = st.map (z_cc ad ex) := List.map_congr_left fun v hm => z_cc_congr h (hv v hm)
theorem z_al_congr {ad ad' : Nat → Nat} {ex : Nat → Value} {cn : Nat} (h : ∀ i, i < cn → ad' i = ad i) : ∀ (l : z_L) (k : Nat), (∀ i v, z_get l i = some v → z_ok cn v) → z_al ad' ex k l = z_al ad ex k l
  | [], _, _ => rfl
  | some v :: l, k, hv => by
    show (k, z_cc ad' ex v) :: z_al ad' ex (k + 1) l = _
    rw [z_cc_congr h (hv 0 v rfl), z_al_congr h l (k + 1) (fun i w q => hv (i + 1) w q)]
    rfl
  | none :: l, k, hv => z_al_congr h l (k + 1) (fun i w q => hv (i + 1) w q)
