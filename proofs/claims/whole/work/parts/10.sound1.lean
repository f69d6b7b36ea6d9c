/-! what holds all through a method's run on the machine -/
def z_Cx (D : va_G) (cA : Nat → ClassId) (base : Nat) (ex : Nat → Value) (L : Nat) (xs : Nat → Int32) (d m : Nat) (p : Program) (Rm : Room) (s : State) (mi : MethodId) (args : Array Value) (meth : Method) (c : Code) : Prop :=
  p.tables.exec = Jvm.exec ∧ c.code = (z_MT m).2.1 ∧ c.maxLocals = (z_P0 m).2.1 ∧ s.vm.findClass (z_cn (z_oc m)) = some mi.cls ∧ (∀ w ∈ z_tb, w.before args s = true) ∧ ((z_MT m).1.name = "<init>" → meth.name = "<init>") ∧
  va_K D z_cl (z_tys cA) s ∧ z_Ex base ex L xs s s.heap ∧ base ≤ s.heap.size ∧ d + 1 ≤ Rm.frames ∧ 64 * (d + 1) ≤ Rm.locals ∧ (z_bd0 m).1 ≤ Rm.cells ∧ (z_bd0 m).2 ≤ Rm.slots ∧ z_cn (z_oc m) = (z_MT m).1.cls
/-- a return that fits the method -/
def z_rok (m : Nat) (v : Option Value) (pc : Nat) : Prop := match v with
  | none => (z_P0 m).1 = 0 ∧ decode (z_MT m).2.1 pc = .ok (.return_, 1)
  | some (.int x) => ((z_P0 m).1 = 1 ∨ ((z_P0 m).1 = 2 ∧ (x = 0 ∨ x = 1)) ∨ ((z_P0 m).1 = 3 ∧ x.toInt8.toInt32 = x) ∨ ((z_P0 m).1 = 4 ∧ (x.toUInt32 % 65536).toInt32 = x)) ∧ decode (z_MT m).2.1 pc = .ok (.ireturn, 1)
  | some (.float _) => (z_P0 m).1 = 5 ∧ decode (z_MT m).2.1 pc = .ok (.freturn, 1)
  | some (.long _) => (z_P0 m).1 = 6 ∧ decode (z_MT m).2.1 pc = .ok (.lreturn, 1)
  | _ => False
/-- the plain reading is sound at this place: the machine comes to its end, if the returns do; cells keep their addresses -/
def z_S (l : Launch) (D : va_G) (cA : Nat → ClassId) (base : Nat) (ex : Nat → Value) (L : Nat) (xs : Nat → Int32) : z_Z := fun d m pc LL st I R J F cn uc us Q =>
  ∀ (p : Program) (e : Env) (Rm : Room) (s : State) (mi : MethodId) (args : Array Value) (below : List Frame) (meth : Method) (c : Code) (H : Heap) (locs : List Loc) (ls : Array Slot) (Qf : State → Prop) (ad ad0 : Nat → Nat) (cn0 : Nat),
    z_Cx D cA base ex L xs d m p Rm s mi args meth c → z_HR D cA base ad ex I R J F cn H → va_S (z_A base) s.heap H locs → lv_has ls (z_P0 m).2.1 (z_al ad ex 0 LL) → z_wf cn LL st R → (cn0 ≤ cn ∧ ∀ i, i < cn0 → ad i = ad0 i) → uc ≤ (z_bd0 m).1 → us ≤ (z_bd0 m).2 →
    (∀ (v : Option Value) (I : z_I) (R : z_R) (J : z_J) (F : z_F) (cn uc us : Nat) (H : Heap) (locs : List Loc) (ls : Array Slot) (pc : Nat) (ad : Nat → Nat), Q v I R J F cn → z_HR D cA base ad ex I R J F cn H → va_S (z_A base) s.heap H locs → (∀ w, v = some w → z_ok cn w) → (∀ i k, i < cn → (z_sh0 i).1 = 0 → z_ok cn (R i k)) → (cn0 ≤ cn ∧ ∀ i, i < cn0 → ad i = ad0 i) → uc ≤ (z_bd0 m).1 → us ≤ (z_bd0 m).2 → z_rok m v pc →
      W p l e Rm s mi args below meth c H locs uc us Qf (F0 mi pc ls (v.toList.map (z_cc ad ex)))) →
    W p l e Rm s mi args below meth c H locs uc us Qf (F0 mi pc ls (st.map (z_cc ad ex)))
theorem z_S_mo {l : Launch} {D : va_G} {cA : Nat → ClassId} {base : Nat} {ex : Nat → Value} {L : Nat} {xs : Nat → Int32} : z_Mo (z_S l D cA base ex L xs) := by
  intro d m pc LL st I R J F cn uc us Q Q' h w p e Rm s mi args below meth c H locs ls Qf ad ad0 cn0 h1 h2 h3 h4 h5 h9 h6 h7 h8
  exact w p e Rm s mi args below meth c H locs ls Qf ad ad0 cn0 h1 h2 h3 h4 h5 h9 h6 h7 (fun v I R J F cn uc us H locs ls pc ad q => h8 v I R J F cn uc us H locs ls pc ad (h v I R J F cn q))
/-! calls -/
theorem Met.ofWF {l : Launch} {y : MethodName} {ws ws' : List Cond} {rm : Room} {Pc : Array Value → State → Prop} {Qc : Array Value → State → Outcome → State → Prop} {mc ms : Nat} {free : Addr → Prop} {cc : ByteArray} {maxL : Nat} {ret : Option FieldType}
    (hy : plainFor y = true) (hw : ws = Cond.code y cc maxL ret :: ws')
    (body : ∀ p e s m args below meth c s₁, BodyLoose p l y (headSpec ws rm) cc maxL ret e s m args below meth c s₁ → c.maxLocals = maxL → Pc args s →
      W p l e (headSpec ws rm).room s m args below meth c s.heap [] 0 0 (MQ below Qc args s mc ms free) (entryFrame m args maxL)) : Met l y ws rm Pc Qc mc ms free := by
  refine MetFree.of_bodySF (code := cc) (maxLocals := maxL) (ret := ret) hy ?_ ?_
  · intro args s m h hn
    obtain ⟨meth, c, h1, h2, h3, h4, h5, h6, -, -⟩ := Cond.code_spec hn (atoms_spec (ws := ws) h _ (by rw [hw]; exact List.mem_cons_self))
    exact ⟨meth, c, h1, h2, h3, h4, h5, h6⟩
  · intro p e s m args below meth c s₁ B hml hP _
    have hh0 : s₁.heap = s.heap := by rw [B.state]; rfl
    obtain ⟨t, a1, o, b1, b2, b3⟩ := body p e s m args below meth c s₁ B hml hP s₁ hh0 (Stand.of_body B)
    exact ⟨t, o, a1, b1, b2, ⟨b3.1, b3.2⟩⟩
def z_Pc (D : va_G) (cA : Nat → ClassId) (base : Nat) (ad : Nat → Nat) (ex : Nat → Value) (L : Nat) (xs : Nat → Int32) (as : List Value) (I : z_I) (R : z_R) (J : z_J) (F : z_F) (cn : Nat) : Array Value → State → Prop :=
  va_Pc (as.map (z_cc ad ex)) (fun U => z_HR D cA base ad ex I R J F cn U.heap ∧ va_K D z_cl (z_tys cA) U ∧ z_Ex base ex L xs U U.heap ∧ base ≤ U.heap.size)
def z_Qc (D : va_G) (cA : Nat → ClassId) (base : Nat) (ad0 : Nat → Nat) (cn0 : Nat) (ex : Nat → Value) (Q : z_Q) : Array Value → State → Outcome → State → Prop := fun _ st oc t =>
  (∃ (v : Option Value) (I : z_I) (R : z_R) (J : z_J) (F : z_F) (cn : Nat) (ad : Nat → Nat), oc = .returned (v.map (z_cc ad ex)) ∧ Q v I R J F cn ∧ z_HR D cA base ad ex I R J F cn t.heap ∧ (∀ w, v = some w → z_ok cn w) ∧ (∀ i k, i < cn → (z_sh0 i).1 = 0 → z_ok cn (R i k)) ∧ cn0 ≤ cn ∧ ∀ i, i < cn0 → ad i = ad0 i) ∧ va_F (z_A base) st t
def z_rm (d m : Nat) : Room := { frames := d + 1, locals := 64 * (d + 1), cells := (z_bd0 m).1, slots := (z_bd0 m).2 }
abbrev z_cw (m : Nat) : Cond := Cond.code (z_MT m).1 (z_MT m).2.1 (z_MT m).2.2.1 (z_MT m).2.2.2
theorem z_sl_len {ad : Nat → Nat} {ex : Nat → Value} (hx : ∀ j, (ex j = .null ∨ ∃ a, ex j = .ref a)) : ∀ as : List Value, (lg_sl (as.map (z_cc ad ex))).length = z_cat as
  | [] => rfl
  | v :: l => by
    have ih := z_sl_len (ad := ad) hx l
    unfold lg_sl at ih ⊢
    simp only [List.map_cons, List.flatMap_cons, List.length_append, z_cat, z_cc_cat hx v]
    rw [ih]
    rcases lv_cat v with h | h <;> simp [h]
theorem z_ent_al {ad : Nat → Nat} {ex : Nat → Value} (hx : ∀ j, (ex j = .null ∨ ∃ a, ex j = .ref a)) {cn : Nat} : ∀ (n k : Nat) (as : List Value), (∀ v ∈ as, z_ok cn v) → ∀ q ∈ z_al ad ex k (z_ent n as), q ∈ lv_args k (as.map (z_cc ad ex))
  | 0, k, as, _, q, h => by cases as <;> cases h
  | n + 1, k, [], ho, q, h => z_ent_al hx n (k + 1) [] ho q h
  | n + 1, k, v :: l, ho, q, h => by
    by_cases hc : v.category = 2
    · cases v with
      | long x =>
        cases n with
        | zero =>
          rcases List.mem_cons.mp (show q ∈ [(k, Value.long x)] from h) with rfl | h
          · exact List.mem_cons_self
          · cases h
        | succ n =>
          rcases List.mem_cons.mp (show q ∈ (k, Value.long x) :: z_al ad ex (k + 2) (z_ent n l) from h) with rfl | h
          · exact List.mem_cons_self
          · exact List.mem_cons_of_mem _ (z_ent_al hx n (k + 2) l (z_t ho) q h)
      | double x => exact (z_hd ho).elim
      | _ => cases hc
    · have e : z_ent (n + 1) (v :: l) = some v :: z_ent n l := by
        cases v <;> first | rfl | exact absurd rfl hc
      rw [e] at h
      rcases List.mem_cons.mp (show q ∈ (k, z_cc ad ex v) :: z_al ad ex (k + 1) (z_ent n l) from h) with rfl | h
      · exact List.mem_cons_self
      · refine List.mem_cons_of_mem _ ?_
        rw [z_cc_cat hx, if_neg hc]
        exact z_ent_al hx n (k + 1) l (z_t ho) q h
theorem z_ent_get {cn : Nat} : ∀ (n : Nat) (as : List Value), (∀ v ∈ as, z_ok cn v) → ∀ (i : Nat) (w : Value), z_get (z_ent n as) i = some w → z_ok cn w
  | 0, as, _, i, w, h => by cases as <;> cases h
  | n + 1, [], ho, 0, w, h => by cases h
  | n + 1, [], ho, i + 1, w, h => z_ent_get n [] ho i w h
  | n + 1, v :: l, ho, i, w, h => by
    by_cases hc : v.category = 2
    · cases v with
      | long x =>
        cases n with
        | zero =>
          cases i with
          | zero => cases (show some (Value.long x) = some w from h); trivial
          | succ i => cases (show (none : Option Value) = some w from h)
        | succ n =>
          match i, h with
          | 0, h => cases (show some (Value.long x) = some w from h); trivial
          | 1, h => cases (show (none : Option Value) = some w from h)
          | i + 2, h => exact z_ent_get n l (z_t ho) i w h
      | double x => exact (z_hd ho).elim
      | _ => cases hc
    · have e : z_ent (n + 1) (v :: l) = some v :: z_ent n l := by
        cases v <;> first | rfl | exact absurd rfl hc
      rw [e] at h
      cases i with
      | zero => cases h; exact z_hd ho
      | succ i => exact z_ent_get n l (z_t ho) i w h
/-- a sound place at a method's entry is a contract of the method -/
theorem z_met {l : Launch} {D : va_G} {cA : Nat → ClassId} {base : Nat} {ad : Nat → Nat} {ex : Nat → Value} {L : Nat} {xs : Nat → Int32} {d m : Nat} {as : List Value} {I : z_I} {R : z_R} {J : z_J} {F : z_F} {cn : Nat} {Q : z_Q}
    (hx : ∀ j, (ex j = .null ∨ ∃ a, ex j = .ref a)) (hpl : plainFor (z_MT m).1 = true) (hml : (z_P0 m).2.1 = (z_MT m).2.2.1) (hrt : z_rt (z_P0 m).1 = (z_MT m).2.2.2) (hoc : z_cn (z_oc m) = (z_MT m).1.cls) (hcat : z_cat as ≤ (z_P0 m).2.1)
    (has : ∀ v ∈ as, z_ok cn v) (hR : ∀ i k, i < cn → (z_sh0 i).1 = 0 → z_ok cn (R i k)) (hS : z_S l D cA base ex L xs d m 0 (z_ent (z_P0 m).2.1 as) [] I R J F cn 0 0 Q) :
    Met l (z_MT m).1 (z_cw m :: z_tb) (z_rm d m) (z_Pc D cA base ad ex L xs as I R J F cn) (z_Qc D cA base ad cn ex Q) (z_bd0 m).1 (z_bd0 m).2 (z_A base) := by
  refine Met.ofWF (cc := (z_MT m).2.1) (maxL := (z_MT m).2.2.1) (ret := (z_MT m).2.2.2) hpl rfl ?_
  intro p e s mi args below meth c s₁ B hmc hv
  obtain ⟨rfl, hHR, hK, hE, hbase⟩ := hv
  have hts := atoms_spec (ws := z_cw m :: z_tb) B.pre
  have hown : s.vm.findClass (z_cn (z_oc m)) = some mi.cls := by rw [hoc]; exact findClass_of_methodNamed B.named
  have hlocks := B.notSynchronized
  have hnm : meth.name = (z_MT m).1.name := (name_of_methodNamed B.named B.method).1
  have hl := lv_entry (as.map (z_cc ad ex)) (n := (z_MT m).2.2.1) (by rw [z_sl_len hx, ← hml]; exact hcat)
  rw [lg_entry_eq]
  generalize (lg_sl (as.map (z_cc ad ex)) ++ List.replicate ((z_MT m).2.2.1 - (lg_sl (as.map (z_cc ad ex))).length) Slot.unset).toArray = ls at hl ⊢
  refine hS p e _ s mi _ below meth c s.heap [] ls _ ad ad cn ⟨B.exec, B.bytes, by rw [hmc, hml], hown, fun w hw => hts w (List.mem_cons_of_mem _ hw), (fun h => by rw [hnm, h]), hK, hE, hbase, Nat.le_refl _, Nat.le_refl _, Nat.le_refl _, Nat.le_refl _, hoc⟩ hHR va_S.rf (z_lv_mono (by rw [hml]; exact hl) (z_ent_al hx _ 0 as has)) ⟨fun v hv => (by cases hv), z_ent_get _ as has, hR⟩ ⟨Nat.le_refl _, fun _ _ => rfl⟩ (Nat.zero_le _) (Nat.zero_le _) ?_
  intro v I' R' J' F' cn' uc us H locs ls' pc ad' hq hHR' hS' hv hR' hG huc hus hrok
  refine W.widen huc hus ?_
  have hf : ∀ q ∈ locs, z_A base q.base := hS'.2.2
  have key : ∀ (w : Option Value), w = v.map (z_cc ad' ex) → ∀ t : State, t.heap = H → s.WarmedH t.vm → z_Qc D cA base ad cn ex Q (as.map (z_cc ad ex)).toArray s (.returned w) t := by
    intro w hw t ht _
    exact ⟨⟨v, I', R', J', F', cn', ad', by rw [hw], hq, by rw [ht]; exact hHR', hv, hR', hG.1, hG.2⟩, hS'.F ht⟩
  match v, hrok, key with
  | none, hrok, key =>
    exact W.vret B.exec B.bytes (by rw [B.returns, ← hrt, hrok.1]; rfl) (key _ rfl) hf hrok.2
  | some (.int x), hrok, key =>
    obtain ⟨hrok, hdg⟩ := hrok
    have hn : ∃ ty, meth.sig.returnType = some ty ∧ narrow ty (.int x) = .int x := by
      rw [B.returns, ← hrt]
      rcases hrok with h | ⟨h, hh⟩ | ⟨h, hh⟩ | ⟨h, hh⟩ <;> rw [h]
      · exact ⟨.int, rfl, rfl⟩
      · refine ⟨.boolean, rfl, ?_⟩
        rcases hh with rfl | rfl <;> rfl
      · refine ⟨.byte, rfl, ?_⟩
        show narrow .byte (.int x) = _
        rw [← hh]; exact pk_nb x
      · refine ⟨.char, rfl, ?_⟩
        show narrow .char (.int x) = _
        rw [← hh]; exact pk_nc x
    obtain ⟨ty, h1, h2⟩ := hn
    exact W.zret B.exec B.bytes h1 h2 (key _ rfl) hf hdg
  | some (.float x), hrok, key =>
    exact W.fret B.exec B.bytes (by rw [B.returns, ← hrt, hrok.1]; rfl) (key _ rfl) hf hrok.2
  | some (.long x), hrok, key =>
    exact W.lret B.exec B.bytes (by rw [B.returns, ← hrt, hrok.1]; rfl) (key _ rfl) hf hrok.2
