/-! calls, by kind -/
theorem z_fvs {ad : Nat → Nat} {ex : Nat → Value} {I : z_I} {R : z_R} {a b q n : Nat} (hb : b < n) : ((List.range n).map (z_fv ad ex I R a q))[b]? = some (z_fv ad ex I R a q b) := by simp [hb]
theorem z_nf_cl {a : Nat} {q : vw_C} (hq : z_cl[a]? = some q) : z_nf a = q.2.2 := by unfold z_nf; rw [hq]
theorem z_mw_el {k : Nat} (hk : k ∈ z_msL) : plainFor (z_MT k).1 = true ∧ Cond.initialized (z_MT k).1.cls ∈ z_tb ∧ (z_MT k).1.cls ≠ "java/lang/invoke/MethodHandle" ∧ (z_MT k).1.cls ≠ "java/lang/invoke/VarHandle" ∧ (z_MT k).2.2.1 ≤ 30 ∧
    (z_kd k 0 = true → Cond.static (z_MT k).1 ∈ z_tb) ∧ (z_kd k 1 = true → Cond.instanceMethod (z_MT k).1 ∈ z_tb ∧ Cond.selects (z_MT k).1.cls (z_MT k).1 (z_MT k).1 ∈ z_tb) ∧ (z_kd k 2 = true → Cond.instanceMethod (z_MT k).1 ∈ z_tb ∧ (z_MT k).1.name = "<init>") := by
  have h := z_mw_all k hk
  unfold z_mw at h
  unfold z_kd
  generalize z_MT k = y at h ⊢
  generalize z_MW k = w at h ⊢
  obtain ⟨y, b, ml, rt⟩ := y
  obtain ⟨p1, p2, p3, p4, kd⟩ := w
  simp only [Bool.and_eq_true, decide_eq_true_eq] at h
  obtain ⟨⟨⟨⟨⟨h1, h2⟩, h3⟩, h4⟩, h5⟩, h6⟩ := h
  refine ⟨h2, z_wd_in h1, h3, h4, h5, fun e => ?_, fun e => ?_, fun e => ?_⟩
  · have e := Nat.eq_of_beq_eq_true e
    simp only at e
    subst e
    exact z_wd_in h6
  · have e := Nat.eq_of_beq_eq_true e
    simp only at e
    subst e
    simp only [Bool.and_eq_true] at h6
    exact ⟨z_wd_in h6.1, z_wd_in h6.2⟩
  · have e := Nat.eq_of_beq_eq_true e
    simp only at e
    subst e
    simp only [Bool.and_eq_true, decide_eq_true_eq] at h6
    exact ⟨z_wd_in h6.1, h6.2⟩
theorem z_ckm_el {k : Nat} (hk : k ∈ z_msL) : (z_P0 k).2.1 = (z_MT k).2.2.1 ∧ z_rt (z_P0 k).1 = (z_MT k).2.2.2 ∧ z_cn (z_oc k) = (z_MT k).1.cls := by
  have h := List.all_eq_true.mp z_ckm_all k hk
  unfold z_ckm at h
  simp only [Bool.and_eq_true, decide_eq_true_eq] at h
  exact ⟨Nat.eq_of_beq_eq_true h.1.1.1, h.1.2, h.2⟩
theorem z_ml_in {o i a : Nat} (h : z_h3 z_ML o i a = true) : a ∈ z_msL := by
  obtain ⟨t, ht, rfl, rfl, rfl⟩ := z_h3_el h
  exact List.contains_iff_mem.mp (List.all_eq_true.mp z_ML_in t ht)
theorem z_mn_in {o i a : Nat} (h : z_hs z_MN o i a = true) : a ∈ z_msL ∧ (o, i, a) ∈ z_MN := by
  obtain ⟨t, ht, rfl, rfl, rfl⟩ := z_hs_el h
  exact ⟨List.contains_iff_mem.mp (List.all_eq_true.mp z_MN_in t ht), ht⟩
section ZS
variable {l : Launch} {D : va_G} {cA : Nat → ClassId} {base : Nat} {ex : Nat → Value} {L : Nat} {xs : Nat → Int32}
variable {p : Program} {e : Env} {Rm : Room} {s : State} {mi : MethodId} {args : Array Value} {below : List Frame} {meth : Method} {c : Code} {H : Heap} {locs : List Loc} {ls : Array Slot} {Qf : State → Prop}
variable {ad ad0 : Nat → Nat} {cn0 : Nat} {d m pc : Nat} {LL : z_L} {st : List Value} {I : z_I} {R : z_R} {J : z_J} {F : z_F} {cn uc us : Nat} {Q : z_Q}
/-- what a return owes -/
abbrev z_Ret (l : Launch) (D : va_G) (cA : Nat → ClassId) (base : Nat) (ex : Nat → Value) (p : Program) (e : Env) (Rm : Room) (s : State) (mi : MethodId) (args : Array Value) (below : List Frame) (meth : Method) (c : Code) (Qf : State → Prop) (ad0 : Nat → Nat) (cn0 : Nat) (m : Nat) (Q : z_Q) : Prop :=
  ∀ (v : Option Value) (I : z_I) (R : z_R) (J : z_J) (F : z_F) (cn uc us : Nat) (H : Heap) (locs : List Loc) (ls : Array Slot) (pc : Nat) (ad : Nat → Nat), Q v I R J F cn → z_HR D cA base ad ex I R J F cn H → va_S (z_A base) s.heap H locs → (∀ w, v = some w → z_ok cn w) → (∀ i k, i < cn → (z_sh0 i).1 = 0 → z_ok cn (R i k)) → (cn0 ≤ cn ∧ ∀ i, i < cn0 → ad i = ad0 i) → uc ≤ (z_bd0 m).1 → us ≤ (z_bd0 m).2 → z_rok m v pc →
      W p l e Rm s mi args below meth c H locs uc us Qf (F0 mi pc ls (v.toList.map (z_cc ad ex)))
theorem z_blind {as : List Value} : FrameBlind (z_Pc D cA base ad ex L xs as I R J F cn) := by
  intro a U g mk h
  obtain ⟨h0, h1, h2, h3, h4⟩ := h
  exact ⟨h0, h1, va_K.moved (u := U) (U := U.calling g mk a) (Vm.Alike.refl U.vm) h2, z_Ex.same (u := U) (U := U.calling g mk a) rfl h3, h4⟩
theorem z_pcU {as : List Value} (hbs : base ≤ s.heap.size) (hK : va_K D z_cl (z_tys cA) s) (hE : z_Ex base ex L xs s s.heap) (hHR : z_HR D cA base ad ex I R J F cn H) (hS : va_S (z_A base) s.heap H locs) : ∀ U : State, U.heap = H → s.WarmedH U.vm → z_Pc D cA base ad ex L xs as I R J F cn (as.map (z_cc ad ex)).toArray U := by
  intro U hU hW
  refine ⟨rfl, by rw [hU]; exact hHR, va_K.moved hW.alike hK, ?_, by rw [hU]; exact Nat.le_trans hbs hS.1⟩
  rw [hU]
  exact (hE.kept (fun a h1 h2 => hS.2.1 a h1 h2)).warm hW
/-- behind the call -/
theorem z_back {a : Nat} {t : List Value} {as : Array Value} (Cx : z_Cx D cA base ex L xs d m p Rm s mi args meth c) (hS : va_S (z_A base) s.heap H locs) (hl : lv_has ls (z_P0 m).2.1 (z_al ad ex 0 LL))
    (hL : ∀ i v, z_get LL i = some v → z_ok cn v) (ht : ∀ v ∈ t, z_ok cn v) (huc : uc + (z_bd0 a).1 ≤ (z_bd0 m).1) (hus : us + (z_bd0 a).2 ≤ (z_bd0 m).2) (hGG : cn0 ≤ cn ∧ ∀ i, i < cn0 → ad i = ad0 i) (hret : z_Ret l D cA base ex p e Rm s mi args below meth c Qf ad0 cn0 m Q)
    (hr : va_Run p l e Rm s mi args below meth c H locs uc us (z_bd0 a).1 (z_bd0 a).2 (F0 mi pc ls st) (t.map (z_cc ad ex)) (z_Qc D cA base ad cn ex (fun r I R J F cn => z_S l D cA base ex L xs d m (pc + 3) LL (z_push r t) I R J F cn (uc + (z_bd0 a).1) (us + (z_bd0 a).2) Q) as) (z_A base)) :
    W p l e Rm s mi args below meth c H locs uc us Qf (F0 mi pc ls st) := by
  intro T hT X
  obtain ⟨v, st₀, tt, T', LL', h0, X', hLL, e1, e2, ⟨⟨w, I', R', J', F', cn', ad', hv, hq, hHR', hok, hR', hcn, had⟩, hF⟩, hst⟩ := hr T hT X
  have hv : v = w.map (z_cc ad' ex) := by cases hv; rfl
  subst hv
  have hz : H.size ≤ T'.heap.size := by rw [e1]; have := hF.1; rwa [h0] at this
  have hS' : va_S (z_A base) s.heap T'.heap (locs ++ LL') := by
    refine ⟨Nat.le_trans hS.1 hz, fun q h1 h2 => ?_, fun q hq => ?_⟩
    · rw [e1, hF.2 q (by rw [h0]; exact Nat.lt_of_lt_of_le h1 hS.1) h2, h0]; exact hS.2.1 q h1 h2
    · rcases List.mem_append.mp hq with h | h
      · exact hS.2.2 q h
      · exact hLL q h
  have hwf : z_wf cn' LL (z_push w t) R' := by
    refine ⟨?_, fun i v h => z_ok_mono hcn (hL i v h), hR'⟩
    cases w with
    | none => exact fun v h => z_ok_mono hcn (ht v h)
    | some w => exact z_p (hok w rfl) (fun v h => z_ok_mono hcn (ht v h))
  obtain ⟨t2, a1, b1⟩ := hq p e Rm s mi args below meth c T'.heap (locs ++ LL') ls Qf ad' ad0 cn0 Cx (by rw [e1]; exact hHR') hS' (by rw [z_al_congr had LL 0 hL]; exact hl) hwf ⟨Nat.le_trans hGG.1 hcn, fun i hi => by rw [had i (Nat.lt_of_lt_of_le hi hGG.1)]; exact hGG.2 i hi⟩ huc hus hret T' rfl X'
  refine ⟨t2, hst t2 ?_, b1⟩
  cases w with
  | none =>
    have e3 : (z_push none t).map (z_cc ad' ex) = t.map (z_cc ad ex) := z_map_congr had ht
    rw [e3] at a1
    exact a1
  | some w =>
    have e3 : (z_push (some w) t).map (z_cc ad' ex) = z_cc ad' ex w :: t.map (z_cc ad ex) := by
      show z_cc ad' ex w :: t.map (z_cc ad' ex) = _
      rw [z_map_congr had ht]
    rw [e3] at a1
    exact a1
theorem z_callS {i a b dp : Nat} {as t : List Value} (Cx : z_Cx D cA base ex L xs d m p Rm s mi args meth c) (hd : d = dp + 1) (hHR : z_HR D cA base ad ex I R J F cn H) (hS : va_S (z_A base) s.heap H locs) (hl : lv_has ls (z_P0 m).2.1 (z_al ad ex 0 LL)) (hwf : z_wf cn LL (as.reverse ++ t) R)
    (huc : uc + (z_bd0 a).1 ≤ (z_bd0 m).1) (hus : us + (z_bd0 a).2 ≤ (z_bd0 m).2) (hGG : cn0 ≤ cn ∧ ∀ i, i < cn0 → ad i = ad0 i) (hret : z_Ret l D cA base ex p e Rm s mi args below meth c Qf ad0 cn0 m Q) (hdg : decode (z_MT m).2.1 pc = .ok (.invokestatic i, 3)) (hk : z_h3 z_ML (z_oc m) i a = true) (hkd : z_kd a 0 = true) (hna : z_na2 (z_MT a).1 b = true)
    (hlen : as.length = b) (hcat : z_cat t ≤ 8) (hcas : z_cat as ≤ (z_P0 a).2.1)
    (hC : z_S l D cA base ex L xs dp a 0 (z_ent (z_P0 a).2.1 as) [] I R J F cn 0 0 (fun r I R J F cn => z_S l D cA base ex L xs d m (pc + 3) LL (z_push r t) I R J F cn (uc + (z_bd0 a).1) (us + (z_bd0 a).2) Q)) :
    W p l e Rm s mi args below meth c H locs uc us Qf (F0 mi pc ls ((as.reverse ++ t).map (z_cc ad ex))) := by
  obtain ⟨hx, hb, hml, hown, hts, hnm, hK, hE, hbs, hfr, hlo, hrc, hrs, hoc⟩ := id Cx
  have ham := z_ml_in hk
  obtain ⟨g1, g2, g3, g4, g5, g6, -, -⟩ := z_mw_el ham
  obtain ⟨c1, c2, c3⟩ := z_ckm_el ham
  obtain ⟨hst, hL, hR⟩ := hwf
  have has : ∀ v ∈ as, z_ok cn v := fun v hv => hst v (List.mem_append_left _ (List.mem_reverse.mpr hv))
  have ht : ∀ v ∈ t, z_ok cn v := fun v hv => hst v (List.mem_append_right _ hv)
  have hM := z_met (l := l) (ad := ad) hE.1 g1 c1 c2 c3 hcas has hR hC
  subst hd
  have hG : GoodIn z_tb (va_wsS (z_cn (z_oc m)) i (z_MT a).1 (z_cw a :: z_tb)) := by
    intro w hw
    have hin : w ∈ z_tb := by
      unfold va_wsS at hw
      rcases List.mem_append.mp hw with hw | hw
      · simp only [List.mem_cons, List.not_mem_nil, or_false] at hw
        rcases hw with rfl | rfl | rfl
        · exact z_ml_ok hk
        · exact g6 hkd
        · exact g2
      · rcases List.mem_cons.mp hw with rfl | hw
        · exact z_cw_all a ham
        · exact hw
    exact z_tb_good w hin
  have cw := va_cwS (R := Rm) (rm := z_rm dp a) (bytes := (z_MT a).2.1) (maxL := (z_MT a).2.2.1) (ret := (z_MT a).2.2.2) (ws' := z_tb) b hts hG rfl (mc := (z_bd0 a).1) (ms := (z_bd0 a).2) rfl rfl ⟨g3, g4, of_decide_eq_true hna⟩ ⟨hfr, by show 8 + _ + 64 * (dp + 1) ≤ _; omega⟩
  refine z_back Cx hS hl hL ht huc hus hGG hret (va_runS (As := as.map (z_cc ad ex)) ⟨hx, hb, hml, hown, hts⟩ hM cw ⟨z_blind, z_pcU hbs hK hE hHR hS⟩ rfl (by simpa using hlen) (by rw [hl.1]) (by simp [List.map_append, List.map_reverse]) ?_ hdg ⟨Nat.le_trans huc hrc, Nat.le_trans hus hrs⟩)
  exact lv_room (by rw [z_cat_sum hE.1]; exact hcat)
theorem z_callV {i a b dp q dd : Nat} {as t : List Value} (Cx : z_Cx D cA base ex L xs d m p Rm s mi args meth c) (hd : d = dp + 1) (hHR : z_HR D cA base ad ex I R J F cn H) (hS : va_S (z_A base) s.heap H locs) (hl : lv_has ls (z_P0 m).2.1 (z_al ad ex 0 LL)) (hwf : z_wf cn LL ((.ref q :: as).reverse ++ t) R)
    (huc : uc + (z_bd0 a).1 ≤ (z_bd0 m).1) (hus : us + (z_bd0 a).2 ≤ (z_bd0 m).2) (hGG : cn0 ≤ cn ∧ ∀ i, i < cn0 → ad i = ad0 i) (hret : z_Ret l D cA base ex p e Rm s mi args below meth c Qf ad0 cn0 m Q) (hdg : decode (z_MT m).2.1 pc = .ok (.invokevirtual i, 3)) (hk : z_h3 z_ML (z_oc m) i a = true) (hkd : z_kd a 1 = true) (hcd : z_cd dd (z_MT a).1 = true) (hna : z_na2 (z_MT a).1 (b - 1) = true)
    (hlen : (.ref q :: as).length = b) (hcat : z_cat t ≤ 8) (hcas : z_cat (.ref q :: as) ≤ (z_P0 a).2.1) (hsh : z_sh0 q = (0, dd))
    (hC : z_S l D cA base ex L xs dp a 0 (z_ent (z_P0 a).2.1 (.ref q :: as)) [] I R J F cn 0 0 (fun r I R J F cn => z_S l D cA base ex L xs d m (pc + 3) LL (z_push r t) I R J F cn (uc + (z_bd0 a).1) (us + (z_bd0 a).2) Q)) :
    W p l e Rm s mi args below meth c H locs uc us Qf (F0 mi pc ls (((.ref q :: as).reverse ++ t).map (z_cc ad ex))) := by
  obtain ⟨hx, hb, hml, hown, hts, hnm, hK, hE, hbs, hfr, hlo, hrc, hrs, hoc⟩ := id Cx
  have ham := z_ml_in hk
  obtain ⟨g1, g2, g3, g4, g5, -, g6, -⟩ := z_mw_el ham
  obtain ⟨c1, c2, c3⟩ := z_ckm_el ham
  obtain ⟨hst, hL, hR⟩ := hwf
  have has : ∀ v ∈ (.ref q :: as), z_ok cn v := fun v hv => hst v (List.mem_append_left _ (List.mem_reverse.mpr hv))
  have ht : ∀ v ∈ t, z_ok cn v := fun v hv => hst v (List.mem_append_right _ hv)
  have hq : q < cn := z_hd has
  have hM := z_met (l := l) (ad := ad) hE.1 g1 c1 c2 c3 hcas has hR hC
  subst hd
  have hG : GoodIn z_tb (wsV (z_cn (z_oc m)) i (z_MT a).1.cls (z_MT a).1 (z_cw a :: z_tb)) := by
    intro w hw
    have hin : w ∈ z_tb := by
      unfold wsV at hw
      rcases List.mem_append.mp hw with hw | hw
      · simp only [List.mem_cons, List.not_mem_nil, or_false] at hw
        rcases hw with rfl | rfl | rfl | rfl
        · exact z_ml_ok hk
        · exact (g6 hkd).1
        · exact (g6 hkd).2
        · exact g2
      · rcases List.mem_cons.mp hw with rfl | hw
        · exact z_cw_all a ham
        · exact hw
    exact z_tb_good w hin
  have cw := cwV (R := Rm) (rm := z_rm dp a) (bytes := (z_MT a).2.1) (maxL := (z_MT a).2.2.1) (ret := (z_MT a).2.2.2) (ws' := z_tb) (C := (z_MT a).1.cls) (b - 1) hts hG rfl (mc := (z_bd0 a).1) (ms := (z_bd0 a).2) rfl rfl ⟨rfl, g3, g4, of_decide_eq_true hna⟩ ⟨hfr, by show 8 + _ + 64 * (dp + 1) ≤ _; omega⟩
  have hrecv : ∃ cellB : Cell, H[ad q]? = some cellB ∧ cellB.vm.isStatics = false ∧ s.vm.findClass (z_MT a).1.cls = some cellB.cls := by
    unfold z_cd at hcd
    split at hcd
    · rename_i qq hqq
      rw [← of_decide_eq_true hcd]
      refine va_recv hK hHR.1 (ci := dd) (q0 := q) (fs := (List.range (z_nf dd)).map (z_fv ad ex I R dd q)) hqq ?_
      rw [z_w_get hq, z_ce0 (by rw [hsh]), hsh]
    · cases hcd
  refine z_back Cx hS hl hL ht huc hus hGG hret (va_runV (As := as.map (z_cc ad ex)) (b := ad q) (n := b - 1) ⟨hx, hb, hml, hown, hts⟩ hM cw ⟨z_blind, hrecv, z_pcU hbs hK hE hHR hS⟩ rfl (by rw [← hlen]; simp) (by rw [hl.1]) (by simp [List.map_append, List.map_reverse, z_cc]) ?_ hdg ⟨Nat.le_trans huc hrc, Nat.le_trans hus hrs⟩)
  exact lv_room (by rw [z_cat_sum hE.1]; exact hcat)
theorem z_callT {i a b dp j : Nat} {as t : List Value} (Cx : z_Cx D cA base ex L xs d m p Rm s mi args meth c) (hd : d = dp + 1) (hHR : z_HR D cA base ad ex I R J F cn H) (hS : va_S (z_A base) s.heap H locs) (hl : lv_has ls (z_P0 m).2.1 (z_al ad ex 0 LL)) (hwf : z_wf cn LL ((.retAddr j :: as).reverse ++ t) R)
    (huc : uc + (z_bd0 a).1 ≤ (z_bd0 m).1) (hus : us + (z_bd0 a).2 ≤ (z_bd0 m).2) (hGG : cn0 ≤ cn ∧ ∀ i, i < cn0 → ad i = ad0 i) (hret : z_Ret l D cA base ex p e Rm s mi args below meth c Qf ad0 cn0 m Q) (hdg : decode (z_MT m).2.1 pc = .ok (.invokevirtual i, 3)) (hk : z_h3 z_ML (z_oc m) i a = true) (hkd : z_kd a 1 = true) (hcd : (z_MT a).1.cls = "java/lang/String") (hna : z_na2 (z_MT a).1 (b - 1) = true)
    (hlen : (.retAddr j :: as).length = b) (hcat : z_cat t ≤ 8) (hcas : z_cat (.retAddr j :: as) ≤ (z_P0 a).2.1) (hsh : z_isS j = true)
    (hC : z_S l D cA base ex L xs dp a 0 (z_ent (z_P0 a).2.1 (.retAddr j :: as)) [] I R J F cn 0 0 (fun r I R J F cn => z_S l D cA base ex L xs d m (pc + 3) LL (z_push r t) I R J F cn (uc + (z_bd0 a).1) (us + (z_bd0 a).2) Q)) :
    W p l e Rm s mi args below meth c H locs uc us Qf (F0 mi pc ls (((.retAddr j :: as).reverse ++ t).map (z_cc ad ex))) := by
  obtain ⟨hx, hb, hml, hown, hts, hnm, hK, hE, hbs, hfr, hlo, hrc, hrs, hoc⟩ := id Cx
  have ham := z_ml_in hk
  obtain ⟨g1, g2, g3, g4, g5, -, g6, -⟩ := z_mw_el ham
  obtain ⟨c1, c2, c3⟩ := z_ckm_el ham
  obtain ⟨hst, hL, hR⟩ := hwf
  have has : ∀ v ∈ (.retAddr j :: as), z_ok cn v := fun v hv => hst v (List.mem_append_left _ (List.mem_reverse.mpr hv))
  have ht : ∀ v ∈ t, z_ok cn v := fun v hv => hst v (List.mem_append_right _ hv)
  have hM := z_met (l := l) (ad := ad) hE.1 g1 c1 c2 c3 hcas has hR hC
  subst hd
  have hG : GoodIn z_tb (wsV (z_cn (z_oc m)) i (z_MT a).1.cls (z_MT a).1 (z_cw a :: z_tb)) := by
    intro w hw
    have hin : w ∈ z_tb := by
      unfold wsV at hw
      rcases List.mem_append.mp hw with hw | hw
      · simp only [List.mem_cons, List.not_mem_nil, or_false] at hw
        rcases hw with rfl | rfl | rfl | rfl
        · exact z_ml_ok hk
        · exact (g6 hkd).1
        · exact (g6 hkd).2
        · exact g2
      · rcases List.mem_cons.mp hw with rfl | hw
        · exact z_cw_all a ham
        · exact hw
    exact z_tb_good w hin
  have cw := cwV (R := Rm) (rm := z_rm dp a) (bytes := (z_MT a).2.1) (maxL := (z_MT a).2.2.1) (ret := (z_MT a).2.2.2) (ws' := z_tb) (C := (z_MT a).1.cls) (b - 1) hts hG rfl (mc := (z_bd0 a).1) (ms := (z_bd0 a).2) rfl rfl ⟨rfl, g3, g4, of_decide_eq_true hna⟩ ⟨hfr, by show 8 + _ + 64 * (dp + 1) ≤ _; omega⟩
  obtain ⟨ra, rb, hja, -, hO, -⟩ := hE.2.2.2.1 j hsh
  obtain ⟨cell, o1, o2, o3, o4⟩ := hO
  have hrecv : ∃ cellB : Cell, H[ra]? = some cellB ∧ cellB.vm.isStatics = false ∧ s.vm.findClass (z_MT a).1.cls = some cellB.cls := by
    rw [hcd]
    exact ⟨cell, by rw [hS.2.1 ra (Array.getElem?_eq_some_iff.mp o1).1 o4]; exact o1, o2, o3⟩
  have hpc : ∀ U : State, U.heap = H → s.WarmedH U.vm → z_Pc D cA base ad ex L xs (.retAddr j :: as) I R J F cn (Value.ref ra :: as.map (z_cc ad ex)).toArray U := by
    intro U hU hW
    have := z_pcU (as := .retAddr j :: as) hbs hK hE hHR hS U hU hW
    simpa [z_cc, hja] using this
  refine z_back Cx hS hl hL ht huc hus hGG hret (va_runV (As := as.map (z_cc ad ex)) (b := ra) (n := b - 1) ⟨hx, hb, hml, hown, hts⟩ hM cw ⟨z_blind, hrecv, hpc⟩ rfl (by rw [← hlen]; simp) (by rw [hl.1]) (by simp [List.map_append, List.map_reverse, z_cc, hja]) ?_ hdg ⟨Nat.le_trans huc hrc, Nat.le_trans hus hrs⟩)
  exact lv_room (by rw [z_cat_sum hE.1]; exact hcat)
theorem z_callI {i a b dp q : Nat} {as t : List Value} (Cx : z_Cx D cA base ex L xs d m p Rm s mi args meth c) (hd : d = dp + 1) (hHR : z_HR D cA base ad ex I R J F cn H) (hS : va_S (z_A base) s.heap H locs) (hl : lv_has ls (z_P0 m).2.1 (z_al ad ex 0 LL)) (hwf : z_wf cn LL ((.ref q :: as).reverse ++ t) R)
    (huc : uc + (z_bd0 a).1 ≤ (z_bd0 m).1) (hus : us + (z_bd0 a).2 ≤ (z_bd0 m).2) (hGG : cn0 ≤ cn ∧ ∀ i, i < cn0 → ad i = ad0 i) (hret : z_Ret l D cA base ex p e Rm s mi args below meth c Qf ad0 cn0 m Q) (hdg : decode (z_MT m).2.1 pc = .ok (.invokespecial i, 3)) (hk : z_h3 z_ML (z_oc m) i a = true ∨ z_hs z_MN (z_oc m) i a = true) (hkd : z_kd a 2 = true) (hrn : (z_MT a).2.2.2 = none) (hna : z_na2 (z_MT a).1 (b - 1) = true)
    (hlen : (.ref q :: as).length = b) (hcat : z_cat t ≤ 8) (hcas : z_cat (.ref q :: as) ≤ (z_P0 a).2.1)
    (hC : z_S l D cA base ex L xs dp a 0 (z_ent (z_P0 a).2.1 (.ref q :: as)) [] I R J F cn 0 0 (fun r I R J F cn => z_S l D cA base ex L xs d m (pc + 3) LL (z_push r t) I R J F cn (uc + (z_bd0 a).1) (us + (z_bd0 a).2) Q)) :
    W p l e Rm s mi args below meth c H locs uc us Qf (F0 mi pc ls (((.ref q :: as).reverse ++ t).map (z_cc ad ex))) := by
  obtain ⟨hx, hb, hml, hown, hts, hnm, hK, hE, hbs, hfr, hlo, hrc, hrs, hoc⟩ := id Cx
  have ham : a ∈ z_msL := hk.elim z_ml_in (fun h => (z_mn_in h).1)
  obtain ⟨g1, g2, g3, g4, g5, -, -, g6⟩ := z_mw_el ham
  obtain ⟨c1, c2, c3⟩ := z_ckm_el ham
  obtain ⟨hst, hL, hR⟩ := hwf
  have has : ∀ v ∈ (.ref q :: as), z_ok cn v := fun v hv => hst v (List.mem_append_left _ (List.mem_reverse.mpr hv))
  have ht : ∀ v ∈ t, z_ok cn v := fun v hv => hst v (List.mem_append_right _ hv)
  have hM := z_met (l := l) (ad := ad) hE.1 g1 c1 c2 c3 hcas has hR hC
  subst hd
  have hG : GoodIn z_tb (z_cw a :: z_tb) := by
    intro w hw
    rcases List.mem_cons.mp hw with rfl | hw
    · exact z_tb_good _ (z_cw_all a ham)
    · exact z_tb_good _ hw
  have hw : (z_cw a :: z_tb) = Cond.code (z_MT a).1 (z_MT a).2.1 (z_MT a).2.2.1 none :: z_tb := by unfold z_cw; rw [hrn]
  have hgo : ∀ (hr : va_Run p l e Rm s mi args below meth c H locs uc us (z_bd0 a).1 (z_bd0 a).2 (F0 mi pc ls (((.ref q :: as).reverse ++ t).map (z_cc ad ex))) (t.map (z_cc ad ex)) (z_Qc D cA base ad cn ex (fun r I R J F cn => z_S l D cA base ex L xs (dp + 1) m (pc + 3) LL (z_push r t) I R J F cn (uc + (z_bd0 a).1) (us + (z_bd0 a).2) Q) (Value.ref (ad q) :: as.map (z_cc ad ex)).toArray) (z_A base)), W p l e Rm s mi args below meth c H locs uc us Qf (F0 mi pc ls (((.ref q :: as).reverse ++ t).map (z_cc ad ex))) :=
    fun hr => z_back Cx hS hl hL ht huc hus hGG hret hr
  rcases hk with hk | hk
  · have cw := cwI (R := Rm) (rm := z_rm dp a) (own := z_cn (z_oc m)) (index := i) (b - 1) hts hG hw (mc := (z_bd0 a).1) (ms := (z_bd0 a).2) rfl rfl (hts _ g2) (hts _ (z_ml_ok hk)) (hts _ (g6 hkd).1) (g6 hkd).2 ⟨g3, g4, of_decide_eq_true hna⟩ ⟨hfr, by show 8 + _ + 64 * (dp + 1) ≤ _; omega⟩
    refine hgo (va_runI (As := as.map (z_cc ad ex)) (b := ad q) (n := b - 1) ⟨hx, hb, hml, hown, hts⟩ hM cw ⟨z_blind, z_pcU hbs hK hE hHR hS⟩ rfl (by rw [← hlen]; simp) (by rw [hl.1]) (by simp [List.map_append, List.map_reverse, z_cc]) ?_ hdg ⟨Nat.le_trans huc hrc, Nat.le_trans hus hrs⟩)
    exact lv_room (by rw [z_cat_sum hE.1]; exact hcat)
  · have hnest := hE.2.2.2.2.2.2.2.2 _ (z_mn_in hk).2
    have cn := va_cnB (args := args) (R := Rm) (rm := z_rm dp a) (own := z_cn (z_oc m)) (index := i) (b - 1) hts hG hw (mc := (z_bd0 a).1) (ms := (z_bd0 a).2) rfl rfl hnest (hts _ g2) ⟨g3, g4, of_decide_eq_true hna⟩ ⟨hfr, by show 8 + _ + 64 * (dp + 1) ≤ _; omega⟩
    refine hgo (va_runIN (As := as.map (z_cc ad ex)) (b := ad q) (n := b - 1) ⟨hx, hb, hml, hown, hts⟩ hM ⟨cn, (g6 hkd).2, hts _ (g6 hkd).1⟩ ⟨z_blind, z_pcU hbs hK hE hHR hS⟩ rfl (by rw [← hlen]; simp) (by rw [hl.1]) (by simp [List.map_append, List.map_reverse, z_cc]) ?_ hdg ⟨Nat.le_trans huc hrc, Nat.le_trans hus hrs⟩)
    exact lv_room (by rw [z_cat_sum hE.1]; exact hcat)
/-- a field is written -/
theorem z_putW {x a b i : Nat} {w : Value} {t : List Value} {I' : z_I} {R' : z_R} {C : String} {T : u_T} {N : Nat} (Cx : z_Cx D cA base ex L xs d m p Rm s mi args meth c) (hHR : z_HR D cA base ad ex I R J F cn H) (hS : va_S (z_A base) s.heap H locs) (hxc : x < cn) (hsh : z_sh0 x = (0, a)) (hqq : z_cl[a]? = some (C, T, N)) (hbN : b < N)
    (hlk : Cond.fieldLink (z_cn (z_oc m)) i (T b).1 (T b).2.1 (T b).2.2.1 ∈ z_tb) (hfin : (T b).2.2.2 = false ∨ ((T b).2.2.2 = true ∧ (z_MT m).1.name = "<init>" ∧ C = (z_MT m).1.cls)) (hn : narrow (z_ty (T b).2.2.1) w = w) (hfit : fits (z_ty (T b).2.2.1) w = true)
    (hw : z_fv ad ex I' R' a x b = w) (ho1 : ∀ k, k ≠ b → z_fv ad ex I' R' a x k = z_fv ad ex I R a x k) (ho2 : ∀ j, j ≠ x → I' j = I j ∧ R' j = R j) (hdg : decode (z_MT m).2.1 pc = .ok (.putfield i, 3))
    (kk : ∀ (H1 : Heap) (locs1 : List Loc), z_HR D cA base ad ex I' R' J F cn H1 → va_S (z_A base) s.heap H1 locs1 → W p l e Rm s mi args below meth c H1 locs1 uc us Qf (F0 mi (pc + 3) ls t)) :
    W p l e Rm s mi args below meth c H locs uc us Qf (F0 mi pc ls (w :: .ref (ad x) :: t)) := by
  obtain ⟨hx, hb, hml, hown, hts, hnm, hK, hE, hbs, hfr, hlo, hrc, hrs, hoc⟩ := id Cx
  have he : (z_w ad ex cA I R J F cn)[x]? = some (ad x, .inr (a, (List.range N).map (z_fv ad ex I R a x))) := by
    rw [z_w_get hxc, z_ce0 (by rw [hsh]), hsh, z_nf_cl hqq]
  have hset : (z_w ad ex cA I R J F cn).set x (ad x, .inr (a, ((List.range N).map (z_fv ad ex I R a x)).set b w)) = z_w ad ex cA I' R' J F cn := by
    refine z_w_set hxc ?_ (fun i hi => z_ce_congr (ho2 i hi).1 (ho2 i hi).2 rfl rfl)
    rw [z_ce0 (by rw [hsh]), hsh, z_nf_cl hqq, z_map_set hw ho1]
  rcases hfin with hf | ⟨hf, hin, hC⟩
  · refine va_put hx hb hts (z_hin a _ hqq) (fun k => z_ty (T k).2.2.1) (z_tk a _ hqq) (z_nm a _ hqq) hown hK hHR.1 hHR.2 hS x he hqq b hbN (hts _ hlk) (fun _ h => h) hf (z_tk a _ hqq b hbN) hn hfit (by simp [hbN]) hdg fun H1 locs1 p1 p2 p3 => ?_
    rw [hset] at p1 p2
    exact kk H1 locs1 ⟨p1, p2⟩ p3
  · refine va_putF hx hb hts (z_hin a _ hqq) (fun k => z_ty (T k).2.2.1) (z_tk a _ hqq) (z_nm a _ hqq) hown hK hHR.1 hHR.2 hS x he hqq b hbN (hts _ hlk) (fun _ h => h) hf (hnm hin) (by rw [hoc, ← hC]; exact z_ow a _ hqq b hbN) (z_tk a _ hqq b hbN) hn hfit (by simp [hbN]) hdg fun H1 locs1 p1 p2 p3 => ?_
    rw [hset] at p1 p2
    exact kk H1 locs1 ⟨p1, p2⟩ p3
end ZS
