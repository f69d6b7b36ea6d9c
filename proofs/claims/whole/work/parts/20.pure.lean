/-! numbers: every literal is nI of a natural number -/
theorem z_lit (n : Nat) : (@OfNat.ofNat Int32 n _) = nI n := rfl
theorem z_in {n N : Nat} (h : n < N) (hN : N < 2 ^ 31) : vp_in (nI n) N := vp_in_nI h hN
/-- the model's rows that a try writes: its fields, w, says -/
def z_m3 (I : z_I) (f w y : Nat → Int32) : z_I := fun b => if b = 40 then f else if b = 41 then w else if b = 44 then y else I b
theorem z_m3_40 (I : z_I) (f w y : Nat → Int32) : z_m3 I f w y 40 = f := rfl
theorem z_m3_41 (I : z_I) (f w y : Nat → Int32) : z_m3 I f w y 41 = w := rfl
theorem z_m3_44 (I : z_I) (f w y : Nat → Int32) : z_m3 I f w y 44 = y := rfl
theorem z_m3_u40 (I : z_I) (f w y : Nat → Int32) (k : Nat) (v : Int32) : z_up (z_m3 I f w y) 40 k v = z_m3 I (upd f k v) w y := by
  funext b j; unfold z_up z_m3 upd; by_cases h : b = 40 <;> simp [h]
theorem z_m3_u41 (I : z_I) (f w y : Nat → Int32) (k : Nat) (v : Int32) : z_up (z_m3 I f w y) 41 k v = z_m3 I f (upd w k v) y := by
  funext b j; unfold z_up z_m3 upd; by_cases h : b = 41 <;> simp [h]
theorem z_m3_u44 (I : z_I) (f w y : Nat → Int32) (k : Nat) (v : Int32) : z_up (z_m3 I f w y) 44 k v = z_m3 I f w (upd y k v) := by
  funext b j; unfold z_up z_m3 upd; by_cases h : b = 44 <;> simp [h]
theorem z_m3_m3 (I : z_I) (f w y f' w' y' : Nat → Int32) : z_m3 (z_m3 I f w y) f' w' y' = z_m3 I f' w' y' := by
  funext b; unfold z_m3; by_cases h : b = 40 <;> by_cases h1 : b = 41 <;> by_cases h2 : b = 44 <;> simp [h, h1, h2]
theorem z_Qi {Q : z_Q} {v v' : Int32} {I I' : z_I} {R : z_R} {J : z_J} {F : z_F} {cn : Nat} (q : Q (some (.int v')) I' R J F cn) (h : v = v') (hI : I = I') : Q (some (.int v)) I R J F cn := by subst h; subst hI; exact q
theorem z_Qv {Q : z_Q} {I I' : z_I} {R : z_R} {J : z_J} {F : z_F} {cn : Nat} (q : Q none I' R J F cn) (hI : I = I') : Q none I R J F cn := by subst hI; exact q
/-! a stretch that also stops at given places (heads of loops) -/
def z_has (pc : Nat) : List Nat → Bool
  | [] => false
  | a :: l => match Nat.beq pc a with
    | true => true
    | false => z_has pc l
def z_runs (X : z_X) (P : z_P) (m dp : Nat) (S : List Nat) : Nat → List z_E → z_L → List Value → z_I → z_R → z_J → z_F → Nat → Nat → Nat → z_K → z_C → z_Q → Prop
  | 0, cs, L, st, I, R, J, F, cn, uc, us, K, _, _ => (match cs with
    | [] => False
    | e :: _ => K e.1 L st I R J F cn uc us)
  | n + 1, cs, L, st, I, R, J, F, cn, uc, us, K, C, Q => (match cs with
    | [] => False
    | e :: cs => z_step X (P m).1 (X.2.2.2.1 m).1 (X.2.2.2.1 m).2 dp e L st I R J F cn uc us (fun pc L st I R J F cn uc us => match z_has pc S with
      | true => K pc L st I R J F cn uc us
      | false => z_runs X P m dp S n (z_nx pc cs (P m).2.2) L st I R J F cn uc us K C Q) C Q)
theorem z_runs_s (X : z_X) (P : z_P) (m d n : Nat) (S : List Nat) (e : z_E) (cs : List z_E) (L : z_L) (st : List Value) (I : z_I) (R : z_R) (J : z_J) (F : z_F) (cn uc us : Nat) (K : z_K) (C : z_C) (Q : z_Q) : z_runs X P m d S (n + 1) (e :: cs) L st I R J F cn uc us K C Q = z_step X (P m).1 (X.2.2.2.1 m).1 (X.2.2.2.1 m).2 d e L st I R J F cn uc us (fun pc L st I R J F cn uc us => match z_has pc S with
      | true => K pc L st I R J F cn uc us
      | false => z_runs X P m d S n (z_nx pc cs (P m).2.2) L st I R J F cn uc us K C Q) C Q := rfl
theorem z_WP_gos0 {X : z_X} {P : z_P} {d m : Nat} {Q : z_Q} (S : List Nat) : ∀ (n : Nat) (cs : List z_E) (L : z_L) (st : List Value) (I : z_I) (R : z_R) (J : z_J) (F : z_F) (cn uc us pc : Nat), (∀ e ∈ cs, e ∈ (P m).2.2) → (∀ e r, cs = e :: r → e.1 = pc) →
    z_runs X P m d S n cs L st I R J F cn uc us (fun pc L st I R J F cn uc us => z_WP X P d m pc L st I R J F cn uc us Q) (z_M X P) Q → z_WP X P d m pc L st I R J F cn uc us Q := by
  intro n
  induction n with
  | zero =>
    intro cs L st I R J F cn uc us pc hs hp q
    cases cs with
    | nil => exact q.elim
    | cons e r => rw [← hp e r rfl]; exact q
  | succ n ih =>
    intro cs L st I R J F cn uc us pc hs hp q
    cases cs with
    | nil => exact q.elim
    | cons e r =>
      rw [← hp e r rfl]
      rw [z_runs_s] at q
      refine z_WP_cl d m e L st I R J F cn uc us Q (hs e List.mem_cons_self) (z_step_m ?_ ?_ q)
      · intro pc L st I R J F cn uc us q
        split at q
        · exact q
        · exact ih _ L st I R J F cn uc us pc (z_nx_sub fun e h => hs e (List.mem_cons_of_mem _ h)) (fun e r h => z_nx_hd h) q
      · exact fun _ _ _ _ _ _ _ _ Q1 Q2 h w => z_WP_mo _ _ _ _ _ _ _ _ _ _ _ _ Q1 Q2 h w
theorem z_WP_gos {X : z_X} {P : z_P} {d m pc : Nat} {L : z_L} {st : List Value} {I : z_I} {R : z_R} {J : z_J} {F : z_F} {cn uc us : Nat} {Q : z_Q} (S : List Nat) (n : Nat)
    (h : ∀ (K : z_K) (C : z_C), z_KM (fun pc L st I R J F cn uc us => z_WP X P d m pc L st I R J F cn uc us Q) K → z_CM (z_M X P) C → z_runs X P m d S n (z_from pc (P m).2.2) L st I R J F cn uc us K C Q) : z_WP X P d m pc L st I R J F cn uc us Q :=
  z_WP_gos0 S n (z_from pc (P m).2.2) L st I R J F cn uc us pc (fun _ h => z_from_sub h) (fun _ _ h => z_from_hd h) (h _ _ (fun _ _ _ _ _ _ _ _ _ _ q => q) (fun d k as I R J F cn Q Q' hq w => z_WP_mo _ _ _ _ _ _ _ _ _ _ _ _ Q Q' hq w))
theorem z_bt1 {c A B : Prop} (h : c) (a : A) : (c → A) ∧ (¬ c → B) := ⟨fun _ => a, fun z => absurd h z⟩
theorem z_bf1 {c A B : Prop} (h : ¬ c) (b : B) : (c → A) ∧ (¬ c → B) := ⟨fun z => absurd z h, fun _ => b⟩
theorem z_bt2 {c A B : Prop} (h : c) (b : B) : (¬ c → A) ∧ (c → B) := ⟨fun z => absurd h z, fun _ => b⟩
theorem z_bf2 {c A B : Prop} (h : ¬ c) (a : A) : (¬ c → A) ∧ (c → B) := ⟨fun _ => a, fun z => absurd z h⟩
theorem z_pr1 (n : Nat) : nI (n + 1) - nI 1 = nI n := nI_pred n
theorem z_pr2 (a n : Nat) : nI (a + (n + 1)) - nI 1 = nI (a + n) := nI_pred (a + n)
theorem z_cpy_s {α : Type} {f g : Nat → α} {sp dp k : Nat} : (fun j => if j = dp + k then f (sp + k) else va_cpy f g sp dp k j) = va_cpy f g sp dp (k + 1) := by
  funext j
  unfold va_cpy
  by_cases h : j = dp + k
  · subst h
    rw [if_pos rfl, if_pos ⟨by omega, by omega⟩]
    congr 1; omega
  · rw [if_neg h]
    by_cases h2 : dp ≤ j ∧ j < dp + k
    · rw [if_pos h2, if_pos ⟨h2.1, by omega⟩]
    · rw [if_neg h2, if_neg (fun z => h2 ⟨z.1, by omega⟩)]
theorem z_cpy_u {f g : Nat → Int32} {sp dp k : Nat} : upd (va_cpy f g sp dp k) (dp + k) (f (sp + k)) = va_cpy f g sp dp (k + 1) := z_cpy_s
theorem z_cpy_0 {α : Type} {f g : Nat → α} {sp dp : Nat} : va_cpy f g sp dp 0 = g := by
  funext j; exact if_neg (by omega)
