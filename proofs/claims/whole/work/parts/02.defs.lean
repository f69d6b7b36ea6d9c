/-! z_: a plain reading of bytecode: cells by number, ints, refs, longs, floats in tables of their own -/
abbrev z_I : Type := Nat → Nat → Int32
abbrev z_R : Type := Nat → Nat → Value
abbrev z_J : Type := Nat → Nat → Int64
abbrev z_F : Type := Nat → Nat → UInt32
abbrev z_L : Type := List (Option Value)
/-- pc, instruction, length; four numbers (target, class and field, callee ..), a constant, a switch's rows -/
abbrev z_E : Type := Nat × Instr × Nat × (Nat × Nat × Nat × Nat) × Int32 × List (Int32 × Nat)
def z_row {α : Type} (M : Nat → α) (a : Nat) (f : α) : Nat → α := fun b => if b = a then f else M b
def z_up {α : Type} (M : Nat → Nat → α) (a i : Nat) (v : α) : Nat → Nat → α := fun b => if b = a then (fun j => if j = i then v else M a j) else M b
abbrev z_K : Type := Nat → z_L → List Value → z_I → z_R → z_J → z_F → Nat → Nat → Nat → Prop
abbrev z_Q : Type := Option Value → z_I → z_R → z_J → z_F → Nat → Prop
abbrev z_C : Type := Nat → Nat → List Value → z_I → z_R → z_J → z_F → Nat → z_Q → Prop
/-- locals -/
def z_get : z_L → Nat → Option Value
  | [], _ => none
  | a :: _, 0 => a
  | _ :: l, i + 1 => z_get l i
def z_kill (a : Option Value) (i : Nat) : Option Value := match i with
  | 0 => match a with
    | some (.long _) => none
    | some (.double _) => none
    | b => b
  | _ => a
def z_set1 : z_L → Nat → Value → z_L
  | [], _, _ => []
  | _ :: l, 0, v => some v :: l
  | a :: l, i + 1, v => z_kill a i :: z_set1 l i v
def z_set2 : z_L → Nat → Value → z_L
  | [], _, _ => []
  | _ :: l, 0, v => some v :: (match l with
    | [] => []
    | _ :: l => none :: l)
  | a :: l, i + 1, v => z_kill a i :: z_set2 l i v
/-- the list's spine is laid open, so that later reads are short -/
def z_fc : z_L → (z_L → Prop) → Prop
  | [], k => k []
  | a :: l, k => z_fc l (fun l => k (a :: l))
def z_pop : Nat → List Value → List Value → (List Value → List Value → Prop) → Prop
  | 0, st, as, k => k as st
  | n + 1, v :: st, as, k => z_pop n st (v :: as) k
  | _ + 1, [], _, _ => False
def z_cat : List Value → Nat
  | [] => 0
  | v :: l => v.category + z_cat l
def z_int (L : z_L) (i : Nat) (k : Int32 → Prop) : Prop := match z_get L i with
  | some (.int x) => k x
  | _ => False
def z_ref (L : z_L) (i : Nat) (k : Nat → Prop) (ko : Nat → Prop) (kn : Prop) : Prop := match z_get L i with
  | some (.ref x) => k x
  | some (.retAddr x) => ko x
  | some .null => kn
  | _ => False
def z_flt (L : z_L) (i : Nat) (k : UInt32 → Prop) : Prop := match z_get L i with
  | some (.float x) => k x
  | _ => False
def z_lng (L : z_L) (i : Nat) (k : Int64 → Prop) : Prop := match z_get L i with
  | some (.long x) => k x
  | _ => False
def z_vi (st : List Value) (k : Int32 → List Value → Prop) : Prop := match st with
  | .int x :: t => k x t
  | _ => False
def z_vf (st : List Value) (k : UInt32 → List Value → Prop) : Prop := match st with
  | .float x :: t => k x t
  | _ => False
def z_vj (st : List Value) (k : Int64 → List Value → Prop) : Prop := match st with
  | .long x :: t => k x t
  | _ => False
def z_vr (st : List Value) (k : Nat → List Value → Prop) : Prop := match st with
  | .ref x :: t => k x t
  | _ => False
/-- a reference of any kind: an own cell, an outer one, null -/
def z_vo (st : List Value) (k : Nat → List Value → Prop) (ko : Nat → List Value → Prop) (kn : List Value → Prop) : Prop := match st with
  | .ref x :: t => k x t
  | .retAddr x :: t => ko x t
  | .null :: t => kn t
  | _ => False
/-- an int or a reference -/
def z_vir (st : List Value) (k : Int32 → List Value → Prop) (kr : Nat → List Value → Prop) : Prop := match st with
  | .int x :: t => k x t
  | .ref x :: t => kr x t
  | _ => False
def z_b (b : Bool) (k : Prop) : Prop := match b with
  | true => k
  | false => False
def z_ii (st : List Value) (f : Int32 → Int32 → Int32) (k : List Value → Prop) : Prop := z_vi st fun y t => z_vi t fun x t => k (.int (f x y) :: t)
def z_i1 (st : List Value) (f : Int32 → Int32) (k : List Value → Prop) : Prop := z_vi st fun x t => k (.int (f x) :: t)
def z_jj (st : List Value) (f : Int64 → Int64 → Int64) (k : List Value → Prop) : Prop := z_vj st fun y t => z_vj t fun x t => k (.long (f x y) :: t)
def z_ff (st : List Value) (f : UInt32 → UInt32 → UInt32) (k : List Value → Prop) : Prop := z_vf st fun y t => z_vf t fun x t => vf_n32 (f x y) ∧ k (.float (f x y) :: t)
def z_if1 (c : ClassFile.Cond) (x : Int32) (A B : Prop) : Prop := match c with
  | .eq => (x = 0 → A) ∧ (¬ x = 0 → B)
  | .ne => (¬ x = 0 → A) ∧ (x = 0 → B)
  | .lt => (x < 0 → A) ∧ (¬ x < 0 → B)
  | .ge => (0 ≤ x → A) ∧ (¬ 0 ≤ x → B)
  | .gt => (0 < x → A) ∧ (¬ 0 < x → B)
  | .le => (x ≤ 0 → A) ∧ (¬ x ≤ 0 → B)
def z_if2 (c : ClassFile.Cond) (x y : Int32) (A B : Prop) : Prop := match c with
  | .eq => (x = y → A) ∧ (¬ x = y → B)
  | .ne => (¬ x = y → A) ∧ (x = y → B)
  | .lt => (x < y → A) ∧ (¬ x < y → B)
  | .ge => (y ≤ x → A) ∧ (¬ y ≤ x → B)
  | .gt => (y < x → A) ∧ (¬ y < x → B)
  | .le => (x ≤ y → A) ∧ (¬ x ≤ y → B)
def z_sw (x : Int32) (k : Nat → Prop) (dflt : Nat) : List (Int32 × Nat) → Prop
  | [] => k dflt
  | (v, t) :: r => (x = v → k t) ∧ (¬ x = v → z_sw x k dflt r)
/-- what the run stands on and never changes: the cells' shapes by number (0 object of a class, 1 int[], 2 byte[], 3 long[], 4 float[]; class or length); the outer rows (kind, length, contents); the outer objects' fields; what a method may make (cells, slots), its locals -/
abbrev z_X : Type := (Nat → Nat × Nat) × (Nat → Nat × Nat × (Nat → Int32)) × (Nat → Nat → Value) × (Nat → Nat × Nat) × (Nat → Nat)
def z_ild (X : z_X) (kd : Nat) (st : List Value) (I : z_I) (k : List Value → Prop) : Prop := z_vi st fun i t =>
  z_vo t (fun q t => z_b (Nat.beq (X.1 q).1 kd) (vp_in i (X.1 q).2 ∧ k (.int (I q i.toNatClampNeg) :: t)))
    (fun j t => z_b (Nat.beq (X.2.1 j).1 kd) (vp_in i (X.2.1 j).2.1 ∧ k (.int ((X.2.1 j).2.2 i.toNatClampNeg) :: t))) (fun _ => False)
def z_jld (X : z_X) (st : List Value) (J : z_J) (k : List Value → Prop) : Prop := z_vi st fun i t =>
  z_vr t fun q t => z_b (Nat.beq (X.1 q).1 3) (vp_in i (X.1 q).2 ∧ k (.long (J q i.toNatClampNeg) :: t))
def z_fld (X : z_X) (st : List Value) (F : z_F) (k : List Value → Prop) : Prop := z_vi st fun i t =>
  z_vr t fun q t => z_b (Nat.beq (X.1 q).1 4) (vp_in i (X.1 q).2 ∧ k (.float (F q i.toNatClampNeg) :: t))
def z_ist (X : z_X) (st : List Value) (I : z_I) (k : List Value → z_I → Prop) : Prop := z_vi st fun x t => z_vi t fun i t =>
  z_vr t fun q t => z_b (Nat.beq (X.1 q).1 1) (vp_in i (X.1 q).2 ∧ k t (z_up I q i.toNatClampNeg x))
def z_bst (X : z_X) (st : List Value) (I : z_I) (k : List Value → z_I → Prop) : Prop := z_vi st fun x t => z_vi t fun i t =>
  z_vr t fun q t => z_b (Nat.beq (X.1 q).1 2) (vp_in i (X.1 q).2 ∧ k t (z_up I q i.toNatClampNeg x.toInt8.toInt32))
def z_jst (X : z_X) (st : List Value) (J : z_J) (k : List Value → z_J → Prop) : Prop := z_vj st fun x t => z_vi t fun i t =>
  z_vr t fun q t => z_b (Nat.beq (X.1 q).1 3) (vp_in i (X.1 q).2 ∧ k t (z_up J q i.toNatClampNeg x))
def z_fst (X : z_X) (st : List Value) (F : z_F) (k : List Value → z_F → Prop) : Prop := z_vf st fun x t => z_vi t fun i t =>
  z_vr t fun q t => z_b (Nat.beq (X.1 q).1 4) (vp_in i (X.1 q).2 ∧ k t (z_up F q i.toNatClampNeg x))
def z_len (X : z_X) (st : List Value) (k : List Value → Prop) : Prop := z_vo st
  (fun q t => z_b (Nat.ble 1 (X.1 q).1) (k (.int (nI (X.1 q).2) :: t)))
  (fun j t => z_b (Nat.ble 1 (X.2.1 j).1) (k (.int (nI (X.2.1 j).2.1) :: t))) (fun _ => False)
/-- getfield: c = 0 int, 1 ref; 2, 3 of an outer object's -/
def z_gf (X : z_X) (a b c : Nat) (st : List Value) (I : z_I) (R : z_R) (k : List Value → Prop) : Prop := match c with
  | 0 => z_vr st fun q t => z_b (Nat.beq (X.1 q).1 0 && Nat.beq (X.1 q).2 a) (k (.int (I q b) :: t))
  | 1 => z_vr st fun q t => z_b (Nat.beq (X.1 q).1 0 && Nat.beq (X.1 q).2 a) (z_vo [R q b] (fun x _ => k (.ref x :: t)) (fun x _ => k (.retAddr x :: t)) (fun _ => k (.null :: t)))
  | 2 => z_vo st (fun _ _ => False) (fun j t => z_vi [X.2.2.1 j b] fun x _ => k (.int x :: t)) (fun _ => False)
  | 3 => z_vo st (fun _ _ => False) (fun j t => z_vo [X.2.2.1 j b] (fun _ _ => False) (fun x _ => k (.retAddr x :: t)) (fun _ => False)) (fun _ => False)
  | _ => False
/-- putfield: c = 0 int, 1 ref, 2 boolean -/
def z_pf (X : z_X) (a b c : Nat) (st : List Value) (I : z_I) (R : z_R) (k : List Value → z_I → z_R → Prop) : Prop := match c with
  | 0 => z_vi st fun x t => z_vr t fun q t => z_b (Nat.beq (X.1 q).1 0 && Nat.beq (X.1 q).2 a) (k t (z_up I q b x) R)
  | 1 => z_vo st (fun x t => z_vr t fun q t => z_b (Nat.beq (X.1 q).1 0 && Nat.beq (X.1 q).2 a) (k t I (z_up R q b (.ref x))))
    (fun x t => z_vr t fun q t => z_b (Nat.beq (X.1 q).1 0 && Nat.beq (X.1 q).2 a) (k t I (z_up R q b (.retAddr x))))
    (fun t => z_vr t fun q t => z_b (Nat.beq (X.1 q).1 0 && Nat.beq (X.1 q).2 a) (k t I (z_up R q b .null)))
  | 2 => z_vi st fun x t => z_vr t fun q t => z_b (Nat.beq (X.1 q).1 0 && Nat.beq (X.1 q).2 a) ((x = 0 ∨ x = 1) ∧ k t (z_up I q b x) R)
  | _ => False
/-- a new row: its place is the next number, its shape as foreseen -/
def z_na (X : z_X) (kd : Nat) (st : List Value) (I : z_I) (J : z_J) (F : z_F) (cn uc us mc ms : Nat) (k : List Value → z_I → z_J → z_F → Nat → Nat → Nat → Prop) : Prop := z_vi st fun n t =>
  z_b (Nat.beq (X.1 cn).1 kd) ((n = nI (X.1 cn).2 ∧ (X.1 cn).2 < 65536 ∧ uc + 1 ≤ mc ∧ us + (X.1 cn).2 ≤ ms) ∧ k (.ref cn :: t) (z_row I cn (fun _ => 0)) (z_row J cn (fun _ => 0)) (z_row F cn (fun _ => 0)) (cn + 1) (uc + 1) (us + (X.1 cn).2))
/-- a new object of class a with n fields -/
def z_no (X : z_X) (a n : Nat) (I : z_I) (R : z_R) (cn uc us mc ms : Nat) (k : Value → z_I → z_R → Nat → Nat → Nat → Prop) : Prop :=
  z_b (Nat.beq (X.1 cn).1 0 && Nat.beq (X.1 cn).2 a) ((uc + 1 ≤ mc ∧ us + n ≤ ms) ∧ k (.ref cn) (z_row I cn (fun _ => 0)) (z_row R cn (fun _ => .null)) (cn + 1) (uc + 1) (us + n))
def z_cpy {α : Type} (M : Nat → Nat → α) (p q sp dp n : Nat) : Nat → Nat → α := z_row M q (va_cpy (M p) (M q) sp dp n)
/-- System.arraycopy -/
def z_cp (X : z_X) (st : List Value) (I : z_I) (J : z_J) (F : z_F) (k : List Value → z_I → z_J → z_F → Prop) : Prop :=
  z_vi st fun n t => z_vi t fun dp t => z_vr t fun q t => z_vi t fun sp t => z_vr t fun p t =>
  z_b (Nat.beq (X.1 p).1 (X.1 q).1 && Nat.ble (z_cat t) 8) ((¬ sp < 0 ∧ ¬ dp < 0 ∧ ¬ n < 0 ∧ sp.toNatClampNeg + n.toNatClampNeg ≤ (X.1 p).2 ∧ dp.toNatClampNeg + n.toNatClampNeg ≤ (X.1 q).2) ∧ (match (X.1 q).1 with
    | 1 => k t (z_cpy I p q sp.toNatClampNeg dp.toNatClampNeg n.toNatClampNeg) J F
    | 3 => k t I (z_cpy J p q sp.toNatClampNeg dp.toNatClampNeg n.toNatClampNeg) F
    | 4 => k t I J (z_cpy F p q sp.toNatClampNeg dp.toNatClampNeg n.toNatClampNeg)
    | _ => False))
def z_push (r : Option Value) (st : List Value) : List Value := match r with
  | none => st
  | some v => v :: st
/-- a call: c = 0 static, 1 virtual, 2 <init>, 3 virtual of an outer String; 4, 5, 6 of a nest mate's: static, virtual, <init> -/
def z_rcv (X : z_X) (c d : Nat) (as : List Value) (k : Prop) : Prop := match c with
  | 0 => k
  | 4 => k
  | 3 => z_vo as (fun _ _ => False) (fun j _ => z_vi [X.2.2.1 j 1] fun _ _ => k) (fun _ => False)
  | _ => z_vr as fun q _ => z_b (Nat.beq (X.1 q).1 0 && Nat.beq (X.1 q).2 d) k
def z_call (X : z_X) (dp a b c d pc : Nat) (L : z_L) (st : List Value) (I : z_I) (R : z_R) (J : z_J) (F : z_F) (cn uc us mc ms : Nat) (K : z_K) (C : z_C) : Prop :=
  z_pop b st [] fun as t => z_b (Nat.ble (z_cat t) 8 && Nat.ble (z_cat as) (X.2.2.2.2 a)) (z_rcv X c d as (match dp with
    | 0 => False
    | dp + 1 => (match Nat.beq (X.2.2.2.1 a).1 0 && Nat.beq (X.2.2.2.1 a).2 0 with
        | true => C dp a as I R J F cn (fun r I R J F cn => K (pc + 3) L (z_push r t) I R J F cn uc us)
        | false => (uc + (X.2.2.2.1 a).1 ≤ mc ∧ us + (X.2.2.2.1 a).2 ≤ ms) ∧ C dp a as I R J F cn (fun r I R J F cn => K (pc + 3) L (z_push r t) I R J F cn (uc + (X.2.2.2.1 a).1) (us + (X.2.2.2.1 a).2)))))
/-- one instruction; rt: what the method answers (0 nothing, 1 int, 2 boolean, 3 byte, 4 char, 5 float, 6 long); mc, ms: what it may make -/
def z_step (X : z_X) (rt mc ms dp : Nat) (e : z_E) (L : z_L) (st : List Value) (I : z_I) (R : z_R) (J : z_J) (F : z_F) (cn uc us : Nat) (K : z_K) (C : z_C) (Q : z_Q) : Prop :=
  match e with
  | (pc, ins, len, (a, b, c, d), v, ps) =>
  match ins with
  | .iconst _ => K (pc + len) L (.int v :: st) I R J F cn uc us
  | .bipush _ => K (pc + len) L (.int v :: st) I R J F cn uc us
  | .sipush _ => K (pc + len) L (.int v :: st) I R J F cn uc us
  | .ldc _ => (match c with
    | 0 => K (pc + len) L (.int v :: st) I R J F cn uc us
    | 1 => K (pc + len) L (.float (UInt32.ofNat a) :: st) I R J F cn uc us
    | 2 => K (pc + len) L (.retAddr a :: st) I R J F cn uc us
    | _ => False)
  | .ldc_w _ => (match c with
    | 0 => K (pc + len) L (.int v :: st) I R J F cn uc us
    | 1 => K (pc + len) L (.float (UInt32.ofNat a) :: st) I R J F cn uc us
    | 2 => K (pc + len) L (.retAddr a :: st) I R J F cn uc us
    | _ => False)
  | .ldc2_w _ => K (pc + len) L (.long (Int64.ofNat a) :: st) I R J F cn uc us
  | .lconst n => K (pc + len) L (.long (Int64.ofNat n.1) :: st) I R J F cn uc us
  | .fconst n => (match n.1 with
    | 0 => K (pc + len) L (.float FP.fconst0 :: st) I R J F cn uc us
    | 1 => K (pc + len) L (.float FP.fconst1 :: st) I R J F cn uc us
    | _ => K (pc + len) L (.float FP.fconst2 :: st) I R J F cn uc us)
  | .aconst_null => K (pc + len) L (.null :: st) I R J F cn uc us
  | .iload i => z_int L i fun x => K (pc + len) L (.int x :: st) I R J F cn uc us
  | .iload_n i => z_int L i.1 fun x => K (pc + len) L (.int x :: st) I R J F cn uc us
  | .aload i => z_ref L i (fun x => K (pc + len) L (.ref x :: st) I R J F cn uc us) (fun x => K (pc + len) L (.retAddr x :: st) I R J F cn uc us) (K (pc + len) L (.null :: st) I R J F cn uc us)
  | .aload_n i => z_ref L i.1 (fun x => K (pc + len) L (.ref x :: st) I R J F cn uc us) (fun x => K (pc + len) L (.retAddr x :: st) I R J F cn uc us) (K (pc + len) L (.null :: st) I R J F cn uc us)
  | .fload i => z_flt L i fun x => K (pc + len) L (.float x :: st) I R J F cn uc us
  | .fload_n i => z_flt L i.1 fun x => K (pc + len) L (.float x :: st) I R J F cn uc us
  | .lload i => z_lng L i fun x => K (pc + len) L (.long x :: st) I R J F cn uc us
  | .lload_n i => z_lng L i.1 fun x => K (pc + len) L (.long x :: st) I R J F cn uc us
  | .istore i => z_vi st fun x t => z_fc (z_set1 L i (.int x)) fun L => K (pc + len) L t I R J F cn uc us
  | .istore_n i => z_vi st fun x t => z_fc (z_set1 L i.1 (.int x)) fun L => K (pc + len) L t I R J F cn uc us
  | .fstore i => z_vf st fun x t => z_fc (z_set1 L i (.float x)) fun L => K (pc + len) L t I R J F cn uc us
  | .fstore_n i => z_vf st fun x t => z_fc (z_set1 L i.1 (.float x)) fun L => K (pc + len) L t I R J F cn uc us
  | .astore i => z_vr st fun x t => z_fc (z_set1 L i (.ref x)) fun L => K (pc + len) L t I R J F cn uc us
  | .astore_n i => z_vr st fun x t => z_fc (z_set1 L i.1 (.ref x)) fun L => K (pc + len) L t I R J F cn uc us
  | .lstore i => z_vj st fun x t => z_fc (z_set2 L i (.long x)) fun L => K (pc + len) L t I R J F cn uc us
  | .lstore_n i => z_vj st fun x t => z_fc (z_set2 L i.1 (.long x)) fun L => K (pc + len) L t I R J F cn uc us
  | .iinc i _ => z_int L i fun x => z_fc (z_set1 L i (.int (x + v))) fun L => K (pc + len) L st I R J F cn uc us
  | .iadd => z_ii st (fun x y => x + y) fun st => K (pc + len) L st I R J F cn uc us
  | .isub => z_ii st (fun x y => x - y) fun st => K (pc + len) L st I R J F cn uc us
  | .imul => z_ii st (fun x y => x * y) fun st => K (pc + len) L st I R J F cn uc us
  | .iand => z_ii st (fun x y => x &&& y) fun st => K (pc + len) L st I R J F cn uc us
  | .ior => z_ii st (fun x y => x ||| y) fun st => K (pc + len) L st I R J F cn uc us
  | .ixor => z_ii st (fun x y => x ^^^ y) fun st => K (pc + len) L st I R J F cn uc us
  | .ishl => z_ii st (fun x y => x <<< (y &&& 31)) fun st => K (pc + len) L st I R J F cn uc us
  | .ishr => z_ii st (fun x y => x >>> (y &&& 31)) fun st => K (pc + len) L st I R J F cn uc us
  | .iushr => z_ii st (fun x y => (x.toUInt32 >>> (y.toUInt32 &&& Int32.toUInt32 31)).toInt32) fun st => K (pc + len) L st I R J F cn uc us
  | .idiv => z_vi st fun y t => z_vi t fun x t => ¬ y = 0 ∧ K (pc + len) L (.int (x / y) :: t) I R J F cn uc us
  | .irem => z_vi st fun y t => z_vi t fun x t => ¬ y = 0 ∧ K (pc + len) L (.int (x - x / y * y) :: t) I R J F cn uc us
  | .ineg => z_i1 st (fun x => -x) fun st => K (pc + len) L st I R J F cn uc us
  | .i2b => z_i1 st (fun x => x.toInt8.toInt32) fun st => K (pc + len) L st I R J F cn uc us
  | .i2c => z_i1 st (fun x => (x.toUInt32 % 65536).toInt32) fun st => K (pc + len) L st I R J F cn uc us
  | .ladd => z_jj st (fun x y => x + y) fun st => K (pc + len) L st I R J F cn uc us
  | .lsub => z_jj st (fun x y => x - y) fun st => K (pc + len) L st I R J F cn uc us
  | .land => z_jj st (fun x y => x &&& y) fun st => K (pc + len) L st I R J F cn uc us
  | .lor => z_jj st (fun x y => x ||| y) fun st => K (pc + len) L st I R J F cn uc us
  | .lxor => z_jj st (fun x y => x ^^^ y) fun st => K (pc + len) L st I R J F cn uc us
  | .lshl => z_vi st fun y t => z_vj t fun x t => K (pc + len) L (.long (x <<< (y.toInt64 &&& 63)) :: t) I R J F cn uc us
  | .lushr => z_vi st fun y t => z_vj t fun x t => K (pc + len) L (.long (x.toUInt64 >>> (y.toInt64.toUInt64 &&& Int64.toUInt64 63)).toInt64 :: t) I R J F cn uc us
  | .lcmp => z_vj st fun y t => z_vj t fun x t => K (pc + len) L (.int (lg_cmp x y) :: t) I R J F cn uc us
  | .l2i => z_vj st fun x t => K (pc + len) L (.int x.toInt32 :: t) I R J F cn uc us
  | .i2f => z_vi st fun x t => K (pc + len) L (.float (FP.i2f x) :: t) I R J F cn uc us
  | .f2i => z_vf st fun x t => K (pc + len) L (.int (FP.f2i x) :: t) I R J F cn uc us
  | .fneg => z_vf st fun x t => K (pc + len) L (.float (FP.fneg x) :: t) I R J F cn uc us
  | .fadd => z_ff st FP.fadd fun st => K (pc + len) L st I R J F cn uc us
  | .fsub => z_ff st FP.fsub fun st => K (pc + len) L st I R J F cn uc us
  | .fmul => z_ff st FP.fmul fun st => K (pc + len) L st I R J F cn uc us
  | .fdiv => z_ff st FP.fdiv fun st => K (pc + len) L st I R J F cn uc us
  | .fcmp op => z_vf st fun y t => z_vf t fun x t => K (pc + len) L (.int (Op.cmpValue (FP.fcmp x y) op) :: t) I R J F cn uc us
  | .dup => z_vir st (fun x t => K (pc + len) L (.int x :: .int x :: t) I R J F cn uc us) (fun x t => K (pc + len) L (.ref x :: .ref x :: t) I R J F cn uc us)
  | .dup2 => z_vi st fun x t => z_vr t fun y t => K (pc + len) L (.int x :: .ref y :: .int x :: .ref y :: t) I R J F cn uc us
  | .pop => z_vir st (fun _ t => K (pc + len) L t I R J F cn uc us) (fun _ t => K (pc + len) L t I R J F cn uc us)
  | .goto _ => K a L st I R J F cn uc us
  | .ifCond q _ => z_vi st fun x t => z_if1 q x (K a L t I R J F cn uc us) (K (pc + 3) L t I R J F cn uc us)
  | .if_icmp q _ => z_vi st fun y t => z_vi t fun x t => z_if2 q x y (K a L t I R J F cn uc us) (K (pc + 3) L t I R J F cn uc us)
  | .ifnull _ => z_vo st (fun _ t => K (pc + 3) L t I R J F cn uc us) (fun _ _ => False) (fun t => K a L t I R J F cn uc us)
  | .ifnonnull _ => z_vo st (fun _ t => K a L t I R J F cn uc us) (fun _ _ => False) (fun t => K (pc + 3) L t I R J F cn uc us)
  | .tableswitch _ _ _ _ => z_vi st fun x t => z_sw x (fun g => K g L t I R J F cn uc us) a ps
  | .lookupswitch _ _ => z_vi st fun x t => z_sw x (fun g => K g L t I R J F cn uc us) a ps
  | .getfield _ => z_gf X a b c st I R fun st => K (pc + len) L st I R J F cn uc us
  | .putfield _ => z_pf X a b c st I R fun t I R => K (pc + len) L t I R J F cn uc us
  | .getstatic _ => (match c with
    | 0 => K (pc + len) L (.int v :: st) I R J F cn uc us
    | 1 => K (pc + len) L (.retAddr a :: st) I R J F cn uc us
    | _ => False)
  | .iaload => z_ild X 1 st I fun st => K (pc + len) L st I R J F cn uc us
  | .baload => z_ild X 2 st I fun st => K (pc + len) L st I R J F cn uc us
  | .laload => z_jld X st J fun st => K (pc + len) L st I R J F cn uc us
  | .faload => z_fld X st F fun st => K (pc + len) L st I R J F cn uc us
  | .iastore => z_ist X st I fun t I => K (pc + len) L t I R J F cn uc us
  | .bastore => z_bst X st I fun t I => K (pc + len) L t I R J F cn uc us
  | .lastore => z_jst X st J fun t J => K (pc + len) L t I R J F cn uc us
  | .fastore => z_fst X st F fun t F => K (pc + len) L t I R J F cn uc us
  | .arraylength => z_len X st fun st => K (pc + len) L st I R J F cn uc us
  | .newarray _ => z_na X c st I J F cn uc us mc ms fun t I J F cn uc us => K (pc + len) L t I R J F cn uc us
  | .new _ => z_no X a b I R cn uc us mc ms fun w I R cn uc us => K (pc + len) L (w :: st) I R J F cn uc us
  | .invokestatic _ => (match c with
    | 10 => z_cp X st I J F fun t I J F => K (pc + len) L t I R J F cn uc us
    | 11 => z_vf st fun x t => z_b (Nat.ble (z_cat t) 8) (K (pc + len) L (.int x.toInt32 :: t) I R J F cn uc us)
    | 12 => z_vi st fun x t => z_b (Nat.ble (z_cat t) 8) (vn_sni2f x = false ∧ K (pc + len) L (.float x.toUInt32 :: t) I R J F cn uc us)
    | _ => z_call X dp a b c d pc L st I R J F cn uc us mc ms K C)
  | .invokevirtual _ => z_call X dp a b c d pc L st I R J F cn uc us mc ms K C
  | .invokespecial _ => (match c with
    | 13 => z_vr st fun _ t => z_b (Nat.ble (z_cat t) 8) (K (pc + len) L t I R J F cn uc us)
    | _ => z_call X dp a b c d pc L st I R J F cn uc us mc ms K C)
  | .ireturn => z_vi st fun x t => (match t, rt with
    | [], 1 => Q (some (.int x)) I R J F cn
    | [], 2 => (x = 0 ∨ x = 1) ∧ Q (some (.int x)) I R J F cn
    | [], 3 => x.toInt8.toInt32 = x ∧ Q (some (.int x)) I R J F cn
    | [], 4 => (x.toUInt32 % 65536).toInt32 = x ∧ Q (some (.int x)) I R J F cn
    | _, _ => False)
  | .freturn => z_vf st fun x t => (match t, rt with
    | [], 5 => Q (some (.float x)) I R J F cn
    | _, _ => False)
  | .lreturn => z_vj st fun x t => (match t, rt with
    | [], 6 => Q (some (.long x)) I R J F cn
    | _, _ => False)
  | .return_ => (match st, rt with
    | [], 0 => Q none I R J F cn
    | _, _ => False)
  | _ => False
/-- the rows from a pc on -/
def z_from (pc : Nat) : List z_E → List z_E
  | [] => []
  | e :: l => bif Nat.beq e.1 pc then e :: l else z_from pc l
def z_nx (pc : Nat) (cs cd : List z_E) : List z_E := match cs with
  | [] => z_from pc cd
  | e :: l => bif Nat.beq e.1 pc then e :: l else z_from pc cd
/-- the entry's locals: a long takes two places -/
def z_ent : Nat → List Value → z_L
  | 0, _ => []
  | n + 1, [] => none :: z_ent n []
  | n + 1, .long x :: l => some (.long x) :: (match n with
    | 0 => []
    | k + 1 => none :: z_ent k l)
  | n + 1, v :: l => some v :: z_ent n l
/-- the methods by number: what it answers, its locals, its rows -/
abbrev z_P : Type := Nat → Nat × Nat × List z_E
/-- n instructions at most -/
def z_run (X : z_X) (P : z_P) (m dp : Nat) : Nat → List z_E → z_L → List Value → z_I → z_R → z_J → z_F → Nat → Nat → Nat → z_K → z_C → z_Q → Prop
  | 0, cs, L, st, I, R, J, F, cn, uc, us, K, _, _ => (match cs with
    | [] => False
    | e :: _ => K e.1 L st I R J F cn uc us)
  | n + 1, cs, L, st, I, R, J, F, cn, uc, us, K, C, Q => (match cs with
    | [] => False
    | e :: cs => z_step X (P m).1 (X.2.2.2.1 m).1 (X.2.2.2.1 m).2 dp e L st I R J F cn uc us (fun pc L st I R J F cn uc us => z_run X P m dp n (z_nx pc cs (P m).2.2) L st I R J F cn uc us K C Q) C Q)
abbrev z_Z : Type := Nat → Nat → Nat → z_L → List Value → z_I → z_R → z_J → z_F → Nat → Nat → Nat → z_Q → Prop
def z_Mo (Z : z_Z) : Prop := ∀ (d m pc : Nat) (L : z_L) (st : List Value) (I : z_I) (R : z_R) (J : z_J) (F : z_F) (cn uc us : Nat) (Q Q' : z_Q), (∀ v I R J F cn, Q v I R J F cn → Q' v I R J F cn) → Z d m pc L st I R J F cn uc us Q → Z d m pc L st I R J F cn uc us Q'
def z_Cl (X : z_X) (P : z_P) (Z : z_Z) : Prop := ∀ (d m : Nat) (e : z_E) (L : z_L) (st : List Value) (I : z_I) (R : z_R) (J : z_J) (F : z_F) (cn uc us : Nat) (Q : z_Q), e ∈ (P m).2.2 →
  z_step X (P m).1 (X.2.2.2.1 m).1 (X.2.2.2.1 m).2 d e L st I R J F cn uc us (fun pc L st I R J F cn uc us => Z d m pc L st I R J F cn uc us Q) (fun d k as I R J F cn Q' => Z d k 0 (z_ent (P k).2.1 as) [] I R J F cn 0 0 Q') Q → Z d m e.1 L st I R J F cn uc us Q
/-- the plain reading comes to an end with Q -/
def z_WP (X : z_X) (P : z_P) : z_Z := fun d m pc L st I R J F cn uc us Q => ∀ Z : z_Z, z_Mo Z → z_Cl X P Z → Z d m pc L st I R J F cn uc us Q
/-- a call of a method -/
def z_M (X : z_X) (P : z_P) : z_C := fun d k as I R J F cn Q => z_WP X P d k 0 (z_ent (P k).2.1 as) [] I R J F cn 0 0 Q
