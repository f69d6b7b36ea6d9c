/-! the best phases: numbers -/
def mnf (V : Nat → Nat) : Nat → Nat
  | 0 => 0
  | k + 1 => if k = 0 then V 0 else min (mnf V k) (V k)
theorem mnf_s {V : Nat → Nat} {k : Nat} : mnf V (k + 1) = if k = 0 then V 0 else min (mnf V k) (V k) := rfl
theorem mnf_c {V V' : Nat → Nat} : ∀ {k}, (∀ q, q < k → V' q = V q) → mnf V' k = mnf V k
  | 0, _ => rfl
  | k + 1, h => by
    rw [mnf_s, mnf_s, mnf_c (k := k) fun q hq => h q (by omega), h 0 (by omega), h k (by omega)]
theorem mnf_le {V : Nat → Nat} : ∀ {k q}, q < k → mnf V k ≤ V q
  | 0, q, h => by omega
  | k + 1, q, h => by
    rw [mnf_s]
    by_cases z : k = 0
    · rw [if_pos z, show q = 0 by omega]; exact Nat.le_refl _
    · rw [if_neg z]
      rcases Nat.lt_or_eq_of_le (Nat.le_of_lt_succ h) with y | y
      · exact Nat.le_trans (Nat.min_le_left _ _) (mnf_le y)
      · rw [y]; exact Nat.min_le_right _ _
theorem mnf_ge {V : Nat → Nat} {B : Nat} : ∀ {k}, 0 < k → (∀ q, q < k → B ≤ V q) → B ≤ mnf V k
  | 0, h, _ => by omega
  | k + 1, _, h => by
    rw [mnf_s]
    by_cases z : k = 0
    · rw [if_pos z]; exact h 0 (by omega)
    · rw [if_neg z]
      exact Nat.le_min.mpr ⟨mnf_ge (by omega) fun q hq => h q (by omega), h k (by omega)⟩
/-- the lines with any, from one on -/
def alf (w : Nat → Int32) : Nat → Nat → List Nat
  | 0, _ => []
  | j + 1, k => if lnn w k 9 = 0 then alf w j (k + 1) else k :: alf w j (k + 1)
theorem alf_s {w : Nat → Int32} {j k : Nat} : alf w (j + 1) k = if lnn w k 9 = 0 then alf w j (k + 1) else k :: alf w j (k + 1) := rfl
theorem alf_q {w : Nat → Int32} {i : Nat} {v : Int32} : ∀ j k, alf (upd w (qat i) v) j k = alf w j k
  | 0, _ => rfl
  | j + 1, k => by rw [alf_s, alf_s, alf_q j (k + 1), lnn_q (Or.inr (by decide)) (by omega)]
theorem alf_in {w : Nat → Int32} : ∀ {j k i}, i ∈ alf w j k → k ≤ i ∧ i < k + j
  | 0, k, i, h => by cases h
  | j + 1, k, i, h => by
    rw [alf_s] at h
    by_cases z : lnn w k 9 = 0
    · rw [if_pos z] at h
      have := alf_in h; omega
    · rw [if_neg z] at h
      rcases List.mem_cons.mp h with y | y
      · omega
      · have := alf_in y; omega
def bsl : List Nat → (Nat → Int32) → Nat
  | [], w => grt w
  | i :: r, w => mnf (fun q => bsl r (upd w (qat i) (nI q))) (lnn w i 6)
def pil (w : Nat → Int32) (g : Nat → Nat) (i q : Nat) : Nat → Nat := fun f => g f + (if f % lnn w i 6 = q then s_time w i else 0)
def ckl (w : Nat → Int32) : List Nat → (Nat → Nat) → Nat
  | [], g => mxf g 8
  | i :: r, g => mnf (fun q => ckl w r (pil w g i q)) (lnn w i 6)
theorem ckl_w {w : Nat → Int32} {i : Nat} {v : Int32} : ∀ (l : List Nat) g, ckl (upd w (qat i) v) l g = ckl w l g
  | [], _ => rfl
  | a :: r, g => by
    show mnf _ _ = mnf _ _
    rw [lnn_q (Or.inr (by decide)) (by omega)]
    refine mnf_c fun q _ => ?_
    rw [ckl_w r]
    congr 1
    funext f
    unfold pil
    rw [lnn_q (Or.inr (by decide)) (by omega), s_time_q]
theorem ckl_g {w : Nat → Int32} : ∀ (l : List Nat) {g g'}, (∀ f, f < 8 → g' f = g f) → ckl w l g' = ckl w l g
  | [], _, _, h => mxf_c h
  | a :: r, g, g', h => mnf_c fun q _ => ckl_g r fun f hf => by unfold pil; rw [h f hf]
theorem ckl_ge {w : Nat → Int32} : ∀ (l : List Nat) {g}, (∀ i, i ∈ l → 0 < lnn w i 6) → mxf g 8 ≤ ckl w l g
  | [], _, _ => Nat.le_refl _
  | a :: r, g, h => mnf_ge (h a List.mem_cons_self) fun q _ => Nat.le_trans (mxf_mono fun f _ => by unfold pil; omega) (ckl_ge r fun i hi => h i (List.mem_cons_of_mem _ hi))
theorem ldn_M {w : Nat → Int32} {f M M' : Nat} : ∀ {m}, m ≤ M → m ≤ M' → ldn w f M m = ldn w f M' m
  | 0, _, _ => rfl
  | m + 1, h, h' => by
    show ldn w f M m + _ = ldn w f M' m + _
    rw [ldn_M (M := M) (M' := M') (m := m) (by omega) (by omega)]
    unfold ldc
    rw [decide_eq_true (show m < M by omega), decide_eq_true (show m < M' by omega)]
theorem bsl_ckl : ∀ (j k : Nat) (w : Nat → Int32), tb_ok w → k + j = (w 8).toNatClampNeg → bsl (alf w j k) w = ckl w (alf w j k) (fun f => ldn w f k (w 8).toNatClampNeg)
  | 0, k, w, ht, h => by
    have := ht.2.1
    exact mxf_c fun f _ => ldn_M (by omega) (by omega)
  | j + 1, k, w, ht, h => by
    have hk : k < (w 8).toNatClampNeg := by omega
    rw [alf_s]
    by_cases z : lnn w k 9 = 0
    · rw [if_pos z, bsl_ckl j (k + 1) w ht (by omega)]
      exact ckl_g _ fun f _ => ldn_n z _
    · rw [if_neg z]
      show mnf _ _ = mnf _ _
      refine mnf_c fun q hq => ?_
      have ho := ht.2.2 k hk
      have pp := pp8 ho
      have ih := bsl_ckl j (k + 1) (upd w (qat k) (nI q)) (tb_q ht hk hq) (by rw [w8_q]; omega)
      rw [alf_q, ckl_w, w8_q] at ih
      rw [ih]
      refine ckl_g _ fun f _ => ?_
      rw [ldn_q z (by omega)]
      unfold pil
      by_cases y : f % lnn w k 6 = q
      · rw [if_pos ⟨hk, y⟩, if_pos y]
      · rw [if_neg fun h => y h.2, if_neg y]
theorem upd_id {w : Nat → Int32} {k : Nat} {v : Int32} (h : w k = v) : upd w k v = w := funext fun j => by
  by_cases z : j = k
  · subst z; rw [pk_us, h]
  · exact pk_un z
theorem bsl_le {w : Nat → Int32} (ht : tb_ok w) : ∀ (l : List Nat), (∀ i, i ∈ l → i < (w 8).toNatClampNeg) → bsl l w ≤ grt w
  | [], _ => Nat.le_refl _
  | a :: r, h => by
    have ho := ht.2.2 a (h a List.mem_cons_self)
    have hq := ho.2.2.2.2.2.2.2.2.2.2.2.2.1
    refine Nat.le_trans (mnf_le hq) ?_
    rw [upd_id (k := qat a) (ho.1 7 (by omega))]
    exact bsl_le ht r fun i hi => h i (List.mem_cons_of_mem _ hi)
theorem grt_le {w : Nat → Int32} (ht : tb_ok w) : grt w ≤ 6240 := mxf_le fun f _ => by
  have a := ldn_le (f := f) (M := 25) ht.2.2
  have b := ht.2.1
  omega
theorem bsl_b : ∀ (l : List Nat) (w : Nat → Int32), tb_ok w → (∀ i, i ∈ l → i < (w 8).toNatClampNeg) → bsl l w ≤ 6240 := fun l w ht h => Nat.le_trans (bsl_le ht l h) (grt_le ht)
