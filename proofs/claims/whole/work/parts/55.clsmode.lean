/-! MODE: what a code tells -/
section
variable {L : Nat} {xs : Nat → Int32} {d : Nat} {kp sp wd : Value} {I : z_I} {s : z_sg} {R : z_R} {J : z_J} {F : z_F} {cn : Nat} {Q : z_Q} {n k bus : Nat} {f0 : Int32}
theorem xR_6 {x : Int32} {s' : z_sg} (h : xR I F s n k bus f0) (hx : v01 x) (h1 : s'.1 = upd s.1 6 x) (h2 : s'.2.1 = s.2.1) : xR I F s' n k bus f0 := by
  obtain ⟨d1, d2, d3, d4⟩ := h.2.2.2.1
  refine xR_of h (fun b hb => rfl) (fun j _ => by rw [h2]) (wR_of h.2.1 (fun b _ _ => rfl) (fun j _ => by rw [h2])) rfl rfl ?_ ?_ ?_
  · rw [h1, pk_un (by omega), d3]
  · rw [h1, pk_un (by omega), d4]
  · rw [h1, pk_us]; exact hx
theorem xR_told {t q : Nat} {x : Int32} {I' : z_I} {s' : z_sg} (h : xR I F s n k bus f0) (ht : t < 8) (hq : q = 2 ∨ q = 10 ∨ q = 11 ∨ q = 12 ∨ q = 15 ∨ q = 16 ∨ q = 17) (hx : q = 2 ∨ q = 11 → v01 x) (hI3 : I' 3 = upd (I 3) (t * 18 + q) x) (hI : ∀ b, b ≠ 3 → b ≠ 30 → I' b = I b) (h1 : s'.1 = s.1) (h2 : s'.2.1 = upd s.2.1 (32 + 8 * q + t) x) : xR I' F s' n k bus f0 := by
  obtain ⟨⟨u1, u2, u3, u4⟩, b, ⟨c1, c2⟩, ⟨d1, d2, d3, d4⟩, ⟨⟨v1, v2, v3⟩, k2, k3, k4, k5⟩, f⟩ := h
  have o : ∀ j, j ≠ 32 + 8 * q + t → s'.2.1 j = s.2.1 j := fun j hj => by rw [h2, pk_un hj]
  have e : s'.2.1 (32 + 8 * q + t) = x := by rw [h2, pk_us]
  refine ⟨⟨⟨fun u hu p p1 p2 => ?_, fun u hu => ?_, fun p p1 p2 => ?_⟩, fun j hj => ?_, fun j hj => ?_, fun j hj => ?_⟩, wR_of b (fun b h1 h2 => hI b (by omega) (by omega)) (fun j hj => o j (by omega)), ⟨?_, ?_⟩, ⟨?_, ?_, ?_, ?_⟩, ⟨⟨fun t ht => ?_, fun j a b => ?_, fun j a b => ?_⟩, fun j a b => ?_, fun j hj => ?_, ?_, ?_⟩, by rw [h1]; exact f⟩
  · rw [hI3]
    by_cases z : u * 18 + p = t * 18 + q
    · obtain ⟨rfl, rfl⟩ : u = t ∧ p = q := by omega
      rw [pk_us, e]
    · rw [pk_un z, o _ (by omega)]; exact u1.1 u hu p p1 p2
  · rw [hI3, pk_un (by omega), o _ (by omega)]; exact u1.2.1 u hu
  · rw [hI3, pk_un (by omega)]; exact u1.2.2 p p1 p2
  · rw [hI 4 (by omega) (by omega), o _ (by omega)]; exact u2 j hj
  · rw [hI 5 (by omega) (by omega), hI 6 (by omega) (by omega), hI 7 (by omega) (by omega), o _ (by omega), o _ (by omega), o _ (by omega), o _ (by omega)]; exact u3 j hj
  · rw [hI 9 (by omega) (by omega), o _ (by omega)]; exact u4 j hj
  · rw [hI 1 (by omega) (by omega), o _ (by omega)]; exact c1
  · rw [hI 1 (by omega) (by omega), o _ (by omega)]; exact c2
  · rw [hI 29 (by omega) (by omega)]; exact d1
  · rw [hI 29 (by omega) (by omega), s_held_c (o 3 (by omega)) (fun j hj => o j (by omega))]; exact d2
  · rw [hI 29 (by omega) (by omega), h1]; exact d3
  · rw [hI 29 (by omega) (by omega), h1]; exact d4
  · rw [o _ (by omega)]; exact v1 t ht
  · by_cases z : j = 32 + 8 * q + t
    · subst z; rw [e]; exact hx (by omega)
    · rw [o _ z]; exact v2 j a b
  · by_cases z : j = 32 + 8 * q + t
    · subst z; rw [e]; exact hx (by omega)
    · rw [o _ z]; exact v3 j a b
  · rw [o _ (by omega)]; exact k2 j a b
  · rw [o _ (by omega)]; exact k3 j hj
  · rw [o _ (by omega)]; exact k4
  · rw [o _ (by omega)]; exact k5
/-- what a code does, but for its ERROR -/
def m_dz (s : z_sg) (bus t : Nat) (code : Nat) : z_sg := match code with
  | 0 => m_does s bus t 0
  | 1 => m_does s bus t 1
  | 4 => m_does s bus t 4
  | 5 => m_does s bus t 5
  | 6 => m_does s bus t 6
  | 7 => m_does s bus t 7
  | 8 => m_does s bus t 8
  | 16 => s
  | 17 => m_does s bus t 17
  | 19 => s
  | _ => s
def m_er (code : Nat) : Int32 := match code with
  | 0 => nI 0
  | 1 => nI 0
  | 4 => nI 0
  | 5 => nI 0
  | 6 => nI 0
  | 7 => nI 0
  | 8 => nI 0
  | 16 => nI 0
  | 17 => nI 0
  | 19 => nI 0
  | _ => nI 1
theorem m_er_01 {code : Nat} (h : code < 32) : v01 (m_er code) := by
  have : ∀ c : Fin 32, v01 (m_er c.val) := by unfold v01; decide
  exact this ⟨code, h⟩
/-- a code's cell, in both -/
theorem stt_w {s s' : z_sg} {t q : Nat} {c x : Int32} (ht : t < 8) (hq : 40 ≤ q ∧ q < 128 ∨ 152 ≤ q ∧ q < 176) (h : stt s s' t c (nI 0) (nI 0) (nI 0)) : stt (m_w s q x) (m_last (m_w s' q x) t) t c (nI 0) (nI 0) (nI 0) := by
  obtain ⟨h1, h2, h3, h4, h5, h6, h7, h8, h9⟩ := h
  have o : ∀ j, j < 192 → j ≠ 128 + t → j ≠ 136 + t → j ≠ 144 + t → j ≠ 176 + t → j ≠ 184 + t → upd s'.2.1 q x j = upd s.2.1 q x j := fun j a b c d e f => by
    by_cases z : j = q
    · subst z; rw [pk_us, pk_us]
    · rw [pk_un z, pk_un z]; exact h1 j a b c d e f
  refine ⟨fun j a b c d e f => ?_, ?_, ?_, ?_, ?_, ?_, h7, h8, h9⟩
  · rw [m_last_o c]; exact o j a b c d e f
  · rw [m_last_o (by omega), if_neg (by decide)]
    rw [if_neg (by decide)] at h2
    show upd s'.2.1 q x _ = upd s.2.1 q x _
    rw [pk_un (by omega), pk_un (by omega)]; exact h2
  · show upd _ _ _ _ = _
    rw [pk_us]
    refine s_stat_c (o _ (by omega) (by omega) (by omega) (by omega) (by omega) (by omega)) (o _ (by omega) (by omega) (by omega) (by omega) (by omega) (by omega)) (o _ (by omega) (by omega) (by omega) (by omega) (by omega) (by omega)) (o _ (by omega) (by omega) (by omega) (by omega) (by omega) (by omega)) (o _ (by omega) (by omega) (by omega) (by omega) (by omega) (by omega)) ?_ ?_ h7
    · exact (pk_un (by omega)).trans h5
    · exact (pk_un (by omega)).trans h6
  · rw [m_last_o (by omega)]; exact (pk_un (by omega)).trans h4
  · rw [m_last_o (by omega)]; exact (pk_un (by omega)).trans h5
  · rw [m_last_o (by omega)]; exact (pk_un (by omega)).trans h6
end
