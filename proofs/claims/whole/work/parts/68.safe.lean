/-! SAFE, BOTH -/
section
variable {I : Nat → Nat → Int32} {P : Nat → Nat → Option Nat} {s d : Nat} {pl : Nat → Nat} {A : q_S}
theorem o_safe (hO : q_O A) (hC : q_C I P s d pl A) (hM : q_M I A) (v : Int32) : q_T (f_X4_safe 0 v (p_m I P)) (f_X5_safe 57 v) := by
  have hB := hC.b hO
  have mB := hM.b hC.1 hO
  have hx := hB.x
  have hy := mB.x
  have h8 := hO.1.2.1
  have h1 := hO.1.1
  have hs := hC.2.1.1
  by_cases hv : q_is v A.1.1
  · obtain ⟨b, hb, rfl⟩ := q_is_nI hv (by omega)
    obtain ⟨F, hF⟩ : ∃ F : Nat, 400 = F := ⟨_, rfl⟩
    have c1 := c_saL hB hb A.1.1 F (Nat.le_refl _) (by omega)
    rw [Nat.sub_self] at c1
    have hw : p_same (fun a => a = 57) I (p_w I 57 10 (nI b)) := p_same.rf.o
    obtain ⟨I2, d1, d2, d3, d4⟩ := m_saL (q := A.1) (g := A.2.1) hC.1 hO.1 hO.2.1.1 hb A.1.1 F (p_w I 57 10 (nI b)) (hM.1.keep hw (by omega)) (hM.2.1.keep hw (by omega)) (by rw [p_w_eq]) (Nat.le_refl _) (by omega)
    rw [Nat.sub_self] at d1
    have h59 : p_w I 57 10 (nI b) 59 0 = nI A.1.1 := by rw [p_w_ne (Or.inl (by omega))]; exact hy.1.1
    have e0 : ∃ r, f_X4_safe 0 (nI b) (p_m I P) = some (r, p_m I P) ∧ f_X5_safe 57 (nI b) (p_m I P) = some (r, p_m I2 P) := by
      unfold f_X4_safe f_X5_safe z_lt
      rw [hF]
      simp (disch := omega) only [p_C, c_man1 hs hx.1.1 h8 hb, m_man1 hC.1 hy.1.1 h8 hb, p_b, p_N, p_A, p_tf, if_false, p_F, p_Q hC.1, p_L, h59]
      exact ⟨_, c1, d1⟩
    obtain ⟨r, a, b'⟩ := e0
    refine q_ask hO hC hM a p_same.rf b' ⟨fun a h _ _ => (d2 a h).trans (hw a h), fun j _ h11 _ => ?_⟩
    by_cases e : j = 10
    · subst e; rw [d4]; exact hM.2.2.1.symm
    · rw [d3 j e h11, p_w_ne (Or.inr e)]
  · have a : f_X4_safe 0 v (p_m I P) = some (-nI 1, p_m I P) := by
      unfold f_X4_safe
      simp (disch := omega) only [p_C, c_man0 hs hx.1.1 h8 hv, p_b, p_N, if_true]
    have b : f_X5_safe 57 v (p_m I P) = some (-nI 1, p_m I P) := by
      unfold f_X5_safe
      simp (disch := omega) only [p_C, m_man0 hC.1 hy.1.1 h1 h8 hv, p_b, p_N, if_true]
    exact q_ask hO hC hM a p_same.rf b m_keep.rf
end
