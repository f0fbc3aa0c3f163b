/-! WHICH WORD -/
section
variable {I : Nat → Nat → Int32} {P : Nat → Nat → Option Nat} {s d : Nat} {pl : Nat → Nat} {A : q_S} {q : q_Q} {g : q_G}
theorem c_whL (h : c_B I P s q g) (hm : ∀ j, j < q.1 → I 55 j = nI (q_mf q g j)) {i k : Nat} (hi : i < q.1) (hk : k < 4) : ∀ (f w : Nat), w ≤ 3 → 3 - w < f → f_X4_which_L28 f 0 (nI i) (nI k) (nI (q_or (fun w => decide (q_fs q g i w = k)) 0 w)) (nI w) (p_m I P) = some (nI (q_or (fun w => decide (q_fs q g i w = k)) 0 3), p_m I P) := by
  intro f
  induction f with
  | zero => intro i _ h; omega
  | succ f ih =>
    intro w hw hf
    have h8 := h.2.2.1.2.1
    unfold f_X4_which_L28 f_X4_which_L52 z_lt
    simp (disch := omega) only [p_N, p_A]
    by_cases h1 : 3 ≤ w
    · rw [if_pos h1, show w = 3 by omega]
    · rw [if_neg h1]
      have hlt : q_fs q g i w < 4 := Nat.mod_lt _ (by decide)
      have ih1 := ih (w + 1) (by omega) (by omega)
      rw [show q_or (fun w => decide (q_fs q g i w = k)) 0 (w + 1) = if decide (q_fs q g i w = k) = true then q_or (fun w => decide (q_fs q g i w = k)) 0 w ||| 2 ^ w else q_or (fun w => decide (q_fs q g i w = k)) 0 w from rfl] at ih1
      simp (disch := omega) only [p_C, c_foreseen h hm hi (show w < 3 by omega), p_b, p_A, p_sh, p_or]
      by_cases hc : q_fs q g i w = k
      · rw [if_pos hc]
        rw [if_pos (by simp [hc])] at ih1
        exact ih1
      · rw [if_neg hc]
        rw [if_neg (by simp [hc])] at ih1
        exact ih1
theorem m_whL (h : m_B I P q g) {i k : Nat} (hi : i < q.1) (hk : k < 4) : ∀ (f w : Nat), w ≤ 3 → 3 - w < f → f_X5_which_L24 f 57 (nI i) (nI k) (nI (q_or (fun w => decide (q_fs q g i w = k)) 0 w)) (nI w) (p_m I P) = some (nI (q_or (fun w => decide (q_fs q g i w = k)) 0 3), p_m I P) := by
  intro f
  induction f with
  | zero => intro i _ h; omega
  | succ f ih =>
    intro w hw hf
    unfold f_X5_which_L24 f_X5_which_L50 z_lt
    simp (disch := omega) only [p_N, p_A]
    by_cases h1 : 3 ≤ w
    · rw [if_pos h1, show w = 3 by omega]
    · rw [if_neg h1]
      have hlt : q_fs q g i w < 4 := Nat.mod_lt _ (by decide)
      have ih1 := ih (w + 1) (by omega) (by omega)
      rw [show q_or (fun w => decide (q_fs q g i w = k)) 0 (w + 1) = if decide (q_fs q g i w = k) = true then q_or (fun w => decide (q_fs q g i w = k)) 0 w ||| 2 ^ w else q_or (fun w => decide (q_fs q g i w = k)) 0 w from rfl] at ih1
      simp (disch := omega) only [p_C, m_foreseen h hi (show w < 3 by omega), p_b, p_A, p_sh, p_or, Nat.or_zero]
      by_cases hc : q_fs q g i w = k
      · rw [if_pos hc]
        rw [if_pos (by simp [hc])] at ih1
        exact ih1
      · rw [if_neg hc]
        rw [if_neg (by simp [hc])] at ih1
        exact ih1
theorem o_which (hO : q_O A) (hC : q_C I P s d pl A) (hM : q_M I A) (v w : Int32) : q_T (f_X4_which 0 v w (p_m I P)) (f_X5_which 57 v w) := by
  have hB := hC.b hO
  have mB := hM.b hC.1 hO
  have hx := hB.x
  have hy := mB.x
  have h8 := hO.1.2.1
  have h1 := hO.1.1
  have hs := hC.2.1.1
  by_cases hv : q_is v A.1.1
  · obtain ⟨i, hi, rfl⟩ := q_is_nI hv (by omega)
    by_cases hw : q_is w 4
    · obtain ⟨w, hw3, rfl⟩ := q_is_nI hw (by omega)
      obtain ⟨I1, a1, a2, a3⟩ := c_manners hB
      have hsc : p_same q_scr I I1 := a2.mono (fun a ha => by unfold q_scr; omega)
      have hB1 := hB.keep hsc
      have mB1 := mB.keep a2 (fun a ha => by omega)
      have hy1 := mB1.x
      obtain ⟨F, hF⟩ : ∃ F : Nat, 400 = F := ⟨_, rfl⟩
      have c1 := c_whL hB1 a3 hi hw3 F 0 (by omega) (by omega)
      have d1 := m_whL mB1 hi hw3 F 0 (by omega) (by omega)
      have e0 : (w < 0) = False := eq_false (by omega)
      have e4 : (w < 4) = True := eq_true hw3
      have e1 : ∃ r, f_X4_which 0 (nI i) (nI w) (p_m I P) = some (r, p_m I1 P) ∧ f_X5_which 57 (nI i) (nI w) (p_m I1 P) = some (r, p_m I1 P) := by
        unfold f_X4_which f_X5_which
        rw [hF]
        simp (disch := omega) only [p_C, c_man1 hs hx.1.1 h8 hi, m_man1 hC.1 hy1.1.1 h8 hi, m_in1, p_b, p_N, p_A, p_tf, e0, e4, if_true, if_false, a1]
        exact ⟨_, c1, d1⟩
      obtain ⟨r, a, b⟩ := e1
      exact q_ask hO hC hM a hsc b m_keep.rf
    · have a : f_X4_which 0 (nI i) w (p_m I P) = some (-nI 1, p_m I P) := by
        unfold f_X4_which
        simp (disch := omega) only [p_C, c_man1 hs hx.1.1 h8 hi, p_b, p_N, p_A, p_tf, if_false]
        rcases q_is_lt hw (by omega) with hlt | hlt
        · rw [if_pos hlt]
        · by_cases h0 : w < nI 0
          · rw [if_pos h0]
          · rw [if_neg h0, if_neg]
            rw [Int32.le_iff_toInt_le] at hlt
            rw [Int32.lt_iff_toInt_lt]
            omega
      have b : f_X5_which 57 (nI i) w (p_m I P) = some (-nI 1, p_m I P) := by
        unfold f_X5_which
        have h0 := m_in0 (v := w) (lo := 0) (hi := 3) (p_m I P) (Or.inl hw) (by omega) (by omega)
        simp (disch := omega) only [p_C, m_man1 hC.1 hy.1.1 h8 hi, h0, p_b, p_N, p_A, p_tf, if_false, if_true]
      exact q_ask hO hC hM a p_same.rf b m_keep.rf
  · have a : f_X4_which 0 v w (p_m I P) = some (-nI 1, p_m I P) := by
      unfold f_X4_which
      simp (disch := omega) only [p_C, c_man0 hs hx.1.1 h8 hv, p_b, p_N, if_true]
    have b : f_X5_which 57 v w (p_m I P) = some (-nI 1, p_m I P) := by
      unfold f_X5_which
      simp (disch := omega) only [p_C, m_man0 hC.1 hy.1.1 h1 h8 hv, p_b, p_N, if_true]
    exact q_ask hO hC hM a p_same.rf b m_keep.rf
end
