/-! .. AND BOTH -/
section
variable {I : Nat → Nat → Int32} {P : Nat → Nat → Option Nat} {s d : Nat} {pl : Nat → Nat} {A : q_S}
theorem q_sf0 (q : q_Q) (g : q_G) (b j : Nat) : (q_sf q g b 0).1 j = g.1 j := by
  show (if j < 0 ∧ q_sp q g b j = true then (g.1 j + 2) % 4 else g.1 j) = _
  rw [if_neg (by omega)]
theorem o_shout (hO : q_O A) (hC : q_C I P s d pl A) (hM : q_M I A) (v : Int32) : q_T (f_X4_shout 0 v (p_m I P)) (f_X5_shout 57 v) := by
  have h8 := hO.1.2.1
  have h1 := hO.1.1
  have hx0 := (hC.b hO).x
  have hs := hC.2.1.1
  have hy0 := (hM.b hC.1 hO).x
  by_cases hv : q_is v A.1.1
  · obtain ⟨b, hb, rfl⟩ := q_is_nI hv (by omega)
    obtain ⟨F, hF⟩ : ∃ F : Nat, 400 = F := ⟨_, rfl⟩
    obtain ⟨I1, P1, pl1, a1, a2, a3, a4⟩ := c_push hO hC
    have hM1 := hM.keep a3
    have hO1 := q_psh_O hO hC.2.2.2.2.1.2.1
    have hB1 := a2.b hO1
    have hg := hO.2.1.1
    obtain ⟨I2, b1, b2, b3⟩ := c_shL (q := A.1) (g := A.2.1) hg hb F 0 I1 ⟨hB1.1, hB1.2.1, hB1.2.2.1, q_sm_ok hg, hB1.2.2.2.2.1, hB1.2.2.2.2.2.ext (fun j _ => q_sf0 A.1 A.2.1 b j) rfl⟩ (by omega) (by omega)
    have hC2 : q_C I2 P1 s d pl1 ((q_psh A).1, q_sf A.1 A.2.1 b A.1.1, (q_psh A).2.2) := a2.g (b2.mono (fun a ha => by omega)) b3
    have hM2 : q_M I2 A := hM1.keep (fun a ha => b2 a (by omega))
    have hy2 := (hM2.b a4 hO).x
    obtain ⟨I3, c1, c2, c3⟩ := m_push a4 hO hM2
    have mB3 := c2.b a4 hO1
    obtain ⟨I4, d1, d2, d3⟩ := m_shL (q := A.1) (g := A.2.1) hg hb F 0 I3 ⟨mB3.1, mB3.2.1, q_sf_ok hg (by omega), mB3.2.2.2.1, mB3.2.2.2.2.1.ext (fun j _ => q_sf0 A.1 A.2.1 b j) rfl, mB3.2.2.2.2.2⟩ (by omega) (by omega)
    have e0 : ∃ r, f_X4_shout 0 (nI b) (p_m I P) = some (r, p_m I2 P1) ∧ f_X5_shout 57 (nI b) (p_m I2 P1) = some (r, p_m I4 P1) := by
      unfold f_X4_shout f_X5_shout
      rw [hF]
      simp (disch := omega) only [p_C, c_man1 hs hx0.1.1 h8 hb, m_man1 a4 hy2.1.1 h8 hb, p_b, p_N, p_A, p_tf, if_false, p_Q hC.1, a1, c1]
      exact ⟨_, b1, d1⟩
    obtain ⟨r, a, b'⟩ := e0
    refine q_op a b' ?_ ((hC2.a57 c3).a57 (I' := I4) (fun a ha => d2 a (by omega))) (c2.g d2 d3)
    exact ⟨hO1.1, ⟨q_sf_ok hg (Nat.le_refl _), hO.2.1.2⟩, hO1.2.2⟩
  · have a : f_X4_shout 0 v (p_m I P) = some (-nI 1, p_m I P) := by
      unfold f_X4_shout
      simp (disch := omega) only [p_C, c_man0 hs hx0.1.1 h8 hv, p_b, p_N, if_true]
    have b : f_X5_shout 57 v (p_m I P) = some (-nI 1, p_m I P) := by
      unfold f_X5_shout
      simp (disch := omega) only [p_C, m_man0 hC.1 hy0.1.1 h1 h8 hv, p_b, p_N, if_true]
    exact q_ask hO hC hM a p_same.rf b m_keep.rf
end
