/-! LAID: BOTH -/
section
variable {I : Nat → Nat → Int32} {P : Nat → Nat → Option Nat} {s d : Nat} {pl : Nat → Nat} {A : q_S} {len : Nat} {tx : Nat → Nat} {D : r_D}
/-- the class lays what it read -/
theorem r_clay (hP : p_F0 P) (hs : c_sq P s) (hP2 : P 0 2 = some d) (hd : d = 4 ∨ d = 9) {x : Int32} {I1 : Nat → Nat → Int32} (hr : f_X1_readInto 1 d (p_m I P) = some (x, p_m I1 P)) (hok : r_Dok D) (hD : x = -nI 4 → r_cD I1 d D) :
    ((x = -nI 4 ∧ r_can D) → ∃ I', f_X4_layScript 0 (p_m I P) = some (nI 1, p_m I' (p_p (p_p P 0 1 d) 0 2 s)) ∧ p_same (fun a => a = 14 ∨ a = 15 ∨ a = 16 ∨ a = 20 ∨ a = 46) I1 I' ∧ (∀ j, j ≠ 1 → I' 20 j = I1 20 j) ∧ I' 20 1 = nI 0 ∧ I' 46 1 = nI 0 ∧ c_G I' 14 D.1.1 (r_g0 D)) ∧ (¬ (x = -nI 4 ∧ r_can D) → f_X4_layScript 0 (p_m I P) = some (nI 0, p_m I1 P)) := by
  have h8 := hok.1
  have g2 : ∀ (I : Nat → Nat → Int32) (k : Nat → z_R), z_gP (p_m I P) 0 4 2 k = k d := fun I k => p_gP (by decide) (by decide) hP2
  have hdr := r_dr hP hd
  unfold f_X4_layScript
  simp (disch := omega) only [p_Q hP, g2, p_C, hr, p_b, p_N]
  by_cases hx : x = -nI 4
  · have hD1 := hD hx
    rw [if_pos hx]
    have hc := r_ccan hP hd hD1 hok 400 0 (by omega) (by omega) (fun j hj => by omega)
    by_cases hcan : r_can D
    · have c1 : f_X2_canBeLaid d (p_m I1 P) = some (nI 1, p_m I1 P) := hc.1 hcan
      have hP' := r_F0p hP d s
      have g1' : ∀ (I : Nat → Nat → Int32) (k : Nat → z_R), z_gP (p_m I (p_p (p_p P 0 1 d) 0 2 s)) 0 4 1 k = k d := fun I k => p_gP (by decide) (by decide) (by simp [p_p])
      have s1 : ∀ (Q : Nat → Nat → Option Nat) (j b : Nat) (k : z_M → z_R), z_sP (p_m I1 Q) 0 4 j b k = k (p_m I1 (p_p Q 0 j b)) := fun Q j b k => p_sP (by decide) (by decide)
      obtain ⟨I2, b1, b2, b3⟩ := r_cbeg hP' hd hD1 hok
      obtain ⟨c14, -, -, -, -, -, cv14⟩ := c_stg (t := 14) hP' (Or.inl rfl)
      refine ⟨fun _ => ⟨p_w (p_w I2 20 1 (nI 0)) 46 1 (nI 0), ?_, ((b2.mono (fun a ha => by omega)).w (by omega)).w (by omega), fun j hj => ?_, ?_, ?_, ?_⟩, fun z => absurd ⟨hx, hcan⟩ z⟩
      · simp (disch := omega) only [hdr, c1, p_b, p_A, p_tf, if_false, c_sq1 hs, g2, s1, p_Q hP', g1', cv14, b1, p_F]
      · rw [p_w_ne (Or.inl (by omega)), p_w_ne (Or.inr hj), b2 20 (by omega)]
      · rw [p_w_ne (Or.inl (by omega)), p_w_eq]
      · rw [p_w_eq]
      · exact b3.keep (S := fun a => a = 20 ∨ a = 46) ((p_same.rf.w (Or.inl rfl)).w (Or.inr rfl)) (by omega) (by omega) (by omega)
    · have c1 : f_X2_canBeLaid d (p_m I1 P) = some (nI 0, p_m I1 P) := hc.2 hcan
      refine ⟨fun z => absurd z.2 hcan, fun _ => ?_⟩
      simp (disch := omega) only [hdr, c1, p_b, if_true]
  · rw [if_neg hx]
    exact ⟨fun z => absurd z.1 hx, fun _ => rfl⟩
theorem o_lay (hO : q_O A) (hC : q_C I P s d pl A) (hM : q_M I A) : q_T (f_X4_lay 0 (p_m I P)) (f_X5_lay 57) := by
  have hP := hC.1
  have hs := hC.2.1.1
  have hd : d = 4 ∨ d = 9 := by have := hC.2.1.2.2; omega
  have ht : r_txt A.2.2.2.2.2.2.1 A.2.2.2.2.2.2.2 := hO.2.2.2.2
  have hT : r_cT I A.2.2.2.2.2.2.1 A.2.2.2.2.2.2.2 := hC.2.2.2.2.2.2
  obtain ⟨y, D, e1, e2, e3⟩ := r_end_ex (tx := A.2.2.2.2.2.2.2) 200 0 r_D0 r_D0_ok (show A.2.2.2.2.2.2.1 ≤ 0 + 200 by have := ht.1; omega)
  obtain ⟨I1, a1, a2, a3⟩ := r_cread hP hd ht hT e1
  have hM1 : q_M I1 A := hM.keep (fun a ha => a2 a (by omega))
  have hC1 : q_C I1 P s d pl A := hC.keep a2 (fun a z => by omega)
  have ey : (r_y y = -nI 4) ↔ y = 999 := by
    unfold r_y
    by_cases h : y = 999
    · rw [if_pos h]; exact ⟨fun _ => h, fun _ => rfl⟩
    · rw [if_neg h]
      have := ht.1
      have ne := p_A.2.2.2.2.1 y (by omega)
      rw [ne]
      exact ⟨fun z => z.elim, fun z => absurd z h⟩
  by_cases hyes : y = 999 ∧ r_can D
  · obtain ⟨hy, hcan⟩ := hyes
    have hok := e3 hy
    have h8 := hok.1
    obtain ⟨I2, b1, b2, b3, b4, b5, b6⟩ := (r_clay hP hs hC.2.1.2.1 hd a1 hok (fun _ => a3 hy)).1 ⟨ey.mpr hy, hcan⟩
    have hP' := r_F0p hP d s
    have mT : r_mT I2 A.2.2.2.2.2.2.1 A.2.2.2.2.2.2.2 := ⟨by rw [b2 57 (by omega)]; exact hM1.2.2.2.2.2.1, fun j hj => by rw [b2 58 (by omega)]; exact hM1.2.2.2.2.2.2 j hj⟩
    obtain ⟨I3, c1, c2, c3⟩ := r_mread hP' ht mT e1
    have mD := c3 hy
    obtain ⟨I4, d1, d2, d3, d4, d5, d6⟩ := r_mlays hP' mD hok
    have g1' : ∀ (I : Nat → Nat → Int32) (k : Nat → z_R), z_gP (p_m I (p_p (p_p P 0 1 d) 0 2 s)) 0 4 1 k = k d := fun I k => p_gP (by decide) (by decide) (by simp [p_p])
    have hdr := r_dr hP' hd
    have cD : r_cD I1 d D := a3 hy
    have m2 : I2 d 0 = nI D.1.1 := by rw [b2 d (by omega)]; exact cD.1.1
    have a : f_X4_lay 0 (p_m I P) = some (nI D.1.1, p_m I2 (p_p (p_p P 0 1 d) 0 2 s)) := by
      unfold f_X4_lay
      simp (disch := omega) only [p_C, b1, p_b, p_N, p_A, p_tf, if_false, g1', hdr, m2]
    have b : f_X5_lay 57 (p_m I2 (p_p (p_p P 0 1 d) 0 2 s)) = some (nI D.1.1, p_m I4 (p_p (p_p P 0 1 d) 0 2 s)) := by
      have l1 : f_X5_lay_L26 400 57 (nI 1) (nI 0) (p_m I3 (p_p (p_p P 0 1 d) 0 2 s)) = _ := (r_mla hP' mD hok hcan.1 400 0 (by omega) (by omega) (fun j hj => by omega)).1 hcan
      obtain ⟨F, hF⟩ : ∃ F : Nat, 400 = F := ⟨_, rfl⟩
      unfold f_X5_lay f_X5_lay_L22 f_X5_lay_L23
      rw [hF] at l1 ⊢
      have n0 : (D.1.1 ≤ 0) = False := eq_false (by have := hcan.1; omega)
      simp (disch := omega) only [p_C, c1, p_b, p_N, ey.mpr hy, if_true, p_Q hP', p_L, mD.1, p_A, n0, if_false, l1]
      unfold f_X5_lay_L70
      simp (disch := omega) only [p_N, p_A, p_tf, if_false, p_C, d1, p_b, p_Q hP', p_L, d5.1]
    obtain ⟨o1, o2⟩ := r_g0_in hok hcan
    -- all that changed between I1 and I4
    have hs24 : p_same (fun x => 57 ≤ x) I2 I4 := (c2.1.mono (fun x hx => by omega)).tr (d2.mono (fun x hx => by omega))
    have hs14 : p_same (fun x => 57 ≤ x ∨ x = 14 ∨ x = 15 ∨ x = 16 ∨ x = 20 ∨ x = 46) I1 I4 := (b2.mono (fun x hx => Or.inr hx)).tr (hs24.mono (fun x hx => Or.inl hx))
    obtain ⟨-, ⟨p2, p3, p4⟩, -, -, p7, p8, p9, p10⟩ := hC1
    obtain ⟨-, -, m3, -, -, m6, m7⟩ := hM1
    have pk : ∀ a j, a ≠ 0 → p_p (p_p P 0 1 d) 0 2 s a j = P a j := fun a j ha => by
      unfold p_p
      rw [if_neg (by omega), if_neg (by omega)]
    have i57 : ∀ j, j ≠ 6 → j ≠ 8 → j ≠ 9 → I4 57 j = I1 57 j := fun j h6 h8 h9 => by rw [d3 j h6 h8, c2.2 j h9, b2 57 (by omega)]
    refine q_op (A' := (D.1, r_g0 D, 0, A.2.2.2.1, 0, A.2.2.2.2.2.1, A.2.2.2.2.2.2.1, A.2.2.2.2.2.2.2)) (s1 := d) (d1 := s) (pl1 := pl) a b ⟨o1, o2, fun j hj => absurd hj (Nat.not_lt_zero j), fun j hj => absurd hj (Nat.not_lt_zero j), ht⟩ ⟨hP', ⟨⟨hd, by simp [p_p]⟩, by simp [p_p], by omega⟩, ?_, ?_, ⟨?_, Nat.zero_le _, fun j hj => ?_, p7.2.2.2.1, fun j hj => absurd hj (Nat.not_lt_zero j)⟩, ⟨?_, Nat.zero_le _, ?_, ?_, fun j hj => absurd hj (Nat.not_lt_zero j)⟩, ?_, fun j hj => ?_⟩ ⟨d5, d6, ?_, ⟨d4.1, Nat.zero_le _, fun j hj => absurd hj (Nat.not_lt_zero j)⟩, ⟨d4.2, Nat.zero_le _, fun j hj => absurd hj (Nat.not_lt_zero j)⟩, ?_, fun j hj => ?_⟩
    · exact cD.1.keep hs14 (by omega) (by omega) (by omega) (by omega)
    · exact b6.keep hs24 (by omega) (by omega) (by omega)
    · rw [hs24 20 (by omega)]; exact b4
    · rw [pk 21 j (by omega)]; exact p7.2.2.1 j hj
    · rw [hs24 46 (by omega)]; exact b5
    · rw [pk 47 0 (by omega)]; exact p8.2.2.1
    · rw [pk 47 1 (by omega)]; exact p8.2.2.2.1
    · rw [hs14 1 (by omega)]; exact p9
    · rw [hs14 2 (by omega)]; exact p10 j hj
    · rw [i57 10 (by omega) (by omega) (by omega)]; exact m3
    · rw [i57 1 (by omega) (by omega) (by omega)]; exact m6
    · rw [d2 58 (by omega), c2.1 58 (by omega), b2 58 (by omega)]; exact m7 j hj
  · have mT : r_mT I1 A.2.2.2.2.2.2.1 A.2.2.2.2.2.2.2 := ⟨hM1.2.2.2.2.2.1, hM1.2.2.2.2.2.2⟩
    obtain ⟨I2, c1, c2, c3⟩ := r_mread hP ht mT e1
    have a : f_X4_lay 0 (p_m I P) = some (-nI 2, p_m I1 P) := by
      have b1 : f_X4_layScript 0 (p_m I P) = some (nI 0, p_m I1 P) := by
        by_cases hy : y = 999
        · exact (r_clay hP hs hC.2.1.2.1 hd a1 (e3 hy) (fun _ => a3 hy)).2 (fun z => hyes ⟨hy, z.2⟩)
        · exact (r_clay hP hs hC.2.1.2.1 hd a1 r_D0_ok (fun z => absurd (ey.mp z) hy)).2 (fun z => hy (ey.mp z.1))
      unfold f_X4_lay
      simp (disch := omega) only [p_C, b1, p_b, p_N, if_true]
    have b : f_X5_lay 57 (p_m I1 P) = some (-nI 2, p_m I2 P) := by
      by_cases hy : y = 999
      · have hok := e3 hy
        have h8 := hok.1
        have mD := c3 hy
        obtain ⟨F, hF⟩ : ∃ F : Nat, 400 = F + 1 := ⟨399, rfl⟩
        have l0 := r_mla0 (f := F) (i := 0) hP mD.1 hok (by omega)
        unfold f_X5_lay f_X5_lay_L22 f_X5_lay_L23
        rw [hF]
        simp (disch := omega) only [p_C, c1, p_b, p_N, ey.mpr hy, if_true, p_Q hP, p_L, mD.1, p_A]
        by_cases h0 : D.1.1 ≤ 0
        · rw [if_pos h0]; exact l0
        · rw [if_neg h0]
          exact (r_mla hP mD hok (by omega) (F + 1) 0 (by omega) (by omega) (fun j hj => by omega)).2 (fun z => hyes ⟨hy, z⟩)
      · obtain ⟨F, hF⟩ : ∃ F : Nat, 400 = F + 1 := ⟨399, rfl⟩
        have ne : (r_y y = -nI 4) = False := eq_false (fun z => hy (ey.mp z))
        unfold f_X5_lay f_X5_lay_L22 f_X5_lay_L23
        rw [hF]
        simp (disch := omega) only [p_C, c1, p_b, p_N, ne, if_false]
        rw [f_X5_lay_L26]
        unfold f_X5_lay_L70
        simp (disch := omega) only [p_N, p_Q hP, p_L, if_true]
        split <;> rfl
    exact q_op a b hO (hC1.keep c2.1 (fun a z => Or.inl (by omega))) (hM1.keepM c2.m)
end
