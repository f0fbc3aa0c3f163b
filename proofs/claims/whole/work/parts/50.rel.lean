/-! THE RELATION -/
/-- squad, standing, how many can be undone and what, how many are kept and what, the text -/
abbrev q_S : Type := q_Q × q_G × Nat × (Nat → q_G) × Nat × (Nat → q_G) × Nat × (Nat → Nat)
def g_in (n : Nat) (g : q_G) : Prop := g_ok n g ∧ g.2.2.2.1 ≤ 999
def q_O (A : q_S) : Prop := q_ok A.1 ∧ g_in A.1.1 A.2.1 ∧ (∀ j, j < A.2.2.1 → g_in A.1.1 (A.2.2.2.1 j)) ∧ (∀ j, j < A.2.2.2.2.1 → g_in A.1.1 (A.2.2.2.2.2.1 j)) ∧ A.2.2.2.2.2.2.1 ≤ 200 ∧ ∀ j, j < A.2.2.2.2.2.2.1 → 32 ≤ A.2.2.2.2.2.2.2 j ∧ A.2.2.2.2.2.2.2 j ≤ 126
def q_C (I : Nat → Nat → Int32) (P : Nat → Nat → Option Nat) (s d : Nat) (pl : Nat → Nat) (A : q_S) : Prop := p_F0 P ∧ (c_sq P s ∧ P 0 2 = some d ∧ ((s = 4 ∧ d = 9) ∨ (s = 9 ∧ d = 4))) ∧ c_Q I s A.1 ∧ c_G I 14 A.1.1 A.2.1 ∧ c_U I P A.1.1 pl A.2.2.1 A.2.2.2.1 ∧ c_Kp I P A.1.1 A.2.2.2.2.1 A.2.2.2.2.2.1 ∧ I 1 1 = nI A.2.2.2.2.2.2.1 ∧ ∀ j, j < A.2.2.2.2.2.2.1 → I 2 j = nI (A.2.2.2.2.2.2.2 j)
def q_M (I : Nat → Nat → Int32) (A : q_S) : Prop := m_Q I A.1 ∧ m_G I 61 0 A.1.1 A.2.1 ∧ I 57 10 = -nI 1 ∧ m_U I A.1.1 A.2.2.1 A.2.2.2.1 ∧ m_Kp I A.1.1 A.2.2.2.2.1 A.2.2.2.2.2.1 ∧ I 57 1 = nI A.2.2.2.2.2.2.1 ∧ ∀ j, j < A.2.2.2.2.2.2.1 → I 58 j = nI (A.2.2.2.2.2.2.2 j)
def q_Rel (m : z_M) : Prop := ∃ I P s d pl A, m = p_m I P ∧ q_O A ∧ q_C I P s d pl A ∧ q_M I A
section
variable {I I' : Nat → Nat → Int32} {P : Nat → Nat → Option Nat} {s d : Nat} {pl : Nat → Nat} {A : q_S} {S : Nat → Prop}
theorem c_U.keep {n k : Nat} {past : Nat → q_G} (h : c_U I P n pl k past) (hs : p_same S I I') (hS : ∀ a, S a → ¬ (20 ≤ a ∧ a ≤ 45)) : c_U I' P n pl k past := by
  obtain ⟨u1, u2, u3, u4, u5⟩ := h
  refine ⟨by rw [hs 20 (fun z => hS _ z (by omega))]; exact u1, u2, u3, u4, fun j hj => ?_⟩
  have hp := (u3 j (by omega)).2
  unfold q_pool at hp
  exact (u5 j hj).keep hs (fun z => hS _ z (by omega)) (fun z => hS _ z (by omega)) (fun z => hS _ z (by omega))
theorem c_Kp.keep {n k : Nat} {img : Nat → q_G} (h : c_Kp I P n k img) (hs : p_same S I I') (hS : ∀ a, S a → ¬ (46 ≤ a ∧ a ≤ 53)) : c_Kp I' P n k img := by
  obtain ⟨u1, u2, u3, u4, u5⟩ := h
  exact ⟨by rw [hs 46 (fun z => hS _ z (by omega))]; exact u1, u2, u3, u4, fun j hj => (u5 j hj).keep hs (fun z => hS _ z (by omega)) (fun z => hS _ z (by omega)) (fun z => hS _ z (by omega))⟩
theorem m_U.keep {n k : Nat} {past : Nat → q_G} (h : m_U I n k past) (h6 : I' 57 6 = I 57 6) (h62 : I' 62 = I 62) : m_U I' n k past := by
  obtain ⟨u1, u2, u3⟩ := h
  refine ⟨by rw [h6]; exact u1, u2, fun j hj => ?_⟩
  have := u3 j hj
  unfold m_G at this ⊢
  rw [h62]
  exact this
theorem m_Kp.keep {n k : Nat} {img : Nat → q_G} (h : m_Kp I n k img) (h8 : I' 57 8 = I 57 8) (h63 : I' 63 = I 63) : m_Kp I' n k img := by
  obtain ⟨u1, u2, u3⟩ := h
  refine ⟨by rw [h8]; exact u1, u2, fun j hj => ?_⟩
  have := u3 j hj
  unfold m_G at this ⊢
  rw [h63]
  exact this
theorem q_C.keep (h : q_C I P s d pl A) (hs : p_same S I I') (hS : ∀ a, S a → 57 ≤ a ∨ q_scr a ∨ a = 3 ∨ (d ≤ a ∧ a ≤ d + 4)) : q_C I' P s d pl A := by
  obtain ⟨h1, ⟨h2, h3, h4⟩, h5, h6, h7, h8, h9, h10⟩ := h
  have no : ∀ a, a < 57 → ¬ q_scr a → a ≠ 3 → ¬ (d ≤ a ∧ a ≤ d + 4) → ¬ S a := fun a b1 b2 b3 b4 z => by
    rcases hS a z with z | z | z | z
    · omega
    · exact b2 z
    · exact b3 z
    · exact b4 z
  refine ⟨h1, ⟨h2, h3, h4⟩, ?_, ?_, ?_, ?_, ?_, ?_⟩
  · rcases h4 with ⟨rfl, rfl⟩ | ⟨rfl, rfl⟩
    · exact h5.keep hs (no _ (by omega) (by unfold q_scr; omega) (by omega) (by omega)) (no _ (by omega) (by unfold q_scr; omega) (by omega) (by omega)) (no _ (by omega) (by unfold q_scr; omega) (by omega) (by omega)) (no _ (by omega) (by unfold q_scr; omega) (by omega) (by omega))
    · exact h5.keep hs (no _ (by omega) (by unfold q_scr; omega) (by omega) (by omega)) (no _ (by omega) (by unfold q_scr; omega) (by omega) (by omega)) (no _ (by omega) (by unfold q_scr; omega) (by omega) (by omega)) (no _ (by omega) (by unfold q_scr; omega) (by omega) (by omega))
  · exact h6.keep hs (no _ (by omega) (by unfold q_scr; omega) (by omega) (by omega)) (no _ (by omega) (by unfold q_scr; omega) (by omega) (by omega)) (no _ (by omega) (by unfold q_scr; omega) (by omega) (by omega))
  · exact h7.keep hs (fun a z => by have := hS a z; unfold q_scr at this; omega)
  · exact h8.keep hs (fun a z => by have := hS a z; unfold q_scr at this; omega)
  · rw [hs 1 (no _ (by omega) (by unfold q_scr; omega) (by omega) (by omega))]; exact h9
  · rw [hs 2 (no _ (by omega) (by unfold q_scr; omega) (by omega) (by omega))]; exact h10
theorem q_M.keep (h : q_M I A) (hs : ∀ a, 57 ≤ a → I' a = I a) : q_M I' A := by
  obtain ⟨h1, h2, h3, h4, h5, h6, h7⟩ := h
  have hsm : p_same (fun a => a < 57) I I' := fun a ha => hs a (by omega)
  exact ⟨h1.keep hsm (by omega), h2.keep hsm (by omega), by rw [hs 57 (by omega)]; exact h3, h4.keep (by rw [hs 57 (by omega)]) (hs 62 (by omega)), h5.keep (by rw [hs 57 (by omega)]) (hs 63 (by omega)), by rw [hs 57 (by omega)]; exact h6, by rw [hs 58 (by omega)]; exact h7⟩
theorem q_M.keepM (h : q_M I A) (hk : m_keep I I') : q_M I' A := by
  obtain ⟨h1, h2, h3, h4, h5, h6, h7⟩ := h
  have hsm : p_same (fun a => a = 57 ∨ a = 60 ∨ a = 64) I I' := fun a ha => hk.1 a (by omega) (by omega) (by omega)
  exact ⟨h1.keep hsm (by omega), h2.keep hsm (by omega), by rw [hk.2 10 (by omega) (by omega) (by omega)]; exact h3, h4.keep (hk.2 6 (by omega) (by omega) (by omega)) (hk.1 62 (by omega) (by omega) (by omega)), h5.keep (hk.2 8 (by omega) (by omega) (by omega)) (hk.1 63 (by omega) (by omega) (by omega)), by rw [hk.2 1 (by omega) (by omega) (by omega)]; exact h6, by rw [hk.1 58 (by omega) (by omega) (by omega)]; exact h7⟩
theorem q_C.b (h : q_C I P s d pl A) (hO : q_O A) : c_B I P s A.1 A.2.1 := ⟨h.1, h.2.1.1, hO.1, hO.2.1.1, h.2.2.1, h.2.2.2.1⟩
theorem q_M.b (h : q_M I A) (hP : p_F0 P) (hO : q_O A) : m_B I P A.1 A.2.1 := ⟨hP, hO.1, hO.2.1.1, h.1, h.2.1, h.2.2.1⟩
theorem q_bound (I : Nat → Nat → Int32) (P : Nat → Nat → Option Nat) : 57 < (p_m I P).1 ∧ (p_m I P).1 ≤ 600000 ∧ (p_m I P).2.1 ≤ 7302250 := by
  show 57 < 65 ∧ 65 ≤ 600000 ∧ p_z ≤ 7302250
  unfold p_z
  omega
/-- both calls, and what holds behind them -/
theorem q_op {oC : z_R} {fM : z_M → z_R} {r : Int32} {I1 I2 : Nat → Nat → Int32} {P1 : Nat → Nat → Option Nat} {s1 d1 : Nat} {pl1 : Nat → Nat} {A' : q_S} (h1 : oC = some (r, p_m I1 P1)) (h2 : fM (p_m I1 P1) = some (r, p_m I2 P1)) (hO : q_O A') (hC : q_C I2 P1 s1 d1 pl1 A') (hM : q_M I2 A') :
    ∃ (r : Int32) (m1 m2 : z_M), oC = some (r, m1) ∧ fM m1 = some (r, m2) ∧ (57 < m1.1 ∧ m1.1 ≤ 600000 ∧ m1.2.1 ≤ 7302250) ∧ q_Rel m2 := ⟨r, _, _, h1, h2, q_bound _ _, _, _, _, _, _, _, rfl, hO, hC, hM⟩
/-- a question: nothing changes but what is scratch -/
theorem q_ask {oC : z_R} {fM : z_M → z_R} {r : Int32} {I1 I2 : Nat → Nat → Int32} (hO : q_O A) (hC : q_C I P s d pl A) (hM : q_M I A) (h1 : oC = some (r, p_m I1 P)) (hs : p_same q_scr I I1) (h2 : fM (p_m I1 P) = some (r, p_m I2 P)) (hk : m_keep I1 I2) :
    ∃ (r : Int32) (m1 m2 : z_M), oC = some (r, m1) ∧ fM m1 = some (r, m2) ∧ (57 < m1.1 ∧ m1.1 ≤ 600000 ∧ m1.2.1 ≤ 7302250) ∧ q_Rel m2 := by
  have hC1 := hC.keep hs (fun a z => Or.inr (Or.inl z))
  have hM1 : q_M I1 A := hM.keep (fun a ha => hs a (by unfold q_scr; omega))
  refine q_op h1 h2 hO (hC1.keep (S := fun a => 57 ≤ a) (fun a ha => hk.1 a (by omega) (by omega) (by omega)) (fun a z => Or.inl z)) (hM1.keepM hk)
end
section
variable {I : Nat → Nat → Int32} {P : Nat → Nat → Option Nat} {s d : Nat} {pl : Nat → Nat} {A : q_S}
theorem o_count (hO : q_O A) (hC : q_C I P s d pl A) (hM : q_M I A) (v : Int32) : ∃ (r : Int32) (m1 m2 : z_M), f_X4_count 0 v (p_m I P) = some (r, m1) ∧ f_X5_count 57 v m1 = some (r, m2) ∧ (57 < m1.1 ∧ m1.1 ≤ 600000 ∧ m1.2.1 ≤ 7302250) ∧ q_Rel m2 := by
  have hx := (hC.b hO).x
  have hy := (hM.b hC.1 hO).x
  obtain ⟨-, ⟨hs, -⟩, -, -, hu, hk, ht, -⟩ := id hC
  obtain ⟨-, -, -, mu, mk, mt, -⟩ := id hM
  have e1 : ∃ r, f_X4_count 0 v (p_m I P) = some (r, p_m I P) ∧ f_X5_count 57 v (p_m I P) = some (r, p_m I P) := by
    unfold f_X4_count f_X5_count
    simp (disch := omega) only [p_Q hC.1, p_G, p_L, c_sq1 hs, c_sqI hs, p_N, hx, hy, hu.1, hk.1, ht, mu.1, mk.1, mt]
    simp only [p_b1]
    exact ⟨_, rfl, rfl⟩
  obtain ⟨r, a, b⟩ := e1
  exact q_ask hO hC hM a p_same.rf b m_keep.rf
theorem o_man (hO : q_O A) (hC : q_C I P s d pl A) (hM : q_M I A) (v w : Int32) : ∃ (r : Int32) (m1 m2 : z_M), f_X4_man 0 v w (p_m I P) = some (r, m1) ∧ f_X5_man 57 v w m1 = some (r, m2) ∧ (57 < m1.1 ∧ m1.1 ≤ 600000 ∧ m1.2.1 ≤ 7302250) ∧ q_Rel m2 := by
  have hB := hC.b hO
  have mB := hM.b hC.1 hO
  have hx := hB.x
  have hy := mB.x
  have h8 := hO.1.2.1
  have h1 := hO.1.1
  obtain ⟨-, ⟨hs, -⟩, -, hG, hu, hk, ht, -⟩ := id hC
  have hst := c_st (t := 14) hC.1 (Or.inl rfl)
  by_cases hv : q_is v A.1.1
  · obtain ⟨i, hi, rfl⟩ := q_is_nI hv (by omega)
    have hl : ∀ (I : Nat → Nat → Int32) (i : Nat) (k : Int32 → z_R), i < 8 → z_al (p_m I P) 16 (nI i) k = k (I 16 i) := fun I i k hi => p_al (by decide) (by decide) hi
    have e1 : ∃ r, f_X4_man 0 (nI i) w (p_m I P) = some (r, p_m I P) ∧ f_X5_man 57 (nI i) w (p_m I P) = some (r, p_m I P) := by
      unfold f_X4_man f_X5_man
      simp (disch := omega) only [p_C, c_man1 hs hx.1.1 h8 hi, m_man1 hC.1 hy.1.1 h8 hi, p_b, p_Q hC.1, p_G, p_L, c_sq1 hs, c_sqI hs, c_sqP hs hC.1, c_sqA hs, p_N, p_A, hx, hy, c_due (Or.inl rfl) hB.k hG hO.2.1.1 hi, m_due mB hi]
      simp only [Nat.one_ne_zero, if_false, p_b1]
      exact ⟨_, rfl, rfl⟩
    obtain ⟨r, a, b⟩ := e1
    exact q_ask hO hC hM a p_same.rf b m_keep.rf
  · have a : f_X4_man 0 v w (p_m I P) = some (-nI 1, p_m I P) := by
      unfold f_X4_man
      simp (disch := omega) only [p_C, c_man0 hs hx.1.1 h8 hv, p_b, p_N, if_true]
    have b : f_X5_man 57 v w (p_m I P) = some (-nI 1, p_m I P) := by
      unfold f_X5_man
      simp (disch := omega) only [p_C, m_man0 hC.1 hy.1.1 h1 h8 hv, p_b, p_N, if_true]
    exact q_ask hO hC hM a p_same.rf b m_keep.rf
theorem o_wipe (hO : q_O A) (hC : q_C I P s d pl A) (hM : q_M I A) : ∃ (r : Int32) (m1 m2 : z_M), f_X4_wipe 0 (p_m I P) = some (r, m1) ∧ f_X5_wipe 57 m1 = some (r, m2) ∧ (57 < m1.1 ∧ m1.1 ≤ 600000 ∧ m1.2.1 ≤ 7302250) ∧ q_Rel m2 := by
  obtain ⟨q, g, k, past, kk, img, len, tx⟩ := A
  obtain ⟨h1, h2, h3, h4, h5, h6, h7, h8⟩ := id hC
  obtain ⟨g1, g2, g3, g4, g5, g6, g7⟩ := id hM
  have a : f_X4_wipe 0 (p_m I P) = some (nI len, p_m (p_w I 1 1 (nI 0)) P) := by
    unfold f_X4_wipe f_X1_clear
    simp (disch := omega) only [p_Q h1, p_G, p_F, p_C, p_b, h7, p_N]
  have b : f_X5_wipe 57 (p_m (p_w I 1 1 (nI 0)) P) = some (nI len, p_m (p_w (p_w I 1 1 (nI 0)) 57 1 (nI 0)) P) := by
    unfold f_X5_wipe
    simp (disch := omega) only [p_G, p_F, p_w_ne, g6, p_N]
  have hs : p_same (fun a => a = 1 ∨ a = 57) I (p_w (p_w I 1 1 (nI 0)) 57 1 (nI 0)) := (p_same.rf.w (Or.inl rfl)).w (Or.inr rfl)
  refine q_op (A' := (q, g, k, past, kk, img, 0, tx)) a b ⟨hO.1, hO.2.1, hO.2.2.1, hO.2.2.2.1, by show 0 ≤ 200; omega, fun j hj => absurd hj (Nat.not_lt_zero j)⟩ ⟨h1, h2, ?_, ?_, h5.keep hs (by omega), h6.keep hs (by omega), ?_, fun j hj => absurd hj (Nat.not_lt_zero j)⟩ ⟨g1.keep hs (by omega), g2.keep hs (by omega), ?_, g4.keep ?_ ?_, g5.keep ?_ ?_, ?_, fun j hj => absurd hj (Nat.not_lt_zero j)⟩
  · rcases h2.2.2 with ⟨rfl, -⟩ | ⟨rfl, -⟩
    · exact h3.keep hs (by omega) (by omega) (by omega) (by omega)
    · exact h3.keep hs (by omega) (by omega) (by omega) (by omega)
  · exact h4.keep hs (by omega) (by omega) (by omega)
  · rw [p_w_ne (Or.inl (by omega)), p_w_eq]
  · rw [p_w_ne (Or.inr (by omega)), p_w_ne (Or.inl (by omega))]; exact g3
  · rw [p_w_ne (Or.inr (by omega)), p_w_ne (Or.inl (by omega))]
  · exact hs 62 (by omega)
  · rw [p_w_ne (Or.inr (by omega)), p_w_ne (Or.inl (by omega))]
  · exact hs 63 (by omega)
  · rw [p_w_eq]
theorem p_chr : ∀ v, v < 127 → ((nI v).toUInt32 % 65536).toInt32 = nI v ∧ vp_nar .char (nI v) = nI v := by decide +kernel
theorem o_write (hO : q_O A) (hC : q_C I P s d pl A) (hM : q_M I A) (v : Int32) : ∃ (r : Int32) (m1 m2 : z_M), f_X4_write 0 v (p_m I P) = some (r, m1) ∧ f_X5_write 57 v m1 = some (r, m2) ∧ (57 < m1.1 ∧ m1.1 ≤ 600000 ∧ m1.2.1 ≤ 7302250) ∧ q_Rel m2 := by
  obtain ⟨q, g, k, past, kk, img, len, tx⟩ := A
  obtain ⟨h1, h2, h3, h4, h5, h6, h7, h8⟩ := id hC
  obtain ⟨g1, g2, g3, g4, g5, g6, g7⟩ := id hM
  have hlen : len ≤ 200 := hO.2.2.2.2.1
  have hln : ∀ (I : Nat → Nat → Int32) (P : Nat → Nat → Option Nat) (k : Int32 → z_R), z_ln (p_m I P) 2 k = k (nI 200) := fun I P k => p_ln (by decide) (by decide)
  have hcs : ∀ (I : Nat → Nat → Int32) (P : Nat → Nat → Option Nat) (i : Nat) (v : Int32) (k : z_M → z_R), i < 200 → z_cs (p_m I P) 2 (nI i) v k = k (p_m (p_w I 2 i (vp_nar .char v)) P) := fun I P i v k hi => p_cs (by decide) (by decide) hi
  by_cases hv : 32 ≤ v.toInt ∧ v.toInt ≤ 126
  · obtain ⟨c, hc, rfl⟩ := q_is_nI (v := v) (n := 127) (by omega) (by omega)
    have hc32 : 32 ≤ c := by rw [nI_toInt (by omega)] at hv; omega
    obtain ⟨e1, e2⟩ := p_chr c hc
    by_cases hl : len < 200
    · have a : f_X4_write 0 (nI c) (p_m I P) = some (nI (len + 1), p_m (p_w (p_w I 2 len (nI c)) 1 1 (nI (len + 1))) P) := by
        unfold f_X4_write f_X1_add z_lt
        rw [e1]
        simp (disch := omega) only [p_Q h1, p_G, p_F, p_C, hln, hcs, p_b, h7, p_N, p_A, e2, p_w_ne, p_w_eq]
        rw [if_neg (by omega), if_pos (by omega), if_pos hl]
        simp (disch := omega) only [p_b, p_Q h1, p_G, p_w_eq, p_A]
        rw [if_neg (by omega)]
      generalize hI1 : p_w (p_w I 2 len (nI c)) 1 1 (nI (len + 1)) = I1 at a
      have hs1 : p_same (fun a => a = 1 ∨ a = 2) I I1 := by rw [← hI1]; exact (p_same.rf.w (Or.inr rfl)).w (Or.inl rfl)
      have i57 : I1 57 = I 57 := hs1 57 (by omega)
      have b : f_X5_write 57 (nI c) (p_m I1 P) = some (nI (len + 1), p_m (p_w (p_w I1 58 len (nI c)) 57 1 (nI (len + 1))) P) := by
        unfold f_X5_write z_lt
        simp (disch := omega) only [p_Q h1, p_G, p_F, p_S, m_in1, p_b, i57, g6, p_N, p_A, p_w_ne, p_w_eq]
        rw [if_neg (by omega), if_neg (by omega)]
      have hs : p_same (fun a => a = 1 ∨ a = 2 ∨ a = 57 ∨ a = 58) I (p_w (p_w I1 58 len (nI c)) 57 1 (nI (len + 1))) := ((hs1.mono (fun a ha => by omega)).w (by omega)).w (by omega)
      have h57 : ∀ x, x ≠ 1 → p_w (p_w I1 58 len (nI c)) 57 1 (nI (len + 1)) 57 x = I 57 x := fun x hx => by rw [p_w_ne (Or.inr hx), p_w_ne (Or.inl (by omega)), i57]
      refine q_op (A' := (q, g, k, past, kk, img, len + 1, fun j => if j = len then c else tx j)) a b ⟨hO.1, hO.2.1, hO.2.2.1, hO.2.2.2.1, by show len + 1 ≤ 200; omega, fun j hj => ?_⟩ ⟨h1, h2, ?_, ?_, h5.keep hs (by omega), h6.keep hs (by omega), ?_, fun j hj => ?_⟩ ⟨g1.keep hs (by omega), g2.keep hs (by omega), ?_, g4.keep (h57 6 (by omega)) (hs 62 (by omega)), g5.keep (h57 8 (by omega)) (hs 63 (by omega)), ?_, fun j hj => ?_⟩
      · show 32 ≤ (if j = len then c else tx j) ∧ (if j = len then c else tx j) ≤ 126
        have hj : j < len + 1 := hj
        split
        · omega
        · exact hO.2.2.2.2.2 j (by show j < len; omega)
      · rcases h2.2.2 with ⟨rfl, -⟩ | ⟨rfl, -⟩
        · exact h3.keep hs (by omega) (by omega) (by omega) (by omega)
        · exact h3.keep hs (by omega) (by omega) (by omega) (by omega)
      · exact h4.keep hs (by omega) (by omega) (by omega)
      · rw [p_w_ne (Or.inl (by omega)), p_w_ne (Or.inl (by omega)), ← hI1, p_w_eq]
      · have hj : j < len + 1 := hj
        show _ = nI (if j = len then c else tx j)
        rw [p_w_ne (Or.inl (by omega)), p_w_ne (Or.inl (by omega)), ← hI1, p_w_ne (Or.inl (by omega))]
        by_cases e : j = len
        · subst e; rw [p_w_eq, if_pos rfl]
        · rw [p_w_ne (Or.inr e), if_neg e]; exact h8 j (by show j < len; omega)
      · rw [h57 10 (by omega)]; exact g3
      · rw [p_w_eq]
      · have hj : j < len + 1 := hj
        show _ = nI (if j = len then c else tx j)
        rw [p_w_ne (Or.inl (by omega))]
        by_cases e : j = len
        · subst e; rw [p_w_eq, if_pos rfl]
        · rw [p_w_ne (Or.inr e), if_neg e, hs1 58 (by omega)]; exact g7 j (by show j < len; omega)
    · have hl2 : len = 200 := by omega
      subst hl2
      have a : f_X4_write 0 (nI c) (p_m I P) = some (-nI 3, p_m I P) := by
        unfold f_X4_write f_X1_add z_lt
        rw [e1]
        simp (disch := omega) only [p_Q h1, p_G, p_F, p_C, hln, p_b, h7, p_N, p_A]
        rw [if_neg (by omega), if_pos (by omega), if_neg (by omega)]
        simp (disch := omega) only [p_b, if_true]
      have b : f_X5_write 57 (nI c) (p_m I P) = some (-nI 3, p_m I P) := by
        unfold f_X5_write z_lt
        simp (disch := omega) only [p_Q h1, p_G, m_in1, p_b, g6, p_N, p_A]
        rw [if_neg (by omega), if_pos trivial]
      exact q_ask hO hC hM a p_same.rf b m_keep.rf
  · have a : f_X4_write 0 v (p_m I P) = some (-nI 1, p_m I P) := by
      unfold f_X4_write
      simp only [p_N]
      by_cases h : v < nI 32
      · rw [if_pos h]
      · rw [if_neg h, if_neg]
        rw [Int32.lt_iff_toInt_lt, nI_toInt (by omega)] at h
        rw [Int32.le_iff_toInt_le, nI_toInt (by omega)]
        omega
    have b : f_X5_write 57 v (p_m I P) = some (-nI 1, p_m I P) := by
      unfold f_X5_write
      have h0 := m_in0 (v := v) (lo := 32) (hi := 126) (p_m I P) (by unfold q_is; omega) (by omega) (by omega)
      simp (disch := omega) only [p_N, h0, p_b, if_true]
    exact q_ask hO hC hM a p_same.rf b m_keep.rf
end
