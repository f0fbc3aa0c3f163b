/-! WORDS, EYES, LOOKS, UNDONE, KEPT -/
abbrev q_psh (A : q_S) : q_S := (A.1, A.2.1, q_pk A.2.2.1, q_push A.2.2.2.1 A.2.2.1 A.2.1, A.2.2.2.2)
section
variable {I I' : Nat → Nat → Int32} {P : Nat → Nat → Option Nat} {s d : Nat} {pl : Nat → Nat} {A : q_S}
theorem q_psh_O (h : q_O A) (hk : A.2.2.1 ≤ 8) : q_O (q_psh A) := by
  obtain ⟨h1, h2, h3, h4, h5⟩ := h
  refine ⟨h1, h2, fun j hj => ?_, h4, h5⟩
  show g_in A.1.1 (q_push A.2.2.2.1 A.2.2.1 A.2.1 j)
  have hj : j < q_pk A.2.2.1 := hj
  unfold q_push
  unfold q_pk at hj
  by_cases hc : A.2.2.1 < 8
  · rw [if_pos hc] at hj ⊢
    split
    · exact h2
    · exact h3 j (by omega)
  · rw [if_neg hc] at hj ⊢
    split
    · exact h2
    · exact h3 (j + 1) (by omega)
theorem q_C.g (h : q_C I P s d pl A) {g' : q_G} (hs : p_same (fun a => a = 14 ∨ a = 15 ∨ a = 16) I I') (hG : c_G I' 14 A.1.1 g') : q_C I' P s d pl (A.1, g', A.2.2) := by
  obtain ⟨h1, h2, h3, h4, h5, h6, h7, h8⟩ := h
  refine ⟨h1, h2, ?_, hG, h5.keep hs (by omega), h6.keep hs (by omega), by rw [hs 1 (by omega)]; exact h7, by rw [hs 2 (by omega)]; exact h8⟩
  rcases h2.2.2 with ⟨rfl, -⟩ | ⟨rfl, -⟩
  · exact h3.keep hs (by omega) (by omega) (by omega) (by omega)
  · exact h3.keep hs (by omega) (by omega) (by omega) (by omega)
theorem q_M.g (h : q_M I A) {g' : q_G} (hs : p_same (fun a => a = 61) I I') (hG : m_G I' 61 0 A.1.1 g') : q_M I' (A.1, g', A.2.2) := by
  obtain ⟨h1, h2, h3, h4, h5, h6, h7⟩ := h
  exact ⟨h1.keep hs (by omega), hG, by rw [hs 57 (by omega)]; exact h3, h4.keep (by rw [hs 57 (by omega)]) (hs 62 (by omega)), h5.keep (by rw [hs 57 (by omega)]) (hs 63 (by omega)), by rw [hs 57 (by omega)]; exact h6, by rw [hs 58 (by omega)]; exact h7⟩
theorem q_C.a57 (h : q_C I P s d pl A) (hs : ∀ a, a < 57 → I' a = I a) : q_C I' P s d pl A := h.keep (S := fun a => 57 ≤ a) (fun a ha => hs a (by omega)) (fun a z => Or.inl z)
theorem c_push (hO : q_O A) (h : q_C I P s d pl A) : ∃ I1 P1 pl1, f_X0_put 20 14 (p_m I P) = some (nI 0, p_m I1 P1) ∧ q_C I1 P1 s d pl1 (q_psh A) ∧ (∀ a, 57 ≤ a → I1 a = I a) ∧ p_F0 P1 := by
  obtain ⟨h1, h2, h3, h4, h5, h6, h7, h8⟩ := h
  obtain ⟨I1, P1, pl1, a1, a2, a3, a4⟩ := c_put h1 h5 h4 hO.1.2.1
  have hF := p_F0.keep h1 a3
  refine ⟨I1, P1, pl1, a1, ⟨hF, ⟨⟨h2.1.1, by rw [a3 0 (by omega)]; exact h2.1.2⟩, by rw [a3 0 (by omega)]; exact h2.2.1, h2.2.2⟩, ?_, ?_, a4, ?_, ?_, ?_⟩, fun a ha => a2 a (by unfold q_und; omega), hF⟩
  · rcases h2.2.2 with ⟨rfl, -⟩ | ⟨rfl, -⟩
    · exact h3.keep a2 (by unfold q_und; omega) (by unfold q_und; omega) (by unfold q_und; omega) (by unfold q_und; omega)
    · exact h3.keep a2 (by unfold q_und; omega) (by unfold q_und; omega) (by unfold q_und; omega) (by unfold q_und; omega)
  · exact h4.keep a2 (by unfold q_und; omega) (by unfold q_und; omega) (by unfold q_und; omega)
  · have := h6.keep a2 (fun a z => by unfold q_und at z; omega)
    obtain ⟨b1, b2, b3, b4, b5⟩ := this
    exact ⟨b1, b2, by rw [a3 47 (by omega)]; exact b3, by rw [a3 47 (by omega)]; exact b4, b5⟩
  · rw [a2 1 (by unfold q_und; omega)]; exact h7
  · rw [a2 2 (by unfold q_und; omega)]; exact h8
theorem m_push (hP : p_F0 P) (hO : q_O A) (h : q_M I A) : ∃ I1, f_X5_keeps 57 (p_m I P) = some (nI 0, p_m I1 P) ∧ q_M I1 (q_psh A) ∧ (∀ a, a < 57 → I1 a = I a) := by
  obtain ⟨h1, h2, h3, h4, h5, h6, h7⟩ := h
  obtain ⟨I1, a1, a2, a3, a4⟩ := m_keeps hP hO.1.2.1 h4 h2
  exact ⟨I1, a1, ⟨h1.keep a2 (by omega), h2.keep a2 (by omega), by rw [a3 10 (by omega)]; exact h3, a4, h5.keep (a3 8 (by omega)) (a2 63 (by omega)), by rw [a3 1 (by omega)]; exact h6, by rw [a2 58 (by omega)]; exact h7⟩, fun a ha => a2 a (by omega)⟩
theorem o_eyes (hO : q_O A) (hC : q_C I P s d pl A) (hM : q_M I A) (v : Int32) : ∃ (r : Int32) (m1 m2 : z_M), f_X4_eyes 0 v (p_m I P) = some (r, m1) ∧ f_X5_eyes 57 v m1 = some (r, m2) ∧ (57 < m1.1 ∧ m1.1 ≤ 600000 ∧ m1.2.1 ≤ 7302250) ∧ q_Rel m2 := by
  by_cases hv : q_is v 2
  · obtain ⟨e, he, rfl⟩ := q_is_nI hv (by omega)
    obtain ⟨I1, P1, pl1, a1, a2, a3, a4⟩ := c_push hO hC
    have hM1 := hM.keep a3
    have hO1 := q_psh_O hO hC.2.2.2.2.1.2.1
    have hx := (a2.b hO1).x
    have a : f_X4_eyes 0 (nI e) (p_m I P) = some (nI A.2.1.2.2.1, p_m (p_w I1 14 2 (nI e)) P1) := by
      unfold f_X4_eyes
      simp (disch := omega) only [c_ei1, p_b, p_N, p_A, p_Q hC.1, p_C, a1, p_Q a4, p_G, p_F, hx]
      rw [if_neg (by omega)]
    have hC2 : q_C (p_w I1 14 2 (nI e)) P1 s d pl1 ((q_psh A).1, (A.2.1.1, A.2.1.2.1, e, A.2.1.2.2.2), (q_psh A).2.2) := by
      refine a2.g (p_same.rf.w (Or.inl rfl)) ?_
      obtain ⟨b, b1, b2, b3, b4, b5, b6⟩ := a2.2.2.2.1
      exact ⟨fun i hi => by rw [p_w_ne (Or.inl (by omega)), p_w_ne (Or.inl (by omega))]; exact b i hi, by rw [p_w_eq], by rw [p_w_ne (Or.inr (by omega))]; exact b2, by rw [p_w_ne (Or.inr (by omega))]; exact b3, by rw [p_w_ne (Or.inr (by omega))]; exact b4, by rw [p_w_ne (Or.inr (by omega))]; exact b5, by rw [p_w_ne (Or.inr (by omega))]; exact b6⟩
    have hM2 : q_M (p_w I1 14 2 (nI e)) A := hM1.keep (fun a ha => by funext k; rw [p_w_ne (Or.inl (by omega))])
    obtain ⟨I3, c1, c2, c3⟩ := m_push a4 hO hM2
    have hy := (c2.b a4 hO1).x
    have h8 := hO.1.2.1
    have b : f_X5_eyes 57 (nI e) (p_m (p_w I1 14 2 (nI e)) P1) = some (nI A.2.1.2.2.1, p_m (p_w I3 61 16 (nI e)) P1) := by
      unfold f_X5_eyes
      simp (disch := omega) only [m_ei1, p_b, p_N, p_A, p_C, c1, p_Q a4, p_L, p_S, hy]
      rw [if_neg (by omega)]
    refine q_op a b ?_ ((hC2.a57 c3).a57 (I' := p_w I3 61 16 (nI e)) (fun a ha => by funext k; rw [p_w_ne (Or.inl (by omega))])) ?_
    · obtain ⟨⟨g1, g2, g3⟩, g4⟩ := hO1.2.1
      exact ⟨hO1.1, ⟨⟨g1, by show e ≤ 1; omega, g3⟩, g4⟩, hO1.2.2⟩
    · refine c2.g (p_same.rf.o) ?_
      obtain ⟨b, b1, b2, b3, b4, b5, b6⟩ := c2.2.1
      exact ⟨fun i hi => by rw [p_w_ne (Or.inr (by have : i < A.1.1 := hi; omega)), p_w_ne (Or.inr (by have : i < A.1.1 := hi; omega))]; exact b i hi, by rw [Nat.zero_add, p_w_eq], by rw [p_w_ne (Or.inr (by omega))]; exact b2, by rw [p_w_ne (Or.inr (by omega))]; exact b3, by rw [p_w_ne (Or.inr (by omega))]; exact b4, by rw [p_w_ne (Or.inr (by omega))]; exact b5, by rw [p_w_ne (Or.inr (by omega))]; exact b6⟩
  · have a : f_X4_eyes 0 v (p_m I P) = some (-nI 1, p_m I P) := by
      unfold f_X4_eyes
      simp (disch := omega) only [c_ei0 _ hv, p_b, p_N, if_true]
    have b : f_X5_eyes 57 v (p_m I P) = some (-nI 1, p_m I P) := by
      unfold f_X5_eyes
      simp (disch := omega) only [p_N, m_ei0 _ hv, p_b, if_true]
    exact q_ask hO hC hM a p_same.rf b m_keep.rf
theorem o_look (hO : q_O A) (hC : q_C I P s d pl A) (hM : q_M I A) (v w : Int32) : ∃ (r : Int32) (m1 m2 : z_M), f_X4_look 0 v w (p_m I P) = some (r, m1) ∧ f_X5_look 57 v w m1 = some (r, m2) ∧ (57 < m1.1 ∧ m1.1 ≤ 600000 ∧ m1.2.1 ≤ 7302250) ∧ q_Rel m2 := by
  have h8 := hO.1.2.1
  have h1 := hO.1.1
  have hx0 := (hC.b hO).x
  have hs := hC.2.1.1
  have hy0 := (hM.b hC.1 hO).x
  by_cases hv : q_is v A.1.1
  · obtain ⟨i, hi, rfl⟩ := q_is_nI hv (by omega)
    by_cases hw : q_is w A.1.1
    · obtain ⟨e, he, rfl⟩ := q_is_nI hw (by omega)
      obtain ⟨I1, P1, pl1, a1, a2, a3, a4⟩ := c_push hO hC
      have hM1 := hM.keep a3
      have hO1 := q_psh_O hO hC.2.2.2.2.1.2.1
      have hx := (a2.b hO1).x
      have a : f_X4_look 0 (nI i) (nI e) (p_m I P) = some (nI (A.2.1.2.1 i), p_m (p_w I1 16 i (nI e)) P1) := by
        unfold f_X4_look
        simp (disch := omega) only [p_C, c_man1 hs hx0.1.1 h8 hi, c_man1 hs hx0.1.1 h8 he, p_b, p_N, p_A, p_Q hC.1, a1, p_Q a4, p_L, p_S, hx]
        rw [if_neg (by omega), if_neg (by omega)]
      have hC2 : q_C (p_w I1 16 i (nI e)) P1 s d pl1 ((q_psh A).1, (A.2.1.1, (fun j => if j = i then e else A.2.1.2.1 j), A.2.1.2.2), (q_psh A).2.2) := by
        refine a2.g (p_same.rf.w (Or.inr (Or.inr rfl))) ?_
        obtain ⟨b, b1⟩ := a2.2.2.2.1
        refine ⟨fun j hj => ⟨by rw [p_w_ne (Or.inl (by omega))]; exact (b j hj).1, ?_⟩, ?_⟩
        · show p_w I1 16 i (nI e) 16 j = nI (if j = i then e else A.2.1.2.1 j)
          by_cases h : j = i
          · subst h; rw [p_w_eq, if_pos rfl]
          · rw [p_w_ne (Or.inr h), if_neg h]; exact (b j hj).2
        · simp only [p_w_ne (I := I1) (a := 16) (b := 14) (Or.inl (by omega))]
          exact b1
      have hM2 : q_M (p_w I1 16 i (nI e)) A := hM1.keep (fun a ha => by funext k; rw [p_w_ne (Or.inl (by omega))])
      have hy2 := (hM2.b a4 hO).x
      obtain ⟨I3, c1, c2, c3⟩ := m_push a4 hO hM2
      have hy := (c2.b a4 hO1).x
      have b : f_X5_look 57 (nI i) (nI e) (p_m (p_w I1 16 i (nI e)) P1) = some (nI (A.2.1.2.1 i), p_m (p_w I3 61 (8 + i) (nI e)) P1) := by
        unfold f_X5_look
        simp (disch := omega) only [p_C, m_man1 a4 hy2.1.1 h8 hi, m_man1 a4 hy2.1.1 h8 he, p_b, p_N, p_A, c1, p_Q a4, p_L, p_S, hy]
        rw [if_neg (by omega), if_neg (by omega)]
      refine q_op a b ?_ ((hC2.a57 c3).a57 (I' := p_w I3 61 (8 + i) (nI e)) (fun a ha => by funext k; rw [p_w_ne (Or.inl (by omega))])) ?_
      · obtain ⟨⟨g1, g2⟩, g4⟩ := hO1.2.1
        refine ⟨hO1.1, ⟨⟨fun j hj => ⟨(g1 j hj).1, ?_⟩, g2⟩, g4⟩, hO1.2.2⟩
        show (if j = i then e else A.2.1.2.1 j) < A.1.1
        split
        · exact he
        · exact (g1 j hj).2
      · refine c2.g (p_same.rf.o) ?_
        obtain ⟨b, b1, b2, b3, b4, b5, b6⟩ := c2.2.1
        refine ⟨fun j hj => ⟨by rw [p_w_ne (Or.inr (by have : j < A.1.1 := hj; omega))]; exact (b j hj).1, ?_⟩, by rw [p_w_ne (Or.inr (by omega))]; exact b1, by rw [p_w_ne (Or.inr (by omega))]; exact b2, by rw [p_w_ne (Or.inr (by omega))]; exact b3, by rw [p_w_ne (Or.inr (by omega))]; exact b4, by rw [p_w_ne (Or.inr (by omega))]; exact b5, by rw [p_w_ne (Or.inr (by omega))]; exact b6⟩
        show p_w I3 61 (8 + i) (nI e) 61 (0 + (8 + j)) = nI (if j = i then e else A.2.1.2.1 j)
        by_cases h : j = i
        · subst h; rw [Nat.zero_add, p_w_eq, if_pos rfl]
        · rw [p_w_ne (Or.inr (by omega)), if_neg h]; exact (b j hj).2
    · have a : f_X4_look 0 (nI i) w (p_m I P) = some (-nI 1, p_m I P) := by
        unfold f_X4_look
        simp (disch := omega) only [p_C, c_man1 hs hx0.1.1 h8 hi, c_man0 hs hx0.1.1 h8 hw, p_b, p_N, p_A, if_true]
        rw [if_neg (by omega)]
      have b : f_X5_look 57 (nI i) w (p_m I P) = some (-nI 1, p_m I P) := by
        unfold f_X5_look
        simp (disch := omega) only [p_C, m_man1 hC.1 hy0.1.1 h8 hi, m_man0 hC.1 hy0.1.1 h1 h8 hw, p_b, p_N, p_A, if_true]
        rw [if_neg (by omega)]
      exact q_ask hO hC hM a p_same.rf b m_keep.rf
  · have a : f_X4_look 0 v w (p_m I P) = some (-nI 1, p_m I P) := by
      unfold f_X4_look
      simp (disch := omega) only [p_C, c_man0 hs hx0.1.1 h8 hv, p_b, p_N, if_true]
    have b : f_X5_look 57 v w (p_m I P) = some (-nI 1, p_m I P) := by
      unfold f_X5_look
      simp (disch := omega) only [p_C, m_man0 hC.1 hy0.1.1 h1 h8 hv, p_b, p_N, if_true]
    exact q_ask hO hC hM a p_same.rf b m_keep.rf
theorem o_word (hO : q_O A) (hC : q_C I P s d pl A) (hM : q_M I A) (v : Int32) : ∃ (r : Int32) (m1 m2 : z_M), f_X4_word 0 v (p_m I P) = some (r, m1) ∧ f_X5_word 57 v m1 = some (r, m2) ∧ (57 < m1.1 ∧ m1.1 ≤ 600000 ∧ m1.2.1 ≤ 7302250) ∧ q_Rel m2 := by
  have hx0 := (hC.b hO).x
  have hy0 := (hM.b hC.1 hO).x
  have hwd : A.2.1.2.2.2.1 ≤ 999 := hO.2.1.2
  by_cases hv : q_is v 3
  · obtain ⟨w, hw, rfl⟩ := q_is_nI hv (by omega)
    by_cases hl : A.2.1.2.2.2.1 < 999
    · obtain ⟨I1, P1, pl1, a1, a2, a3, a4⟩ := c_push hO hC
      have hO1 := q_psh_O hO hC.2.2.2.2.1.2.1
      have hB1 := a2.b hO1
      obtain ⟨I2, b1, b2, b3⟩ := c_leaders hB1
      have hs2 : p_same q_scr I1 I2 := b2.mono (fun a ha => by unfold q_scr; omega)
      have a2' := a2.keep hs2 (fun a z => Or.inr (Or.inl z))
      obtain ⟨I3, c1, c2, c3⟩ := c_say (t := 14) (Or.inl rfl) hw hO1.2.1.1 (a2'.b hO1).k b3 a2'.2.2.2.1
      have hC3 := a2'.g (g' := q_say A.1 A.2.1 w (q_er A.1 A.2.1.2.2.2.1)) (c2.mono (fun a ha => by omega)) c3
      have hgk : g_ok A.1.1 (q_say A.1 A.2.1 w (q_er A.1 A.2.1.2.2.2.1)) := q_say_ok hO.2.1.1 hw (by omega)
      have hO3 : q_O ((q_psh A).1, q_say A.1 A.2.1 w (q_er A.1 A.2.1.2.2.2.1), (q_psh A).2.2) := ⟨hO1.1, ⟨hgk, by show A.2.1.2.2.2.1 + 1 ≤ 999; omega⟩, hO1.2.2⟩
      have hwr := c_wrong (t := 14) (Or.inl rfl) (hC3.b hO3).k hC3.2.2.2.1 hgk
      have a : f_X4_word 0 (nI w) (p_m I P) = some (nI (q_pf (q_wr A.1 (q_say A.1 A.2.1 w (q_er A.1 A.2.1.2.2.2.1))) 8), p_m I3 P1) := by
        unfold f_X4_word
        simp (disch := omega) only [c_word1, p_b, p_N, p_A, p_Q hC.1, p_G, hx0, p_C, a1, b1, p_Q a4, c1, hwr]
        rw [if_neg (by omega), if_pos hl, c_bits (q_wr_lt hO.1), p_b]
      have hM3 : q_M I3 A := (hM.keep a3).keep (fun a ha => by rw [c2 a (by omega), b2 a (by omega)])
      have hy3 := (hM3.b a4 hO).x
      obtain ⟨I4, d1, d2, d3⟩ := m_push a4 hO hM3
      have mB4 := d2.b a4 hO1
      obtain ⟨er, e1, e2, e3⟩ := m_errs mB4 0 (by omega)
      obtain ⟨I5, f1, f2, f3⟩ := m_say hw e1 mB4 (er := q_er A.1 A.2.1.2.2.2.1) (fun a ha => by rw [← e3 a ha]; rfl)
      have hM5 := d2.g f2 f3
      have b : f_X5_word 57 (nI w) (p_m I3 P1) = some (nI (q_pf (q_wr A.1 (q_say A.1 A.2.1 w (q_er A.1 A.2.1.2.2.2.1))) 8), p_m I5 P1) := by
        unfold f_X5_word
        simp (disch := omega) only [m_word1, p_b, p_N, p_A, p_Q a4, p_L, hy3, p_C, d1, e2, f1, m_wrong (hM5.b a4 hO3)]
        rw [if_neg (by omega), if_neg (by omega), m_ones (q_wr_lt hO.1), p_b]
      exact q_op a b hO3 ((hC3.a57 d3).a57 (fun a ha => f2 a (by omega))) hM5
    · have a : f_X4_word 0 (nI w) (p_m I P) = some (-nI 2, p_m I P) := by
        unfold f_X4_word
        simp (disch := omega) only [c_word1, p_b, p_N, p_A, p_Q hC.1, p_G, hx0]
        rw [if_neg (by omega), if_neg hl]
      have b : f_X5_word 57 (nI w) (p_m I P) = some (-nI 2, p_m I P) := by
        unfold f_X5_word
        simp (disch := omega) only [m_word1, p_b, p_N, p_A, p_Q hC.1, p_L, hy0]
        rw [if_neg (by omega), if_pos (by omega)]
      exact q_ask hO hC hM a p_same.rf b m_keep.rf
  · have a : f_X4_word 0 v (p_m I P) = some (-nI 1, p_m I P) := by
      unfold f_X4_word
      simp (disch := omega) only [c_word0 _ hv, p_b, p_N, if_true]
    have b : f_X5_word 57 v (p_m I P) = some (-nI 1, p_m I P) := by
      unfold f_X5_word
      simp (disch := omega) only [m_word0 _ hv, p_b, p_N, if_true]
    exact q_ask hO hC hM a p_same.rf b m_keep.rf
theorem o_undo (hO : q_O A) (hC : q_C I P s d pl A) (hM : q_M I A) : ∃ (r : Int32) (m1 m2 : z_M), f_X4_undo 0 (p_m I P) = some (r, m1) ∧ f_X5_undo 57 m1 = some (r, m2) ∧ (57 < m1.1 ∧ m1.1 ≤ 600000 ∧ m1.2.1 ≤ 7302250) ∧ q_Rel m2 := by
  obtain ⟨q, g, k, past, kk, img, len, tx⟩ := A
  obtain ⟨h1, h2, h3, h4, h5, h6, h7, h8⟩ := id hC
  obtain ⟨g1, g2, g3, g4, g5, g6, g7⟩ := id hM
  have hn : q.1 ≤ 8 := hO.1.2.1
  cases k with
  | zero =>
    have a : f_X4_undo 0 (p_m I P) = some (-nI 2, p_m I P) := by
      unfold f_X4_undo
      simp (disch := omega) only [p_Q h1, p_C, c_undo0 h1 h5.1, p_b, p_N, if_true]
    exact q_ask hO hC hM a p_same.rf (m_undo0 g4.1) m_keep.rf
  | succ k =>
    obtain ⟨I1, a1, a2, a3, a4⟩ := c_undo h1 h5 hn
    have a : f_X4_undo 0 (p_m I P) = some (nI k, p_m I1 P) := by
      unfold f_X4_undo
      simp (disch := omega) only [p_Q h1, p_C, a1, p_b, p_N, p_A, p_G, a3.1]
      rw [if_neg (by omega)]
    have hM1 : q_M I1 (q, g, k + 1, past, kk, img, len, tx) := hM.keep (fun a ha => a2 a (by omega))
    obtain ⟨I2, b1, b2, b3, b4, b5⟩ := m_undo h1 hn hM1.2.2.2.1
    have hs : p_same (fun a => a = 20 ∨ a = 14 ∨ a = 15 ∨ a = 16 ∨ a = 61 ∨ a = 57) I I2 := (a2.mono (fun a ha => by omega)).tr (b2.mono (fun a ha => by omega))
    have hsb : p_same (fun a => a = 61 ∨ a = 57) I1 I2 := b2
    refine q_op (A' := (q, past k, k, past, kk, img, len, tx)) a b1 ⟨hO.1, hO.2.2.1 k (by show k < k + 1; omega), fun j hj => hO.2.2.1 j (by show j < k + 1; have : j < k := hj; omega), hO.2.2.2⟩ ⟨h1, h2, ?_, a4.keep hsb (by omega) (by omega) (by omega), a3.keep hsb (by omega), h6.keep hs (by omega), by rw [hs 1 (by omega)]; exact h7, by rw [hs 2 (by omega)]; exact h8⟩ ⟨g1.keep hs (by omega), b5, by rw [b3 10 (by omega)]; exact hM1.2.2.1, b4, hM1.2.2.2.2.1.keep (b3 8 (by omega)) (b2 63 (by omega)), by rw [b3 1 (by omega)]; exact hM1.2.2.2.2.2.1, by rw [hs 58 (by omega)]; exact g7⟩
    rcases h2.2.2 with ⟨rfl, -⟩ | ⟨rfl, -⟩
    · exact h3.keep hs (by omega) (by omega) (by omega) (by omega)
    · exact h3.keep hs (by omega) (by omega) (by omega) (by omega)
theorem o_keep (hO : q_O A) (hC : q_C I P s d pl A) (hM : q_M I A) : ∃ (r : Int32) (m1 m2 : z_M), f_X4_keep 0 (p_m I P) = some (r, m1) ∧ f_X5_keep 57 m1 = some (r, m2) ∧ (57 < m1.1 ∧ m1.1 ≤ 600000 ∧ m1.2.1 ≤ 7302250) ∧ q_Rel m2 := by
  obtain ⟨q, g, k, past, kk, img, len, tx⟩ := A
  obtain ⟨h1, h2, h3, h4, h5, h6, h7, h8⟩ := id hC
  obtain ⟨g1, g2, g3, g4, g5, g6, g7⟩ := id hM
  have hn : q.1 ≤ 8 := hO.1.2.1
  have hkk : kk ≤ 2 := h6.2.1
  by_cases hk : kk < 2
  · obtain ⟨I1, a1, a2, a3⟩ := c_keepP h1 h6 hk h4 hn
    have a : f_X4_keep 0 (p_m I P) = some (nI (kk + 1), p_m I1 P) := by
      unfold f_X4_keep
      simp (disch := omega) only [p_Q h1, p_C, a1, p_b, p_N, p_A, p_G, h6.1, a3.1]
      rw [if_pos hk]
    have hM1 : q_M I1 (q, g, k, past, kk, img, len, tx) := hM.keep (fun a ha => a2 a (by omega))
    obtain ⟨I2, b1, b2, b3, b4⟩ := m_keepK h1 hn hk hM1.2.2.2.2.1 hM1.2.1
    have hs : p_same (fun a => (46 ≤ a ∧ a ≤ 53) ∨ a = 63 ∨ a = 57) I I2 := (a2.mono (fun a ha => by omega)).tr (b2.mono (fun a ha => by omega))
    have hsb : p_same (fun a => a = 63 ∨ a = 57) I1 I2 := b2
    refine q_op (A' := (q, g, k, past, kk + 1, fun j => if j = kk then g else img j, len, tx)) a b1 ⟨hO.1, hO.2.1, hO.2.2.1, fun j hj => ?_, hO.2.2.2.2⟩ ⟨h1, h2, ?_, h4.keep hs (by omega) (by omega) (by omega), h5.keep hs (by omega), a3.keep hsb (by omega), by rw [hs 1 (by omega)]; exact h7, by rw [hs 2 (by omega)]; exact h8⟩ ⟨g1.keep hs (by omega), g2.keep hs (by omega), by rw [b3 10 (by omega)]; exact hM1.2.2.1, hM1.2.2.2.1.keep (b3 6 (by omega)) (b2 62 (by omega)), b4, by rw [b3 1 (by omega)]; exact hM1.2.2.2.2.2.1, by rw [hs 58 (by omega)]; exact g7⟩
    · show g_in q.1 (if j = kk then g else img j)
      have hj : j < kk + 1 := hj
      split
      · exact hO.2.1
      · exact hO.2.2.2.1 j (by show j < kk; omega)
    · rcases h2.2.2 with ⟨rfl, -⟩ | ⟨rfl, -⟩
      · exact h3.keep hs (by omega) (by omega) (by omega) (by omega)
      · exact h3.keep hs (by omega) (by omega) (by omega) (by omega)
  · have h22 : kk = 2 := by omega
    subst h22
    have a : f_X4_keep 0 (p_m I P) = some (-nI 3, p_m I P) := by
      unfold f_X4_keep
      simp (disch := omega) only [p_Q h1, p_G, h6.1, p_N, p_A]
      rw [if_neg (by omega)]
    have b : f_X5_keep 57 (p_m I P) = some (-nI 3, p_m I P) := by
      unfold f_X5_keep
      simp (disch := omega) only [p_G, g5.1, p_N, p_A, if_true]
    exact q_ask hO hC hM a p_same.rf b m_keep.rf
theorem o_back (hO : q_O A) (hC : q_C I P s d pl A) (hM : q_M I A) : ∃ (r : Int32) (m1 m2 : z_M), f_X4_back 0 (p_m I P) = some (r, m1) ∧ f_X5_back 57 m1 = some (r, m2) ∧ (57 < m1.1 ∧ m1.1 ≤ 600000 ∧ m1.2.1 ≤ 7302250) ∧ q_Rel m2 := by
  obtain ⟨q, g, k, past, kk, img, len, tx⟩ := A
  obtain ⟨h1, h2, h3, h4, h5, h6, h7, h8⟩ := id hC
  obtain ⟨g1, g2, g3, g4, g5, g6, g7⟩ := id hM
  have hn : q.1 ≤ 8 := hO.1.2.1
  cases kk with
  | zero =>
    have a : f_X4_back 0 (p_m I P) = some (-nI 2, p_m I P) := by
      unfold f_X4_back
      simp (disch := omega) only [p_Q h1, p_C, c_back0 h1 h6.1, p_b, p_N, if_true]
    exact q_ask hO hC hM a p_same.rf (m_back0 g5.1) m_keep.rf
  | succ kk =>
    obtain ⟨I1, a1, a2, a3, a4⟩ := c_backP h1 h6 hn
    have e46 : p_w I1 20 1 (nI 0) 46 1 = nI kk := by rw [p_w_ne (Or.inl (by omega))]; exact a3.1
    have a : f_X4_back 0 (p_m I P) = some (nI kk, p_m (p_w I1 20 1 (nI 0)) P) := by
      unfold f_X4_back
      simp (disch := omega) only [p_Q h1, p_C, a1, p_b, p_N, p_A, p_G, p_F, e46]
      rw [if_neg (by omega)]
    have hs1 : p_same (fun a => a = 20 ∨ a = 46 ∨ a = 14 ∨ a = 15 ∨ a = 16) I (p_w I1 20 1 (nI 0)) := (a2.mono (fun a ha => by omega)).w (Or.inl rfl)
    have hM1 : q_M (p_w I1 20 1 (nI 0)) (q, g, k, past, kk + 1, img, len, tx) := hM.keep (fun a ha => hs1 a (by omega))
    obtain ⟨I2, b1, b2, b3, b4, b5, b6⟩ := m_back h1 hn hM1.2.2.2.2.1
    have hs : p_same (fun a => a = 20 ∨ a = 46 ∨ a = 14 ∨ a = 15 ∨ a = 16 ∨ a = 61 ∨ a = 57) I I2 := (hs1.mono (fun a ha => by omega)).tr (b2.mono (fun a ha => by omega))
    have hsb : p_same (fun a => a = 20 ∨ a = 61 ∨ a = 57) I1 I2 := (p_same.w (S := fun a => a = 20 ∨ a = 61 ∨ a = 57) p_same.rf (Or.inl rfl)).tr (b2.mono (fun a ha => by omega))
    refine q_op (pl1 := pl) (A' := (q, img kk, 0, past, kk, img, len, tx)) a b1 ⟨hO.1, hO.2.2.2.1 kk (by show kk < kk + 1; omega), fun j hj => absurd hj (Nat.not_lt_zero j), fun j hj => hO.2.2.2.1 j (by show j < kk + 1; have : j < kk := hj; omega), hO.2.2.2.2⟩ ⟨h1, h2, ?_, a4.keep hsb (by omega) (by omega) (by omega), ?_, a3.keep hsb (by omega), by rw [hs 1 (by omega)]; exact h7, by rw [hs 2 (by omega)]; exact h8⟩ ⟨g1.keep hs (by omega), b6, by rw [b3 10 (by omega) (by omega)]; exact hM1.2.2.1, ⟨b4, by show 0 ≤ 8; omega, fun j hj => absurd hj (Nat.not_lt_zero j)⟩, b5, by rw [b3 1 (by omega) (by omega)]; exact hM1.2.2.2.2.2.1, by rw [hs 58 (by omega)]; exact g7⟩
    · rcases h2.2.2 with ⟨rfl, -⟩ | ⟨rfl, -⟩
      · exact h3.keep hs (by omega) (by omega) (by omega) (by omega)
      · exact h3.keep hs (by omega) (by omega) (by omega) (by omega)
    · obtain ⟨u1, u2, u3, u4, u5⟩ := h5
      exact ⟨by rw [b2 20 (by omega), p_w_eq], by show 0 ≤ 8; omega, u3, u4, fun j hj => absurd hj (Nat.not_lt_zero j)⟩
end
