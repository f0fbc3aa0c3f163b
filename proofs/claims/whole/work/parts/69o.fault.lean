/-! THE TEXT: THE REFERENCE TO THE END; FAULT -/
section
variable {I : Nat → Nat → Int32} {P : Nat → Nat → Option Nat} {s d : Nat} {pl : Nat → Nat} {A : q_S} {len : Nat} {tx : Nat → Nat} {D : r_D}
theorem r_mlop (hP : p_F0 P) (ht : r_txt len tx) : ∀ (k f a : Nat) (I : Nat → Nat → Int32) (D : r_D) (y : Nat) (D' : r_D), r_mT I len tx → r_mD I D → r_Dok D → I 57 9 = nI a → a ≤ 200 → k < f → r_end len tx k a D y D' →
    ∃ I', f_X5_reads_L9 f 57 (p_m I P) = some (r_y y, p_m I' P) ∧ r_mk I I' ∧ (y = 999 → r_mD I' D') := by
  have h200 := ht.1
  have stop : ∀ (f a : Nat) (I : Nat → Nat → Int32), r_mT I len tx → I 57 9 = nI a → len ≤ a → a ≤ 200 → f_X5_reads_L9 (f + 1) 57 (p_m I P) = some (-nI 4, p_m I P) := by
    intro f a I hT h9 ha ha3
    rw [f_X5_reads_L9]
    simp (disch := omega) only [p_G, h9, hT.1, p_A]
    rw [if_pos ha]
    rfl
  have go : ∀ (f a : Nat) (I : Nat → Nat → Int32), r_mT I len tx → I 57 9 = nI a → a < len → f_X5_reads_L9 (f + 1) 57 (p_m I P) = if tx a = 109 then (z_b (f_X5_readsMan 57 (p_m (p_w I 57 9 (nI (a + 1))) P)) fun x14 m15 => if x14 = nI 0 then some (nI a, m15) else f_X5_reads_L9 f 57 m15) else if tx a = 122 then (z_b (f_X5_readsOne 57 (nI 1) (nI 99) (p_m (p_w I 57 9 (nI (a + 1))) P)) fun x14 m15 => if x14 = nI 0 then some (nI a, m15) else f_X5_reads_L9 f 57 m15) else if tx a = 101 then (z_b (f_X5_readsOne 57 (nI 2) (nI 1) (p_m (p_w I 57 9 (nI (a + 1))) P)) fun x14 m15 => if x14 = nI 0 then some (nI a, m15) else f_X5_reads_L9 f 57 m15) else some (nI a, p_m (p_w I 57 9 (nI (a + 1))) P) := by
    intro f a I hT h9 ha
    have hb := ht.2 a ha
    rw [f_X5_reads_L9]
    unfold f_X5_reads_L94 f_X5_reads_L93 f_X5_reads_L94 z_lt
    simp (disch := omega) only [p_G, h9, hT.1, p_A, p_Q hP, p_L, hT.2 a ha, p_N, p_F, p_C]
    rw [if_neg (by omega)]
    simp only [p_tf, if_true, if_false]
  intro k
  induction k with
  | zero =>
    intro f a I D y D' hT hD hok h9 ha hf h
    obtain ⟨f, rfl⟩ : ∃ f', f = f' + 1 := ⟨f - 1, by omega⟩
    obtain ⟨h1, rfl, rfl⟩ := h
    exact ⟨I, stop f a I hT h9 h1 ha, r_mk.rf, fun _ => hD⟩
  | succ k ih =>
    intro f a I D y D' hT hD hok h9 ha hf h
    obtain ⟨f, rfl⟩ : ∃ f', f = f' + 1 := ⟨f - 1, by omega⟩
    have hT1 := hT.w (v := nI (a + 1))
    have hD1 := hD.w (v := nI (a + 1))
    have w9 : p_w I 57 9 (nI (a + 1)) 57 9 = nI (a + 1) := p_w_eq _ _ _ _
    have mk1 : r_mk I (p_w I 57 9 (nI (a + 1))) := r_mk.rf.w9
    rcases h with ⟨h1, rfl, rfl⟩ | ⟨h1, h2, rfl⟩ | ⟨h1, p', D1, h2, h3⟩
    · exact ⟨I, stop f a I hT h9 h1 ha, r_mk.rf, fun _ => hD⟩
    · have e : r_y y = nI y := if_neg (by omega)
      rw [go f y I hT h9 h1, e]
      rcases h2 with ⟨c1, g⟩ | ⟨c1, g⟩ | ⟨c1, g⟩ | ⟨c1, c2, c3⟩
      · rw [if_pos c1]
        obtain ⟨I1, b1, b2⟩ := (r_mman hP ht hT1 hD1 hok w9 (by omega) rfl rfl rfl).2 g
        rw [b1, p_b, if_pos rfl]
        exact ⟨I1, rfl, mk1.tr b2, fun z => by omega⟩
      · rw [if_neg (by omega), if_pos c1]
        obtain ⟨I1, b1, b2⟩ := (r_mone (w := 1) (hi := 99) hP ht hT1 w9 (by omega) (by omega) (by omega)).2 (fun z => g z.1)
        rw [b1, p_b, if_pos rfl]
        exact ⟨I1, rfl, mk1.tr b2, fun z => by omega⟩
      · rw [if_neg (by omega), if_neg (by omega), if_pos c1]
        obtain ⟨I1, b1, b2⟩ := (r_mone (w := 2) (hi := 1) hP ht hT1 w9 (by omega) (by omega) (by omega)).2 g
        rw [b1, p_b, if_pos rfl]
        exact ⟨I1, rfl, mk1.tr b2, fun z => by omega⟩
      · rw [if_neg c1, if_neg c2, if_neg c3]
        exact ⟨_, rfl, mk1, fun z => by omega⟩
    · obtain ⟨o1, o2, o3⟩ := r_is_ok hok h2
      rw [go f a I hT h9 h1]
      rcases h2 with ⟨c1, g, rfl, rfl⟩ | ⟨c1, g, rfl, rfl⟩ | ⟨c1, g, rfl, rfl⟩
      · rw [if_pos c1]
        obtain ⟨I1, b1, b2, b3, b4⟩ := (r_mman hP ht hT1 hD1 hok w9 (by omega) rfl rfl rfl).1 g
        rw [b1, p_b, if_neg (by decide)]
        obtain ⟨I2, e1, e2, e3⟩ := ih f _ I1 _ y D' (hT.k (mk1.tr b2)) b4 o1 b3 (by omega) (by omega) h3
        exact ⟨I2, e1, (mk1.tr b2).tr e2, e3⟩
      · rw [if_neg (by omega), if_pos c1]
        have b1 := (r_mone (w := 1) (hi := 99) hP ht hT1 w9 (by omega) (by omega) (by omega)).1 ⟨g, r_nv_le _ _ _⟩
        rw [b1, p_b, if_neg (by decide)]
        have b2 : r_mk I (p_w (p_w (p_w I 57 9 (nI (a + 1))) 60 1 (nI (r_nv len tx (a + 1)))) 57 9 (nI (r_nx len tx (a + 1)))) := mk1.w60.w9
        obtain ⟨q1, q2, q3, q4⟩ := hD1
        obtain ⟨I2, e1, e2, e3⟩ := ih f _ _ _ y D' (hT.k b2) (r_mD.w (D := r_sd D (r_nv len tx (a + 1))) ⟨by rw [p_w_ne (Or.inr (by omega))]; exact q1, by rw [p_w_eq]; rfl, by rw [p_w_ne (Or.inr (by omega))]; exact q3, fun i hi => by
          simp (disch := omega) only [p_w_ne]
          have := q4 i hi
          simp (disch := omega) only [p_w_ne] at this
          exact this⟩) o1 (p_w_eq _ _ _ _) (by omega) (by omega) h3
        exact ⟨I2, e1, b2.tr e2, e3⟩
      · rw [if_neg (by omega), if_neg (by omega), if_pos c1]
        have b1 := (r_mone (w := 2) (hi := 1) hP ht hT1 w9 (by omega) (by omega) (by omega)).1 g
        rw [b1, p_b, if_neg (by decide)]
        have b2 : r_mk I (p_w (p_w (p_w I 57 9 (nI (a + 1))) 60 2 (nI (r_nv len tx (a + 1)))) 57 9 (nI (r_nx len tx (a + 1)))) := mk1.w60.w9
        obtain ⟨q1, q2, q3, q4⟩ := hD1
        obtain ⟨I2, e1, e2, e3⟩ := ih f _ _ _ y D' (hT.k b2) (r_mD.w (D := r_se D (r_nv len tx (a + 1))) ⟨by rw [p_w_ne (Or.inr (by omega))]; exact q1, by rw [p_w_ne (Or.inr (by omega))]; exact q2, by rw [p_w_eq]; rfl, fun i hi => by
          simp (disch := omega) only [p_w_ne]
          have := q4 i hi
          simp (disch := omega) only [p_w_ne] at this
          exact this⟩) o1 (p_w_eq _ _ _ _) (by omega) (by omega) h3
        exact ⟨I2, e1, b2.tr e2, e3⟩
theorem r_mbeg (hP : p_F0 P) : ∀ (f j : Nat) (I : Nat → Nat → Int32), j ≤ 35 → 35 - j < f → ∃ I', f_X5_begins_L2 f 57 (nI j) (p_m I P) = some (nI 0, p_m I' P) ∧ p_same (fun a => a = 60) I I' ∧ (∀ x, x < j → I' 60 x = I 60 x) ∧ ∀ x, j ≤ x → x < 35 → I' 60 x = nI 0 := by
  intro f
  induction f with
  | zero => intro j I _ h; omega
  | succ f ih =>
    intro j I hj hf
    unfold f_X5_begins_L2
    simp (disch := omega) only [p_N, p_A]
    by_cases h : 35 ≤ j
    · rw [if_pos h]
      exact ⟨I, rfl, p_same.rf, fun _ _ => rfl, fun x h1 h2 => by omega⟩
    · rw [if_neg h]
      simp (disch := omega) only [p_Q hP, p_S]
      obtain ⟨I', a1, a2, a3, a4⟩ := ih (j + 1) (p_w I 60 j (nI 0)) (by omega) (by omega)
      refine ⟨I', a1, (p_same.rf.o).tr a2, fun x hx => ?_, fun x h1 h2 => ?_⟩
      · rw [a3 x (by omega), p_w_ne (Or.inr (by omega))]
      · by_cases e : x = j
        · subst e; rw [a3 x (by omega), p_w_eq]
        · exact a4 x (by omega) h2
theorem r_mread (hP : p_F0 P) (ht : r_txt len tx) (hT : r_mT I len tx) {y : Nat} {D' : r_D} (h : r_end len tx 200 0 r_D0 y D') :
    ∃ I', f_X5_reads 57 (p_m I P) = some (r_y y, p_m I' P) ∧ r_mk I I' ∧ (y = 999 → r_mD I' D') := by
  obtain ⟨I1, a1, a2, -, a4⟩ := r_mbeg hP 400 0 I (by omega) (by omega)
  have a1 : f_X5_begins 57 (p_m I P) = some (nI 0, p_m I1 P) := a1
  have mk1 : r_mk I I1 := ⟨a2.mono (fun x hx => Or.inr hx), fun j _ => by rw [a2 57 (by omega)]⟩
  have mk2 := mk1.w9 (v := nI 0)
  obtain ⟨F, hF, hF2⟩ : ∃ F : Nat, 400 = F ∧ 200 < F := ⟨_, rfl, by omega⟩
  obtain ⟨I2, b1, b2, b3⟩ := r_mlop hP ht 200 F 0 (p_w I1 57 9 (nI 0)) r_D0 y D' (hT.k mk2) (r_mD.w ⟨a4 0 (by omega) (by omega), a4 1 (by omega) (by omega), a4 2 (by omega) (by omega), fun i hi => absurd hi (Nat.not_lt_zero i)⟩) r_D0_ok (p_w_eq _ _ _ _) (by omega) hF2 h
  refine ⟨I2, ?_, mk2.tr b2, b3⟩
  unfold f_X5_reads
  rw [hF]
  simp (disch := omega) only [p_C, a1, p_b, p_F, p_N]
  exact b1
theorem r_mk.m {I' : Nat → Nat → Int32} (h : r_mk I I') : m_keep I I' := ⟨fun a h1 h2 _ => h.1 a (by omega), fun j hj _ _ => h.2 j hj⟩
theorem o_fault (hO : q_O A) (hC : q_C I P s d pl A) (hM : q_M I A) : q_T (f_X4_fault 0 (p_m I P)) (f_X5_fault 57) := by
  have hd : d = 4 ∨ d = 9 := by have := hC.2.1.2.2; omega
  have ht : r_txt A.2.2.2.2.2.2.1 A.2.2.2.2.2.2.2 := hO.2.2.2.2
  have hT : r_cT I A.2.2.2.2.2.2.1 A.2.2.2.2.2.2.2 := hC.2.2.2.2.2.2
  have hP2 : ∀ (I : Nat → Nat → Int32) (k : Nat → z_R), z_gP (p_m I P) 0 4 2 k = k d := fun I k => p_gP (by decide) (by decide) hC.2.1.2.1
  obtain ⟨y, D', e1, -, -⟩ := r_end_ex (tx := A.2.2.2.2.2.2.2) 200 0 r_D0 r_D0_ok (show A.2.2.2.2.2.2.1 ≤ 0 + 200 by have := ht.1; omega)
  obtain ⟨I1, a1, a2, -⟩ := r_cread hC.1 hd ht hT e1
  have hM1 : q_M I1 A := hM.keep (fun a ha => a2 a (by omega))
  have mT : r_mT I1 A.2.2.2.2.2.2.1 A.2.2.2.2.2.2.2 := ⟨hM1.2.2.2.2.2.1, hM1.2.2.2.2.2.2⟩
  obtain ⟨I2, b1, b2, -⟩ := r_mread hC.1 ht mT e1
  have a : f_X4_fault 0 (p_m I P) = some (r_y y, p_m I1 P) := by
    unfold f_X4_fault
    simp (disch := omega) only [p_Q hC.1, hP2, p_C, a1, p_b]
  have b : f_X5_fault 57 (p_m I1 P) = some (r_y y, p_m I2 P) := by
    unfold f_X5_fault
    simp (disch := omega) only [p_C, b1, p_b]
  have hC1 : q_C I1 P s d pl A := hC.keep a2 (fun a z => by omega)
  exact q_op a b hO (hC1.keep b2.1 (fun a z => Or.inl (by omega))) (hM1.keepM b2.m)
end
