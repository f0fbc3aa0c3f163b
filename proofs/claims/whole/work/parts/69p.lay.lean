/-! LAID -/
def r_can (D : r_D) : Prop := 1 ≤ D.1.1 ∧ ∀ i, i < D.1.1 → D.2.2 i < D.1.1
/-- how they stand at first -/
def r_g0 (D : r_D) : q_G := (D.1.2.2.2.1, D.2.2, D.2.1, 0, 0, 0, 0, 0)
theorem r_g0_in {D : r_D} (hok : r_Dok D) (hc : r_can D) : q_ok D.1 ∧ g_in D.1.1 (r_g0 D) := by
  obtain ⟨d1, d2, d3, d4⟩ := hok
  refine ⟨⟨hc.1, d1, d2, fun i hi => ⟨(d3 i hi).1, (d3 i hi).2.1, (d3 i hi).2.2.1⟩⟩, ⟨fun i hi => ⟨(d3 i hi).2.1, hc.2 i hi⟩, d4, ?_, ?_, ?_, ?_, ?_⟩, ?_⟩
  · show 0 ≤ 2000; omega
  · show 0 ≤ 3; omega
  · show 0 < 4; omega
  · exact Nat.two_pow_pos _
  · exact Nat.two_pow_pos _
  · show 0 ≤ 999; omega
theorem r_F0p {P : Nat → Nat → Option Nat} (hP : p_F0 P) (d s : Nat) : p_F0 (p_p (p_p P 0 1 d) 0 2 s) := by
  obtain ⟨h0, h1, h2, h3, h4, h5, h6, h7, h8, h9, h10, h11, h12, h13, h14, h15, h16, h17, h18, h19, h20, h21, h22, h23, h24, h25, h26, h27, h28, h29, h30, h31, h32, h33, h34, h35, h36, h37, h38, h39, h40, h41, h42, h43, h44, h45, h46, h47, h48, h49, h50⟩ := hP
  unfold p_F0 p_p
  simp [*]
section
variable {I : Nat → Nat → Int32} {P : Nat → Nat → Option Nat} {s d : Nat} {pl : Nat → Nat} {A : q_S} {len : Nat} {tx : Nat → Nat} {D : r_D}
theorem r_ccan (hP : p_F0 P) (hd : d = 4 ∨ d = 9) (hD : r_cD I d D) (hok : r_Dok D) : ∀ (f i : Nat), i ≤ D.1.1 → D.1.1 - i < f → (∀ j, j < i → D.2.2 j < D.1.1) → (r_can D → f_X2_canBeLaid_L2 f d (nI i) (p_m I P) = some (nI 1, p_m I P)) ∧ (¬ r_can D → f_X2_canBeLaid_L2 f d (nI i) (p_m I P) = some (nI 0, p_m I P)) := by
  intro f
  induction f with
  | zero => intro i _ h; omega
  | succ f ih =>
    intro i hi hf hj
    have hr := r_dr hP hd
    have h8 := hok.1
    unfold f_X2_canBeLaid_L2
    simp (disch := omega) only [hr, hD.1.1, p_N, p_A]
    by_cases h1 : D.1.1 ≤ i
    · rw [if_pos h1]
      refine ⟨fun z => ?_, fun z => ?_⟩
      · rw [if_neg (by have := z.1; omega)]
      · rw [if_pos]
        apply Decidable.byContradiction
        intro h0
        exact z ⟨by omega, fun j hj' => hj j (by omega)⟩
    · rw [if_neg h1]
      have hin : i < D.1.1 := by omega
      have hl := (hok.2.2.1 i hin).2.2.2
      simp (disch := omega) only [hr, hD.2.2 i hin, p_A]
      by_cases h2 : D.2.2 i < D.1.1
      · rw [if_pos h2]
        exact ih (i + 1) (by omega) (by omega) (fun j hj' => by
          by_cases e : j = i
          · subst e; exact h2
          · exact hj j (by omega))
      · rw [if_neg h2]
        exact ⟨fun z => absurd (z.2 i hin) h2, fun _ => rfl⟩
theorem r_cbeg (hP : p_F0 P) (hd : d = 4 ∨ d = 9) (hD : r_cD I d D) (hok : r_Dok D) : ∃ I', f_X3_begin 14 d (p_m I P) = some (nI 0, p_m I' P) ∧ p_same (fun a => a = 14 ∨ a = 15 ∨ a = 16) I I' ∧ c_G I' 14 D.1.1 (r_g0 D) := by
  have hr := r_dr hP hd
  have h8 := hok.1
  obtain ⟨⟨q1, q2, q3⟩, q4, q5⟩ := hD
  have k2 : d + 2 < 65 ∧ z_k (d + 2) = 6 ∧ z_n (d + 2) = 8 ∧ d + 3 < 65 ∧ z_k (d + 3) = 6 ∧ z_n (d + 3) = 8 := by rcases hd with rfl | rfl <;> decide
  obtain ⟨k3, k4, k5, k6, k7, k8⟩ := k2
  obtain ⟨c1, c2, c3, c4, -, -, -⟩ := c_stg (t := 14) hP (Or.inl rfl)
  have e1 : ∀ k, z_cp (p_m I P) (d + 2) 0 15 0 8 k = k (p_m (p_r I 15 (va_cpy (I (d + 2)) (I 15) 0 0 8)) P) := fun k => p_cp k3 k4 (by decide) (by decide) k5 (by decide)
  have e2 : ∀ (J : Nat → Nat → Int32) k, z_cp (p_m J P) (d + 3) 0 16 0 8 k = k (p_m (p_r J 16 (va_cpy (J (d + 3)) (J 16) 0 0 8)) P) := fun J k => p_cp k6 k7 (by decide) (by decide) k8 (by decide)
  unfold f_X3_begin
  simp (disch := omega) only [hr, c3, c4, e1, e2, c2]
  have er : ∀ (X Y : Nat → Int32), p_r (p_r I 15 X) 16 Y d 2 = I d 2 := fun X Y => by rw [p_r_ne (by omega), p_r_ne (by omega)]
  simp only [er, q4]
  refine ⟨_, rfl, (((((((p_same.rf.r (Or.inr (Or.inl rfl))).r (Or.inr (Or.inr rfl))).w (Or.inl rfl)).w (Or.inl rfl)).w (Or.inl rfl)).w (Or.inl rfl)).w (Or.inl rfl)).w (Or.inl rfl), fun i hi => ⟨?_, ?_⟩, ?_, ?_, ?_, ?_, ?_, ?_⟩
  · simp (disch := omega) only [p_w_ne]
    rw [p_r_ne (by omega), p_r_eq, sb_cpy0 (by omega)]
    exact (q3 i hi).2.1
  · simp (disch := omega) only [p_w_ne]
    rw [p_r_eq, sb_cpy0 (by omega), p_r_ne (by omega)]
    exact q5 i hi
  · simp (disch := omega) only [p_w_ne, p_w_eq]; rfl
  · simp (disch := omega) only [p_w_ne, p_w_eq]; rfl
  · simp (disch := omega) only [p_w_ne, p_w_eq]; rfl
  · simp (disch := omega) only [p_w_ne, p_w_eq]; rfl
  · simp (disch := omega) only [p_w_ne, p_w_eq]; rfl
  · simp (disch := omega) only [p_w_eq]; rfl
/-! the reference -/
theorem r_mlaL (hP : p_F0 P) : ∀ (f k : Nat) (I : Nat → Nat → Int32), k ≤ 22 → 22 - k < f → ∃ I', f_X5_lays_L28 f 57 (nI k) (p_m I P) = some (nI 0, p_m I' P) ∧ p_same (fun a => a = 57 ∨ a = 61) I I' ∧ (∀ j, j ≠ 6 → j ≠ 8 → I' 57 j = I 57 j) ∧ (I' 57 6 = nI 0 ∧ I' 57 8 = nI 0) ∧ (∀ x, x < k → x ≠ 16 → x ≠ 18 → I' 61 x = I 61 x) ∧ (∀ x, k ≤ x → x < 16 → I' 61 x = I 59 (11 + x)) ∧ (∀ x, k ≤ x → 16 < x → x < 22 → x ≠ 18 → I' 61 x = nI 0) ∧ I' 61 16 = I 59 2 ∧ I' 61 18 = -nI 1 := by
  intro f
  induction f with
  | zero => intro j I _ h; omega
  | succ f ih =>
    intro k I hk hf
    unfold f_X5_lays_L28 f_X5_lays_L79
    simp (disch := omega) only [p_N, p_A]
    by_cases h : 22 ≤ k
    · rw [if_pos h]
      simp (disch := omega) only [p_Q hP, p_L, p_S, p_F, p_w_ne]
      refine ⟨_, rfl, (((p_same.rf.w (Or.inr rfl)).w (Or.inr rfl)).w (Or.inl rfl)).w (Or.inl rfl), fun j h6 h8 => ?_, ⟨?_, ?_⟩, fun x hx h16 h18 => ?_, fun x h1 h2 => by omega, fun x h1 h2 h3 => by omega, ?_, ?_⟩
      · simp (disch := omega) only [p_w_ne]
      · simp (disch := omega) only [p_w_ne, p_w_eq]
      · simp (disch := omega) only [p_w_eq]
      · simp (disch := omega) only [p_w_ne]
      · simp (disch := omega) only [p_w_ne, p_w_eq]
      · simp (disch := omega) only [p_w_ne, p_w_eq]
    · rw [if_neg h]
      have K : ∀ v : Int32, (k < 16 → v = I 59 (11 + k)) → (16 ≤ k → v = nI 0) → ∃ I', f_X5_lays_L28 f 57 (nI (k + 1)) (p_m (p_w I 61 k v) P) = some (nI 0, p_m I' P) ∧ p_same (fun a => a = 57 ∨ a = 61) I I' ∧ (∀ j, j ≠ 6 → j ≠ 8 → I' 57 j = I 57 j) ∧ (I' 57 6 = nI 0 ∧ I' 57 8 = nI 0) ∧ (∀ x, x < k → x ≠ 16 → x ≠ 18 → I' 61 x = I 61 x) ∧ (∀ x, k ≤ x → x < 16 → I' 61 x = I 59 (11 + x)) ∧ (∀ x, k ≤ x → 16 < x → x < 22 → x ≠ 18 → I' 61 x = nI 0) ∧ I' 61 16 = I 59 2 ∧ I' 61 18 = -nI 1 := by
        intro v hv1 hv2
        obtain ⟨I', a1, a2, a3, a4, a5, a6, a7, a8, a9⟩ := ih (k + 1) (p_w I 61 k v) (by omega) (by omega)
        refine ⟨I', a1, (p_same.rf.w (Or.inr rfl)).tr a2, fun j h6 h8 => by rw [a3 j h6 h8, p_w_ne (Or.inl (by omega))], a4, fun x hx h16 h18 => by rw [a5 x (by omega) h16 h18, p_w_ne (Or.inr (by omega))], fun x h1 h2 => ?_, fun x h1 h2 h3 h4 => ?_, by rw [a8, p_w_ne (Or.inl (by omega))], a9⟩
        · by_cases e : x = k
          · subst e; rw [a5 x (by omega) (by omega) (by omega), p_w_eq, hv1 h2]
          · rw [a6 x (by omega) h2, p_w_ne (Or.inl (by omega))]
        · by_cases e : x = k
          · subst e; rw [a5 x (by omega) (by omega) h4, p_w_eq, hv2 (by omega)]
          · exact a7 x (by omega) h2 h3 h4
      simp (disch := omega) only [p_Q hP, p_L, p_S]
      by_cases h8 : 8 ≤ k
      · rw [if_pos h8]
        by_cases h16 : 16 ≤ k
        · rw [if_pos h16]
          exact K _ (fun z => by omega) (fun _ => rfl)
        · rw [if_neg h16]
          simp (disch := omega) only [p_sb, p_L, p_S]
          exact K _ (fun z => by rw [show 19 + k - 8 = 11 + k by omega]) (fun z => by omega)
      · rw [if_neg h8]
        exact K _ (fun z => rfl) (fun z => by omega)
theorem r_mcoL (hP : p_F0 P) : ∀ (f k : Nat) (I : Nat → Nat → Int32), k ≤ 35 → 35 - k < f → ∃ I', f_X5_lays_L2 f 57 (nI k) (p_m I P) = f_X5_lays_L28 400 57 (nI 0) (p_m I' P) ∧ p_same (fun a => a = 59) I I' ∧ (∀ x, x < k → I' 59 x = I 59 x) ∧ ∀ x, k ≤ x → x < 35 → I' 59 x = I 60 x := by
  intro f
  induction f with
  | zero => intro j I _ h; omega
  | succ f ih =>
    intro k I hk hf
    obtain ⟨F, hF⟩ : ∃ F : Nat, 400 = F := ⟨_, rfl⟩
    unfold f_X5_lays_L2
    rw [hF]
    simp (disch := omega) only [p_N, p_A]
    by_cases h : 35 ≤ k
    · rw [if_pos h]
      exact ⟨I, rfl, p_same.rf, fun _ _ => rfl, fun x h1 h2 => by omega⟩
    · rw [if_neg h]
      simp (disch := omega) only [p_Q hP, p_L, p_S]
      obtain ⟨I', a1, a2, a3, a4⟩ := ih (k + 1) (p_w I 59 k (I 60 k)) (by omega) (by omega)
      rw [hF] at a1
      refine ⟨I', a1, (p_same.rf.o).tr a2, fun x hx => by rw [a3 x (by omega), p_w_ne (Or.inr (by omega))], fun x h1 h2 => ?_⟩
      by_cases e : x = k
      · subst e; rw [a3 x (by omega), p_w_eq]
      · rw [a4 x (by omega) h2, p_w_ne (Or.inl (by omega))]
theorem r_mlays (hP : p_F0 P) (hD : r_mD I D) (hok : r_Dok D) : ∃ I', f_X5_lays 57 (p_m I P) = some (nI 0, p_m I' P) ∧ p_same (fun a => a = 57 ∨ a = 59 ∨ a = 61) I I' ∧ (∀ j, j ≠ 6 → j ≠ 8 → I' 57 j = I 57 j) ∧ (I' 57 6 = nI 0 ∧ I' 57 8 = nI 0) ∧ m_Q I' D.1 ∧ m_G I' 61 0 D.1.1 (r_g0 D) := by
  have h8 := hok.1
  obtain ⟨I1, a1, a2, -, a4⟩ := r_mcoL hP 400 0 I (by omega) (by omega)
  obtain ⟨I2, b1, b2, b3, b4, -, b6, b7, b8, b9⟩ := r_mlaL hP 400 0 I1 (by omega) (by omega)
  obtain ⟨q1, q2, q3, q4⟩ := hD
  have c59 : ∀ x, x < 35 → I2 59 x = I 60 x := fun x hx => by rw [b2 59 (by omega), a4 x (by omega) hx]
  refine ⟨I2, a1.trans b1, (a2.mono (fun x hx => by omega)).tr (b2.mono (fun x hx => by omega)), fun j h6 h8 => by rw [b3 j h6 h8, a2 57 (by omega)], b4, ⟨by rw [c59 0 (by omega)]; exact q1, by rw [c59 1 (by omega)]; exact q2, fun i hi => ⟨by rw [c59 _ (by omega)]; exact (q4 i hi).1, by rw [c59 _ (by omega)]; exact (q4 i hi).2.1, by rw [c59 _ (by omega)]; exact (q4 i hi).2.2.2⟩⟩, fun i hi => ⟨?_, ?_⟩, ?_, ?_, ?_, ?_, ?_, ?_⟩
  · rw [Nat.zero_add, b6 i (by omega) (by omega), a4 _ (by omega) (by omega)]; exact (q4 i hi).2.1
  · rw [Nat.zero_add, b6 _ (by omega) (by omega), a4 _ (by omega) (by omega), show 11 + (8 + i) = 19 + i by omega]; exact (q4 i hi).2.2.1
  · rw [Nat.zero_add, b8, a4 _ (by omega) (by omega)]; exact q3
  · rw [Nat.zero_add, b7 _ (by omega) (by omega) (by omega) (by omega)]; rfl
  · rw [Nat.zero_add, b9]; rfl
  · rw [Nat.zero_add, b7 _ (by omega) (by omega) (by omega) (by omega)]; rfl
  · rw [Nat.zero_add, b7 _ (by omega) (by omega) (by omega) (by omega)]; rfl
  · rw [Nat.zero_add, b7 _ (by omega) (by omega) (by omega) (by omega)]; rfl
theorem r_mla0 (hP : p_F0 P) (hm : I 60 0 = nI D.1.1) (hok : r_Dok D) {f : Nat} {i : Nat} (hi : i ≤ 8) : f_X5_lay_L26 (f + 1) 57 (nI 0) (nI i) (p_m I P) = some (-nI 2, p_m I P) := by
  have h8 := hok.1
  rw [f_X5_lay_L26]
  unfold f_X5_lay_L70
  simp (disch := omega) only [p_N, p_Q hP, p_L, hm, p_A, p_tf, if_true]
  split <;> rfl
theorem r_mla (hP : p_F0 P) (hD : r_mD I D) (hok : r_Dok D) (h1 : 1 ≤ D.1.1) : ∀ (f i : Nat), i ≤ D.1.1 → D.1.1 + 1 - i < f → (∀ j, j < i → D.2.2 j < D.1.1) → (r_can D → f_X5_lay_L26 f 57 (nI 1) (nI i) (p_m I P) = f_X5_lay_L70 57 (nI 1) (p_m I P)) ∧ (¬ r_can D → f_X5_lay_L26 f 57 (nI 1) (nI i) (p_m I P) = some (-nI 2, p_m I P)) := by
  intro f
  induction f with
  | zero => intro i _ h; omega
  | succ f ih =>
    intro i hi hf hj
    have h8 := hok.1
    rw [f_X5_lay_L26]
    unfold f_X5_lay_L63
    simp (disch := omega) only [p_N, p_Q hP, p_L, hD.1, p_A, p_tf, if_false]
    by_cases h2 : D.1.1 ≤ i
    · rw [if_pos h2]
      exact ⟨fun _ => rfl, fun z => absurd ⟨h1, fun j hj' => hj j (by omega)⟩ z⟩
    · rw [if_neg h2]
      have hin : i < D.1.1 := by omega
      have hl := (hok.2.2.1 i hin).2.2.2
      simp (disch := omega) only [p_L, (hD.2.2.2 i hin).2.2.1, p_A]
      by_cases h3 : D.1.1 ≤ D.2.2 i
      · rw [if_pos h3]
        obtain ⟨f, rfl⟩ : ∃ f', f = f' + 1 := ⟨f - 1, by omega⟩
        exact ⟨fun z => absurd (z.2 i hin) (by omega), fun _ => r_mla0 hP hD.1 hok (by omega)⟩
      · rw [if_neg h3]
        exact ih (i + 1) (by omega) (by omega) (fun j hj' => by
          by_cases e : j = i
          · subst e; omega
          · exact hj j (by omega))
end
