/-! STANDINGS PUT BY, THE REFERENCE -/
theorem m_G.copy {I I' : Nat → Nat → Int32} {a o a' o' n : Nat} {g : q_G} (h : m_G I a o n g) (hn : n ≤ 8) (hc : ∀ j, j < 22 → I' a' (o' + j) = I a (o + j)) : m_G I' a' o' n g := by
  obtain ⟨x, b1, b2, b3, b4, b5, b6⟩ := h
  refine ⟨fun i hi => ⟨?_, ?_⟩, ?_, ?_, ?_, ?_, ?_, ?_⟩
  · rw [hc i (by omega)]; exact (x i hi).1
  · rw [hc (8 + i) (by omega)]; exact (x i hi).2
  · rw [hc 16 (by omega)]; exact b1
  · rw [hc 17 (by omega)]; exact b2
  · rw [hc 18 (by omega)]; exact b3
  · rw [hc 19 (by omega)]; exact b4
  · rw [hc 20 (by omega)]; exact b5
  · rw [hc 21 (by omega)]; exact b6
section
variable {P : Nat → Nat → Option Nat}
theorem p_22 (k j : Nat) : nI 22 * nI k + nI j = nI (22 * k + j) := by rw [pk_mul, nI_add]
/-- s goes behind the others of past -/
theorem m_keepsC (hP : p_F0 P) {k : Nat} (hk : k < 8) : ∀ (f j : Nat) (I : Nat → Nat → Int32), I 57 6 = nI k → j ≤ 22 → 22 - j < f →
    ∃ I', f_X5_keeps_L51 f 57 (nI j) (p_m I P) = some (nI 0, p_m I' P) ∧ p_same (fun a => a = 62 ∨ a = 57) I I' ∧ (∀ x, x ≠ 6 → I' 57 x = I 57 x) ∧ I' 57 6 = nI (k + 1) ∧ (∀ x, x < 22 * k + j ∨ 22 * k + 22 ≤ x → I' 62 x = I 62 x) ∧ ∀ x, j ≤ x → x < 22 → I' 62 (22 * k + x) = I 61 x := by
  intro f
  induction f with
  | zero => intro j I _ _ h; omega
  | succ f ih =>
    intro j I h6 hj hf
    unfold f_X5_keeps_L51 z_lt
    simp (disch := omega) only [p_Q hP, p_L, p_G, p_F, h6, p_N, p_A]
    by_cases h : 22 ≤ j
    · rw [if_pos h]
      refine ⟨_, rfl, p_same.rf.w (Or.inr rfl), fun x hx => by rw [p_w_ne (Or.inr hx)], by rw [p_w_eq], fun x _ => by rw [p_w_ne (Or.inl (by omega))], fun x h1 h2 => by omega⟩
    · rw [if_neg h, p_22]
      simp (disch := omega) only [p_S]
      obtain ⟨I', a1, a2, a3, a4, a5, a6⟩ := ih (j + 1) (p_w I 62 (22 * k + j) (I 61 j)) (by rw [p_w_ne (Or.inl (by omega))]; exact h6) (by omega) (by omega)
      refine ⟨I', a1, (p_same.w (S := fun a => a = 62 ∨ a = 57) p_same.rf (Or.inl rfl)).tr a2, fun x hx => ?_, a4, fun x hx => ?_, fun x h1 h2 => ?_⟩
      · rw [a3 x hx, p_w_ne (Or.inl (by omega))]
      · rw [a5 x (by omega), p_w_ne (Or.inr (by omega))]
      · by_cases e : x = j
        · subst e
          rw [a5 _ (by omega), p_w_eq]
        · rw [a6 x (by omega) h2, p_w_ne (Or.inl (by omega))]
theorem m_shift (hP : p_F0 P) : ∀ (f j : Nat) (I : Nat → Nat → Int32), I 57 6 = nI 8 → j ≤ 154 → 154 - j < f →
    ∃ I1, f_X5_keeps_L11 f 57 (nI j) (p_m I P) = f_X5_keeps_L49 57 (p_m I1 P) ∧ p_same (fun a => a = 62 ∨ a = 57) I I1 ∧ (∀ x, x ≠ 6 → I1 57 x = I 57 x) ∧ I1 57 6 = nI 7 ∧ (∀ x, x < j → I1 62 x = I 62 x) ∧ ∀ x, j ≤ x → x < 154 → I1 62 x = I 62 (x + 22) := by
  intro f
  induction f with
  | zero => intro j I _ _ h; omega
  | succ f ih =>
    intro j I h6 hj hf
    unfold f_X5_keeps_L11 z_lt
    simp (disch := omega) only [p_Q hP, p_L, p_G, p_F, h6, p_N, p_A]
    by_cases h : 154 ≤ j
    · rw [if_pos h]
      refine ⟨p_w I 57 6 (nI 7), by rw [p_sb (by omega)], p_same.rf.w (Or.inr rfl), fun x hx => by rw [p_w_ne (Or.inr hx)], by rw [p_w_eq], fun x _ => by rw [p_w_ne (Or.inl (by omega))], fun x h1 h2 => by omega⟩
    · rw [if_neg h]
      simp (disch := omega) only [p_L, p_S]
      obtain ⟨I', a1, a2, a3, a4, a5, a6⟩ := ih (j + 1) (p_w I 62 j (I 62 (j + 22))) (by rw [p_w_ne (Or.inl (by omega))]; exact h6) (by omega) (by omega)
      refine ⟨I', a1, (p_same.w (S := fun a => a = 62 ∨ a = 57) p_same.rf (Or.inl rfl)).tr a2, fun x hx => ?_, a4, fun x hx => ?_, fun x h1 h2 => ?_⟩
      · rw [a3 x hx, p_w_ne (Or.inl (by omega))]
      · rw [a5 x (by omega), p_w_ne (Or.inr (by omega))]
      · by_cases e : x = j
        · subst e
          rw [a5 _ (by omega), p_w_eq]
        · rw [a6 x (by omega) h2, p_w_ne (Or.inr (by omega))]
/-- the reference's pile -/
def m_U (I : Nat → Nat → Int32) (n k : Nat) (past : Nat → q_G) : Prop := I 57 6 = nI k ∧ k ≤ 8 ∧ ∀ j, j < k → m_G I 62 (22 * j) n (past j)
def m_Kp (I : Nat → Nat → Int32) (n k : Nat) (img : Nat → q_G) : Prop := I 57 8 = nI k ∧ k ≤ 2 ∧ ∀ j, j < k → m_G I 63 (22 * j) n (img j)
theorem m_keeps (hP : p_F0 P) {I : Nat → Nat → Int32} {n k : Nat} {g : q_G} {past : Nat → q_G} (hn : n ≤ 8) (hU : m_U I n k past) (hG : m_G I 61 0 n g) :
    ∃ I', f_X5_keeps 57 (p_m I P) = some (nI 0, p_m I' P) ∧ p_same (fun a => a = 62 ∨ a = 57) I I' ∧ (∀ x, x ≠ 6 → I' 57 x = I 57 x) ∧ m_U I' n (q_pk k) (q_push past k g) := by
  obtain ⟨u1, u2, u3⟩ := hU
  unfold f_X5_keeps q_pk q_push
  simp (disch := omega) only [p_G, u1, p_N, p_A]
  by_cases h : k = 8
  · subst h
    rw [if_pos rfl, if_neg (by omega), if_neg (by omega)]
    obtain ⟨I1, a1, a2, a3, a4, a5, a6⟩ := m_shift hP 400 0 I u1 (by omega) (by omega)
    obtain ⟨I2, b1, b2, b3, b4, b5, b6⟩ := m_keepsC hP (k := 7) (by omega) 400 0 I1 a4 (by omega) (by omega)
    refine ⟨I2, by rw [a1]; exact b1, a2.tr b2, fun x hx => by rw [b3 x hx, a3 x hx], b4, by omega, fun j hj => ?_⟩
    dsimp only
    by_cases e : j = 7
    · subst e
      rw [if_pos rfl]
      refine hG.copy hn (fun x hx => ?_)
      rw [b6 x (by omega) hx, a2 61 (by omega), Nat.zero_add]
    · rw [if_neg e]
      refine (u3 (j + 1) (by omega)).copy hn (fun x hx => ?_)
      rw [b5 _ (by omega), a6 _ (by omega) (by omega)]
      congr 1
      omega
  · rw [if_neg h, if_pos (by omega), if_pos (by omega)]
    obtain ⟨I2, b1, b2, b3, b4, b5, b6⟩ := m_keepsC hP (k := k) (by omega) 400 0 I u1 (by omega) (by omega)
    refine ⟨I2, b1, b2, b3, b4, by omega, fun j hj => ?_⟩
    dsimp only
    by_cases e : j = k
    · subst e
      rw [if_pos rfl]
      refine hG.copy hn (fun x hx => ?_)
      rw [b6 x (by omega) hx, Nat.zero_add]
    · rw [if_neg e]
      refine (u3 j (by omega)).copy hn (fun x hx => ?_)
      rw [b5 _ (by omega)]
theorem m_undoL (hP : p_F0 P) {k : Nat} (hk : k < 8) : ∀ (f j : Nat) (I : Nat → Nat → Int32), I 57 6 = nI k → j ≤ 22 → 22 - j < f →
    ∃ I', f_X5_undo_L22 f 57 (nI j) (p_m I P) = some (nI k, p_m I' P) ∧ p_same (fun a => a = 61) I I' ∧ (∀ x, x < j ∨ 22 ≤ x → I' 61 x = I 61 x) ∧ ∀ x, j ≤ x → x < 22 → I' 61 x = I 62 (22 * k + x) := by
  intro f
  induction f with
  | zero => intro j I _ _ h; omega
  | succ f ih =>
    intro j I h6 hj hf
    unfold f_X5_undo_L22
    simp (disch := omega) only [p_Q hP, p_L, p_G, h6, p_N, p_A]
    by_cases h : 22 ≤ j
    · rw [if_pos h]
      exact ⟨I, rfl, p_same.rf, fun _ _ => rfl, fun x h1 h2 => by omega⟩
    · rw [if_neg h, p_22]
      simp (disch := omega) only [p_L, p_S]
      obtain ⟨I', a1, a2, a5, a6⟩ := ih (j + 1) (p_w I 61 j (I 62 (22 * k + j))) (by rw [p_w_ne (Or.inl (by omega))]; exact h6) (by omega) (by omega)
      refine ⟨I', a1, (p_same.rf.o).tr a2, fun x hx => ?_, fun x h1 h2 => ?_⟩
      · rw [a5 x (by omega), p_w_ne (Or.inr (by omega))]
      · by_cases e : x = j
        · subst e
          rw [a5 _ (by omega), p_w_eq]
        · rw [a6 x (by omega) h2, p_w_ne (Or.inl (by omega))]
theorem m_undo (hP : p_F0 P) {I : Nat → Nat → Int32} {n k : Nat} {past : Nat → q_G} (hn : n ≤ 8) (hU : m_U I n (k + 1) past) :
    ∃ I', f_X5_undo 57 (p_m I P) = some (nI k, p_m I' P) ∧ p_same (fun a => a = 61 ∨ a = 57) I I' ∧ (∀ x, x ≠ 6 → I' 57 x = I 57 x) ∧ m_U I' n k past ∧ m_G I' 61 0 n (past k) := by
  obtain ⟨u1, u2, u3⟩ := hU
  have hsb : nI (k + 1) - nI 1 = nI k := p_sb (by omega)
  obtain ⟨I', a1, a2, a3, a4⟩ := m_undoL hP (k := k) (by omega) 400 0 (p_w I 57 6 (nI k)) (by rw [p_w_eq]) (by omega) (by omega)
  unfold f_X5_undo z_lt
  simp (disch := omega) only [p_G, p_F, u1, p_N, p_A, hsb]
  rw [if_neg (by omega)]
  refine ⟨I', a1, (p_same.w (S := fun a => a = 61 ∨ a = 57) p_same.rf (Or.inr rfl)).tr (a2.mono (fun a ha => Or.inl ha)), fun x hx => ?_, ⟨?_, by omega, fun j hj => ?_⟩, ?_⟩
  · rw [a2 57 (by omega), p_w_ne (Or.inr hx)]
  · rw [a2 57 (by omega), p_w_eq]
  · refine (u3 j (by omega)).copy hn (fun x hx => ?_)
    rw [a2 62 (by omega), p_w_ne (Or.inl (by omega))]
  · refine (u3 k (by omega)).copy hn (fun x hx => ?_)
    rw [Nat.zero_add, a4 x (by omega) hx, p_w_ne (Or.inl (by omega))]
theorem m_undo0 {I : Nat → Nat → Int32} (h : I 57 6 = nI 0) : f_X5_undo 57 (p_m I P) = some (-nI 2, p_m I P) := by
  unfold f_X5_undo
  simp (disch := omega) only [p_G, h, p_N, p_A, if_true]
theorem m_keepL (hP : p_F0 P) {k : Nat} (hk : k < 2) : ∀ (f j : Nat) (I : Nat → Nat → Int32), I 57 8 = nI k → j ≤ 22 → 22 - j < f →
    ∃ I', f_X5_keep_L13 f 57 (nI j) (p_m I P) = some (nI (k + 1), p_m I' P) ∧ p_same (fun a => a = 63 ∨ a = 57) I I' ∧ (∀ x, x ≠ 8 → I' 57 x = I 57 x) ∧ I' 57 8 = nI (k + 1) ∧ (∀ x, x < 22 * k + j ∨ 22 * k + 22 ≤ x → I' 63 x = I 63 x) ∧ ∀ x, j ≤ x → x < 22 → I' 63 (22 * k + x) = I 61 x := by
  intro f
  induction f with
  | zero => intro j I _ _ h; omega
  | succ f ih =>
    intro j I h6 hj hf
    unfold f_X5_keep_L13 z_lt
    simp (disch := omega) only [p_Q hP, p_L, p_G, p_F, h6, p_N, p_A, p_w_eq]
    by_cases h : 22 ≤ j
    · rw [if_pos h]
      refine ⟨_, rfl, p_same.rf.w (Or.inr rfl), fun x hx => by rw [p_w_ne (Or.inr hx)], by rw [p_w_eq], fun x _ => by rw [p_w_ne (Or.inl (by omega))], fun x h1 h2 => by omega⟩
    · rw [if_neg h, p_22]
      simp (disch := omega) only [p_S]
      obtain ⟨I', a1, a2, a3, a4, a5, a6⟩ := ih (j + 1) (p_w I 63 (22 * k + j) (I 61 j)) (by rw [p_w_ne (Or.inl (by omega))]; exact h6) (by omega) (by omega)
      refine ⟨I', a1, (p_same.w (S := fun a => a = 63 ∨ a = 57) p_same.rf (Or.inl rfl)).tr a2, fun x hx => ?_, a4, fun x hx => ?_, fun x h1 h2 => ?_⟩
      · rw [a3 x hx, p_w_ne (Or.inl (by omega))]
      · rw [a5 x (by omega), p_w_ne (Or.inr (by omega))]
      · by_cases e : x = j
        · subst e
          rw [a5 _ (by omega), p_w_eq]
        · rw [a6 x (by omega) h2, p_w_ne (Or.inl (by omega))]
theorem m_keepK (hP : p_F0 P) {I : Nat → Nat → Int32} {n k : Nat} {g : q_G} {img : Nat → q_G} (hn : n ≤ 8) (hk : k < 2) (hU : m_Kp I n k img) (hG : m_G I 61 0 n g) :
    ∃ I', f_X5_keep 57 (p_m I P) = some (nI (k + 1), p_m I' P) ∧ p_same (fun a => a = 63 ∨ a = 57) I I' ∧ (∀ x, x ≠ 8 → I' 57 x = I 57 x) ∧ m_Kp I' n (k + 1) (fun j => if j = k then g else img j) := by
  obtain ⟨u1, u2, u3⟩ := hU
  obtain ⟨I2, b1, b2, b3, b4, b5, b6⟩ := m_keepL hP hk 400 0 I u1 (by omega) (by omega)
  unfold f_X5_keep
  simp (disch := omega) only [p_G, u1, p_N, p_A]
  rw [if_neg (by omega)]
  refine ⟨I2, b1, b2, b3, b4, by omega, fun j hj => ?_⟩
  dsimp only
  by_cases e : j = k
  · subst e
    rw [if_pos rfl]
    refine hG.copy hn (fun x hx => ?_)
    rw [b6 x (by omega) hx, Nat.zero_add]
  · rw [if_neg e]
    refine (u3 j (by omega)).copy hn (fun x hx => ?_)
    rw [b5 _ (by omega)]
theorem m_backL (hP : p_F0 P) {k : Nat} (hk : k < 2) : ∀ (f j : Nat) (I : Nat → Nat → Int32), I 57 8 = nI k → j ≤ 22 → 22 - j < f →
    ∃ I', f_X5_back_L22 f 57 (nI j) (p_m I P) = some (nI k, p_m I' P) ∧ p_same (fun a => a = 61 ∨ a = 57) I I' ∧ (∀ x, x ≠ 6 → I' 57 x = I 57 x) ∧ I' 57 6 = nI 0 ∧ (∀ x, x < j ∨ 22 ≤ x → I' 61 x = I 61 x) ∧ ∀ x, j ≤ x → x < 22 → I' 61 x = I 63 (22 * k + x) := by
  intro f
  induction f with
  | zero => intro j I _ _ h; omega
  | succ f ih =>
    intro j I h6 hj hf
    unfold f_X5_back_L22
    simp (disch := omega) only [p_Q hP, p_L, p_G, p_F, h6, p_N, p_A, p_w_ne]
    by_cases h : 22 ≤ j
    · rw [if_pos h]
      exact ⟨_, rfl, p_same.rf.w (Or.inr rfl), fun x hx => by rw [p_w_ne (Or.inr hx)], by rw [p_w_eq], fun x _ => by rw [p_w_ne (Or.inl (by omega))], fun x h1 h2 => by omega⟩
    · rw [if_neg h, p_22]
      simp (disch := omega) only [p_L, p_S]
      obtain ⟨I', a1, a2, a3, a4, a5, a6⟩ := ih (j + 1) (p_w I 61 j (I 63 (22 * k + j))) (by rw [p_w_ne (Or.inl (by omega))]; exact h6) (by omega) (by omega)
      refine ⟨I', a1, (p_same.w (S := fun a => a = 61 ∨ a = 57) p_same.rf (Or.inl rfl)).tr a2, fun x hx => ?_, a4, fun x hx => ?_, fun x h1 h2 => ?_⟩
      · rw [a3 x hx, p_w_ne (Or.inl (by omega))]
      · rw [a5 x (by omega), p_w_ne (Or.inr (by omega))]
      · by_cases e : x = j
        · subst e
          rw [a5 _ (by omega), p_w_eq]
        · rw [a6 x (by omega) h2, p_w_ne (Or.inl (by omega))]
theorem m_back (hP : p_F0 P) {I : Nat → Nat → Int32} {n k : Nat} {img : Nat → q_G} (hn : n ≤ 8) (hU : m_Kp I n (k + 1) img) :
    ∃ I', f_X5_back 57 (p_m I P) = some (nI k, p_m I' P) ∧ p_same (fun a => a = 61 ∨ a = 57) I I' ∧ (∀ x, x ≠ 6 → x ≠ 8 → I' 57 x = I 57 x) ∧ I' 57 6 = nI 0 ∧ m_Kp I' n k img ∧ m_G I' 61 0 n (img k) := by
  obtain ⟨u1, u2, u3⟩ := hU
  have hsb : nI (k + 1) - nI 1 = nI k := p_sb (by omega)
  obtain ⟨I', a1, a2, a3, a4, a5, a6⟩ := m_backL hP (k := k) (by omega) 400 0 (p_w I 57 8 (nI k)) (by rw [p_w_eq]) (by omega) (by omega)
  unfold f_X5_back z_lt
  simp (disch := omega) only [p_G, p_F, u1, p_N, p_A, hsb]
  rw [if_neg (by omega)]
  refine ⟨I', a1, (p_same.w (S := fun a => a = 61 ∨ a = 57) p_same.rf (Or.inr rfl)).tr a2, fun x h6 h8 => ?_, a4, ⟨?_, by omega, fun j hj => ?_⟩, ?_⟩
  · rw [a3 x h6, p_w_ne (Or.inr h8)]
  · rw [a3 8 (by omega), p_w_eq]
  · refine (u3 j (by omega)).copy hn (fun x hx => ?_)
    rw [a2 63 (by omega), p_w_ne (Or.inl (by omega))]
  · refine (u3 k (by omega)).copy hn (fun x hx => ?_)
    rw [Nat.zero_add, a6 x (by omega) hx, p_w_ne (Or.inl (by omega))]
theorem m_back0 {I : Nat → Nat → Int32} (h : I 57 8 = nI 0) : f_X5_back 57 (p_m I P) = some (-nI 2, p_m I P) := by
  unfold f_X5_back
  simp (disch := omega) only [p_G, h, p_N, p_A, if_true]
end
