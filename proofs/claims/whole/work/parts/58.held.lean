/-! ALL ONE WAY; HELD AND LET GO -/
def q_al (fc : Nat → Nat) : Nat → Bool
  | 0 => true
  | k + 1 => q_al fc k && decide (fc k = fc 0)
theorem q_al_1 (fc : Nat → Nat) : q_al fc 1 = true := by simp [q_al]
theorem q_al_mono {fc : Nat → Nat} {i : Nat} : ∀ {n : Nat}, i ≤ n → q_al fc n = true → q_al fc i = true
  | 0, h, h' => by
    obtain rfl : i = 0 := by omega
    exact h'
  | n + 1, h, h' => by
    by_cases e : i = n + 1
    · subst e; exact h'
    · refine q_al_mono (n := n) (by omega) ?_
      unfold q_al at h'
      simp only [Bool.and_eq_true] at h'
      exact h'.1
section
variable {I : Nat → Nat → Int32} {P : Nat → Nat → Option Nat} {s t : Nat} {q : q_Q} {g : q_G}
theorem c_alL (ht : t = 14 ∨ t = 17) (hK : c_K I P s q) (hG : c_G I t q.1 g) (hg : g_ok q.1 g) : ∀ (f i : Nat), 1 ≤ i → i ≤ q.1 → q.1 - i < f → q_al g.1 i = true → f_X4_isAlike_L2 f 0 t (nI i) (p_m I P) = some (nI (if q_al g.1 q.1 then 1 else 0), p_m I P) := by
  intro f
  induction f with
  | zero => intro i _ _ h; omega
  | succ f ih =>
    intro i h0 hi hf ha
    have hx := hK.x
    have h8 := hK.2.2.1.2.1
    have hst := c_st hK.1 ht
    unfold f_X4_isAlike_L2
    simp (disch := omega) only [c_sq1 hK.2.1, c_sqI hK.2.1, hst, p_N, hx, p_A]
    by_cases h1 : q.1 ≤ i
    · rw [if_pos h1]
      rw [show i = q.1 by omega] at ha
      rw [ha]
      rfl
    · rw [if_neg h1]
      have hin : i < q.1 := by omega
      have hfc := (hg.1 i hin).1
      have hfc0 := (hg.1 0 (by omega)).1
      have hs : q_al g.1 (i + 1) = (q_al g.1 i && decide (g.1 i = g.1 0)) := rfl
      simp (disch := omega) only [(hG.1 i hin).1, (hG.1 0 (by omega)).1, p_A]
      by_cases hc : g.1 i = g.1 0
      · rw [if_pos hc]
        exact ih (i + 1) (by omega) (by omega) (by omega) (by rw [hs, ha]; simp [hc])
      · rw [if_neg hc]
        have : q_al g.1 q.1 = false := by
          cases hq : q_al g.1 q.1 with
          | false => rfl
          | true =>
            have := q_al_mono (i := i + 1) (by omega) hq
            rw [hs] at this
            simp [hc] at this
        rw [this]
        rfl
theorem c_al (ht : t = 14 ∨ t = 17) (hK : c_K I P s q) (hG : c_G I t q.1 g) (hg : g_ok q.1 g) : f_X4_isAlike 0 t (p_m I P) = some (nI (if q_al g.1 q.1 then 1 else 0), p_m I P) := by
  have h8 := hK.2.2.1.2.1
  have h1 := hK.2.2.1.1
  unfold f_X4_isAlike
  exact c_alL ht hK hG hg 400 1 (by omega) (by omega) (by omega) (q_al_1 _)
theorem m_alL (h : m_B I P q g) : ∀ (f i : Nat), i ≤ q.1 → q.1 - i < f → f_X5_isOneWay_L4 f 57 (nI (if q_al g.1 i then 1 else 0)) (nI i) (p_m I P) = some (nI (if q_al g.1 q.1 then 1 else 0), p_m I P) := by
  intro f
  induction f with
  | zero => intro i _ h; omega
  | succ f ih =>
    intro i hi hf
    have hx := h.x
    have h8 := h.2.1.2.1
    unfold f_X5_isOneWay_L4 f_X5_isOneWay_L37 f_X5_isOneWay_L38
    simp (disch := omega) only [p_Q h.1, p_L, p_N, hx, p_A]
    by_cases h1 : q.1 ≤ i
    · rw [if_pos h1, show i = q.1 by omega]
      cases q_al g.1 q.1 <;> rfl
    · rw [if_neg h1]
      have hin : i < q.1 := by omega
      have hfc := (h.2.2.1.1 i hin).1
      have hfc0 := (h.2.2.1.1 0 (by omega)).1
      have ih1 := ih (i + 1) (by omega) (by omega)
      rw [show q_al g.1 (i + 1) = (q_al g.1 i && decide (g.1 i = g.1 0)) from rfl] at ih1
      have z0 : I 61 0 = nI (g.1 0) := hx.2.2.2.2.1 0 (by omega)
      cases ha : q_al g.1 i with
      | false =>
        rw [ha] at ih1
        simp (disch := omega) only [Bool.false_eq_true, if_false, p_A, p_tf, if_true]
        exact ih1
      | true =>
        rw [ha] at ih1
        simp (disch := omega) only [if_true, p_A, p_tf, if_false, p_Q h.1, p_L, hx, z0]
        by_cases hc : g.1 i = g.1 0
        · rw [if_pos hc]
          simpa [hc] using ih1
        · rw [if_neg hc]
          simpa [hc] using ih1
theorem m_al (h : m_B I P q g) : f_X5_isOneWay 57 (p_m I P) = some (nI (if q_al g.1 q.1 then 1 else 0), p_m I P) := by
  have h8 := h.2.1.2.1
  have h1 := h.2.1.1
  have := m_alL h 400 1 (by omega) (by omega)
  rw [q_al_1] at this
  unfold f_X5_isOneWay
  exact this
theorem m_holdsL (hP : p_F0 P) : ∀ (f j : Nat) (I : Nat → Nat → Int32), j ≤ 22 → 22 - j < f → ∃ I', f_X5_holds_L2 f 57 (nI j) (p_m I P) = some (nI 0, p_m I' P) ∧ p_same (fun a => a = 64) I I' ∧ (∀ x, x < j → I' 64 x = I 64 x) ∧ ∀ x, j ≤ x → x < 22 → I' 64 x = I 61 x := by
  intro f
  induction f with
  | zero => intro j I _ h; omega
  | succ f ih =>
    intro j I hj hf
    unfold f_X5_holds_L2
    simp (disch := omega) only [p_N, p_A]
    by_cases h : 22 ≤ j
    · rw [if_pos h]
      exact ⟨I, rfl, p_same.rf, fun _ _ => rfl, fun x h1 h2 => by omega⟩
    · rw [if_neg h]
      simp (disch := omega) only [p_Q hP, p_L, p_S]
      obtain ⟨I', a1, a2, a3, a4⟩ := ih (j + 1) (p_w I 64 j (I 61 j)) (by omega) (by omega)
      refine ⟨I', a1, (p_same.rf.o).tr a2, fun x hx => ?_, fun x h1 h2 => ?_⟩
      · rw [a3 x (by omega), p_w_ne (Or.inr (by omega))]
      · by_cases e : x = j
        · subst e; rw [a3 x (by omega), p_w_eq]
        · rw [a4 x (by omega) h2, p_w_ne (Or.inl (by omega))]
theorem m_holds (hP : p_F0 P) (I : Nat → Nat → Int32) : ∃ I', f_X5_holds 57 (p_m I P) = some (nI 0, p_m I' P) ∧ p_same (fun a => a = 64) I I' ∧ ∀ x, x < 22 → I' 64 x = I 61 x := by
  obtain ⟨I', a1, a2, -, a4⟩ := m_holdsL hP 400 0 I (by omega) (by omega)
  exact ⟨I', a1, a2, fun x hx => a4 x (by omega) hx⟩
theorem m_letsL (hP : p_F0 P) : ∀ (f j : Nat) (I : Nat → Nat → Int32), j ≤ 22 → 22 - j < f → ∃ I', f_X5_lets_L2 f 57 (nI j) (p_m I P) = some (nI 0, p_m I' P) ∧ p_same (fun a => a = 61) I I' ∧ (∀ x, x < j → I' 61 x = I 61 x) ∧ ∀ x, j ≤ x → x < 22 → I' 61 x = I 64 x := by
  intro f
  induction f with
  | zero => intro j I _ h; omega
  | succ f ih =>
    intro j I hj hf
    unfold f_X5_lets_L2
    simp (disch := omega) only [p_N, p_A]
    by_cases h : 22 ≤ j
    · rw [if_pos h]
      exact ⟨I, rfl, p_same.rf, fun _ _ => rfl, fun x h1 h2 => by omega⟩
    · rw [if_neg h]
      simp (disch := omega) only [p_Q hP, p_L, p_S]
      obtain ⟨I', a1, a2, a3, a4⟩ := ih (j + 1) (p_w I 61 j (I 64 j)) (by omega) (by omega)
      refine ⟨I', a1, (p_same.rf.o).tr a2, fun x hx => ?_, fun x h1 h2 => ?_⟩
      · rw [a3 x (by omega), p_w_ne (Or.inr (by omega))]
      · by_cases e : x = j
        · subst e; rw [a3 x (by omega), p_w_eq]
        · rw [a4 x (by omega) h2, p_w_ne (Or.inl (by omega))]
theorem m_lets (hP : p_F0 P) (I : Nat → Nat → Int32) : ∃ I', f_X5_lets 57 (p_m I P) = some (nI 0, p_m I' P) ∧ p_same (fun a => a = 61) I I' ∧ ∀ x, x < 22 → I' 61 x = I 64 x := by
  obtain ⟨I', a1, a2, -, a4⟩ := m_letsL hP 400 0 I (by omega) (by omega)
  exact ⟨I', a1, a2, fun x hx => a4 x (by omega) hx⟩
end
