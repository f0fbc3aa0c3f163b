/-! .. AND IN THE REFERENCE -/
section
variable {I : Nat → Nat → Int32} {P : Nat → Nat → Option Nat} {s : Nat} {q : q_Q} {g : q_G}
theorem m_lk (h : m_B I P q g) {a : Nat} (ha : a < q.1) : f_X5_isLooking 57 (nI a) (p_m I P) = some (nI (if q.2.2.1 a = 2 then 1 else 0), p_m I P) := by
  have hx := h.x
  have h8 := h.2.1.2.1
  have := (m_look (T := 99) h.1 h8 hx.2.1 (fun i hi => (h.2.1.2.2.2 i hi).1) (Or.inr ⟨h.2.2.2.2.2, rfl⟩) ha).1
  rw [if_neg (show ¬ a = 99 by omega)] at this
  rw [this]
  split <;> rfl
theorem m_cbL (h : m_B I P q g) {b : Nat} (hb : b < q.1) : ∀ (r f k a : Nat) (fl : Bool), a < q.1 → k + r = 9 → r < f → f_X5_comesBy_L8 f 57 (nI b) (nI a) (nI (if fl then 1 else 0)) (nI k) (p_m I P) = some (nI (if fl || q_cb q.2.2.1 g.2.1 b r a then 1 else 0), p_m I P) := by
  have hx := h.x
  have h8 := h.2.1.2.1
  intro r
  induction r with
  | zero =>
    intro f k a fl ha hk hf
    obtain ⟨f, rfl⟩ : ∃ f', f = f' + 1 := ⟨f - 1, by omega⟩
    unfold f_X5_comesBy_L8
    simp (disch := omega) only [p_N, p_A]
    rw [if_pos (by omega)]
    cases fl <;> rfl
  | succ r ih =>
    intro f k a fl ha hk hf
    obtain ⟨f, rfl⟩ : ∃ f', f = f' + 1 := ⟨f - 1, by omega⟩
    have hlk := (h.2.2.1.1 a ha).2
    have K : ∀ fl' : Bool, fl' = (fl || decide (a = b)) → f_X5_comesBy_L30 (f_X5_comesBy_L8 f) 57 (nI b) (nI a) (nI k) (nI (if fl' then 1 else 0)) (p_m I P) = some (nI (if fl || q_cb q.2.2.1 g.2.1 b (r + 1) a then 1 else 0), p_m I P) := by
      intro fl' hfl
      unfold f_X5_comesBy_L30 f_X5_comesBy_L53
      simp (disch := omega) only [p_C, m_lk h ha, p_b, p_N]
      rw [q_cb_s, ← Bool.or_assoc, ← hfl]
      by_cases h2 : q.2.2.1 a = 2
      · rw [if_pos h2, if_pos h2]
        simp (disch := omega) only [p_A, p_tf, if_false, p_Q h.1, p_L, hx]
        exact ih f (k + 1) (g.2.1 a) fl' hlk (by omega) (by omega)
      · rw [if_neg h2, if_neg h2]
        simp (disch := omega) only [p_A, p_tf, if_true]
        exact ih f (k + 1) a fl' ha (by omega) (by omega)
    have K1 := K true
    have K0 := K false
    simp only [if_true, Bool.false_eq_true, if_false] at K1 K0
    unfold f_X5_comesBy_L8 f_X5_comesBy_L25
    simp (disch := omega) only [p_N, p_A]
    rw [if_neg (by omega)]
    cases fl with
    | true =>
      simp (disch := omega) only [if_true, p_A, p_tf, if_false]
      exact K1 rfl
    | false =>
      simp (disch := omega) only [Bool.false_eq_true, if_true, p_A, p_tf, if_false]
      by_cases e : a = b
      · rw [if_pos e]; exact K1 (by simp [e])
      · rw [if_neg e]; exact K0 (by simp [e])
theorem m_cb (h : m_B I P q g) {i b : Nat} (hi : i < q.1) (hb : b < q.1) : f_X5_comesBy 57 (nI i) (nI b) (p_m I P) = some (nI (if q_cb q.2.2.1 g.2.1 b 9 i then 1 else 0), p_m I P) := by
  have := m_cbL h hb 9 400 0 i false hi (by omega) (by omega)
  simp only [Bool.false_eq_true, if_false, Bool.false_or] at this
  unfold f_X5_comesBy
  exact this
end
