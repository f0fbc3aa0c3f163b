/-! SAFE, THE CLASS -/
section
variable {I : Nat → Nat → Int32} {P : Nat → Nat → Option Nat} {s : Nat} {q : q_Q} {g : q_G}
def q_sc (q : q_Q) (g : q_G) (b j : Nat) : Bool := !decide (q_ce q.2.2.1 g.2.1 b (q.1 + 1) j = 99) && decide (q.2.2.1 (q_ce q.2.2.1 g.2.1 b (q.1 + 1) j) = 0)
/-- the first of the last r below n -/
def q_fi (p : Nat → Bool) (n : Nat) : Nat → Nat
  | 0 => 99
  | r + 1 => if p (n - (r + 1)) then n - (r + 1) else q_fi p n r
theorem c_saL (h : c_B I P s q g) {b : Nat} (hb : b < q.1) : ∀ (r f : Nat), r ≤ q.1 → r < f → f_X4_safe_L12 f 0 (nI b) (nI (q.1 - r)) (p_m I P) = some (q_r (q_fi (q_sc q g b) q.1 r), p_m I P) := by
  have hx := h.x
  have h8 := h.2.2.1.2.1
  have hlk : ∀ i, i < q.1 → g.2.1 i < q.1 := fun i hi => (h.2.2.2.1.1 i hi).2
  intro r
  induction r with
  | zero =>
    intro f _ hf
    obtain ⟨f, rfl⟩ : ∃ f', f = f' + 1 := ⟨f - 1, by omega⟩
    unfold f_X4_safe_L12
    simp (disch := omega) only [c_sq1 h.2.1, c_sqI h.2.1, p_N, hx, p_A]
    rw [if_pos (by omega)]
    rfl
  | succ r ih =>
    intro f hr hf
    obtain ⟨f, rfl⟩ : ∃ f', f = f' + 1 := ⟨f - 1, by omega⟩
    have hin : q.1 - (r + 1) < q.1 := by omega
    have ih1 := ih f (by omega) (by omega)
    unfold f_X4_safe_L12 f_X4_safe_L50
    simp (disch := omega) only [c_sq1 h.2.1, c_sqI h.2.1, p_N, hx, p_A]
    rw [if_neg (by omega), show q.1 - (r + 1) + 1 = q.1 - r by omega]
    have hfi : q_fi (q_sc q g b) q.1 (r + 1) = if q_sc q g b (q.1 - (r + 1)) = true then q.1 - (r + 1) else q_fi (q_sc q g b) q.1 r := rfl
    simp (disch := omega) only [p_C, c_endB h hin hb, p_b]
    rcases q_ce_lt (kd := q.2.2.1) (b := b) hlk (q.1 + 1) _ hin with e | e
    · rw [e, q_r99, if_pos rfl, hfi, if_neg (by unfold q_sc; simp [e])]
      exact ih1
    · have h3 := (h.2.2.1.2.2.2 _ e).1
      rw [q_rn (by omega)]
      simp (disch := omega) only [p_A, if_false, c_sq1 h.2.1, c_sqP h.2.1 h.1, c_sqA h.2.1, hx]
      by_cases e0 : q.2.2.1 (q_ce q.2.2.1 g.2.1 b (q.1 + 1) (q.1 - (r + 1))) = 0
      · rw [if_pos e0, hfi, if_pos (by unfold q_sc; simp [e0]; omega), q_rn (by omega)]
      · rw [if_neg e0, hfi, if_neg (by unfold q_sc; simp [e0])]
        exact ih1
end
