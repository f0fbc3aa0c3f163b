/-! SAFE, THE REFERENCE -/
section
variable {I : Nat → Nat → Int32} {P : Nat → Nat → Option Nat} {s : Nat} {q : q_Q} {g : q_G}
theorem q_ce_ne {kd lk : Nat → Nat} {b : Nat} (hb : b < 99) : ∀ (k a : Nat), q_ce kd lk b k a ≠ b
  | 0, _ => fun h => by have : (99 : Nat) = b := h; omega
  | k + 1, a => by
    rw [q_ce_s]
    by_cases e : a = b
    · rw [if_pos e]; omega
    · rw [if_neg e]
      split
      · exact q_ce_ne hb k _
      · exact e
theorem q_a0 : q_a 0 < nI 0 := by decide
theorem q_am (w : Nat) : nI w + -nI 1 = q_a w := by unfold q_a; rw [Int32.sub_eq_add_neg]; rfl
theorem m_saL (hP : p_F0 P) (hq : q_ok q) (hg : g_ok q.1 g) {b : Nat} (hb : b < q.1) : ∀ (j f : Nat) (I : Nat → Nat → Int32), m_Q I q → m_G I 61 0 q.1 g → I 57 10 = nI b → j ≤ q.1 → j < f →
    ∃ I', f_X5_safe_L27 f 57 (nI b) (q_r (q_fi (q_sc q g b) q.1 (q.1 - j))) (q_a j) (p_m I P) = some (q_r (q_fi (q_sc q g b) q.1 q.1), p_m I' P) ∧ p_same (fun a => a = 57) I I' ∧ (∀ x, x ≠ 10 → x ≠ 11 → I' 57 x = I 57 x) ∧ I' 57 10 = -nI 1 := by
  have h8 := hq.2.1
  have hlk : ∀ i, i < q.1 → g.2.1 i < q.1 := fun i hi => (hg.1 i hi).2
  intro j
  induction j with
  | zero =>
    intro f I _ _ _ _ hf
    obtain ⟨f, rfl⟩ : ∃ f', f = f' + 1 := ⟨f - 1, by omega⟩
    unfold f_X5_safe_L27
    simp (disch := omega) only [p_N, p_F]
    rw [if_pos q_a0]
    exact ⟨_, rfl, p_same.rf.o, fun x h1 h2 => by rw [p_w_ne (Or.inr h1)], by rw [p_w_eq]⟩
  | succ j ih =>
    intro f I hQ hG hT hj hf
    obtain ⟨f, rfl⟩ : ∃ f', f = f' + 1 := ⟨f - 1, by omega⟩
    have hin : j < q.1 := by omega
    have hs : p_same (fun a => a = 57) I (p_w I 57 11 (nI j)) := p_same.rf.o
    have hQ1 : m_Q (p_w I 57 11 (nI j)) q := hQ.keep hs (by omega)
    have hG1 : m_G (p_w I 57 11 (nI j)) 61 0 q.1 g := hG.keep hs (by omega)
    have hT1 : p_w I 57 11 (nI j) 57 10 = nI b := by rw [p_w_ne (Or.inr (by omega))]; exact hT
    have K : ∀ x, x = q_fi (q_sc q g b) q.1 (q.1 - j) → ∃ I', f_X5_safe_L27 f 57 (nI b) (q_r x) (q_a j) (p_m (p_w I 57 11 (nI j)) P) = some (q_r (q_fi (q_sc q g b) q.1 q.1), p_m I' P) ∧ p_same (fun a => a = 57) I I' ∧ (∀ x, x ≠ 10 → x ≠ 11 → I' 57 x = I 57 x) ∧ I' 57 10 = -nI 1 := by
      intro x hx
      obtain ⟨I', a1, a2, a3, a4⟩ := ih f _ hQ1 hG1 hT1 (by omega) (by omega)
      rw [hx]
      exact ⟨I', a1, hs.tr a2, fun x h1 h2 => by rw [a3 x h1 h2, p_w_ne (Or.inr h2)], a4⟩
    have hfi : q_fi (q_sc q g b) q.1 (q.1 - j) = if q_sc q g b j = true then j else q_fi (q_sc q g b) q.1 (q.1 - (j + 1)) := by
      rw [show q.1 - j = (q.1 - (j + 1)) + 1 by omega]
      show (if q_sc q g b (q.1 - (q.1 - (j + 1) + 1)) = true then q.1 - (q.1 - (j + 1) + 1) else _) = _
      rw [show q.1 - (q.1 - (j + 1) + 1) = j by omega]
    rw [q_aw]
    unfold f_X5_safe_L27 f_X5_safe_L51 f_X5_safe_L82 f_X5_safe_L83
    simp (disch := omega) only [p_N, p_A, p_F, q_am]
    rw [if_neg (by omega)]
    by_cases e : j = b
    · rw [if_pos e]
      simp only [if_true]
      refine K _ ?_
      rw [hfi, if_neg]
      unfold q_sc
      rw [e, q_ce_s, if_pos rfl]
      simp
    · rw [if_neg e]
      have hl := m_ldL (T := b) (TA := j) hP h8 (fun i hi => (hQ1.2.2 i hi).1) (fun i hi => (hq.2.2.2 i hi).1) (fun i hi => by have := (hG1.1 i hi).2; rw [Nat.zero_add] at this; exact this) hlk (Or.inl ⟨hT1, by omega⟩) (fun _ => ⟨by rw [p_w_eq], hin⟩) 400 b 0 hb (by omega) (by omega)
      have hc : q_ce (fun i => if i = b then 2 else q.2.2.1 i) (fun i => if i = b then j else g.2.1 i) 99 (9 - 0) b = q_ce q.2.2.1 g.2.1 b (q.1 + 1) j := by
        rw [q_tk (j := j) h8 hb hin hlk, q_fuel (n := q.1) (k := q.1 + 1) (k' := 8) (fun i hi => by show (if i = b then j else g.2.1 i) < q.1; split; exact hin; exact hlk i hi) h8 hin (by omega) (by omega)]
        show q_ce _ _ 99 (8 + 1) b = _
        rw [q_ce_s, if_neg (show ¬ b = 99 by omega)]
        simp only [if_true]
      rw [hc] at hl
      have hld : f_X5_leader 57 (nI b) (p_m (p_w I 57 11 (nI j)) P) = some (q_r (q_ce q.2.2.1 g.2.1 b (q.1 + 1) j), p_m (p_w I 57 11 (nI j)) P) := hl
      simp (disch := omega) only [p_C, hld, p_b]
      rcases q_ce_lt (kd := q.2.2.1) (b := b) hlk (q.1 + 1) _ hin with e9 | e9
      · rw [e9, q_r99, if_pos rfl]
        refine K _ ?_
        rw [hfi, if_neg (by unfold q_sc; simp [e9])]
      · have h3 := (hq.2.2.2 _ e9).1
        have h59 := (hQ1.2.2 _ e9).1
        rw [q_rn (by omega)]
        simp (disch := omega) only [p_A, if_false, p_Q hP, p_L, h59]
        rw [if_neg (q_ce_ne (by omega) _ _)]
        by_cases e0 : q.2.2.1 (q_ce q.2.2.1 g.2.1 b (q.1 + 1) j) = 0
        · rw [if_pos e0]
          have Kj := K j (by rw [hfi, if_pos (by unfold q_sc; simp [e0]; omega)])
          rw [q_rn (show j < 99 by omega)] at Kj
          exact Kj
        · rw [if_neg e0]
          refine K _ ?_
          rw [hfi, if_neg (by unfold q_sc; simp [e0])]
end
