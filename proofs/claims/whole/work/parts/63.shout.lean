/-! .. IN THE REFERENCE -/
section
variable {I : Nat → Nat → Int32} {P : Nat → Nat → Option Nat} {s : Nat} {q : q_Q} {g : q_G}
theorem m_G.hd {n a : Nat} (h : m_G I a 0 n g) (hn : n ≤ 8) {v : Nat} : m_G (p_w I a 21 (nI v)) a 0 n (g.1, g.2.1, g.2.2.1, g.2.2.2.1, g.2.2.2.2.1, g.2.2.2.2.2.1, g.2.2.2.2.2.2.1, v) := by
  obtain ⟨b, b1, b2, b3, b4, b5, b6⟩ := h
  refine ⟨fun i hi => ⟨by rw [p_w_ne (Or.inr (by omega))]; exact (b i hi).1, by rw [p_w_ne (Or.inr (by omega))]; exact (b i hi).2⟩, by rw [p_w_ne (Or.inr (by omega))]; exact b1, by rw [p_w_ne (Or.inr (by omega))]; exact b2, by rw [p_w_ne (Or.inr (by omega))]; exact b3, by rw [p_w_ne (Or.inr (by omega))]; exact b4, by rw [p_w_ne (Or.inr (by omega))]; exact b5, ?_⟩
  rw [Nat.zero_add, p_w_eq]
theorem m_shL (hg : g_ok q.1 g) {b : Nat} (hb : b < q.1) : ∀ (f i : Nat) (I : Nat → Nat → Int32), m_B I P q (q_sf q g b i) → i ≤ q.1 → q.1 - i < f →
    ∃ I', f_X5_shout_L18 f 57 (nI b) (nI (q_ct (q_sp q g b) i)) (nI i) (p_m I P) = some (nI (q_ct (q_sp q g b) q.1), p_m I' P) ∧ p_same (fun a => a = 61) I I' ∧ m_G I' 61 0 q.1 (q_sf q g b q.1) := by
  intro f
  induction f with
  | zero => intro i I _ _ h; omega
  | succ f ih =>
    intro i I hB hi hf
    have hx := hB.x
    have h8 := hB.2.1.2.1
    have hs1 : g.2.2.1 ≤ 1 := hg.2.1
    have e16 : I 61 16 = nI g.2.2.1 := hx.2.2.2.2.2.2.1
    unfold f_X5_shout_L18 f_X5_shout_L62 f_X5_shout_L94 z_lt
    simp (disch := omega) only [p_Q hB.1, p_L, e16, hx.1, p_N, p_A]
    by_cases h1 : q.1 ≤ i
    · rw [if_pos h1]
      obtain rfl : i = q.1 := by omega
      exact ⟨I, rfl, p_same.rf, hB.2.2.2.2.1⟩
    · rw [if_neg h1]
      have hin : i < q.1 := by omega
      have hfc := (hg.1 i hin).1
      have hfi : I 61 i = nI (g.1 i) := by
        rw [hx.2.2.2.2.1 i hin]
        show nI (if i < i ∧ _ then _ else g.1 i) = _
        rw [if_neg (by omega)]
      have h21 : I 61 21 = nI (q_or (q_sp q g b) g.2.2.2.2.2.2.2 i) := hx.2.2.2.2.2.2.2.2.2.2.2
      have hs : q_or (q_sp q g b) g.2.2.2.2.2.2.2 (i + 1) = if q_sp q g b i = true then q_or (q_sp q g b) g.2.2.2.2.2.2.2 i ||| 2 ^ i else q_or (q_sp q g b) g.2.2.2.2.2.2.2 i := rfl
      have hct := q_ct_s (q_sp q g b) i
      have Y : q_sp q g b i = true → ∃ I', f_X5_shout_L18 f 57 (nI b) (nI (q_ct (q_sp q g b) i + 1)) (nI (i + 1)) (p_m (p_w (p_w I 61 i (nI ((g.1 i + 2) % 4))) 61 21 (nI (q_or (q_sp q g b) g.2.2.2.2.2.2.2 i ||| 2 ^ i))) P) = some (nI (q_ct (q_sp q g b) q.1), p_m I' P) ∧ p_same (fun a => a = 61) I I' ∧ m_G I' 61 0 q.1 (q_sf q g b q.1) := by
        intro hp
        rw [if_pos hp] at hs hct
        have hsw : p_same (fun a => a = 61) I (p_w (p_w I 61 i (nI ((g.1 i + 2) % 4))) 61 21 (nI (q_or (q_sp q g b) g.2.2.2.2.2.2.2 i ||| 2 ^ i))) := (p_same.rf.o).o
        have hG := ((hB.2.2.2.2.1.fc h8 (i := i) (v := (g.1 i + 2) % 4) hin).hd h8 (v := q_or (q_sp q g b) g.2.2.2.2.2.2.2 i ||| 2 ^ i)).ext (g' := q_sf q g b (i + 1)) (fun j hj => by
          show (if j < i + 1 ∧ q_sp q g b j = true then (g.1 j + 2) % 4 else g.1 j) = (if j = i then (g.1 i + 2) % 4 else if j < i ∧ q_sp q g b j = true then (g.1 j + 2) % 4 else g.1 j)
          by_cases e : j = i
          · subst e; rw [if_pos ⟨by omega, hp⟩, if_pos rfl]
          · rw [if_neg e]
            by_cases hj2 : j < i
            · simp only [show j < i + 1 by omega, hj2]
            · rw [if_neg (by omega), if_neg (by omega)]) (by show (_, _, _, _, _, _, q_or (q_sp q g b) g.2.2.2.2.2.2.2 (i + 1)) = _; rw [hs]; rfl)
        obtain ⟨I', a1, a2, a3⟩ := ih (i + 1) _ ⟨hB.1, hB.2.1, q_sf_ok hg (by omega), hB.2.2.2.1.keep hsw (by omega), hG, by rw [hsw 57 (by omega)]; exact hB.2.2.2.2.2⟩ (by omega) (by omega)
        rw [hct] at a1
        exact ⟨I', a1, hsw.tr a2, a3⟩
      have N : q_sp q g b i = false → ∃ I', f_X5_shout_L18 f 57 (nI b) (nI (q_ct (q_sp q g b) i)) (nI (i + 1)) (p_m I P) = some (nI (q_ct (q_sp q g b) q.1), p_m I' P) ∧ p_same (fun a => a = 61) I I' ∧ m_G I' 61 0 q.1 (q_sf q g b q.1) := by
        intro hp
        rw [if_neg (by simp [hp])] at hs hct
        have hG := hB.2.2.2.2.1.ext (g' := q_sf q g b (i + 1)) (fun j hj => by
            show (if j < i + 1 ∧ q_sp q g b j = true then (g.1 j + 2) % 4 else g.1 j) = (if j < i ∧ q_sp q g b j = true then (g.1 j + 2) % 4 else g.1 j)
            by_cases e : j = i
            · subst e; rw [if_neg (by simp [hp]), if_neg (by omega)]
            · by_cases hj2 : j < i
              · simp only [show j < i + 1 by omega, hj2]
              · rw [if_neg (by omega), if_neg (by omega)]) (by show (_, _, _, _, _, _, q_or (q_sp q g b) g.2.2.2.2.2.2.2 (i + 1)) = _; rw [hs]; rfl)
        obtain ⟨I', a1, a2, a3⟩ := ih (i + 1) I ⟨hB.1, hB.2.1, q_sf_ok hg (by omega), hB.2.2.2.1, hG, hB.2.2.2.2.2⟩ (by omega) (by omega)
        rw [hct, Nat.add_zero] at a1
        exact ⟨I', a1, a2, a3⟩
      have hr := q_r_eq (q := q) (g := g) (fun i hi => (hg.1 i hi).2) h8 hin
      have he := m_end hB hin
      have hc := m_cb hB hin hb
      rw [show (q_sf q g b i).2.1 = g.2.1 from rfl] at he hc
      simp (disch := omega) only [p_Q hB.1, p_C, he, hc, p_b, p_L, p_S, hfi, h21, p_w_ne, p_A, p_mo, p_sh, p_or, hr]
      by_cases e : i = b
      · rw [if_pos e]
        exact Y (by unfold q_sp; simp [e])
      · rw [if_neg e]
        by_cases h0 : g.2.2.1 = 0
        · rw [if_pos h0]
          by_cases h9 : q_ce q.2.2.1 g.2.1 99 9 i = 99
          · rw [if_pos h9]
            exact N (by unfold q_sp q_hd; simp [e, h9])
          · rw [if_neg h9]
            cases hd : q_cb q.2.2.1 g.2.1 b 9 i with
            | true =>
              simp (disch := omega) only [if_true, p_A, p_tf, if_false]
              exact Y (by unfold q_sp q_hd; simp [h0, h9, hd])
            | false =>
              simp (disch := omega) only [Bool.false_eq_true, if_false, p_A, p_tf, if_true]
              exact N (by unfold q_sp q_hd; simp [e, hd])
        · rw [if_neg h0]
          exact N (by unfold q_sp q_hd; simp [e, h0])
end
