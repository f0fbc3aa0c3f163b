/-! A SHOUT -/
def q_sp (q : q_Q) (g : q_G) (b i : Nat) : Bool := decide (i = b) || q_hd q g b i
def q_sm (q : q_Q) (g : q_G) (b i : Nat) : q_G := (fun j => if j < i ∧ q_sp q g b j = true then (g.1 j + 2) % 4 else g.1 j, g.2)
def q_sf (q : q_Q) (g : q_G) (b i : Nat) : q_G := (fun j => if j < i ∧ q_sp q g b j = true then (g.1 j + 2) % 4 else g.1 j, g.2.1, g.2.2.1, g.2.2.2.1, g.2.2.2.2.1, g.2.2.2.2.2.1, g.2.2.2.2.2.2.1, q_or (q_sp q g b) g.2.2.2.2.2.2.2 i)
theorem q_sm_ok {q : q_Q} {g : q_G} {b i : Nat} (hg : g_ok q.1 g) : g_ok q.1 (q_sm q g b i) := by
  obtain ⟨h1, h2⟩ := hg
  refine ⟨fun j hj => ⟨?_, (h1 j hj).2⟩, h2⟩
  show (if j < i ∧ q_sp q g b j = true then (g.1 j + 2) % 4 else g.1 j) < 4
  have := (h1 j hj).1
  split
  · exact Nat.mod_lt _ (by decide)
  · exact this
theorem q_sf_ok {q : q_Q} {g : q_G} {b i : Nat} (hg : g_ok q.1 g) (hi : i ≤ q.1) : g_ok q.1 (q_sf q g b i) := by
  obtain ⟨h1, h2, h3, h4, h5, h6, h7⟩ := hg
  refine ⟨fun j hj => ⟨?_, (h1 j hj).2⟩, h2, h3, h4, h5, h6, q_or_lt h7 i hi⟩
  show (if j < i ∧ q_sp q g b j = true then (g.1 j + 2) % 4 else g.1 j) < 4
  have := (h1 j hj).1
  split
  · exact Nat.mod_lt _ (by decide)
  · exact this
section
variable {I : Nat → Nat → Int32} {P : Nat → Nat → Option Nat} {s : Nat} {q : q_Q} {g : q_G}
theorem c_shL (hg : g_ok q.1 g) {b : Nat} (hb : b < q.1) : ∀ (f i : Nat) (I : Nat → Nat → Int32), c_B I P s q (q_sm q g b i) → i ≤ q.1 → q.1 - i < f →
    ∃ I', f_X4_shout_L25 f 0 (nI b) (nI (q_or (q_sp q g b) 0 i)) (nI i) (p_m I P) = some (nI (q_ct (q_sp q g b) q.1), p_m I' P) ∧ p_same (fun a => a = 14 ∨ a = 15) I I' ∧ c_G I' 14 q.1 (q_sf q g b q.1) := by
  intro f
  induction f with
  | zero => intro i I _ _ h; omega
  | succ f ih =>
    intro i I hB hi hf
    have hx := hB.x
    have h8 := hB.2.2.1.2.1
    have hlt : q_or (q_sp q g b) 0 i < 2 ^ 8 := q_or_lt (n := 8) (by decide) i (by omega)
    unfold f_X4_shout_L25 f_X4_shout_L50 f_X4_shout_L78 z_lt
    simp (disch := omega) only [c_sq1 hB.2.1, c_sqI hB.2.1, p_N, hx, p_A]
    by_cases h1 : q.1 ≤ i
    · rw [if_pos h1]
      obtain rfl : i = q.1 := by omega
      have h7 : I 14 7 = nI g.2.2.2.2.2.2.2 := hB.2.2.2.2.2.2.2.2.2.2.2
      simp (disch := omega) only [p_Q hB.1, p_G, p_F, h7, p_or, p_b, c_bits hlt]
      refine ⟨p_w I 14 7 (nI (g.2.2.2.2.2.2.2 ||| q_or (q_sp q g b) 0 q.1)), ?_, (p_same.w (S := fun a => a = 14 ∨ a = 15) p_same.rf (Or.inl rfl)), ?_⟩
      · rw [q_pf_or, Nat.min_eq_right (by omega)]
      · obtain ⟨b0, b1, b2, b3, b4, b5, b6⟩ := hB.2.2.2.2.2
        refine ⟨fun j hj => by rw [p_w_ne (Or.inl (by omega)), p_w_ne (Or.inl (by omega))]; exact b0 j hj, by rw [p_w_ne (Or.inr (by omega))]; exact b1, by rw [p_w_ne (Or.inr (by omega))]; exact b2, by rw [p_w_ne (Or.inr (by omega))]; exact b3, by rw [p_w_ne (Or.inr (by omega))]; exact b4, by rw [p_w_ne (Or.inr (by omega))]; exact b5, ?_⟩
        rw [p_w_eq]
        show _ = nI (q_or (q_sp q g b) g.2.2.2.2.2.2.2 q.1)
        rw [q_or_acc (q_sp q g b) g.2.2.2.2.2.2.2 q.1]
    · rw [if_neg h1]
      have hin : i < q.1 := by omega
      have hfc := (hg.1 i hin).1
      have hfi : I 15 i = nI (g.1 i) := by
        rw [(hB.2.2.2.2.2.1 i hin).1]
        show nI (if i < i ∧ _ then _ else g.1 i) = _
        rw [if_neg (by omega)]
      have hs : q_or (q_sp q g b) 0 (i + 1) = if q_sp q g b i = true then q_or (q_sp q g b) 0 i ||| 2 ^ i else q_or (q_sp q g b) 0 i := rfl
      have Y : q_sp q g b i = true → ∃ I', f_X4_shout_L25 f 0 (nI b) (nI (q_or (q_sp q g b) 0 i ||| 2 ^ i)) (nI (i + 1)) (p_m (p_w I 15 i (nI ((g.1 i + 2) % 4))) P) = some (nI (q_ct (q_sp q g b) q.1), p_m I' P) ∧ p_same (fun a => a = 14 ∨ a = 15) I I' ∧ c_G I' 14 q.1 (q_sf q g b q.1) := by
        intro hp
        rw [if_pos hp] at hs
        have hsw : p_same (fun a => a = 14 ∨ a = 15) I (p_w I 15 i (nI ((g.1 i + 2) % 4))) := p_same.rf.w (Or.inr rfl)
        have hG := (hB.2.2.2.2.2.fc (i := i) (v := (g.1 i + 2) % 4)).ext (g' := q_sm q g b (i + 1)) (fun j hj => by
          show (if j < i + 1 ∧ q_sp q g b j = true then (g.1 j + 2) % 4 else g.1 j) = (if j = i then (g.1 i + 2) % 4 else if j < i ∧ q_sp q g b j = true then (g.1 j + 2) % 4 else g.1 j)
          by_cases e : j = i
          · subst e; rw [if_pos ⟨by omega, hp⟩, if_pos rfl]
          · rw [if_neg e]
            by_cases hj2 : j < i
            · simp only [show j < i + 1 by omega, hj2]
            · rw [if_neg (by omega), if_neg (by omega)]) rfl
        have hK := hB.k.keep hsw (fun a ha => by omega)
        obtain ⟨I', a1, a2, a3⟩ := ih (i + 1) (p_w I 15 i (nI ((g.1 i + 2) % 4))) ⟨hK.1, hK.2.1, hK.2.2.1, q_sm_ok hg, hK.2.2.2, hG⟩ (by omega) (by omega)
        rw [hs] at a1
        exact ⟨I', a1, hsw.tr a2, a3⟩
      have hh := c_heeds hB hin hb
      rw [show q_hd q (q_sm q g b i) b i = q_hd q g b i from rfl] at hh
      simp (disch := omega) only [p_Q hB.1, p_C, hh, p_b, p_L, p_S, hfi, p_A, p_mo, p_sh, p_or]
      by_cases e : i = b
      · rw [if_pos e]
        exact Y (by unfold q_sp; simp [e])
      · rw [if_neg e]
        cases hd : q_hd q g b i with
        | true =>
          simp (disch := omega) only [if_true, p_A, p_tf, if_false]
          exact Y (by unfold q_sp; simp [hd])
        | false =>
          have hp : q_sp q g b i = false := by unfold q_sp; simp [e, hd]
          rw [if_neg (by simp [hp])] at hs
          simp (disch := omega) only [Bool.false_eq_true, if_false, p_A, p_tf, if_true]
          have hG := hB.2.2.2.2.2.ext (g' := q_sm q g b (i + 1)) (fun j hj => by
            show (if j < i + 1 ∧ q_sp q g b j = true then (g.1 j + 2) % 4 else g.1 j) = (if j < i ∧ q_sp q g b j = true then (g.1 j + 2) % 4 else g.1 j)
            by_cases e : j = i
            · subst e; rw [if_neg (by simp [hp]), if_neg (by omega)]
            · by_cases hj2 : j < i
              · simp only [show j < i + 1 by omega, hj2]
              · rw [if_neg (by omega), if_neg (by omega)]) rfl
          obtain ⟨I', a1, a2, a3⟩ := ih (i + 1) I ⟨hB.1, hB.2.1, hB.2.2.1, q_sm_ok hg, hB.2.2.2.2.1, hG⟩ (by omega) (by omega)
          rw [hs] at a1
          exact ⟨I', a1, a2, a3⟩
end
