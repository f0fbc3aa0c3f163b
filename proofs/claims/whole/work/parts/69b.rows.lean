/-! ROWS OF WORDS: THE CLASS'S LOOPS, THE REFERENCE'S -/
/-- the first of N that p takes -/
def r_1st (p : Nat → Bool) (N r : Nat) : Prop := r < N ∧ p r = true ∧ ∀ j, j < r → p j = false
theorem r_1st_u {p : Nat → Bool} {N r r' : Nat} (h : r_1st p N r) (h' : r_1st p N r') : r = r' := by
  rcases Nat.lt_trichotomy r r' with e | e | e
  · have := h'.2.2 r e; rw [h.2.1] at this; cases this
  · exact e
  · have := h.2.2 r' e; rw [h'.2.1] at this; cases this
theorem r_ct_0 {p : Nat → Bool} : ∀ {N : Nat}, (∀ j, j < N → p j = false) → q_ct p N = 0
  | 0, _ => rfl
  | N + 1, h => by
    rw [q_ct_s, r_ct_0 (fun j hj => h j (by omega)), h N (by omega)]
    rfl
theorem r_ct_1 {p : Nat → Bool} {r : Nat} : ∀ {N : Nat}, r_1st p N r → 0 < q_ct p N
  | 0, h => by have := h.1; omega
  | N + 1, h => by
    rw [q_ct_s]
    by_cases e : r = N
    · subst e; rw [h.2.1]; simp
    · have := r_ct_1 (N := N) ⟨by have := h.1; omega, h.2⟩
      omega
theorem r_crw {n : Nat} (hn : n ≤ 5) (k : Int32 → z_R) : z_tl 1 (nI n) k = k (nI (3 ^ n)) := by
  rw [p_tl (t := 1) (i := n) (by show n < 6; omega), show z_tb 1 n = nI (3 ^ n) by rcases (show n = 0 ∨ n = 1 ∨ n = 2 ∨ n = 3 ∨ n = 4 ∨ n = 5 by omega) with rfl | rfl | rfl | rfl | rfl | rfl <;> rfl]
section
variable {I : Nat → Nat → Int32} {P : Nat → Nat → Option Nat} {s d : Nat} {pl : Nat → Nat} {A : q_S} {q : q_Q} {g : q_G}
theorem r_cfrL (h : c_B I P s q g) {n : Nat} (hn : n ≤ 5) : ∀ (f r : Nat) (I : Nat → Nat → Int32), c_B I P s q g → (∀ j, j < q.1 → I 55 j = nI (q_mf q g j)) → r ≤ 3 ^ n → 3 ^ n - r < f → (∀ j, j < r → r_ra q g n j = false) →
    ∃ I' x, f_X4_firstRowAlike_L2 f 0 (nI n) (nI r) (p_m I P) = some (x, p_m I' P) ∧ p_same (fun a => a = 56) I I' ∧ ((x = -nI 4 ∧ ∀ j, j < 3 ^ n → r_ra q g n j = false) ∨ ∃ r, x = nI r ∧ r_1st (r_ra q g n) (3 ^ n) r) := by
  intro f
  induction f with
  | zero => intro r I _ _ _ h; omega
  | succ f ih =>
    intro r I h hm hr hf hno
    have h3 := r_p3 n hn
    unfold f_X4_firstRowAlike_L2
    simp (disch := omega) only [r_crw hn, p_N, p_A]
    by_cases h1 : 3 ^ n ≤ r
    · rw [if_pos h1]
      exact ⟨I, _, rfl, p_same.rf, Or.inl ⟨rfl, fun j hj => hno j (by omega)⟩⟩
    · rw [if_neg h1]
      obtain ⟨I1, a1, a2⟩ := c_ra h hn (show r < 243 by omega) hm
      simp (disch := omega) only [p_C, a1, p_b]
      cases ha : r_ra q g n r with
      | false =>
        simp (disch := omega) only [Bool.false_eq_true, if_false, p_A, p_tf, if_true]
        obtain ⟨I2, x, b1, b2, b3⟩ := ih (r + 1) I1 (h.keep (a2.mono (fun a ha => by unfold q_scr; omega))) (fun j hj => by rw [a2 55 (by omega)]; exact hm j hj) (by omega) (by omega) (fun j hj => by
          by_cases e : j = r
          · subst e; exact ha
          · exact hno j (by omega))
        exact ⟨I2, x, b1, a2.tr b2, b3⟩
      | true =>
        simp (disch := omega) only [if_true, p_A, p_tf, if_false]
        exact ⟨I1, _, rfl, a2, Or.inr ⟨r, rfl, by omega, ha, hno⟩⟩
theorem r_cnuL (h : c_B I P s q g) {n : Nat} (hn : n ≤ 5) : ∀ (f r : Nat) (I : Nat → Nat → Int32), c_B I P s q g → (∀ j, j < q.1 → I 55 j = nI (q_mf q g j)) → r ≤ 3 ^ n → 3 ^ n - r < f →
    ∃ I', f_X4_numbers_L20 f 0 (nI n) (nI (q_ct (r_ra q g n) r)) (nI r) (p_m I P) = some (nI (q_ct (r_ra q g n) (3 ^ n)), p_m I' P) ∧ p_same (fun a => a = 56) I I' := by
  intro f
  induction f with
  | zero => intro r I _ _ _ h; omega
  | succ f ih =>
    intro r I h hm hr hf
    have h3 := r_p3 n hn
    unfold f_X4_numbers_L20 f_X4_numbers_L41
    simp (disch := omega) only [r_crw hn, p_N, p_A]
    by_cases h1 : 3 ^ n ≤ r
    · rw [if_pos h1, show r = 3 ^ n by omega]
      exact ⟨I, rfl, p_same.rf⟩
    · rw [if_neg h1]
      obtain ⟨I1, a1, a2⟩ := c_ra h hn (show r < 243 by omega) hm
      obtain ⟨I2, b1, b2⟩ := ih (r + 1) I1 (h.keep (a2.mono (fun a ha => by unfold q_scr; omega))) (fun j hj => by rw [a2 55 (by omega)]; exact hm j hj) (by omega) (by omega)
      refine ⟨I2, ?_, a2.tr b2⟩
      rw [q_ct_s] at b1
      simp (disch := omega) only [p_C, a1, p_b]
      cases ha : r_ra q g n r with
      | false =>
        rw [ha] at b1
        simpa (disch := omega) only [Bool.false_eq_true, if_false, p_A, p_tf, if_true, Nat.add_zero] using b1
      | true =>
        rw [ha] at b1
        simpa (disch := omega) only [if_true, p_A, p_tf, if_false] using b1
/-- the state behind k words of a row -/
def r_rw (q : q_Q) (g : q_G) (n r : Nat) : Nat → q_G
  | 0 => g
  | k + 1 => q_say q (r_rw q g n r k) (r_rd n r k) (q_ef q)
theorem r_rw_ok {q : q_Q} {g : q_G} {n r : Nat} (hg : g_in q.1 g) : ∀ k, k ≤ 5 → g_ok q.1 (r_rw q g n r k) ∧ (r_rw q g n r k).2.2.2.1 = g.2.2.2.1 + k ∧ (∀ i, q_ld q (r_rw q g n r k) i = q_ld q g i) ∧ (r_rw q g n r k).2.2.2.2.1 = r_rh n r g.2.2.2.2.1 k ∧ ∀ i, i < q.1 → (r_rw q g n r k).1 i % 4 = (g.1 i + r_sm n r g.2.2.2.2.1 (q_mf q g i) k) % 4
  | 0, _ => ⟨hg.1, rfl, fun _ => rfl, rfl, fun _ _ => rfl⟩
  | k + 1, h => by
    obtain ⟨a, b, c, e, l⟩ := r_rw_ok (n := n) (r := r) hg k (by omega)
    have h9 := hg.2
    refine ⟨q_say_ok a (Nat.mod_lt _ (by decide)) (by omega), ?_, fun i => (c i), rfl, fun i hi => ?_⟩
    · show (r_rw q g n r k).2.2.2.1 + 1 = _
      omega
    · show (if i < q.1 then ((r_rw q g n r k).1 i + q_tw q (r_rw q g n r k) (r_rd n r k) (q_ef q) i) % 4 else (r_rw q g n r k).1 i) % 4 = (g.1 i + (r_sm n r g.2.2.2.2.1 (q_mf q g i) k + r_st1 n r g.2.2.2.2.1 (q_mf q g i) k)) % 4
      rw [if_pos hi]
      have e1 : q_tw q (r_rw q g n r k) (r_rd n r k) (q_ef q) i = r_st1 n r g.2.2.2.2.1 (q_mf q g i) k := by
        unfold q_tw r_st1 q_mf
        rw [c i, e]
      rw [e1]
      have := l i hi
      omega
theorem r_rw_f {q : q_Q} {g : q_G} {n r : Nat} (hg : g_in q.1 g) (hn : n ≤ 5) {i : Nat} (hi : i < q.1) : (r_rw q g n r n).1 i = r_rf q g n r i := by
  obtain ⟨a, -, -, -, l⟩ := r_rw_ok (n := n) (r := r) hg n hn
  have h1 := l i hi
  have h2 := (a.1 i hi).1
  unfold r_rf
  omega
theorem r_al_ext {p p' : Nat → Nat} : ∀ {n : Nat}, (∀ i, i < n → p i = p' i) → q_al p n = q_al p' n
  | 0, _ => rfl
  | n + 1, h => by
    show (q_al p n && decide (p n = p 0)) = (q_al p' n && decide (p' n = p' 0))
    rw [r_al_ext (n := n) (fun i hi => h i (by omega)), h n (by omega), h 0 (by omega)]
theorem r_rw_al {q : q_Q} {g : q_G} {n r : Nat} (hg : g_in q.1 g) (hn : n ≤ 5) : q_al (r_rw q g n r n).1 q.1 = r_ra q g n r := r_al_ext (fun i hi => r_rw_f hg hn hi)
end
