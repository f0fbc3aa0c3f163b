/-! ROWS OF WORDS: THE REFERENCE -/
section
variable {I : Nat → Nat → Int32} {P : Nat → Nat → Option Nat} {s d : Nat} {pl : Nat → Nat} {A : q_S} {q : q_Q} {g : q_G}
theorem r_u3 {n r k : Nat} (hk : k < n) : 3 ^ (n - k) / 3 = 3 ^ (n - 1 - k) ∧ r / 3 ^ (n - 1 - k) % 3 = r_rd n r k := by
  refine ⟨?_, rfl⟩
  rw [show n - k = (n - 1 - k) + 1 by omega, Nat.pow_succ, Nat.mul_div_cancel _ (by decide)]
theorem r_mrL (hg : g_in q.1 g) {n r M : Nat} (hn : n ≤ 5) (hr : r < 3 ^ n) (hM : M ≤ 243) {F : Nat → Int32 → Int32 → Int32 → Int32 → z_M → z_R} : ∀ (f k : Nat) (I : Nat → Nat → Int32), m_B I P q (r_rw q g n r k) → k ≤ n → n - k < f →
    ∃ I', f_X5_rows_L42 F f 57 (nI n) (nI M) (nI (3 ^ n)) (nI r) (nI (3 ^ (n - k))) (nI k) (p_m I P) = F 57 (nI n) (nI (M + (if r_ra q g n r then 1 else 0))) (nI (3 ^ n)) (nI (r + 1)) (p_m I' P) ∧ p_same (fun a => a = 57 ∨ a = 61) I I' ∧ (∀ j, j ≠ 13 → I' 57 j = I 57 j) ∧ (∀ x, x < 22 → I' 61 x = I 64 x) ∧ I' 57 13 = if r_ra q g n r = true ∧ M = 0 then nI r else I 57 13 := by
  intro f
  induction f with
  | zero => intro k I _ _ h; omega
  | succ f ih =>
    intro k I hB hk hf
    have h3 := r_p3 n hn
    unfold f_X5_rows_L42
    simp (disch := omega) only [p_N, p_A]
    by_cases h1 : n ≤ k
    · rw [if_pos h1]
      obtain rfl : k = n := by omega
      have hal : q_al (r_rw q g k r k).1 q.1 = r_ra q g k r := r_rw_al hg hn
      simp (disch := omega) only [p_C, m_al hB, p_b, hal]
      have K : ∀ (v : Int32) (N : Nat), N ≤ 1 → v = (if r_ra q g k r = true ∧ M = 0 then nI r else I 57 13) → N = (if r_ra q g k r then 1 else 0) → ∃ I', (z_sI (p_m I P) 57 5 13 v fun m3 => if nI N = nI 0 then (f_X5_rows_L115 F 57 (nI k) (nI (3 ^ k)) (nI r) (nI 0) (nI M) m3) else (f_X5_rows_L115 F 57 (nI k) (nI (3 ^ k)) (nI r) (nI 1) (nI M) m3)) = F 57 (nI k) (nI (M + (if r_ra q g k r then 1 else 0))) (nI (3 ^ k)) (nI (r + 1)) (p_m I' P) ∧ p_same (fun a => a = 57 ∨ a = 61) I I' ∧ (∀ j, j ≠ 13 → I' 57 j = I 57 j) ∧ (∀ x, x < 22 → I' 61 x = I 64 x) ∧ I' 57 13 = if r_ra q g k r = true ∧ M = 0 then nI r else I 57 13 := by
        intro v N hN hv hNe
        obtain ⟨I2, b1, b2, b3⟩ := m_lets hB.1 (p_w I 57 13 v)
        refine ⟨I2, ?_, (p_same.rf.w (Or.inl rfl)).tr (b2.mono (fun a ha => Or.inr ha)), fun j hj => ?_, fun x hx => ?_, ?_⟩
        · rw [← hNe]
          unfold f_X5_rows_L115 z_lt
          simp (disch := omega) only [p_F, p_N, p_C, b1, p_b, p_A]
          rcases (show N = 0 ∨ N = 1 by omega) with rfl | rfl
          · simp only [if_true]
          · simp only [p_tf, if_false]
        · rw [b2 57 (by omega), p_w_ne (Or.inr hj)]
        · rw [b3 x hx, p_w_ne (Or.inl (by omega))]
        · rw [b2 57 (by omega), p_w_eq, hv]
      cases ha : r_ra q g k r with
      | false =>
        rw [ha] at K
        have K0 := K (I 57 13) 0 (by omega) (by simp) (by simp)
        unfold f_X5_rows_L97 f_X5_rows_L101
        simp (disch := omega) only [Bool.false_eq_true, if_false, p_A, p_tf, if_true, p_G, p_N, false_and] at K0 ⊢
        exact K0
      | true =>
        rw [ha] at K
        unfold f_X5_rows_L97 f_X5_rows_L101
        by_cases hM0 : M = 0
        · have K0 := K (nI r) 1 (by omega) (by simp [hM0]) (by simp)
          simp (disch := omega) only [if_false, p_A, p_tf, if_true, p_G, p_N, true_and, hM0] at K0 ⊢
          exact K0
        · have K0 := K (I 57 13) 1 (by omega) (by simp [hM0]) (by simp)
          simp (disch := omega) only [if_false, p_A, p_tf, if_true, p_G, p_N, true_and, hM0] at K0 ⊢
          exact K0
    · rw [if_neg h1]
      have hkn : k < n := by omega
      obtain ⟨u1, u2⟩ := r_u3 (r := r) hkn
      have p0 : 0 < 3 ^ (n - 1 - k) := Nat.pow_pos (by decide)
      have p1 : 3 ^ (n - 1 - k) ≤ 243 := r_p3 _ (by omega)
      have p2 : 3 ^ (n - k) ≤ 243 := r_p3 _ (by omega)
      have e0 : (3 ^ (n - 1 - k) = 0) = False := eq_false (by omega)
      have hq : r / 3 ^ (n - 1 - k) < 2147483648 := Nat.lt_of_le_of_lt (Nat.div_le_self _ _) (by omega)
      obtain ⟨e, he, e1, e2⟩ := m_errs hB 1 (by omega)
      obtain ⟨I1, a1, a2, a3⟩ := m_say (w := r_rd n r k) (er := q_ef q) (r_rd3 n r k) he hB (fun a ha => by have := e2 a ha; rw [if_pos rfl] at this; exact this)
      obtain ⟨g4, -, -, -, -⟩ := r_rw_ok (n := n) (r := r) hg (k + 1) (by omega)
      have hB1 : m_B I1 P q (r_rw q g n r (k + 1)) := ⟨hB.1, hB.2.1, g4, hB.2.2.2.1.keep a2 (by omega), a3, by rw [a2 57 (by omega)]; exact hB.2.2.2.2.2⟩
      obtain ⟨I2, b1, b2, b3, b4, b5⟩ := ih (k + 1) I1 hB1 (by omega) (by omega)
      refine ⟨I2, ?_, (a2.mono (fun a ha => Or.inr ha)).tr b2, fun j hj => by rw [b3 j hj, a2 57 (by omega)], fun x hx => by rw [b4 x hx, a2 64 (by omega)], by rw [b5, a2 57 (by omega)]⟩
      rw [show n - (k + 1) = n - 1 - k by omega] at b1
      unfold z_lt z_dv
      simp (disch := omega) only [p_N, p_di, u1, p_A, e0, if_false, p_C, e1, p_b, p_mo, u2, a1]
      exact b1
theorem r_m30 (hg : g_in q.1 g) {n : Nat} (hn : n ≤ 5) : ∀ (f r : Nat) (I : Nat → Nat → Int32), m_B I P q g → (∀ x, x < 22 → I 64 x = I 61 x) → (q_ct (r_ra q g n) r = 0 ∨ ∃ r0, r_1st (r_ra q g n) r r0 ∧ I 57 13 = nI r0) → (q_ct (r_ra q g n) r = 0 → ∀ j, j < r → r_ra q g n j = false) → r ≤ 3 ^ n → 3 ^ n - r < f →
    ∃ I', f_X5_rows_L30 f 57 (nI n) (nI (q_ct (r_ra q g n) r)) (nI (3 ^ n)) (nI r) (p_m I P) = some (nI (q_ct (r_ra q g n) (3 ^ n)), p_m I' P) ∧ p_same (fun a => a = 57 ∨ a = 61) I I' ∧ (∀ j, j ≠ 13 → I' 57 j = I 57 j) ∧ (∀ x, x < 22 → I' 61 x = I 61 x) ∧ (q_ct (r_ra q g n) (3 ^ n) = 0 ∨ ∃ r0, r_1st (r_ra q g n) (3 ^ n) r0 ∧ I' 57 13 = nI r0) := by
  intro f
  induction f with
  | zero => intro r I _ _ _ _ _ h; omega
  | succ f ih =>
    intro r I hB hh h1st h0 hr hf
    have h3 := r_p3 n hn
    have hct := q_ct_le (r_ra q g n) r
    unfold f_X5_rows_L30
    simp (disch := omega) only [p_N, p_A]
    by_cases h1 : 3 ^ n ≤ r
    · rw [if_pos h1]
      obtain rfl : r = 3 ^ n := by omega
      exact ⟨I, rfl, p_same.rf, fun _ _ => rfl, fun _ _ => rfl, h1st⟩
    · rw [if_neg h1]
      obtain ⟨I1, a1, a2, a3, a4, a5⟩ := r_mrL (P := P) hg hn (show r < 3 ^ n by omega) (show q_ct (r_ra q g n) r ≤ 243 by omega) (F := f_X5_rows_L30 f) 400 0 I hB (by omega) (by omega)
      have hB1 : m_B I1 P q g := ⟨hB.1, hB.2.1, hB.2.2.1, hB.2.2.2.1.keep a2 (by omega), hB.2.2.2.2.1.copy hB.2.1.2.1 (fun j hj => by rw [Nat.zero_add, a4 j hj, hh j hj]), by rw [a3 10 (by omega)]; exact hB.2.2.2.2.2⟩
      obtain ⟨I2, b1, b2, b3, b4, b5⟩ := ih (r + 1) I1 hB1 (fun x hx => by rw [a2 64 (by omega), a4 x hx]) (by
          rw [q_ct_s]
          cases ha : r_ra q g n r with
          | false =>
            rw [ha, if_neg (by simp)] at a5
            rcases h1st with e | ⟨r0, e1, e2⟩
            · exact Or.inl (by rw [e]; simp)
            · exact Or.inr ⟨r0, ⟨by have := e1.1; omega, e1.2⟩, by rw [a5, e2]⟩
          | true =>
            right
            rcases h1st with e | ⟨r0, e1, e2⟩
            · exact ⟨r, ⟨by omega, ha, h0 e⟩, by rw [a5, if_pos ⟨ha, e⟩]⟩
            · have := r_ct_1 e1
              exact ⟨r0, ⟨by have := e1.1; omega, e1.2⟩, by rw [a5, if_neg (by omega), e2]⟩) (by
          rw [q_ct_s]
          intro e j hj
          by_cases ej : j = r
          · subst ej
            cases ha : r_ra q g n j with
            | false => rfl
            | true => rw [ha] at e; simp at e
          · exact h0 (by omega) j (by omega)) (by omega) (by omega)
      rw [Nat.sub_zero] at a1
      refine ⟨I2, ?_, a2.tr b2, fun j hj => by rw [b3 j hj, a3 j hj], fun x hx => by rw [b4 x hx, a4 x hx, hh x hx], b5⟩
      rw [q_ct_s] at b1
      exact a1.trans b1
theorem r_m11 {n : Nat} (hn : n ≤ 5) {m : z_M} {v : Int32} : ∀ (f k : Nat), k ≤ n → n - k < f → f_X5_rows_L11 f 57 (nI n) v (nI (3 ^ k)) (nI k) m = f_X5_rows_L30 400 57 (nI n) v (nI (3 ^ n)) (nI 0) m := by
  intro f
  induction f with
  | zero => intro k _ h; omega
  | succ f ih =>
    intro k hk hf
    unfold f_X5_rows_L11 z_lt
    simp (disch := omega) only [p_N, p_A]
    by_cases h1 : n ≤ k
    · rw [if_pos h1, show k = n by omega]
    · rw [if_neg h1, pk_mul, ← Nat.pow_succ]
      exact ih (k + 1) (by omega) (by omega)
theorem r_rows (hg : g_in q.1 g) {n : Nat} (hn : n ≤ 5) (hB : m_B I P q g) : ∃ I', f_X5_rows 57 (nI n) (p_m I P) = some (nI (q_ct (r_ra q g n) (3 ^ n)), p_m I' P) ∧ (p_same (fun a => a = 57 ∨ a = 61 ∨ a = 64) I I' ∧ (∀ j, j ≠ 13 → I' 57 j = I 57 j) ∧ ∀ x, x < 22 → I' 61 x = I 61 x) ∧ (q_ct (r_ra q g n) (3 ^ n) = 0 ∨ ∃ r0, r_1st (r_ra q g n) (3 ^ n) r0 ∧ I' 57 13 = nI r0) := by
  obtain ⟨I1, d1, d2, d3⟩ := m_holds hB.1 I
  have hB1 : m_B I1 P q g := ⟨hB.1, hB.2.1, hB.2.2.1, hB.2.2.2.1.keep d2 (by omega), hB.2.2.2.2.1.keep d2 (by omega), by rw [d2 57 (by omega)]; exact hB.2.2.2.2.2⟩
  have h3 := r_p3 n hn
  obtain ⟨I2, b1, b2, b3, b4, b5⟩ := r_m30 hg hn 400 0 I1 hB1 (fun x hx => by rw [d3 x hx, d2 61 (by omega)]) (Or.inl rfl) (fun _ j hj => by omega) (Nat.zero_le _) (by omega)
  refine ⟨I2, ?_, ⟨(d2.mono (fun a ha => Or.inr (Or.inr ha))).tr (b2.mono (fun a ha => by omega)), fun j hj => by rw [b3 j hj, d2 57 (by omega)], fun x hx => by rw [b4 x hx, d2 61 (by omega)]⟩, b5⟩
  obtain ⟨F, hF⟩ : ∃ F : Nat, 400 = F := ⟨_, rfl⟩
  have hl := r_m11 hn (m := p_m I1 P) (v := nI 0) F 0 (by omega) (by omega)
  rw [show q_ct (r_ra q g n) 0 = 0 from rfl] at b1
  rw [b1] at hl
  unfold f_X5_rows
  rw [hF]
  simp (disch := omega) only [p_C, d1, p_b, p_N]
  exact hl
end
