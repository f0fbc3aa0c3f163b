/-! DRILL -/
def q_dw (v k : Nat) : Nat := q_d (7919 * v + 6151 * k + 1) % 3
def q_dr (q : q_Q) (g : q_G) (v : Nat) : Nat → q_G
  | 0 => g
  | k + 1 => q_say q (q_dr q g v k) (q_dw v k) (q_er q (q_dr q g v k).2.2.2.1)
def q_dc (q : q_Q) (g : q_G) (v : Nat) (k : Nat) : Nat := q_ct (fun j => q_al (q_dr q g v (j + 1)).1 q.1) k
theorem q_dL {v k : Nat} (hv : v ≤ 9999) (hk : k ≤ 60) : ((7919 * (nI v).toInt64) + (6151 * (nI k).toInt64)) + 1 = lN (7919 * v + 6151 * k + 1) := by
  rw [nI_l (by omega), nI_l (by omega), show (7919 : Int64) = lN 7919 from rfl, show (6151 : Int64) = lN 6151 from rfl, lN_mul, lN_mul, lN_add, lN_1]
theorem q_dr_ok {q : q_Q} {g : q_G} {v : Nat} (hg : g_in q.1 g) : ∀ k, k ≤ 60 → g_ok q.1 (q_dr q g v k) ∧ (q_dr q g v k).2.2.2.1 = g.2.2.2.1 + k ∧ ∀ i, q_ld q (q_dr q g v k) i = q_ld q g i
  | 0, _ => ⟨hg.1, rfl, fun _ => rfl⟩
  | k + 1, h => by
    obtain ⟨a, b, c⟩ := q_dr_ok hg k (by omega)
    have h9 := hg.2
    refine ⟨q_say_ok a (Nat.mod_lt _ (by decide)) (by omega), ?_, fun i => (c i)⟩
    show (q_dr q g v k).2.2.2.1 + 1 = _
    omega
section
variable {I : Nat → Nat → Int32} {P : Nat → Nat → Option Nat} {s d : Nat} {pl : Nat → Nat} {A : q_S} {q : q_Q} {g : q_G}
theorem c_drL (hg : g_in q.1 g) {v N z : Nat} (hv : v ≤ 9999) (hN : N ≤ 60) (hz : z < 2) : ∀ (f k : Nat) (I : Nat → Nat → Int32), c_K I P s q → (∀ j, j < q.1 → I 54 j = nI (q_ld q g j)) → c_G I 17 q.1 (q_dr q g v k) → k ≤ N → N - k < f →
    ∃ I', f_X4_drill_L52 f 0 (nI v) (nI N) (nI z) (nI (q_dc q g v k)) (nI k) (p_m I P) = some (nI (if z = 0 then q_pf (q_wr q (q_dr q g v N)) 8 else q_dc q g v N), p_m I' P) ∧ p_same (fun a => a = 17 ∨ a = 18) I I' := by
  intro f
  induction f with
  | zero => intro k I _ _ _ _ h; omega
  | succ f ih =>
    intro k I hK hL hG hk hf
    have h8 := hK.2.2.1.2.1
    obtain ⟨g1, g2, g3⟩ := q_dr_ok (v := v) hg k (by omega)
    unfold f_X4_drill_L52 f_X4_drill_L101
    simp (disch := omega) only [p_N, p_A]
    by_cases h1 : N ≤ k
    · rw [if_pos h1]
      obtain rfl : k = N := by omega
      refine ⟨I, ?_, p_same.rf⟩
      by_cases hz0 : z = 0
      · rw [if_pos hz0, if_pos hz0]
        simp (disch := omega) only [p_Q hK.1, p_C, c_wrong (Or.inr rfl) hK hG g1, p_b, c_bits (q_wr_lt hK.2.2.1)]
      · rw [if_neg hz0, if_neg hz0]
    · rw [if_neg h1]
      have hd := q_d_lt (7919 * v + 6151 * k + 1)
      have hdr := c_draw (x := 7919 * v + 6151 * k + 1) (by omega) (p_m I P)
      rw [← q_dL hv (by omega)] at hdr
      obtain ⟨I1, a1, a2, a3⟩ := c_say (w := q_dw v k) (Or.inr rfl) (Nat.mod_lt _ (by decide)) g1 hK (fun j hj => by rw [g3 j]; exact hL j hj) hG
      have hK1 := hK.keep a2 (fun a ha => by omega)
      obtain ⟨g4, -, -⟩ := q_dr_ok (v := v) hg (k + 1) (by omega)
      have a3 : c_G I1 17 q.1 (q_dr q g v (k + 1)) := a3
      obtain ⟨I2, b1, b2⟩ := ih (k + 1) I1 hK1 (fun j hj => by rw [a2 54 (by omega)]; exact hL j hj) a3 (by omega) (by omega)
      refine ⟨I2, ?_, a2.tr b2⟩
      rw [show q_dc q g v (k + 1) = q_dc q g v k + (if q_al (q_dr q g v (k + 1)).1 q.1 then 1 else 0) from rfl] at b1
      unfold q_dw at a1
      simp (disch := omega) only [p_Q hK.1, hdr, p_b, p_mo, p_C, a1, c_al (Or.inr rfl) hK1 a3 g4]
      cases ha : q_al (q_dr q g v (k + 1)).1 q.1 with
      | false =>
        rw [ha] at b1
        simpa (disch := omega) only [Bool.false_eq_true, if_false, p_A, p_tf, if_true, Nat.add_zero] using b1
      | true =>
        rw [ha] at b1
        simpa (disch := omega) only [Bool.false_eq_true, if_false, p_A, p_tf, if_true] using b1
theorem m_drL (hg : g_in q.1 g) {v N z : Nat} (hv : v ≤ 9999) (hN : N ≤ 60) (hz : z < 2) : ∀ (f k : Nat) (I : Nat → Nat → Int32), m_B I P q (q_dr q g v k) → k ≤ N → N - k < f →
    ∃ I', f_X5_drill_L42 f 57 (nI v) (nI N) (nI z) (nI (q_dc q g v k)) (nI k) (p_m I P) = some (nI (if z = 0 then q_pf (q_wr q (q_dr q g v N)) 8 else q_dc q g v N), p_m I' P) ∧ p_same (fun a => a = 61) I I' ∧ ∀ x, x < 22 → I' 61 x = I 64 x := by
  intro f
  induction f with
  | zero => intro k I _ _ h; omega
  | succ f ih =>
    intro k I hB hk hf
    have h8 := hB.2.1.2.1
    unfold f_X5_drill_L42 f_X5_drill_L92 z_lt
    simp (disch := omega) only [p_N, p_A]
    by_cases h1 : N ≤ k
    · rw [if_pos h1]
      obtain rfl : k = N := by omega
      obtain ⟨I1, a1, a2, a3⟩ := m_lets hB.1 I
      refine ⟨I1, ?_, a2, a3⟩
      simp (disch := omega) only [p_C, m_wrong hB, p_b, m_ones (q_wr_lt hB.2.1), a1, p_b1]
      split <;> rfl
    · rw [if_neg h1]
      have hd := q_d_lt (7919 * v + 6151 * k + 1)
      have hdr := m_draw (x := 7919 * v + 6151 * k + 1) (by omega) (p_m I P)
      rw [← q_dL hv (by omega)] at hdr
      obtain ⟨e, he, e1, e2⟩ := m_errs hB 0 (by omega)
      obtain ⟨I1, a1, a2, a3⟩ := m_say (w := q_dw v k) (er := q_er q (q_dr q g v k).2.2.2.1) (Nat.mod_lt _ (by decide)) he hB (fun a ha => by have := e2 a ha; rw [if_neg (by decide)] at this; exact this)
      obtain ⟨g4, -, -⟩ := q_dr_ok (v := v) hg (k + 1) (by omega)
      have hB1 : m_B I1 P q (q_dr q g v (k + 1)) := ⟨hB.1, hB.2.1, g4, hB.2.2.2.1.keep a2 (by omega), a3, by rw [a2 57 (by omega)]; exact hB.2.2.2.2.2⟩
      obtain ⟨I2, b1, b2, b3⟩ := ih (k + 1) I1 hB1 (by omega) (by omega)
      refine ⟨I2, ?_, a2.tr b2, fun x hx => by rw [b3 x hx, a2 64 (by omega)]⟩
      rw [show q_dc q g v (k + 1) = q_dc q g v k + (if q_al (q_dr q g v (k + 1)).1 q.1 then 1 else 0) from rfl] at b1
      unfold q_dw at a1
      simp (disch := omega) only [hdr, p_b, p_mo, p_C, p_N, e1, a1, m_al hB1]
      cases ha : q_al (q_dr q g v (k + 1)).1 q.1 with
      | false =>
        rw [ha] at b1
        simpa (disch := omega) only [Bool.false_eq_true, if_false, p_A, p_tf, if_true, Nat.add_zero] using b1
      | true =>
        rw [ha] at b1
        simpa (disch := omega) only [Bool.false_eq_true, if_false, p_A, p_tf, if_true] using b1
theorem o_drill (hO : q_O A) (hC : q_C I P s d pl A) (hM : q_M I A) (v w u : Int32) : q_T (f_X4_drill 0 v w u (p_m I P)) (f_X5_drill 57 v w u) := by
  have hB := hC.b hO
  have mB := hM.b hC.1 hO
  have h8 := hO.1.2.1
  have n9 : (9999 : Int32) = nI 9999 := rfl
  have n60 : (60 : Int32) = nI 60 := rfl
  have bad : (f_X4_drill 0 v w u (p_m I P) = some (-nI 1, p_m I P)) → (f_X5_drill 57 v w u (p_m I P) = some (-nI 1, p_m I P)) → q_T (f_X4_drill 0 v w u (p_m I P)) (f_X5_drill 57 v w u) := fun a b => q_ask hO hC hM a p_same.rf b m_keep.rf
  by_cases hv : q_is v 10000
  · obtain ⟨v, hv1, rfl⟩ := q_is_nI hv (by omega)
    by_cases hw : q_is w 61 ∧ 1 ≤ w.toInt
    · obtain ⟨N, hN, rfl⟩ := q_is_nI hw.1 (by omega)
      have hN1 : 1 ≤ N := by have := hw.2; rw [nI_toInt (by omega)] at this; omega
      have c1 : (v < 0) = False := eq_false (by omega)
      have c2 : (9999 < v) = False := eq_false (by omega)
      have c3 : (N < 1) = False := eq_false (by omega)
      have c4 : (60 < N) = False := eq_false (by omega)
      by_cases hu : q_is u 2
      · obtain ⟨z, hz, rfl⟩ := q_is_nI hu (by omega)
        obtain ⟨F, hF⟩ : ∃ F : Nat, 400 = F := ⟨_, rfl⟩
        obtain ⟨I1, a1, a2, a3⟩ := c_leaders hB
        have hs1 : p_same q_scr I I1 := a2.mono (fun a ha => by unfold q_scr; omega)
        have hB1 := hB.keep hs1
        obtain ⟨I2, b1, b2, b3⟩ := c_copy (I := I1) hC.1 (d := 17) (t := 14) (by unfold q_st; omega) (by unfold q_st; omega) (by omega)
        have hs2 : p_same q_scr I I2 := hs1.tr (b2.mono (fun a ha => by unfold q_scr; omega))
        have hB2 := hB.keep hs2
        obtain ⟨I3, c5, c6⟩ := c_drL (g := A.2.1) (v := v) (N := N) (z := z) hO.2.1 (by omega) (by omega) hz F 0 I2 hB2.k (fun j hj => by rw [b2 54 (by omega)]; exact a3 j hj) (b3 _ _ h8 hB1.2.2.2.2.2) (by omega) (by omega)
        have hs3 : p_same q_scr I I3 := hs2.tr (c6.mono (fun a ha => by unfold q_scr; omega))
        have mB3 := mB.keep (S := q_scr) hs3 (fun a ha => by unfold q_scr at ha; omega)
        obtain ⟨I4, d1, d2, d3⟩ := m_holds hC.1 I3
        have mB4 : m_B I4 P A.1 A.2.1 := ⟨mB3.1, mB3.2.1, mB3.2.2.1, mB3.2.2.2.1.keep d2 (by omega), mB3.2.2.2.2.1.keep d2 (by omega), by rw [d2 57 (by omega)]; exact mB3.2.2.2.2.2⟩
        obtain ⟨I5, e1, e2, e3⟩ := m_drL (g := A.2.1) (v := v) (N := N) (z := z) hO.2.1 (by omega) (by omega) hz F 0 I4 mB4 (by omega) (by omega)
        have e0 : ∃ r, f_X4_drill 0 (nI v) (nI N) (nI z) (p_m I P) = some (r, p_m I3 P) ∧ f_X5_drill 57 (nI v) (nI N) (nI z) (p_m I3 P) = some (r, p_m I5 P) := by
          unfold f_X4_drill f_X5_drill
          rw [hF]
          simp (disch := omega) only [n9, n60, p_N, p_A, c1, c2, c3, c4, if_false, c_ei1, m_ei1, m_in1, p_b, p_tf, p_C, a1, p_Q hC.1, b1, d1]
          exact ⟨_, c5, e1⟩
        obtain ⟨r, a, b⟩ := e0
        have hC5 : q_C I5 P s d pl A := hC.keep (S := fun a => q_scr a ∨ a = 61 ∨ a = 64) ((hs3.mono (fun a ha => Or.inl ha)).tr ((d2.mono (fun a ha => Or.inr (Or.inr ha))).tr (e2.mono (fun a ha => Or.inr (Or.inl ha))))) (fun a ha => by
          rcases ha with ha | ha | ha
          · exact Or.inr (Or.inl ha)
          · exact Or.inl (by omega)
          · exact Or.inl (by omega))
        have hM3 : q_M I3 A := hM.keep (fun a ha => hs3 a (by unfold q_scr; omega))
        have hM4 : q_M I4 A := hM3.keepM ⟨fun a _ _ h => d2 a h, fun j _ _ _ => by rw [d2 57 (by omega)]⟩
        have hM5 : q_M I5 A := hM4.g e2 (hM3.2.1.copy h8 (fun j hj => by rw [Nat.zero_add, e3 j hj, d3 j hj]))
        exact q_op a b hO hC5 hM5
      · refine bad ?_ ?_
        · unfold f_X4_drill
          simp (disch := omega) only [n9, n60, p_N, p_A, c1, c2, c3, c4, if_false, c_ei0 _ hu, p_b, if_true]
        · unfold f_X5_drill
          simp (disch := omega) only [n9, n60, p_N, p_A, if_false, m_in1, m_ei0 _ hu, p_b, p_tf, if_true]
    · have c1 : (v < 0) = False := eq_false (by omega)
      have c2 : (9999 < v) = False := eq_false (by omega)
      refine bad ?_ ?_
      · unfold f_X4_drill
        simp (disch := omega) only [n9, n60, p_N, p_A, c1, c2, if_false]
        by_cases h1 : w < nI 1
        · rw [if_pos h1]
        · rw [if_neg h1, if_pos]
          rw [Int32.lt_iff_toInt_lt, nI_toInt (by omega)] at h1 ⊢
          unfold q_is at hw
          omega
      · unfold f_X5_drill
        have h0 := m_in0 (v := w) (lo := 1) (hi := 60) (p_m I P) (by unfold q_is at hw ⊢; omega) (by omega) (by omega)
        simp (disch := omega) only [n9, n60, p_N, p_A, if_false, m_in1, h0, p_b, p_tf, if_true]
  · refine bad ?_ ?_
    · unfold f_X4_drill
      simp only [n9, n60, p_N]
      by_cases h1 : v < nI 0
      · rw [if_pos h1]
      · rw [if_neg h1, if_pos]
        rw [Int32.lt_iff_toInt_lt, nI_toInt (by omega)] at h1 ⊢
        unfold q_is at hv
        omega
    · unfold f_X5_drill
      have h0 := m_in0 (v := v) (lo := 0) (hi := 9999) (p_m I P) (Or.inl hv) (by omega) (by omega)
      simp (disch := omega) only [n9, n60, p_N, h0, p_b, if_true]
end
