/-! .. AND THE REFERENCE -/
section
variable {I : Nat → Nat → Int32} {P : Nat → Nat → Option Nat} {s d : Nat} {pl : Nat → Nat} {A : q_S} {q : q_Q} {g : q_G}
theorem m_part (m : z_M) {x z : Nat} (hx : x ≤ 20) (hz : z < 2) : (z_b (f_X5_common (nI x) (nI 10) m) fun x2 m3 => if nI z = nI 0 then (z_dv (nI x) x2 fun x5 => some (x5, m3)) else (z_dv (nI 10) x2 fun x4 => some (x4, m3))) = some (nI ((if z = 0 then x else 10) / Nat.gcd x 10), m) := by
  have g0 : 0 < Nat.gcd x 10 := Nat.gcd_pos_of_pos_right x (by omega)
  have g1 : Nat.gcd x 10 ≤ 10 := Nat.gcd_le_right x (by omega)
  have e : (Nat.gcd x 10 = 0) = False := eq_false (by omega)
  unfold z_dv
  simp (disch := omega) only [m_gcd m (show x < 2147483648 by omega) (show 10 < 2147483648 by omega), p_b, p_N, p_A, e, if_false, p_di]
  split <;> rfl
theorem q_rt_eq {i t D z : Nat} (hq : q_ok q) (hi : q_ld q g i < q.1) :
    (if z = 0 then q_rs q g i t D 3 else (if q_ch q (q_ld q g i) then 10 else 1)) / Nat.gcd (q_rs q g i t D 3) (if q_ch q (q_ld q g i) then 10 else 1)
    = (if z = 0 then ((if (g.1 i + q_tb (q_mn q (q_ld q g i) false) t (q_t g.2.2.2.2.1)) % 4 = D then 10 - (if q_ch q (q_ld q g i) then q.2.2.2.2 (q_ld q g i) else 0) else 0) + (if (g.1 i + q_tb (q_mn q (q_ld q g i) true) t (q_t g.2.2.2.2.1)) % 4 = D then (if q_ch q (q_ld q g i) then q.2.2.2.2 (q_ld q g i) else 0) else 0)) else 10) / Nat.gcd ((if (g.1 i + q_tb (q_mn q (q_ld q g i) false) t (q_t g.2.2.2.2.1)) % 4 = D then 10 - (if q_ch q (q_ld q g i) then q.2.2.2.2 (q_ld q g i) else 0) else 0) + (if (g.1 i + q_tb (q_mn q (q_ld q g i) true) t (q_t g.2.2.2.2.1)) % 4 = D then (if q_ch q (q_ld q g i) then q.2.2.2.2 (q_ld q g i) else 0) else 0)) 10 := by
  have hk := (hq.2.2.2 _ hi).1
  have hrs : q_rs q g i t D 3 = q_rt q g i t D 0 + q_rt q g i t D 1 + q_rt q g i t D 2 := by
    show ((0 + q_rt q g i t D 0) + q_rt q g i t D 1) + q_rt q g i t D 2 = _
    rw [Nat.zero_add]
  rw [hrs]
  unfold q_rt
  by_cases hc : q_ch q (q_ld q g i)
  · have m0 : q_mn q (q_ld q g i) false = 0 := by unfold q_mn; rw [if_neg (by unfold q_ch at hc; omega), if_neg (by simp)]
    have m1 : q_mn q (q_ld q g i) true = 1 := by unfold q_mn; rw [if_neg (by unfold q_ch at hc; omega), if_pos ⟨hc, rfl⟩]
    have w0 : q_ways q (q_ld q g i) 0 = 10 - q.2.2.2.2 (q_ld q g i) := by unfold q_ways; rw [if_pos hc]; rfl
    have w1 : q_ways q (q_ld q g i) 1 = q.2.2.2.2 (q_ld q g i) := by unfold q_ways; rw [if_pos hc]; rfl
    have w2 : q_ways q (q_ld q g i) 2 = 0 := by unfold q_ways; rw [if_pos hc]; rfl
    simp only [if_pos hc, m0, m1, w0, w1, w2, ite_self, Nat.add_zero]
  · have m0 : q_mn q (q_ld q g i) true = q_mn q (q_ld q g i) false := by unfold q_mn; rw [if_neg (c := _ ∧ true = true) (fun z => hc z.1), if_neg (c := _ ∧ false = true) (fun z => hc z.1)]
    have w : ∀ k, q_ways q (q_ld q g i) k = if k = q_mn q (q_ld q g i) false then 1 else 0 := fun k => by unfold q_ways; rw [if_neg hc]
    have hm := q_mn3 q (q_ld q g i) false
    simp only [if_neg hc, m0, w, ite_self, Nat.sub_zero, Nat.add_zero]
    generalize q_mn q (q_ld q g i) false = mn at hm ⊢
    by_cases hd : (g.1 i + q_tb mn t (q_t g.2.2.2.2.1)) % 4 = D
    · have e : ((if (g.1 i + q_tb 0 t (q_t g.2.2.2.2.1)) % 4 = D then if 0 = mn then 1 else 0 else 0) + (if (g.1 i + q_tb 1 t (q_t g.2.2.2.2.1)) % 4 = D then if 1 = mn then 1 else 0 else 0) + if (g.1 i + q_tb 2 t (q_t g.2.2.2.2.1)) % 4 = D then if 2 = mn then 1 else 0 else 0) = 1 := by
        rcases (show mn = 0 ∨ mn = 1 ∨ mn = 2 by omega) with rfl | rfl | rfl
        · simp [hd]
        · simp [hd]
        · simp [hd]
      rw [e, if_pos hd]
      split <;> rfl
    · have e : ((if (g.1 i + q_tb 0 t (q_t g.2.2.2.2.1)) % 4 = D then if 0 = mn then 1 else 0 else 0) + (if (g.1 i + q_tb 1 t (q_t g.2.2.2.2.1)) % 4 = D then if 1 = mn then 1 else 0 else 0) + if (g.1 i + q_tb 2 t (q_t g.2.2.2.2.1)) % 4 = D then if 2 = mn then 1 else 0 else 0) = 0 := by
        rcases (show mn = 0 ∨ mn = 1 ∨ mn = 2 by omega) with rfl | rfl | rfl
        · simp [hd]
        · simp [hd]
        · simp [hd]
      rw [e, if_neg hd]
      split <;> rfl
theorem m_right (h : m_B I P q g) {i w z : Nat} (hi : i < q.1) (hw : w < 3) (hz : z < 2) : f_X5_right 57 (nI i) (nI w) (nI z) (p_m I P) = some (nI ((if z = 0 then q_rs q g i (q_t (w + 1)) ((q_due q g i + q_t (w + 1)) % 4) 3 else (if q_ch q (q_ld q g i) then 10 else 1)) / Nat.gcd (q_rs q g i (q_t (w + 1)) ((q_due q g i + q_t (w + 1)) % 4) 3) (if q_ch q (q_ld q g i) then 10 else 1)), p_m I P) := by
  have hx := h.x
  have h8 := h.2.1.2.1
  have hfc := (h.2.2.1.1 i hi).1
  have hl := q_ld_lt h.2.2.1 h.2.1 hi
  have her := (h.2.1.2.2.2 _ hl).2.2
  have hdu : q_due q g i < 4 := Nat.mod_lt _ (by decide)
  have ht := q_t4 (w + 1)
  have b0 := m_turnBy h hi hw (show 0 < 256 by omega)
  have b1 := m_turnBy h hi hw (show 255 < 256 by omega)
  have l0 := q_tw_lt q g w (fun a => (0 : Nat).testBit a) i
  have l1 := q_tw_lt q g w (fun a => (255 : Nat).testBit a) i
  have t1 : ∀ a, a < 8 → (255 : Nat).testBit a = true := by decide
  have c0 : q_tw q g w (fun a => (0 : Nat).testBit a) i = q_tb (q_mn q (q_ld q g i) false) (q_t (w + 1)) (q_t g.2.2.2.2.1) := by unfold q_tw; simp only [Nat.zero_testBit]
  have c1 : q_tw q g w (fun a => (255 : Nat).testBit a) i = q_tb (q_mn q (q_ld q g i) true) (q_t (w + 1)) (q_t g.2.2.2.2.1) := by unfold q_tw; simp only [t1 _ (show q_ld q g i < 8 by omega)]
  rw [c0] at b0 l0
  rw [c1] at b1 l1
  rw [q_rt_eq h.2.1 hl]
  generalize q_tb (q_mn q (q_ld q g i) false) (q_t (w + 1)) (q_t g.2.2.2.2.1) = u0 at b0 l0 ⊢
  generalize q_tb (q_mn q (q_ld q g i) true) (q_t (w + 1)) (q_t g.2.2.2.2.1) = u1 at b1 l1 ⊢
  have hD : (q_due q g i + q_t (w + 1)) % 4 < 4 := Nat.mod_lt _ (by decide)
  generalize hDD : (q_due q g i + q_t (w + 1)) % 4 = D at hD ⊢
  have f0 : (g.1 i + u0) % 4 < 4 := Nat.mod_lt _ (by decide)
  have f1 : (g.1 i + u1) % 4 < 4 := Nat.mod_lt _ (by decide)
  have n255 : (255 : Int32) = nI 255 := rfl
  have K : ∀ E, E ≤ 10 → f_X5_right_L70 57 (nI i) (nI w) (nI z) (nI D) (nI E) (p_m I P) = some (nI ((if z = 0 then ((if (g.1 i + u0) % 4 = D then 10 - E else 0) + (if (g.1 i + u1) % 4 = D then E else 0)) else 10) / Nat.gcd ((if (g.1 i + u0) % 4 = D then 10 - E else 0) + (if (g.1 i + u1) % 4 = D then E else 0)) 10), p_m I P) := by
    intro E hE
    unfold f_X5_right_L70 f_X5_right_L102 f_X5_right_L135 z_lt
    simp (disch := omega) only [p_Q h.1, p_L, p_C, p_N, n255, b0, b1, p_b, hx, p_A, p_mo, p_sb]
    by_cases d0 : (g.1 i + u0) % 4 = D
    · by_cases d1 : (g.1 i + u1) % 4 = D
      · rw [if_pos d0, if_pos d1, if_pos d0, if_pos d1]
        have := m_part (p_m I P) (x := 10 - E + E) (z := z) (by omega) hz
        simpa (disch := omega) only [p_A] using this
      · rw [if_pos d0, if_neg d1, if_pos d0, if_neg d1]
        have := m_part (p_m I P) (x := 10 - E + 0) (z := z) (by omega) hz
        simpa (disch := omega) only [p_A] using this
    · by_cases d1 : (g.1 i + u1) % 4 = D
      · rw [if_neg d0, if_pos d1, if_neg d0, if_pos d1]
        have := m_part (p_m I P) (x := 0 + E) (z := z) (by omega) hz
        simpa (disch := omega) only [p_A] using this
      · rw [if_neg d0, if_neg d1, if_neg d0, if_neg d1]
        have := m_part (p_m I P) (x := 0 + 0) (z := z) (by omega) hz
        simpa (disch := omega) only [p_A] using this
  unfold f_X5_right z_lt
  simp (disch := omega) only [p_C, m_man1 h.1 hx.1.1 h8 hi, m_word1, m_ei1, p_b, p_N, p_A, p_tf, if_false, m_as h hi, m_due h hi, m_turnW hw, p_mo, hDD, m_may h hl]
  by_cases hc : q_ch q (q_ld q g i)
  · rw [if_pos hc, if_pos hc]
    simp (disch := omega) only [p_A, p_tf, if_false, p_Q h.1, p_L, hx]
    exact K _ her
  · rw [if_neg hc, if_neg hc]
    simp (disch := omega) only [p_A, p_tf, if_true]
    exact K 0 (by omega)
theorem o_right (hO : q_O A) (hC : q_C I P s d pl A) (hM : q_M I A) (v w u : Int32) : q_T (f_X4_right 0 v w u (p_m I P)) (f_X5_right 57 v w u) := by
  have hB := hC.b hO
  have mB := hM.b hC.1 hO
  have hx := hB.x
  have hy := mB.x
  have h8 := hO.1.2.1
  have h1 := hO.1.1
  have hs := hC.2.1.1
  by_cases hv : q_is v A.1.1
  · obtain ⟨i, hi, rfl⟩ := q_is_nI hv (by omega)
    by_cases hw : q_is w 3
    · obtain ⟨w, hw3, rfl⟩ := q_is_nI hw (by omega)
      by_cases hu : q_is u 2
      · obtain ⟨z, hz, rfl⟩ := q_is_nI hu (by omega)
        obtain ⟨I1, a1, a2, a3⟩ := c_leaders hB
        have hsc : p_same q_scr I I1 := a2.mono (fun a ha => by unfold q_scr; omega)
        have hB1 := hB.keep hsc
        have mB1 := mB.keep a2 (fun a ha => by omega)
        have hdu : q_due A.1 A.2.1 i < 4 := Nat.mod_lt _ (by decide)
        have ht := q_t4 (w + 1)
        obtain ⟨F, hF⟩ : ∃ F : Nat, 400 = F := ⟨_, rfl⟩
        have c1 := c_rtL hB1 a3 (D := (q_due A.1 A.2.1 i + q_t (w + 1)) % 4) hi ht (Nat.mod_lt _ (by decide)) hz F 0 (by omega) (by omega) (by show 0 ≤ 10 * 0; omega)
        have e1 : ∃ r, f_X4_right 0 (nI i) (nI w) (nI z) (p_m I P) = some (r, p_m I1 P) ∧ f_X5_right 57 (nI i) (nI w) (nI z) (p_m I1 P) = some (r, p_m I1 P) := by
          rw [m_right mB1 hi hw3 hz]
          unfold f_X4_right z_lt
          rw [hF]
          simp (disch := omega) only [p_C, c_man1 hs hx.1.1 h8 hi, c_word1, c_ei1, p_b, p_N, p_A, p_tf, if_false, a1, c_tt hw3, p_Q hC.1, c_due (Or.inl rfl) hB1.k hB1.2.2.2.2.2 hO.2.1.1 hi, p_mo]
          exact ⟨_, c1, rfl⟩
        obtain ⟨r, a, b⟩ := e1
        exact q_ask hO hC hM a hsc b m_keep.rf
      · have a : f_X4_right 0 (nI i) (nI w) u (p_m I P) = some (-nI 1, p_m I P) := by
          unfold f_X4_right
          simp (disch := omega) only [p_C, c_man1 hs hx.1.1 h8 hi, c_word1, c_ei0 _ hu, p_b, p_N, p_A, p_tf, if_false, if_true]
        have b : f_X5_right 57 (nI i) (nI w) u (p_m I P) = some (-nI 1, p_m I P) := by
          unfold f_X5_right
          simp (disch := omega) only [p_C, m_man1 hC.1 hy.1.1 h8 hi, m_word1, p_N, m_ei0 _ hu, p_b, p_A, p_tf, if_false, if_true]
        exact q_ask hO hC hM a p_same.rf b m_keep.rf
    · have a : f_X4_right 0 (nI i) w u (p_m I P) = some (-nI 1, p_m I P) := by
        unfold f_X4_right
        simp (disch := omega) only [p_C, c_man1 hs hx.1.1 h8 hi, c_word0 _ hw, p_b, p_N, p_A, p_tf, if_false, if_true]
      have b : f_X5_right 57 (nI i) w u (p_m I P) = some (-nI 1, p_m I P) := by
        unfold f_X5_right
        simp (disch := omega) only [p_C, m_man1 hC.1 hy.1.1 h8 hi, m_word0 _ hw, p_b, p_N, p_A, p_tf, if_false, if_true]
      exact q_ask hO hC hM a p_same.rf b m_keep.rf
  · have a : f_X4_right 0 v w u (p_m I P) = some (-nI 1, p_m I P) := by
      unfold f_X4_right
      simp (disch := omega) only [p_C, c_man0 hs hx.1.1 h8 hv, p_b, p_N, if_true]
    have b : f_X5_right 57 v w u (p_m I P) = some (-nI 1, p_m I P) := by
      unfold f_X5_right
      simp (disch := omega) only [p_C, m_man0 hC.1 hy.1.1 h1 h8 hv, p_b, p_N, if_true]
    exact q_ask hO hC hM a p_same.rf b m_keep.rf
end
