/-! ALL ALIKE: THE REFERENCE -/
section
variable {I : Nat → Nat → Int32} {P : Nat → Nat → Option Nat} {s d : Nat} {pl : Nat → Nat} {A : q_S} {q : q_Q} {g : q_G}
theorem r_mdo (h : m_B I P q g) : ∀ (f i : Nat), i ≤ q.1 → q.1 - i < f → f_X5_doubtful_L4 f 57 (nI (q_or (r_wh q g) 0 i)) (nI i) (p_m I P) = some (nI (q_or (r_wh q g) 0 q.1), p_m I P) := by
  intro f
  induction f with
  | zero => intro i _ h; omega
  | succ f ih =>
    intro i hi hf
    have hx := h.x
    have h8 := h.2.1.2.1
    unfold f_X5_doubtful_L4 f_X5_doubtful_L38 f_X5_doubtful_L39 z_lt
    simp (disch := omega) only [p_Q h.1, p_L, p_N, hx, p_A]
    by_cases h1 : q.1 ≤ i
    · rw [if_pos h1, show i = q.1 by omega]
    · rw [if_neg h1]
      have hin : i < q.1 := by omega
      have hl := q_ld_lt h.2.2.1 h.2.1 hin
      have ih1 := ih (i + 1) (by omega) (by omega)
      rw [show q_or (r_wh q g) 0 (i + 1) = if r_wh q g i then q_or (r_wh q g) 0 i ||| 2 ^ i else q_or (r_wh q g) 0 i from rfl] at ih1
      simp (disch := omega) only [p_C, m_as h hin, m_may h hin, p_b, p_A, p_sh, p_or, Nat.or_zero]
      by_cases e : q_ld q g i = i
      · rw [if_pos e]
        by_cases hc : q_ch q i
        · rw [if_pos hc, if_neg (by decide)]
          rw [if_pos (r_wh_iff.mpr ⟨hin, e, hc⟩)] at ih1
          exact ih1
        · rw [if_neg hc, if_pos rfl]
          rw [if_neg (fun z => hc (r_wh_iff.mp z).2.2)] at ih1
          exact ih1
      · rw [if_neg e]
        rw [if_neg (fun z => e (r_wh_iff.mp z).2.1)] at ih1
        exact ih1
theorem r_W (hq : q_ok q) : q_or (r_wh q g) 0 q.1 < 256 ∧ ∀ i, (q_or (r_wh q g) 0 q.1).testBit i = r_wh q g i := by
  have h8 := hq.2.1
  refine ⟨q_or_lt (n := 8) (by decide) q.1 h8, fun i => ?_⟩
  rw [q_or_bit]
  by_cases hi : i < q.1
  · simp [hi]
  · have : r_wh q g i = false := by
      cases hw : r_wh q g i
      · rfl
      · exact absurd (r_wh_iff.mp hw).1 hi
    rw [this, Bool.and_false]
theorem r_m83 (h : m_B I P q g) {w z x : Nat} {S B : Int32} (hw : w < 3) (hx : x < 256) (hok : r_ok (r_wh q g) x 8 = true) {F : Nat → Int32 → Int32 → Int32 → Int32 → Int32 → Int32 → z_M → z_R} : ∀ (f i : Nat), i ≤ q.1 → q.1 - i < f → f_X5_alike_L83 F f 57 (nI w) (nI z) (nI (q_or (r_wh q g) 0 q.1)) S B (nI x) (nI (r_pr (fun c => r_wt q g c (x.testBit c)) i)) (nI (if q_al (r_F q g w (fun a => x.testBit a)) i then 1 else 0)) (nI i) (p_m I P) = F 57 (nI w) (nI z) (nI (q_or (r_wh q g) 0 q.1)) (S + nI (r_sh q g w x)) B (nI (x + 1)) (p_m I P) := by
  intro f
  induction f with
  | zero => intro i _ h; omega
  | succ f ih =>
    intro i hi hf
    have hxx := h.x
    have h8 := h.2.1.2.1
    obtain ⟨W1, W2⟩ := r_W (g := g) h.2.1
    unfold f_X5_alike_L83 f_X5_alike_L219 f_X5_alike_L222 z_lt
    simp (disch := omega) only [p_Q h.1, p_L, p_N, hxx, p_A]
    by_cases h1 : q.1 ≤ i
    · rw [if_pos h1]
      obtain rfl : i = q.1 := by omega
      unfold r_sh
      rw [hok]
      cases ha : q_al (r_F q g w (fun a => x.testBit a)) q.1 with
      | false => simp (disch := omega) only [Bool.false_eq_true, if_false, p_A, p_tf, if_true]
      | true => simp (disch := omega) only [if_true, p_A, p_tf, if_false]
    · rw [if_neg h1]
      have hin : i < q.1 := by omega
      have h0 : 0 < q.1 := by omega
      have her := (h.2.1.2.2.2 i hin).2.2
      have hfc := (h.2.2.1.1 i hin).1
      have hfc0 := (h.2.2.1.1 0 h0).1
      have l1 := q_tw_lt q g w (fun a => x.testBit a) i
      have l0 := q_tw_lt q g w (fun a => x.testBit a) 0
      have f1 : r_F q g w (fun a => x.testBit a) i < 4 := Nat.mod_lt _ (by decide)
      have f0 : r_F q g w (fun a => x.testBit a) 0 < 4 := Nat.mod_lt _ (by decide)
      have d1 : (g.1 i + q_tw q g w (fun a => x.testBit a) i) % 4 = r_F q g w (fun a => x.testBit a) i := rfl
      have d0 : (g.1 0 + q_tw q g w (fun a => x.testBit a) 0) % 4 = r_F q g w (fun a => x.testBit a) 0 := rfl
      have ih1 := ih (i + 1) (by omega) (by omega)
      rw [show r_pr (fun c => r_wt q g c (x.testBit c)) (i + 1) = r_pr (fun c => r_wt q g c (x.testBit c)) i * r_wt q g i (x.testBit i) from rfl, show q_al (r_F q g w (fun a => x.testBit a)) (i + 1) = (q_al (r_F q g w (fun a => x.testBit a)) i && decide (r_F q g w (fun a => x.testBit a) i = r_F q g w (fun a => x.testBit a) 0)) from rfl] at ih1
      have z0 : I 61 0 = nI (g.1 0) := hxx.2.2.2.2.1 0 h0
      have K : ∀ y : Nat, y = r_wt q g i (x.testBit i) → f_X5_alike_L146 (f_X5_alike_L83 F f) 57 (nI w) (nI z) (nI (q_or (r_wh q g) 0 q.1)) S B (nI x) (nI (if q_al (r_F q g w (fun a => x.testBit a)) i then 1 else 0)) (nI i) (nI y) (nI (r_pr (fun c => r_wt q g c (x.testBit c)) i)) (p_m I P) = F 57 (nI w) (nI z) (nI (q_or (r_wh q g) 0 q.1)) (S + nI (r_sh q g w x)) B (nI (x + 1)) (p_m I P) := by
        intro y hy
        rw [← hy] at ih1
        have b1 := m_turnBy h hin hw hx
        have b0 := m_turnBy h h0 hw hx
        unfold f_X5_alike_L146 f_X5_alike_L197 f_X5_alike_L198 z_lt
        cases ha : q_al (r_F q g w (fun a => x.testBit a)) i with
        | false =>
          rw [ha] at ih1
          simpa (disch := omega) only [pk_mul, p_N, Bool.false_eq_true, if_false, p_A, p_tf, if_true, Bool.false_and] using ih1
        | true =>
          rw [ha] at ih1
          simp (disch := omega) only [pk_mul, p_N, if_true, p_A, p_tf, if_false, p_Q h.1, p_L, p_C, b1, b0, p_b, hxx, z0, p_mo, d1, d0]
          by_cases hc : r_F q g w (fun a => x.testBit a) i = r_F q g w (fun a => x.testBit a) 0
          · rw [if_pos hc]
            simpa [hc] using ih1
          · rw [if_neg hc]
            simpa [hc] using ih1
      have n27 : (27 : Int32) = nI 27 := rfl
      have hwt : r_wt q g i (x.testBit i) = if r_wh q g i then (if x.testBit i then q.2.2.2.2 i else 10 - q.2.2.2.2 i) else 1 := rfl
      simp (disch := omega) only [p_bt _ W1, p_bt _ hx, W2, n27, p_N, p_A, p_Q h.1, p_L, hxx, p_sb]
      cases hwh : r_wh q g i with
      | false =>
        rw [hwh] at hwt
        simp (disch := omega) only [Bool.false_eq_true, if_false, p_A, p_tf, if_true]
        exact K 1 hwt.symm
      | true =>
        rw [hwh] at hwt
        cases hb : x.testBit i with
        | false =>
          rw [hb] at hwt
          simp (disch := omega) only [Bool.false_eq_true, if_false, p_A, p_tf, if_true]
          exact K _ (by rw [hb, hwt]; rfl)
        | true =>
          rw [hb] at hwt
          simp (disch := omega) only [if_false, p_A, p_tf, if_true]
          exact K _ (by rw [hb, hwt]; rfl)
theorem r_m57 (h : m_B I P q g) {w z : Nat} (hw : w < 3) (hz : z < 2) (hS : r_su (r_sh q g w) 256 < 2147483648) : ∀ (f x : Nat), x ≤ 256 → 256 - x < f → f_X5_alike_L57 f 57 (nI w) (nI z) (nI (q_or (r_wh q g) 0 q.1)) (nI (r_su (r_sh q g w) x)) (nI (r_be q g q.1)) (nI x) (p_m I P) = some (nI ((if z = 0 then r_su (r_sh q g w) 256 else r_be q g q.1) / Nat.gcd (r_su (r_sh q g w) 256) (r_be q g q.1)), p_m I P) := by
  intro f
  induction f with
  | zero => intro i _ h; omega
  | succ f ih =>
    intro x hx hf
    have h8 := h.2.1.2.1
    obtain ⟨W1, W2⟩ := r_W (g := g) h.2.1
    obtain ⟨b1, b2⟩ := r_be_le (g := g) h.2.1
    have n256 : (256 : Int32) = nI 256 := rfl
    unfold f_X5_alike_L57 f_X5_alike_L222
    simp (disch := omega) only [n256, p_N, p_A]
    by_cases h1 : 256 ≤ x
    · rw [if_pos h1]
      obtain rfl : x = 256 := by omega
      have g0 : 0 < Nat.gcd (r_su (r_sh q g w) 256) (r_be q g q.1) := Nat.gcd_pos_of_pos_right _ b2
      have g1 : Nat.gcd (r_su (r_sh q g w) 256) (r_be q g q.1) ≤ r_be q g q.1 := Nat.gcd_le_right _ b2
      have e : (Nat.gcd (r_su (r_sh q g w) 256) (r_be q g q.1) = 0) = False := eq_false (by omega)
      rw [m_gcd _ hS (show r_be q g q.1 < 2147483648 by omega)]
      unfold z_dv
      generalize Nat.gcd (r_su (r_sh q g w) 256) (r_be q g q.1) = G at g0 g1 e ⊢
      generalize r_su (r_sh q g w) 256 = SS at hS ⊢
      simp (disch := omega) only [p_b, p_N, p_A, e, if_false, p_di]
      split <;> rfl
    · rw [if_neg h1]
      have hx2 : x < 256 := by omega
      have ih1 := ih (x + 1) (by omega) (by omega)
      rw [show r_su (r_sh q g w) (x + 1) = r_su (r_sh q g w) x + r_sh q g w x from rfl] at ih1
      have hm := r_msk (x := x) (W := q_or (r_wh q g) 0 q.1) hx2
      have hiff : (∀ i, i < 8 → x.testBit i = true → (q_or (r_wh q g) 0 q.1).testBit i = true) ↔ r_ok (r_wh q g) x 8 = true := by
        rw [r_ok_iff]
        simp only [W2]
      cases hok : r_ok (r_wh q g) x 8 with
      | true =>
        rw [if_pos (by rw [hm]; exact hiff.mpr hok)]
        have := r_m83 (P := P) h (z := z) (S := nI (r_su (r_sh q g w) x)) (B := nI (r_be q g q.1)) hw hx2 hok (F := f_X5_alike_L57 f) 400 0 (by omega) (by omega)
        rw [p_A.1] at this
        exact this.trans ih1
      | false =>
        rw [if_neg (by rw [hm]; intro hh; have := hiff.mp hh; rw [hok] at this; cases this)]
        have h0 : r_sh q g w x = 0 := by unfold r_sh; rw [hok]; rfl
        rw [h0, Nat.add_zero] at ih1
        exact ih1
theorem r_m32 (h : m_B I P q g) {w z : Nat} {v : Int32} : ∀ (f k : Nat), k ≤ q_ct (r_wh q g) q.1 → q_ct (r_wh q g) q.1 - k < f → f_X5_alike_L32 f 57 (nI w) (nI z) (nI (q_or (r_wh q g) 0 q.1)) v (nI (10 ^ k)) (nI k) (p_m I P) = f_X5_alike_L57 400 57 (nI w) (nI z) (nI (q_or (r_wh q g) 0 q.1)) v (nI (r_be q g q.1)) (nI 0) (p_m I P) := by
  intro f
  induction f with
  | zero => intro i _ h; omega
  | succ f ih =>
    intro k hk hf
    have h8 := h.2.1.2.1
    obtain ⟨W1, W2⟩ := r_W (g := g) h.2.1
    have hle := q_ct_le (r_wh q g) q.1
    have ho := m_ones W1 (p_m I P)
    rw [q_pf_or, Nat.min_eq_right h8] at ho
    obtain ⟨G, hG⟩ : ∃ G : Nat, 400 = G := ⟨_, rfl⟩
    unfold f_X5_alike_L32 z_lt
    rw [hG]
    simp (disch := omega) only [ho, p_b, p_N, p_A, pk_mul]
    by_cases h1 : q_ct (r_wh q g) q.1 ≤ k
    · rw [if_pos h1, show k = q_ct (r_wh q g) q.1 by omega, r_ten]
      rfl
    · rw [if_neg h1, ← Nat.pow_succ, ← hG]
      exact ih (k + 1) (by omega) (by omega)
theorem o_alike (hO : q_O A) (hC : q_C I P s d pl A) (hM : q_M I A) (v u : Int32) : q_T (f_X4_alike 0 v u (p_m I P)) (f_X5_alike 57 v u) := by
  have hB := hC.b hO
  have mB := hM.b hC.1 hO
  have h8 := hO.1.2.1
  by_cases hw : q_is v 3
  · obtain ⟨w, hw3, rfl⟩ := q_is_nI hw (by omega)
    by_cases hu : q_is u 2
    · obtain ⟨z, hz, rfl⟩ := q_is_nI hu (by omega)
      obtain ⟨I1, a1, a2, a3⟩ := c_leaders hB
      have hsc : p_same q_scr I I1 := a2.mono (fun a ha => by unfold q_scr; omega)
      have hB1 := hB.keep hsc
      have mB1 := mB.keep a2 (fun a ha => by omega)
      obtain ⟨F, hF⟩ : ∃ F : Nat, 400 = F := ⟨_, rfl⟩
      have hone := r_one hO.1 hO.2.1.1 hw3
      have hle : r_su (fun D => r_aw A.1 A.2.1 (q_t (w + 1)) D A.1.1) 4 ≤ 400000000 := by
        show (((0 + r_aw A.1 A.2.1 (q_t (w + 1)) 0 A.1.1) + r_aw A.1 A.2.1 (q_t (w + 1)) 1 A.1.1) + r_aw A.1 A.2.1 (q_t (w + 1)) 2 A.1.1) + r_aw A.1 A.2.1 (q_t (w + 1)) 3 A.1.1 ≤ _
        have a0 := r_aw_le (t := q_t (w + 1)) (D := 0) hO.1 hO.2.1.1
        have a1 := r_aw_le (t := q_t (w + 1)) (D := 1) hO.1 hO.2.1.1
        have a2 := r_aw_le (t := q_t (w + 1)) (D := 2) hO.1 hO.2.1.1
        have a3 := r_aw_le (t := q_t (w + 1)) (D := 3) hO.1 hO.2.1.1
        omega
      have c1 := r_c25 hB1 a3 hw3 hz F 0 (by omega) (by omega)
      rw [hone] at c1 hle
      have hct := q_ct_le (r_wh A.1 A.2.1) A.1.1
      have d0 : f_X5_doubtful 57 (p_m I1 P) = some (nI (q_or (r_wh A.1 A.2.1) 0 A.1.1), p_m I1 P) := r_mdo mB1 400 0 (by omega) (by omega)
      have d1 := r_m32 mB1 (w := w) (z := z) (v := nI 0) F 0 (by omega) (by omega)
      have d2 := r_m57 mB1 hw3 hz (show r_su (r_sh A.1 A.2.1 w) 256 < 2147483648 by omega) F 0 (by omega) (by omega)
      rw [hF] at d1
      have d3 := d1.trans d2
      have e1 : ∃ r, f_X4_alike 0 (nI w) (nI z) (p_m I P) = some (r, p_m I1 P) ∧ f_X5_alike 57 (nI w) (nI z) (p_m I1 P) = some (r, p_m I1 P) := by
        unfold f_X4_alike f_X5_alike
        rw [hF]
        simp (disch := omega) only [c_word1, m_word1, c_ei1, m_ei1, p_b, p_N, p_A, p_tf, if_false, p_C, a1, d0]
        exact ⟨_, c1, d3⟩
      obtain ⟨r, a, b⟩ := e1
      exact q_ask hO hC hM a hsc b m_keep.rf
    · have a : f_X4_alike 0 (nI w) u (p_m I P) = some (-nI 1, p_m I P) := by
        unfold f_X4_alike
        simp (disch := omega) only [c_word1, c_ei0 _ hu, p_b, p_N, p_A, p_tf, if_false, if_true]
      have b : f_X5_alike 57 (nI w) u (p_m I P) = some (-nI 1, p_m I P) := by
        unfold f_X5_alike
        simp (disch := omega) only [m_word1, p_N, m_ei0 _ hu, p_b, p_A, p_tf, if_false, if_true]
      exact q_ask hO hC hM a p_same.rf b m_keep.rf
  · have a : f_X4_alike 0 v u (p_m I P) = some (-nI 1, p_m I P) := by
      unfold f_X4_alike
      simp (disch := omega) only [c_word0 _ hw, p_b, p_N, if_true]
    have b : f_X5_alike 57 v u (p_m I P) = some (-nI 1, p_m I P) := by
      unfold f_X5_alike
      simp (disch := omega) only [m_word0 _ hw, p_b, p_N, if_true]
    exact q_ask hO hC hM a p_same.rf b m_keep.rf
end
