/-! BY NUMBERS; PLAN -/
def r_fr (p : Nat → Bool) : Nat → Nat
  | 0 => 0
  | N + 1 => if q_ct p N = 0 then N else r_fr p N
theorem r_fr_eq {p : Nat → Bool} {r : Nat} : ∀ {N : Nat}, r_1st p N r → r_fr p N = r
  | 0, h => by have := h.1; omega
  | N + 1, h => by
    unfold r_fr
    by_cases e : r = N
    · rw [if_pos (by rw [← e]; exact r_ct_0 h.2.2), e]
    · have h' : r_1st p N r := ⟨by have := h.1; omega, h.2⟩
      have := r_ct_1 h'
      rw [if_neg (by omega), r_fr_eq h']
/-- what plan answers (k + 1 = c) for the row r of n words -/
def r_pl (c n r : Nat) : Int32 := if c = 0 then nI n else if n < c then -nI 4 else nI (r / 3 ^ (n - c) % 3)
def r_ps (q : q_Q) (g : q_G) (c : Nat) : Nat → Nat → Int32
  | 0, _ => -nI 4
  | k + 1, n => if q_ct (r_ra q g n) (3 ^ n) = 0 then r_ps q g c k (n + 1) else r_pl c n (r_fr (r_ra q g n) (3 ^ n))
section
variable {I I' : Nat → Nat → Int32} {P : Nat → Nat → Option Nat} {s d : Nat} {pl : Nat → Nat} {A : q_S} {q : q_Q} {g : q_G}
theorem r_keepM (h : q_M I A) (hO : q_O A) (hs : p_same (fun a => a = 57 ∨ a = 61 ∨ a = 64) I I') (h57 : ∀ j, j ≠ 13 → I' 57 j = I 57 j) (h61 : ∀ x, x < 22 → I' 61 x = I 61 x) : q_M I' A := by
  obtain ⟨h1, h2, h3, h4, h5, h6, h7⟩ := h
  exact ⟨h1.keep hs (by omega), h2.copy hO.1.2.1 (fun j hj => by rw [Nat.zero_add, h61 j hj]), by rw [h57 10 (by omega)]; exact h3, h4.keep (h57 6 (by omega)) (hs 62 (by omega)), h5.keep (h57 8 (by omega)) (hs 63 (by omega)), by rw [h57 1 (by omega)]; exact h6, by rw [hs 58 (by omega)]; exact h7⟩
/-- a question that says words and lets them go -/
theorem r_ask {oC : z_R} {fM : z_M → z_R} {r : Int32} {I1 I2 : Nat → Nat → Int32} (hO : q_O A) (hC : q_C I P s d pl A) (hM : q_M I A) (h1 : oC = some (r, p_m I1 P)) (hs : p_same q_scr I I1) (h2 : fM (p_m I1 P) = some (r, p_m I2 P)) (hs2 : p_same (fun a => a = 57 ∨ a = 61 ∨ a = 64) I1 I2) (h57 : ∀ j, j ≠ 13 → I2 57 j = I1 57 j) (h61 : ∀ x, x < 22 → I2 61 x = I1 61 x) : q_T oC fM := by
  have hC1 := hC.keep hs (fun a z => Or.inr (Or.inl z))
  have hM1 : q_M I1 A := hM.keep (fun a ha => hs a (by unfold q_scr; omega))
  exact q_op h1 h2 hO (hC1.keep hs2 (fun a z => Or.inl (by omega))) (r_keepM hM1 hO hs2 h57 h61)
theorem o_numbers (hO : q_O A) (hC : q_C I P s d pl A) (hM : q_M I A) (v : Int32) : q_T (f_X4_numbers 0 v (p_m I P)) (f_X5_numbers 57 v) := by
  have hB := hC.b hO
  have mB := hM.b hC.1 hO
  have h8 := hO.1.2.1
  by_cases hv : q_is v 6 ∧ 1 ≤ v.toInt
  · obtain ⟨n, hn, rfl⟩ := q_is_nI hv.1 (by omega)
    have hn1 : 1 ≤ n := by have := hv.2; rw [nI_toInt (by omega)] at this; omega
    have h3 := r_p3 n (by omega)
    obtain ⟨I1, a1, a2, a3⟩ := c_manners hB
    have hs1 : p_same q_scr I I1 := a2.mono (fun a ha => by unfold q_scr; omega)
    obtain ⟨F, hF⟩ : ∃ F : Nat, 400 = F := ⟨_, rfl⟩
    obtain ⟨I2, b1, b2⟩ := r_cnuL (hB.keep hs1) (show n ≤ 5 by omega) F 0 I1 (hB.keep hs1) a3 (Nat.zero_le _) (by omega)
    have hs2 : p_same q_scr I I2 := hs1.tr (b2.mono (fun a ha => by unfold q_scr; omega))
    have mB2 := mB.keep (S := q_scr) hs2 (fun a ha => by unfold q_scr at ha; omega)
    obtain ⟨I3, c1, ⟨c2, c3, c4⟩, -⟩ := r_rows hO.2.1 (show n ≤ 5 by omega) mB2
    have e1 : (n < 1) = False := eq_false (by omega)
    have e2 : (n ≤ 5) = True := eq_true (by omega)
    have a : f_X4_numbers 0 (nI n) (p_m I P) = some (nI (q_ct (r_ra A.1 A.2.1 n) (3 ^ n)), p_m I2 P) := by
      unfold f_X4_numbers
      rw [hF]
      simp (disch := omega) only [p_N, p_A, e1, e2, if_false, if_true, p_C, a1, p_b]
      exact b1
    have b : f_X5_numbers 57 (nI n) (p_m I2 P) = some (nI (q_ct (r_ra A.1 A.2.1 n) (3 ^ n)), p_m I3 P) := by
      unfold f_X5_numbers
      simp (disch := omega) only [p_N, m_in1, p_b, p_A, p_tf, if_false, p_C, c1]
    exact r_ask hO hC hM a hs2 b c2 c3 c4
  · have a : f_X4_numbers 0 v (p_m I P) = some (-nI 1, p_m I P) := by
      unfold f_X4_numbers
      simp only [p_N]
      by_cases h1 : v < nI 1
      · rw [if_pos h1]
      · rw [if_neg h1, if_neg]
        rw [Int32.le_iff_toInt_le]
        rw [Int32.lt_iff_toInt_lt] at h1
        rw [nI_toInt (by omega)] at h1 ⊢
        unfold q_is at hv
        omega
    have b : f_X5_numbers 57 v (p_m I P) = some (-nI 1, p_m I P) := by
      unfold f_X5_numbers
      have h0 := m_in0 (v := v) (lo := 1) (hi := 5) (p_m I P) (by unfold q_is at hv ⊢; omega) (by omega) (by omega)
      simp (disch := omega) only [p_N, h0, p_b, if_true]
    exact q_ask hO hC hM a p_same.rf b m_keep.rf
theorem r_c15 {c n r : Nat} (h0 : 1 ≤ c) (hn : n ≤ 5) (hr : r < 243) {m : z_M} : ∀ (f d : Nat), c ≤ d → d ≤ n → d < f → f_X4_wordOfRow_L15 f (q_a c) (nI (r / 3 ^ (n - d))) (q_a d) m = some (nI (r / 3 ^ (n - c) % 3), m) := by
  intro f
  induction f with
  | zero => intro d _ _ h; omega
  | succ f ih =>
    intro d hc hd hf
    have hq : r / 3 ^ (n - d) < 2147483648 := Nat.lt_of_le_of_lt (Nat.div_le_self _ _) (by omega)
    unfold f_X4_wordOfRow_L15 z_lt
    simp (disch := omega) only [p_N, r_a_le, p_mo, p_di]
    by_cases h1 : d ≤ c
    · rw [if_pos h1, show d = c by omega]
    · rw [if_neg h1]
      obtain ⟨j, rfl⟩ : ∃ j, d = j + 1 := ⟨d - 1, by omega⟩
      rw [q_aw, r_a0, r_ap, Nat.div_div_eq_div_mul, ← Nat.pow_succ, show (n - (j + 1)).succ = n - j by omega]
      exact ih j (by omega) (by omega) (by omega)
theorem r_cword {c n r : Nat} (h0 : 1 ≤ c) (hc : c ≤ 5) (hn : n ≤ 5) (hr : r < 243) {m : z_M} : f_X4_wordOfRow (nI r) (nI n) (q_a c) m = some (r_pl c n r, m) := by
  obtain ⟨F, hF⟩ : ∃ F : Nat, 400 = F := ⟨_, rfl⟩
  unfold f_X4_wordOfRow r_pl z_lt
  rw [hF, if_neg (show ¬ c = 0 by omega)]
  have e : (q_a c < nI n) = (c < n + 1) := by rw [r_an, r_a_lt (by omega) (by omega)]
  simp only [e]
  by_cases h1 : n < c
  · rw [if_pos h1, if_neg (by omega)]
    rfl
  · rw [if_neg h1, if_pos (by omega)]
    have := r_c15 h0 hn hr (m := m) F n (by omega) (by omega) (by omega)
    rw [Nat.sub_self, Nat.pow_zero, Nat.div_one] at this
    exact this
theorem r_m36 {c n r : Nat} (hcc : c ≤ 5) (hn : n ≤ 5) (hr : r < 243) {m : z_M} : ∀ (f d : Nat), (c ≤ d ∨ d = n) → d ≤ n → d < f → f_X5_plan_L36 f (q_a c) (nI n) (nI (r / 3 ^ (n - d))) (q_a d) m = some (r_pl c n r, m) := by
  intro f
  induction f with
  | zero => intro d _ _ h; omega
  | succ f ih =>
    intro d hc hd hf
    have hq : r / 3 ^ (n - d) < 2147483648 := Nat.lt_of_le_of_lt (Nat.div_le_self _ _) (by omega)
    have e : (nI n ≤ q_a c) = (n + 1 ≤ c) := by rw [r_an, r_a_le (by omega) (by omega)]
    unfold f_X5_plan_L36 z_lt
    simp (disch := omega) only [p_N, r_a0, r_a_le, r_a_eq, p_mo, p_di, e]
    by_cases h1 : d ≤ c
    · rw [if_pos h1]
      unfold r_pl
      by_cases h2 : c = 0
      · rw [if_pos h2, if_pos h2]
      · rw [if_neg h2, if_neg h2]
        by_cases h3 : n < c
        · rw [if_pos h3, if_pos (by omega)]
        · rw [if_neg h3, if_neg (by omega), show d = c by omega]
    · rw [if_neg h1]
      obtain ⟨j, rfl⟩ : ∃ j, d = j + 1 := ⟨d - 1, by omega⟩
      rw [q_aw, r_ap, Nat.div_div_eq_div_mul, ← Nat.pow_succ, show (n - (j + 1)).succ = n - j by omega]
      exact ih j (by omega) (by omega) (by omega)
theorem r_cpL (h : c_B I P s q g) {c : Nat} (hc : c ≤ 5) : ∀ (f n : Nat) (I : Nat → Nat → Int32), c_B I P s q g → (∀ j, j < q.1 → I 55 j = nI (q_mf q g j)) → n ≤ 6 → 6 - n < f →
    ∃ I', f_X4_plan_L18 f 0 (q_a c) (nI n) (p_m I P) = some (r_ps q g c (6 - n) n, p_m I' P) ∧ p_same (fun a => a = 56) I I' := by
  intro f
  induction f with
  | zero => intro n I _ _ _ h; omega
  | succ f ih =>
    intro n I h hm hn hf
    unfold f_X4_plan_L18
    simp (disch := omega) only [p_N, p_A]
    by_cases h1 : 5 < n
    · rw [if_pos h1, show n = 6 by omega]
      exact ⟨I, rfl, p_same.rf⟩
    · rw [if_neg h1, show 6 - n = (5 - n) + 1 by omega]
      have h3 := r_p3 n (by omega)
      obtain ⟨I1, x, a1, a2, a3⟩ := r_cfrL h (show n ≤ 5 by omega) 400 0 I h hm (Nat.zero_le _) (by omega) (fun j hj => by omega)
      have a1 : f_X4_firstRowAlike 0 (nI n) (p_m I P) = some (x, p_m I1 P) := a1
      simp (disch := omega) only [p_C, a1, p_b]
      rcases a3 with ⟨e1, e2⟩ | ⟨r, e1, e2⟩
      · subst e1
        obtain ⟨I2, b1, b2⟩ := ih (n + 1) I1 (h.keep (a2.mono (fun a ha => by unfold q_scr; omega))) (fun j hj => by rw [a2 55 (by omega)]; exact hm j hj) (by omega) (by omega)
        refine ⟨I2, ?_, a2.tr b2⟩
        rw [show 6 - (n + 1) = 5 - n by omega] at b1
        unfold r_ps
        rw [if_pos rfl, if_pos (r_ct_0 e2)]
        exact b1
      · subst e1
        refine ⟨I1, ?_, a2⟩
        have h0 := r_ct_1 e2
        have hr := e2.1
        have ne : (nI r = -nI 4) = False := p_A.2.2.2.2.1 r (by omega)
        unfold r_ps
        rw [if_neg (show ¬ q_ct (r_ra q g n) (3 ^ n) = 0 by omega), r_fr_eq e2]
        simp only [ne, if_false]
        by_cases hc0 : c = 0
        · subst hc0
          rw [if_pos r_a0.symm]
          rfl
        · have ne2 : (q_a c = -nI 1) = False := by rw [r_a0, r_a_eq (by omega) (by omega)]; exact eq_false hc0
          simp only [ne2, if_false]
          rw [r_cword (by omega) hc (by omega) (by omega)]
          rfl
theorem r_mpL (hg : g_in q.1 g) {c : Nat} (hc : c ≤ 5) : ∀ (f n : Nat) (I : Nat → Nat → Int32), m_B I P q g → n ≤ 6 → 6 - n < f →
    ∃ I', f_X5_plan_L13 f 57 (q_a c) (nI n) (p_m I P) = some (r_ps q g c (6 - n) n, p_m I' P) ∧ p_same (fun a => a = 57 ∨ a = 61 ∨ a = 64) I I' ∧ (∀ j, j ≠ 13 → I' 57 j = I 57 j) ∧ ∀ x, x < 22 → I' 61 x = I 61 x := by
  intro f
  induction f with
  | zero => intro n I _ _ h; omega
  | succ f ih =>
    intro n I hB hn hf
    unfold f_X5_plan_L13
    simp (disch := omega) only [p_N, p_A]
    by_cases h1 : 5 < n
    · rw [if_pos h1, show n = 6 by omega]
      exact ⟨I, rfl, p_same.rf, fun _ _ => rfl, fun _ _ => rfl⟩
    · rw [if_neg h1, show 6 - n = (5 - n) + 1 by omega]
      have h3 := r_p3 n (by omega)
      have hct := q_ct_le (r_ra q g n) (3 ^ n)
      obtain ⟨I1, a1, ⟨a2, a3, a4⟩, a5⟩ := r_rows hg (show n ≤ 5 by omega) hB
      have hB1 : m_B I1 P q g := ⟨hB.1, hB.2.1, hB.2.2.1, hB.2.2.2.1.keep a2 (by omega), hB.2.2.2.2.1.copy hB.2.1.2.1 (fun j hj => by rw [Nat.zero_add, a4 j hj]), by rw [a3 10 (by omega)]; exact hB.2.2.2.2.2⟩
      unfold z_lt
      simp (disch := omega) only [p_C, a1, p_b, p_A]
      unfold r_ps
      by_cases h0 : q_ct (r_ra q g n) (3 ^ n) = 0
      · rw [if_pos h0, if_pos (by omega)]
        obtain ⟨I2, b1, b2, b3, b4⟩ := ih (n + 1) I1 hB1 (by omega) (by omega)
        rw [show 6 - (n + 1) = 5 - n by omega] at b1
        exact ⟨I2, b1, a2.tr b2, fun j hj => by rw [b3 j hj, a3 j hj], fun x hx => by rw [b4 x hx, a4 x hx]⟩
      · rw [if_neg h0, if_neg (by omega)]
        rcases a5 with e | ⟨r, e1, e2⟩
        · exact absurd e h0
        · refine ⟨I1, ?_, a2, a3, a4⟩
          have hr := e1.1
          rw [r_fr_eq e1]
          have := r_m36 hc (show n ≤ 5 by omega) (show r < 243 by omega) (m := p_m I1 P) 400 n (Or.inr rfl) (by omega) (by omega)
          rw [Nat.sub_self, Nat.pow_zero, Nat.div_one] at this
          simp only [p_G, e2]
          exact this
theorem o_plan (hO : q_O A) (hC : q_C I P s d pl A) (hM : q_M I A) (v : Int32) : q_T (f_X4_plan 0 v (p_m I P)) (f_X5_plan 57 v) := by
  have hB := hC.b hO
  have mB := hM.b hC.1 hO
  have h8 := hO.1.2.1
  have n5 : (5 : Int32).toInt = 5 := by decide
  have m1 : (-1 : Int32).toInt = -1 := by decide
  have n4 : (4 : Int32).toInt = 4 := by decide
  by_cases hv : -1 ≤ v.toInt ∧ v.toInt ≤ 4
  · obtain ⟨c, hc, rfl⟩ : ∃ c, c ≤ 5 ∧ v = q_a c := ⟨(v.toInt + 1).toNat, by omega, by
      apply Int32.toInt_inj.mp
      rw [r_a_i (by omega)]
      omega⟩
    obtain ⟨I1, a1, a2, a3⟩ := c_manners hB
    have hs1 : p_same q_scr I I1 := a2.mono (fun a ha => by unfold q_scr; omega)
    obtain ⟨F, hF⟩ : ∃ F : Nat, 400 = F := ⟨_, rfl⟩
    obtain ⟨I2, b1, b2⟩ := r_cpL (hB.keep hs1) hc F 0 I1 (hB.keep hs1) a3 (by omega) (by omega)
    have hs2 : p_same q_scr I I2 := hs1.tr (b2.mono (fun a ha => by unfold q_scr; omega))
    have mB2 := mB.keep (S := q_scr) hs2 (fun a ha => by unfold q_scr at ha; omega)
    obtain ⟨I3, c1, c2, c3, c4⟩ := r_mpL hO.2.1 hc F 0 I2 mB2 (by omega) (by omega)
    have e1 : ¬ (q_a c < -1) := by rw [Int32.lt_iff_toInt_lt, r_a_i (by omega), m1]; omega
    have e2 : q_a c < 5 := by rw [Int32.lt_iff_toInt_lt, r_a_i (by omega), n5]; omega
    have e4 : ¬ (4 < q_a c) := by rw [Int32.lt_iff_toInt_lt, r_a_i (by omega), n4]; omega
    have a : f_X4_plan 0 (q_a c) (p_m I P) = some (r_ps A.1 A.2.1 c 6 0, p_m I2 P) := by
      unfold f_X4_plan
      rw [hF, if_neg e1, if_pos e2]
      simp (disch := omega) only [p_C, a1, p_b]
      exact b1
    have b : f_X5_plan 57 (q_a c) (p_m I2 P) = some (r_ps A.1 A.2.1 c 6 0, p_m I3 P) := by
      have hin : f_X5_in (q_a c) (-1) 4 (p_m I2 P) = some (1, p_m I2 P) := by
        unfold f_X5_in
        rw [if_neg e1, if_neg e4]
      unfold f_X5_plan
      rw [hF, hin, p_b, if_neg (by decide)]
      exact c1
    exact r_ask hO hC hM a hs2 b c2 c3 c4
  · have hcase : v < -1 ∨ (¬ v < -1 ∧ ¬ v < 5 ∧ 4 < v) := by
      rw [Int32.lt_iff_toInt_lt, Int32.lt_iff_toInt_lt, Int32.lt_iff_toInt_lt, m1, n5, n4]
      omega
    have a : f_X4_plan 0 v (p_m I P) = some (-1, p_m I P) := by
      unfold f_X4_plan
      rcases hcase with h | ⟨h1, h2, -⟩
      · rw [if_pos h]
      · rw [if_neg h1, if_neg h2]
    have b : f_X5_plan 57 v (p_m I P) = some (-1, p_m I P) := by
      have hin : f_X5_in v (-1) 4 (p_m I P) = some (0, p_m I P) := by
        unfold f_X5_in
        rcases hcase with h | ⟨h1, -, h2⟩
        · rw [if_pos h]
        · rw [if_neg h1, if_pos h2]
      unfold f_X5_plan
      rw [hin, p_b, if_pos rfl]
    exact q_ask hO hC hM a p_same.rf b m_keep.rf
end
