/-! QUESTIONS OF THE STANDING -/
abbrev q_T (oC : z_R) (fM : z_M → z_R) : Prop := ∃ (r : Int32) (m1 m2 : z_M), oC = some (r, m1) ∧ fM m1 = some (r, m2) ∧ (57 < m1.1 ∧ m1.1 ≤ 600000 ∧ m1.2.1 ≤ 7302250) ∧ q_Rel m2
def q_ct (p : Nat → Bool) : Nat → Nat
  | 0 => 0
  | k + 1 => q_ct p k + (if p k then 1 else 0)
theorem q_ct_s (p : Nat → Bool) (k : Nat) : q_ct p (k + 1) = q_ct p k + (if p k then 1 else 0) := rfl
theorem q_ct_le (p : Nat → Bool) : ∀ k, q_ct p k ≤ k
  | 0 => Nat.le_refl _
  | k + 1 => by
    have := q_ct_le p k
    rw [q_ct_s]
    split <;> omega
theorem p_sh9 : ∀ i, i < 9 → (nI 1) <<< (nI i &&& nI 31) = nI (2 ^ i) := by decide
theorem p_msk : ∀ n, n < 9 → ∀ x, x < 2 ^ n → nI x &&& (nI (2 ^ n) - nI 1) = nI x := by decide +kernel
section
variable {I : Nat → Nat → Int32} {P : Nat → Nat → Option Nat} {s d : Nat} {pl : Nat → Nat} {A : q_S} {q : q_Q} {g : q_G}
theorem o_who (hO : q_O A) (hC : q_C I P s d pl A) (hM : q_M I A) (v : Int32) : q_T (f_X4_who 0 v (p_m I P)) (f_X5_who 57 v) := by
  have hB := hC.b hO
  have mB := hM.b hC.1 hO
  have hx := hB.x
  have hy := mB.x
  have h8 := hO.1.2.1
  have hor : A.2.1.2.2.2.2.2.2.1 ||| A.2.1.2.2.2.2.2.2.2 < 2 ^ A.1.1 := Nat.or_lt_two_pow hO.2.1.1.2.2.2.2.2.1 hO.2.1.1.2.2.2.2.2.2
  by_cases hv : q_is v 3
  · obtain ⟨w, hw, rfl⟩ := q_is_nI hv (by omega)
    have e1 : ∃ r, f_X4_who 0 (nI w) (p_m I P) = some (r, p_m I P) ∧ f_X5_who 57 (nI w) (p_m I P) = some (r, p_m I P) := by
      unfold f_X4_who f_X5_who z_lt
      rcases (show w = 0 ∨ w = 1 ∨ w = 2 by omega) with rfl | rfl | rfl
      · simp (disch := omega) only [p_N, p_A, p_tf, if_true, if_false, p_Q hC.1, p_C, p_L, p_G, m_in1, p_b, c_wrong (Or.inl rfl) hB.k hB.2.2.2.2.2 hO.2.1.1, m_wrong mB]
        exact ⟨_, rfl, rfl⟩
      · simp (disch := omega) only [p_N, p_A, p_tf, if_true, if_false, p_Q hC.1, p_C, p_L, p_G, m_in1, p_b, c_wrong (Or.inl rfl) hB.k hB.2.2.2.2.2 hO.2.1.1, m_wrong mB, hx, hy, p_or, p_sh9, p_msk _ (show A.1.1 < 9 by omega) _ hor]
        exact ⟨_, rfl, rfl⟩
      · have e2 : ((2 : Nat) = 0) = False := by simp
        have e3 : ((2 : Nat) = 1) = False := by simp
        simp (disch := omega) only [p_N, p_A, p_tf, e2, e3, if_true, if_false, p_Q hC.1, p_C, p_L, p_G, m_in1, p_b, hx, hy]
        exact ⟨_, rfl, rfl⟩
    obtain ⟨r, a, b⟩ := e1
    exact q_ask hO hC hM a p_same.rf b m_keep.rf
  · have n0 : ∀ k, k < 3 → v ≠ nI k := fun k hk e => hv (by rw [e]; unfold q_is; rw [nI_toInt (by omega)]; omega)
    have a : f_X4_who 0 v (p_m I P) = some (-nI 1, p_m I P) := by
      unfold f_X4_who
      simp only [p_N]
      rw [if_neg (n0 0 (by omega)), if_neg (n0 1 (by omega)), if_neg (n0 2 (by omega))]
    have b : f_X5_who 57 v (p_m I P) = some (-nI 1, p_m I P) := by
      unfold f_X5_who
      have h0 := m_in0 (v := v) (lo := 0) (hi := 2) (p_m I P) (Or.inl hv) (by omega) (by omega)
      simp (disch := omega) only [p_N, h0, p_b, if_true]
    exact q_ask hO hC hM a p_same.rf b m_keep.rf
theorem o_follows (hO : q_O A) (hC : q_C I P s d pl A) (hM : q_M I A) (v : Int32) : q_T (f_X4_follows 0 v (p_m I P)) (f_X5_follows 57 v) := by
  have hB := hC.b hO
  have mB := hM.b hC.1 hO
  have hx := hB.x
  have hy := mB.x
  have h8 := hO.1.2.1
  have h1 := hO.1.1
  have hs := hC.2.1.1
  by_cases hv : q_is v A.1.1
  · obtain ⟨i, hi, rfl⟩ := q_is_nI hv (by omega)
    have e1 : ∃ r, f_X4_follows 0 (nI i) (p_m I P) = some (r, p_m I P) ∧ f_X5_follows 57 (nI i) (p_m I P) = some (r, p_m I P) := by
      unfold f_X4_follows f_X5_follows
      simp (disch := omega) only [p_C, c_man1 hs hx.1.1 h8 hi, m_man1 hC.1 hy.1.1 h8 hi, p_b, p_N, p_A, p_tf, if_false, p_Q hC.1, p_G, p_L, hx, hy, c_end hB hi, m_end mB hi]
      simp only [p_b1]
      exact ⟨_, rfl, rfl⟩
    obtain ⟨r, a, b⟩ := e1
    exact q_ask hO hC hM a p_same.rf b m_keep.rf
  · have a : f_X4_follows 0 v (p_m I P) = some (-nI 1, p_m I P) := by
      unfold f_X4_follows
      simp (disch := omega) only [p_C, c_man0 hs hx.1.1 h8 hv, p_b, p_N, if_true]
    have b : f_X5_follows 57 v (p_m I P) = some (-nI 1, p_m I P) := by
      unfold f_X5_follows
      simp (disch := omega) only [p_C, m_man0 hC.1 hy.1.1 h1 h8 hv, p_b, p_N, if_true]
    exact q_ask hO hC hM a p_same.rf b m_keep.rf
theorem q_r_b (h : ∀ i, i < q.1 → g.2.1 i < q.1) (hn : q.1 ≤ 8) {i b : Nat} (hi : i < q.1) (hb : b < 8) : (q_r (q_ce q.2.2.1 g.2.1 99 9 i) = nI b) = (q_ce q.2.2.1 g.2.1 99 9 i = b) := by
  rcases q_ce_lt (kd := q.2.2.1) (b := 99) h 9 i hi with e | e
  · rw [e, q_r99]
    refine propext ⟨fun h => ?_, fun h => by omega⟩
    have := p_A.2.2.2.2.1 b (by omega)
    rw [h] at this
    simp at this
  · rw [q_rn (by omega), p_A.2.1 _ _ (by omega) (by omega)]
theorem c_runL (h : c_B I P s q g) {b : Nat} (hb : b < q.1) : ∀ (f i : Nat), i ≤ q.1 → q.1 - i < f → f_X4_runs_L14 f 0 (nI b) (nI (q_ct (fun i => !decide (i = b) && decide (q_ce q.2.2.1 g.2.1 99 9 i = b)) i)) (nI i) (p_m I P) = some (nI (q_ct (fun i => !decide (i = b) && decide (q_ce q.2.2.1 g.2.1 99 9 i = b)) q.1), p_m I P) := by
  intro f
  induction f with
  | zero => intro i _ h; omega
  | succ f ih =>
    intro i hi hf
    have hx := h.x
    have h8 := h.2.2.1.2.1
    unfold f_X4_runs_L14 f_X4_runs_L44
    simp (disch := omega) only [c_sq1 h.2.1, c_sqI h.2.1, p_N, hx, p_A]
    by_cases h1 : q.1 ≤ i
    · rw [if_pos h1, show i = q.1 by omega]
    · rw [if_neg h1]
      have hin : i < q.1 := by omega
      have he := q_r_b (q := q) (g := g) (b := b) (fun i hi => (h.2.2.2.1.1 i hi).2) h8 hin (by omega)
      have hs := q_ct_s (fun i => !decide (i = b) && decide (q_ce q.2.2.1 g.2.1 99 9 i = b)) i
      have ih1 := ih (i + 1) (by omega) (by omega)
      simp (disch := omega) only [p_C, c_end h hin, p_b, he]
      rw [hs] at ih1
      by_cases hc : i = b
      · rw [if_pos hc]
        simpa [hc] using ih1
      · rw [if_neg hc]
        by_cases hd : q_ce q.2.2.1 g.2.1 99 9 i = b
        · rw [if_pos hd]
          simpa [hc, hd] using ih1
        · rw [if_neg hd]
          simpa [hc, hd] using ih1
theorem m_runL (h : m_B I P q g) {b : Nat} (hb : b < q.1) : ∀ (f i : Nat), i ≤ q.1 → q.1 - i < f → f_X5_runs_L14 f 57 (nI b) (nI (q_ct (fun i => !decide (i = b) && decide (q_ce q.2.2.1 g.2.1 99 9 i = b)) i)) (nI i) (p_m I P) = some (nI (q_ct (fun i => !decide (i = b) && decide (q_ce q.2.2.1 g.2.1 99 9 i = b)) q.1), p_m I P) := by
  intro f
  induction f with
  | zero => intro i _ h; omega
  | succ f ih =>
    intro i hi hf
    have hx := h.x
    have h8 := h.2.1.2.1
    unfold f_X5_runs_L14 f_X5_runs_L43 f_X5_runs_L44 z_lt
    simp (disch := omega) only [p_Q h.1, p_L, p_N, hx, p_A]
    by_cases h1 : q.1 ≤ i
    · rw [if_pos h1, show i = q.1 by omega]
    · rw [if_neg h1]
      have hin : i < q.1 := by omega
      have he := q_r_b (q := q) (g := g) (b := b) (fun i hi => (h.2.2.1.1 i hi).2) h8 hin (by omega)
      have hs := q_ct_s (fun i => !decide (i = b) && decide (q_ce q.2.2.1 g.2.1 99 9 i = b)) i
      have ih1 := ih (i + 1) (by omega) (by omega)
      simp (disch := omega) only [p_C, m_end h hin, p_b, he]
      rw [hs] at ih1
      by_cases hc : i = b
      · rw [if_pos hc]
        simpa [hc] using ih1
      · rw [if_neg hc]
        by_cases hd : q_ce q.2.2.1 g.2.1 99 9 i = b
        · rw [if_pos hd]
          simpa [hc, hd] using ih1
        · rw [if_neg hd]
          simpa [hc, hd] using ih1
theorem o_runs (hO : q_O A) (hC : q_C I P s d pl A) (hM : q_M I A) (v : Int32) : q_T (f_X4_runs 0 v (p_m I P)) (f_X5_runs 57 v) := by
  have hB := hC.b hO
  have mB := hM.b hC.1 hO
  have hx := hB.x
  have hy := mB.x
  have h8 := hO.1.2.1
  have h1 := hO.1.1
  have hs := hC.2.1.1
  by_cases hv : q_is v A.1.1
  · obtain ⟨i, hi, rfl⟩ := q_is_nI hv (by omega)
    have a1 := c_runL hB hi 400 0 (by omega) (by omega)
    have b1 := m_runL mB hi 400 0 (by omega) (by omega)
    have e1 : ∃ r, f_X4_runs 0 (nI i) (p_m I P) = some (r, p_m I P) ∧ f_X5_runs 57 (nI i) (p_m I P) = some (r, p_m I P) := by
      unfold f_X4_runs f_X5_runs
      simp (disch := omega) only [p_C, c_man1 hs hx.1.1 h8 hi, m_man1 hC.1 hy.1.1 h8 hi, p_b, p_N, p_A, p_tf, if_false]
      exact ⟨_, a1, b1⟩
    obtain ⟨r, a, b⟩ := e1
    exact q_ask hO hC hM a p_same.rf b m_keep.rf
  · have a : f_X4_runs 0 v (p_m I P) = some (-nI 1, p_m I P) := by
      unfold f_X4_runs
      simp (disch := omega) only [p_C, c_man0 hs hx.1.1 h8 hv, p_b, p_N, if_true]
    have b : f_X5_runs 57 v (p_m I P) = some (-nI 1, p_m I P) := by
      unfold f_X5_runs
      simp (disch := omega) only [p_C, m_man0 hC.1 hy.1.1 h1 h8 hv, p_b, p_N, if_true]
    exact q_ask hO hC hM a p_same.rf b m_keep.rf
/-- groups, the longest, the one that goes on -/
def q_gr (fc : Nat → Nat) : Nat → Nat × Nat × Nat
  | 0 => (0, 0, 0)
  | i + 1 => if i = 0 ∨ ¬ fc i = fc (i - 1) then ((q_gr fc i).1 + 1, max (q_gr fc i).2.1 1, 1) else ((q_gr fc i).1, max (q_gr fc i).2.1 ((q_gr fc i).2.2 + 1), (q_gr fc i).2.2 + 1)
theorem q_gr_le (fc : Nat → Nat) : ∀ i, (q_gr fc i).1 ≤ i ∧ (q_gr fc i).2.1 ≤ i ∧ (q_gr fc i).2.2 ≤ i ∧ (i = 0 ∨ 1 ≤ (q_gr fc i).2.2)
  | 0 => ⟨Nat.le_refl _, Nat.le_refl _, Nat.le_refl _, Or.inl rfl⟩
  | i + 1 => by
    have := q_gr_le fc i
    unfold q_gr
    split
    · refine ⟨?_, ?_, ?_, ?_⟩ <;> simp only <;> omega
    · refine ⟨?_, ?_, ?_, ?_⟩ <;> simp only <;> omega
theorem p_mx {a b : Nat} (ha : a < 2147483648) (hb : b < 2147483648) : z_mx (nI a) (nI b) = nI (max a b) := by
  unfold z_mx
  simp only [p_A.2.2.1 _ _ ha hb]
  split
  · rw [Nat.max_eq_right (by omega)]
  · rw [Nat.max_eq_left (by omega)]
theorem c_grL (h : c_B I P s q g) {z : Nat} (hz : z < 2) : ∀ (f i : Nat), i ≤ q.1 → q.1 - i < f → f_X4_groups_L19 f 0 (nI z) (nI (q_gr g.1 i).1) (nI (q_gr g.1 i).2.1) (nI (q_gr g.1 i).2.2) (nI i) (p_m I P) = some (if z = 0 then nI (q_gr g.1 q.1).1 else nI (q_gr g.1 q.1).2.1, p_m I P) := by
  intro f
  induction f with
  | zero => intro i _ h; omega
  | succ f ih =>
    intro i hi hf
    have hx := h.x
    have h8 := h.2.2.1.2.1
    obtain ⟨u1, u2, u3, u4⟩ := q_gr_le g.1 i
    unfold f_X4_groups_L19 f_X4_groups_L61 f_X4_groups_L67 z_lt
    simp (disch := omega) only [c_sq1 h.2.1, c_sqI h.2.1, p_N, hx, p_A]
    by_cases h1 : q.1 ≤ i
    · rw [if_pos h1, show i = q.1 by omega, p_b1]
    · rw [if_neg h1]
      have hin : i < q.1 := by omega
      have ih1 := ih (i + 1) (by omega) (by omega)
      have hfc := (h.2.2.2.1.1 i hin).1
      simp (disch := omega) only [p_mx, Nat.zero_add]
      by_cases hc : i = 0
      · rw [if_pos hc]
        rw [show q_gr g.1 (i + 1) = ((q_gr g.1 i).1 + 1, max (q_gr g.1 i).2.1 1, 1) from if_pos (Or.inl hc)] at ih1
        exact ih1
      · rw [if_neg hc]
        have hfc1 := (h.2.2.2.1.1 (i - 1) (by omega)).1
        simp (disch := omega) only [p_Q h.1, p_L, p_sb, hx, p_A]
        by_cases hd : g.1 i = g.1 (i - 1)
        · rw [if_pos hd]
          rw [show q_gr g.1 (i + 1) = ((q_gr g.1 i).1, max (q_gr g.1 i).2.1 ((q_gr g.1 i).2.2 + 1), (q_gr g.1 i).2.2 + 1) from if_neg (by omega)] at ih1
          exact ih1
        · rw [if_neg hd]
          rw [show q_gr g.1 (i + 1) = ((q_gr g.1 i).1 + 1, max (q_gr g.1 i).2.1 1, 1) from if_pos (Or.inr hd)] at ih1
          exact ih1
theorem m_grL (h : m_B I P q g) {z : Nat} (hz : z < 2) : ∀ (f i : Nat), i ≤ q.1 → q.1 - i < f → f_X5_groups_L21 f 57 (nI z) (nI (q_gr g.1 i).1) (nI (q_gr g.1 i).2.1) (nI (q_gr g.1 i).2.2) (nI i) (p_m I P) = some (if z = 0 then nI (q_gr g.1 q.1).1 else nI (q_gr g.1 q.1).2.1, p_m I P) := by
  intro f
  induction f with
  | zero => intro i _ h; omega
  | succ f ih =>
    intro i hi hf
    have hx := h.x
    have h8 := h.2.1.2.1
    obtain ⟨u1, u2, u3, u4⟩ := q_gr_le g.1 i
    unfold f_X5_groups_L21 f_X5_groups_L63 f_X5_groups_L64 f_X5_groups_L78 f_X5_groups_L92 z_lt
    simp (disch := omega) only [p_Q h.1, p_L, p_N, hx, p_A]
    by_cases h1 : q.1 ≤ i
    · rw [if_pos h1, show i = q.1 by omega, p_b1]
    · rw [if_neg h1]
      have hin : i < q.1 := by omega
      have ih1 := ih (i + 1) (by omega) (by omega)
      have hfc := (h.2.2.1.1 i hin).1
      have J : ∀ r gg, (gg = (q_gr g.1 i).1 + 1 ∧ r = 1 ∧ (i = 0 ∨ ¬ g.1 i = g.1 (i - 1))) ∨ (gg = (q_gr g.1 i).1 + 0 ∧ r = (q_gr g.1 i).2.2 + 1 ∧ ¬ (i = 0 ∨ ¬ g.1 i = g.1 (i - 1))) → (if r ≤ (q_gr g.1 i).2.1 then f_X5_groups_L21 f 57 (nI z) (nI gg) (nI (q_gr g.1 i).2.1) (nI r) (nI (i + 1)) (p_m I P) else f_X5_groups_L21 f 57 (nI z) (nI gg) (nI r) (nI r) (nI (i + 1)) (p_m I P)) = some (if z = 0 then nI (q_gr g.1 q.1).1 else nI (q_gr g.1 q.1).2.1, p_m I P) := by
        intro r gg hr
        rcases hr with ⟨rfl, rfl, hr⟩ | ⟨rfl, rfl, hr⟩
        · rw [show q_gr g.1 (i + 1) = ((q_gr g.1 i).1 + 1, max (q_gr g.1 i).2.1 1, 1) from if_pos hr] at ih1
          split
          · rw [Nat.max_eq_left (by omega)] at ih1; exact ih1
          · rw [Nat.max_eq_right (by omega)] at ih1; exact ih1
        · rw [show q_gr g.1 (i + 1) = ((q_gr g.1 i).1, max (q_gr g.1 i).2.1 ((q_gr g.1 i).2.2 + 1), (q_gr g.1 i).2.2 + 1) from if_neg hr] at ih1
          split
          · rw [Nat.max_eq_left (by omega)] at ih1; exact ih1
          · rw [Nat.max_eq_right (by omega)] at ih1; exact ih1
      by_cases hc : i ≤ 0
      · rw [if_pos hc]
        simp (disch := omega) only [p_A, p_tf, if_true]
        exact J 1 _ (Or.inl ⟨rfl, rfl, Or.inl (by omega)⟩)
      · rw [if_neg hc]
        have hfc1 := (h.2.2.1.1 (i - 1) (by omega)).1
        simp (disch := omega) only [p_Q h.1, p_L, p_sb, hx, p_A, p_tf, if_true]
        by_cases hd : g.1 i = g.1 (i - 1)
        · rw [if_pos hd, if_neg (by omega)]
          exact J _ _ (Or.inr ⟨rfl, rfl, by omega⟩)
        · rw [if_neg hd]
          exact J 1 _ (Or.inl ⟨rfl, rfl, Or.inr hd⟩)
theorem o_groups (hO : q_O A) (hC : q_C I P s d pl A) (hM : q_M I A) (v : Int32) : q_T (f_X4_groups 0 v (p_m I P)) (f_X5_groups 57 v) := by
  have hB := hC.b hO
  have mB := hM.b hC.1 hO
  have h8 := hO.1.2.1
  by_cases hv : q_is v 2
  · obtain ⟨z, hz, rfl⟩ := q_is_nI hv (by omega)
    have a1 := c_grL hB hz 400 0 (by omega) (by omega)
    have b1 := m_grL mB hz 400 0 (by omega) (by omega)
    have e1 : ∃ r, f_X4_groups 0 (nI z) (p_m I P) = some (r, p_m I P) ∧ f_X5_groups 57 (nI z) (p_m I P) = some (r, p_m I P) := by
      unfold f_X4_groups f_X5_groups
      simp (disch := omega) only [p_N, c_ei1, m_ei1, p_b, p_A, p_tf, if_false]
      exact ⟨_, a1, b1⟩
    obtain ⟨r, a, b⟩ := e1
    exact q_ask hO hC hM a p_same.rf b m_keep.rf
  · have a : f_X4_groups 0 v (p_m I P) = some (-nI 1, p_m I P) := by
      unfold f_X4_groups
      simp (disch := omega) only [c_ei0 _ hv, p_b, p_N, if_true]
    have b : f_X5_groups 57 v (p_m I P) = some (-nI 1, p_m I P) := by
      unfold f_X5_groups
      simp (disch := omega) only [p_N, m_ei0 _ hv, p_b, if_true]
    exact q_ask hO hC hM a p_same.rf b m_keep.rf
end
