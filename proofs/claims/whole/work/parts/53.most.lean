/-! WHERE MOST FACE; WHAT IS FORESEEN -/
def q_cf (fc : Nat → Nat) (n k : Nat) : Nat := q_ct (fun i => decide (fc i = k)) n
def q_bs (fc : Nat → Nat) (n : Nat) : Nat → Nat
  | 0 => 0
  | k + 1 => if q_cf fc n (k + 1) ≤ q_cf fc n (q_bs fc n k) then q_bs fc n k else k + 1
theorem q_bs_le (fc : Nat → Nat) (n : Nat) : ∀ k, q_bs fc n k ≤ k
  | 0 => Nat.le_refl _
  | k + 1 => by
    have := q_bs_le fc n k
    unfold q_bs
    split <;> omega
section
variable {I : Nat → Nat → Int32} {P : Nat → Nat → Option Nat} {s d : Nat} {pl : Nat → Nat} {A : q_S} {q : q_Q} {g : q_G}
theorem c_mfL (h : c_B I P s q g) {k : Nat} (hk : k < 5) : ∀ (f i : Nat), i ≤ q.1 → q.1 - i < f → f_X4_menFacing_L4 f 0 (nI k) (nI (q_cf g.1 i k)) (nI i) (p_m I P) = some (nI (q_cf g.1 q.1 k), p_m I P) := by
  intro f
  induction f with
  | zero => intro i _ h; omega
  | succ f ih =>
    intro i hi hf
    have hx := h.x
    have h8 := h.2.2.1.2.1
    unfold f_X4_menFacing_L4 f_X4_menFacing_L31
    simp (disch := omega) only [c_sq1 h.2.1, c_sqI h.2.1, p_N, hx, p_A]
    by_cases h1 : q.1 ≤ i
    · rw [if_pos h1, show i = q.1 by omega]
    · rw [if_neg h1]
      have hin : i < q.1 := by omega
      have hfc := (h.2.2.2.1.1 i hin).1
      have ih1 := ih (i + 1) (by omega) (by omega)
      rw [show q_cf g.1 (i + 1) k = q_cf g.1 i k + (if decide (g.1 i = k) = true then 1 else 0) from rfl] at ih1
      simp (disch := omega) only [p_Q h.1, p_L, hx, p_A]
      by_cases hc : g.1 i = k
      · rw [if_pos hc]
        rw [if_pos (by simp [hc])] at ih1
        exact ih1
      · rw [if_neg hc]
        rw [if_neg (by simp [hc])] at ih1
        exact ih1
theorem c_mf (h : c_B I P s q g) {k : Nat} (hk : k < 5) : f_X4_menFacing 0 (nI k) (p_m I P) = some (nI (q_cf g.1 q.1 k), p_m I P) := by
  have h8 := h.2.2.1.2.1
  unfold f_X4_menFacing
  exact c_mfL h hk 400 0 (by omega) (by omega)
theorem q_cf_le (fc : Nat → Nat) (n k : Nat) : q_cf fc n k ≤ n := q_ct_le _ n
theorem c_moL (h : c_B I P s q g) {z : Nat} (hz : z < 2) : ∀ (f k : Nat), k ≤ 3 → 3 - k < f → f_X4_most_L13 f 0 (nI z) (nI (q_bs g.1 q.1 k)) (nI (k + 1)) (p_m I P) = some (nI (if z = 0 then q_bs g.1 q.1 3 else q_cf g.1 q.1 (q_bs g.1 q.1 3)), p_m I P) := by
  intro f
  induction f with
  | zero => intro i _ h; omega
  | succ f ih =>
    intro k hk hf
    have h8 := h.2.2.1.2.1
    have hb := q_bs_le g.1 q.1 k
    have u1 := q_cf_le g.1 q.1 (k + 1)
    have u2 := q_cf_le g.1 q.1 (q_bs g.1 q.1 k)
    unfold f_X4_most_L13 f_X4_most_L33
    simp (disch := omega) only [p_N, p_C, c_mf h, p_b, p_A]
    by_cases h1 : 4 ≤ k + 1
    · rw [if_pos h1, show k = 3 by omega, p_b1]
      split <;> rfl
    · rw [if_neg h1]
      have ih1 := ih (k + 1) (by omega) (by omega)
      rw [show q_bs g.1 q.1 (k + 1) = if q_cf g.1 q.1 (k + 1) ≤ q_cf g.1 q.1 (q_bs g.1 q.1 k) then q_bs g.1 q.1 k else k + 1 from rfl] at ih1
      split
      · next hc => rw [if_pos hc] at ih1; exact ih1
      · next hc => rw [if_neg hc] at ih1; exact ih1
theorem m_moI (h : m_B I P q g) {v w u : Int32} {k : Nat} (hk : k < 5) {F : Nat → Int32 → Int32 → Int32 → Int32 → z_M → z_R} : ∀ (f i : Nat), i ≤ q.1 → q.1 - i < f → f_X5_most_L30 F f 57 v w u (nI k) (nI (q_cf g.1 i k)) (nI i) (p_m I P) = if nI (q_cf g.1 q.1 k) ≤ u then F 57 v w u (nI (k + 1)) (p_m I P) else F 57 v (nI k) (nI (q_cf g.1 q.1 k)) (nI (k + 1)) (p_m I P) := by
  intro f
  induction f with
  | zero => intro i _ h; omega
  | succ f ih =>
    intro i hi hf
    have hx := h.x
    have h8 := h.2.1.2.1
    unfold f_X5_most_L30 f_X5_most_L60 f_X5_most_L81 f_X5_most_L94 z_lt
    simp (disch := omega) only [p_Q h.1, p_L, p_N, hx, p_A]
    by_cases h1 : q.1 ≤ i
    · rw [if_pos h1, show i = q.1 by omega]
      by_cases hu : nI (q_cf g.1 q.1 k) ≤ u
      · simp only [if_pos hu]
      · simp only [if_neg hu]
    · rw [if_neg h1]
      have hin : i < q.1 := by omega
      have hfc := (h.2.2.1.1 i hin).1
      have ih1 := ih (i + 1) (by omega) (by omega)
      rw [show q_cf g.1 (i + 1) k = q_cf g.1 i k + (if decide (g.1 i = k) = true then 1 else 0) from rfl] at ih1
      simp (disch := omega) only [p_Q h.1, p_L, hx, p_A]
      by_cases hc : g.1 i = k
      · rw [if_pos hc]
        rw [if_pos (by simp [hc])] at ih1
        exact ih1
      · rw [if_neg hc]
        rw [if_neg (by simp [hc])] at ih1
        exact ih1
theorem m_moL (h : m_B I P q g) {z : Nat} (hz : z < 2) : ∀ (f k : Nat), k ≤ 3 → 3 - k < f → f_X5_most_L18 f 57 (nI z) (nI (q_bs g.1 q.1 k)) (nI (q_cf g.1 q.1 (q_bs g.1 q.1 k))) (nI (k + 1)) (p_m I P) = some (nI (if z = 0 then q_bs g.1 q.1 3 else q_cf g.1 q.1 (q_bs g.1 q.1 3)), p_m I P) := by
  intro f
  induction f with
  | zero => intro i _ h; omega
  | succ f ih =>
    intro k hk hf
    have h8 := h.2.1.2.1
    have hb := q_bs_le g.1 q.1 k
    have u1 := q_cf_le g.1 q.1 (k + 1)
    have u2 := q_cf_le g.1 q.1 (q_bs g.1 q.1 k)
    unfold f_X5_most_L18
    simp (disch := omega) only [p_N, p_A]
    by_cases h1 : 4 ≤ k + 1
    · rw [if_pos h1, show k = 3 by omega, p_b1]
      split <;> rfl
    · rw [if_neg h1]
      have ih1 := ih (k + 1) (by omega) (by omega)
      have hI := m_moI h (v := nI z) (w := nI (q_bs g.1 q.1 k)) (u := nI (q_cf g.1 q.1 (q_bs g.1 q.1 k))) (k := k + 1) (by omega) (F := f_X5_most_L18 f) 400 0 (by omega) (by omega)
      rw [show q_cf g.1 0 (k + 1) = 0 from rfl] at hI
      rw [hI]
      rw [show q_bs g.1 q.1 (k + 1) = if q_cf g.1 q.1 (k + 1) ≤ q_cf g.1 q.1 (q_bs g.1 q.1 k) then q_bs g.1 q.1 k else k + 1 from rfl] at ih1
      simp (disch := omega) only [p_A]
      split
      · next hc => rw [if_pos hc] at ih1; exact ih1
      · next hc => rw [if_neg hc] at ih1; exact ih1
theorem p_nm (a : Nat) (ha : a < 2147483648) : (nI a ≤ -nI 1) = False := by
  refine eq_false (fun h => ?_)
  rw [Int32.le_iff_toInt_le, nI_toInt ha, show (-nI 1).toInt = -1 by decide] at h
  omega
theorem m_mo (h : m_B I P q g) {z : Nat} (hz : z < 2) : f_X5_most_L18 400 57 (nI z) (nI 0) (-nI 1) (nI 0) (p_m I P) = some (nI (if z = 0 then q_bs g.1 q.1 3 else q_cf g.1 q.1 (q_bs g.1 q.1 3)), p_m I P) := by
  have h8 := h.2.1.2.1
  have u1 := q_cf_le g.1 q.1 0
  show f_X5_most_L18 (399 + 1) 57 (nI z) (nI 0) (-nI 1) (nI 0) (p_m I P) = _
  unfold f_X5_most_L18
  simp (disch := omega) only [p_N, p_A]
  rw [if_neg (by omega)]
  have hI := m_moI h (v := nI z) (w := nI 0) (u := -nI 1) (k := 0) (by omega) (F := f_X5_most_L18 399) 400 0 (by omega) (by omega)
  rw [show q_cf g.1 0 0 = 0 from rfl] at hI
  rw [hI]
  simp (disch := omega) only [p_nm, if_false]
  exact m_moL h hz 399 0 (by omega) (by omega)
theorem o_most (hO : q_O A) (hC : q_C I P s d pl A) (hM : q_M I A) (v : Int32) : q_T (f_X4_most 0 v (p_m I P)) (f_X5_most 57 v) := by
  have hB := hC.b hO
  have mB := hM.b hC.1 hO
  have h8 := hO.1.2.1
  by_cases hv : q_is v 2
  · obtain ⟨z, hz, rfl⟩ := q_is_nI hv (by omega)
    have a1 := c_moL hB hz 400 0 (by omega) (by omega)
    have b1 := m_mo mB hz
    have e1 : ∃ r, f_X4_most 0 (nI z) (p_m I P) = some (r, p_m I P) ∧ f_X5_most 57 (nI z) (p_m I P) = some (r, p_m I P) := by
      unfold f_X4_most f_X5_most
      simp (disch := omega) only [p_N, c_ei1, m_ei1, p_b, p_A, p_tf, if_false]
      exact ⟨_, a1, b1⟩
    obtain ⟨r, a, b⟩ := e1
    exact q_ask hO hC hM a p_same.rf b m_keep.rf
  · have a : f_X4_most 0 v (p_m I P) = some (-nI 1, p_m I P) := by
      unfold f_X4_most
      simp (disch := omega) only [c_ei0 _ hv, p_b, p_N, if_true]
    have b : f_X5_most 57 v (p_m I P) = some (-nI 1, p_m I P) := by
      unfold f_X5_most
      simp (disch := omega) only [p_N, m_ei0 _ hv, p_b, if_true]
    exact q_ask hO hC hM a p_same.rf b m_keep.rf
/-! manners foreseen -/
theorem c_tt {w : Nat} (hw : w < 3) (k : Int32 → z_R) : z_tl 0 (nI w) k = k (nI (q_t (w + 1))) := by
  rw [p_tl (t := 0) (i := w) hw, show z_tb 0 w = nI (q_t (w + 1)) by rcases (show w = 0 ∨ w = 1 ∨ w = 2 by omega) with rfl | rfl | rfl <;> rfl]
theorem c_facing (h : c_B I P s q g) {i mn t : Nat} (hi : i < q.1) (hm : mn < 3) (ht : t < 4) : f_X4_facingBy 0 (nI i) (nI mn) (nI t) (p_m I P) = some (nI ((g.1 i + q_tb mn t (q_t g.2.2.2.2.1)) % 4), p_m I P) := by
  have hx := h.x
  have h8 := h.2.2.1.2.1
  have hfc := (h.2.2.2.1.1 i hi).1
  have ha := q_t4 g.2.2.2.2.1
  have hb : q_tb mn t (q_t g.2.2.2.2.1) ≤ 4 := by unfold q_tb; split <;> (try split) <;> omega
  unfold f_X4_facingBy
  simp (disch := omega) only [p_Q h.1, p_G, p_L, hx, c_turnBy hm ht, p_b, p_N, p_A, p_mo]
def q_mf (q : q_Q) (g : q_G) (i : Nat) : Nat := q_mn q (q_ld q g i) (q_ef q (q_ld q g i))
theorem c_mnL (h : c_B I P s q g) : ∀ (f i : Nat) (I : Nat → Nat → Int32), c_B I P s q g → (∀ j, j < q.1 → I 54 j = nI (q_ld q g j)) → i ≤ q.1 → q.1 - i < f → (∀ j, j < i → I 55 j = nI (q_mf q g j)) → ∃ I', f_X4_findManners_L6 f 0 (nI i) (p_m I P) = some (nI 0, p_m I' P) ∧ p_same (fun a => a = 55) I I' ∧ ∀ j, j < q.1 → I' 55 j = nI (q_mf q g j) := by
  intro f
  induction f with
  | zero => intro i I _ _ _ h; omega
  | succ f ih =>
    intro i I h hL hi hf hm
    have hx := h.x
    have h8 := h.2.2.1.2.1
    unfold f_X4_findManners_L6 f_X4_findManners_L52
    simp (disch := omega) only [c_sq1 h.2.1, c_sqI h.2.1, p_N, hx, p_A]
    by_cases h1 : q.1 ≤ i
    · rw [if_pos h1]
      exact ⟨I, rfl, p_same.rf, fun j hj => hm j (by omega)⟩
    · rw [if_neg h1]
      have hin : i < q.1 := by omega
      have hl := q_ld_lt h.2.2.2.1 h.2.2.1 hin
      have her := (h.2.2.1.2.2.2 _ hl).2.2
      have K : ∃ I', f_X4_findManners_L6 f 0 (nI (i + 1)) (p_m (p_w I 55 i (nI (q_mf q g i))) P) = some (nI 0, p_m I' P) ∧ p_same (fun a => a = 55) I I' ∧ ∀ j, j < q.1 → I' 55 j = nI (q_mf q g j) := by
        obtain ⟨I', a1, a2, a3⟩ := ih (i + 1) (p_w I 55 i (nI (q_mf q g i))) (h.keep (p_same.rf.w (by unfold q_scr; omega))) (fun j hj => by rw [p_w_ne (Or.inl (by omega))]; exact hL j hj) (by omega) (by omega) (fun j hj => by
          by_cases e : j = i
          · subst e; rw [p_w_eq]
          · rw [p_w_ne (Or.inr e)]; exact hm j (by omega))
        exact ⟨I', a1, (p_same.rf.o).tr a2, a3⟩
      have e0 := c_manner h.k hl false
      have e1 := c_manner h.k hl true
      simp only [if_true, Bool.false_eq_true, if_false] at e0 e1
      simp (disch := omega) only [p_Q h.1, p_L, hL i hin, hx, c_sqP h.2.1 h.1, c_sqA h.2.1, p_A, p_C]
      have hmf : q_mf q g i = q_mn q (q_ld q g i) (q_ef q (q_ld q g i)) := rfl
      unfold q_ef at hmf
      by_cases hc : q.2.2.2.2 (q_ld q g i) < 5
      · rw [if_pos hc, e0]
        simp (disch := omega) only [p_b, p_S, p_A]
        rw [show decide (5 ≤ q.2.2.2.2 (q_ld q g i)) = false by simp; omega] at hmf
        rw [← hmf]
        exact K
      · rw [if_neg hc, e1]
        simp (disch := omega) only [p_b, p_S, p_A]
        rw [show decide (5 ≤ q.2.2.2.2 (q_ld q g i)) = true by simp; omega] at hmf
        rw [← hmf]
        exact K
theorem c_manners (h : c_B I P s q g) : ∃ I', f_X4_findManners 0 (p_m I P) = some (nI 0, p_m I' P) ∧ p_same (fun a => a = 54 ∨ a = 55) I I' ∧ ∀ j, j < q.1 → I' 55 j = nI (q_mf q g j) := by
  have h8 := h.2.2.1.2.1
  obtain ⟨I1, a1, a2, a3⟩ := c_leaders h
  obtain ⟨I2, b1, b2, b3⟩ := c_mnL h 400 0 I1 (h.keep (a2.mono (fun a ha => by unfold q_scr; omega))) a3 (by omega) (by omega) (fun j hj => absurd hj (Nat.not_lt_zero j))
  refine ⟨I2, ?_, (a2.mono (fun a ha => Or.inl ha)).tr (b2.mono (fun a ha => Or.inr ha)), b3⟩
  unfold f_X4_findManners
  simp (disch := omega) only [p_C, a1, p_b]
  exact b1
/-- where a man faces after a word, as foreseen -/
def q_fs (q : q_Q) (g : q_G) (i w : Nat) : Nat := (g.1 i + q_tb (q_mf q g i) (q_t (w + 1)) (q_t g.2.2.2.2.1)) % 4
theorem c_foreseen (h : c_B I P s q g) (hm : ∀ j, j < q.1 → I 55 j = nI (q_mf q g j)) {i w : Nat} (hi : i < q.1) (hw : w < 3) : f_X4_facingForeseen 0 (nI i) (nI w) (p_m I P) = some (nI (q_fs q g i w), p_m I P) := by
  have h8 := h.2.2.1.2.1
  unfold f_X4_facingForeseen
  simp (disch := omega) only [p_Q h.1, p_L, hm i hi, c_tt hw, p_C, c_facing h hi (q_mn3 q _ _) (q_t4 (w + 1)), q_mf, p_b]
  rfl
theorem m_foreseen (h : m_B I P q g) {i w : Nat} (hi : i < q.1) (hw : w < 3) : f_X5_turn 57 (nI i) (nI w) (p_m I P) = some (nI (q_fs q g i w), p_m I P) := by
  have hx := h.x
  have h8 := h.2.1.2.1
  have hfc := (h.2.2.1.1 i hi).1
  obtain ⟨e, he, e1, e2⟩ := m_errs h 1 (by omega)
  have hl := q_ld_lt h.2.2.1 h.2.1 hi
  have h3 := e2 _ hl
  rw [if_pos rfl] at h3
  have ht : q_tw q g w (fun a => e.testBit a) i = q_tb (q_mf q g i) (q_t (w + 1)) (q_t g.2.2.2.2.1) := by
    unfold q_tw q_mf
    rw [h3]
  have hlt := q_tw_lt q g w (fun a => e.testBit a) i
  rw [ht] at hlt
  unfold f_X5_turn
  simp (disch := omega) only [p_C, m_man1 h.1 hx.1.1 h8 hi, m_word1, p_b, p_N, p_A, p_tf, if_false, p_Q h.1, p_L, hx, e1, m_turnBy h hi hw he, ht, p_mo]
  rfl
theorem o_turn (hO : q_O A) (hC : q_C I P s d pl A) (hM : q_M I A) (v w : Int32) : q_T (f_X4_turn 0 v w (p_m I P)) (f_X5_turn 57 v w) := by
  have hB := hC.b hO
  have mB := hM.b hC.1 hO
  have hx := hB.x
  have hy := mB.x
  have h8 := hO.1.2.1
  have h1 := hO.1.1
  have hs := hC.2.1.1
  by_cases hv : q_is v A.1.1
  · obtain ⟨i, hi, rfl⟩ := q_is_nI hv (by omega)
    by_cases hw : q_is w 3
    · obtain ⟨w, hw3, rfl⟩ := q_is_nI hw (by omega)
      obtain ⟨I1, a1, a2, a3⟩ := c_manners hB
      have hsc : p_same q_scr I I1 := a2.mono (fun a ha => by unfold q_scr; omega)
      have hB1 := hB.keep hsc
      have mB1 := mB.keep a2 (fun a ha => by omega)
      have a : f_X4_turn 0 (nI i) (nI w) (p_m I P) = some (nI (q_fs A.1 A.2.1 i w), p_m I1 P) := by
        unfold f_X4_turn
        simp (disch := omega) only [p_C, c_man1 hs hx.1.1 h8 hi, c_word1, p_b, p_N, p_A, p_tf, if_false, a1, c_foreseen hB1 a3 hi hw3]
      have b : f_X5_turn 57 (nI i) (nI w) (p_m I1 P) = some (nI (q_fs A.1 A.2.1 i w), p_m I1 P) := m_foreseen mB1 hi hw3
      exact q_ask hO hC hM a hsc b m_keep.rf
    · have a : f_X4_turn 0 (nI i) w (p_m I P) = some (-nI 1, p_m I P) := by
        unfold f_X4_turn
        simp (disch := omega) only [p_C, c_man1 hs hx.1.1 h8 hi, c_word0 _ hw, p_b, p_N, p_A, p_tf, if_false, if_true]
      have b : f_X5_turn 57 (nI i) w (p_m I P) = some (-nI 1, p_m I P) := by
        unfold f_X5_turn
        simp (disch := omega) only [p_C, m_man1 hC.1 hy.1.1 h8 hi, m_word0 _ hw, p_b, p_N, p_A, p_tf, if_false, if_true]
      exact q_ask hO hC hM a p_same.rf b m_keep.rf
  · have a : f_X4_turn 0 v w (p_m I P) = some (-nI 1, p_m I P) := by
      unfold f_X4_turn
      simp (disch := omega) only [p_C, c_man0 hs hx.1.1 h8 hv, p_b, p_N, if_true]
    have b : f_X5_turn 57 v w (p_m I P) = some (-nI 1, p_m I P) := by
      unfold f_X5_turn
      simp (disch := omega) only [p_C, m_man0 hC.1 hy.1.1 h1 h8 hv, p_b, p_N, if_true]
    exact q_ask hO hC hM a p_same.rf b m_keep.rf
end
