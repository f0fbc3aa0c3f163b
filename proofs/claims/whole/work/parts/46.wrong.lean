/-! WHO IS WRONG, HOW MANY -/
def q_pf (x : Nat) : Nat → Nat
  | 0 => 0
  | k + 1 => q_pf x k + (if x.testBit k then 1 else 0)
theorem q_pf_le (x : Nat) : ∀ k, q_pf x k ≤ k
  | 0 => Nat.le_refl _
  | k + 1 => by
    have := q_pf_le x k
    unfold q_pf
    split <;> omega
def j_bc (v : Int32) : Int32 := match f_J6_bitCount_0f7a4 v (0, 0, fun _ _ => 0, fun _ _ => none) with
  | some q => q.1
  | none => 0
theorem j_bc_eq (v : Int32) (m : z_M) : f_J6_bitCount_0f7a4 v m = some (j_bc v, m) := rfl
theorem j_bc_8 : ∀ x, x < 256 → j_bc (nI x) = nI (q_pf x 8) := by decide +kernel
theorem c_bits {x : Nat} (h : x < 256) (m : z_M) : f_J6_bitCount_0f7a4 (nI x) m = some (nI (q_pf x 8), m) := by rw [j_bc_eq, j_bc_8 x h]
theorem m_onesL {x : Nat} (hx : x < 256) (m : z_M) : ∀ (f k : Nat), k ≤ 8 → 8 - k < f → f_X5_ones_L4 f (nI x) (nI (q_pf x k)) (nI k) m = some (nI (q_pf x 8), m) := by
  intro f
  induction f with
  | zero => intro k _ h; omega
  | succ f ih =>
    intro k hk hf
    unfold f_X5_ones_L4 z_lt
    simp (disch := omega) only [p_N, p_A]
    by_cases h : 8 ≤ k
    · rw [if_pos h, show k = 8 by omega]
    · rw [if_neg h, p_bt x hx k (by omega), nI_add]
      exact ih (k + 1) (by omega) (by omega)
theorem m_ones {x : Nat} (hx : x < 256) (m : z_M) : f_X5_ones (nI x) m = some (nI (q_pf x 8), m) := by
  unfold f_X5_ones
  exact m_onesL hx m 400 0 (by omega) (by omega)
def q_due (q : q_Q) (g : q_G) (i : Nat) : Nat := (q.2.2.2.1 i + g.2.2.2.2.2.1) % 4
def q_wr (q : q_Q) (g : q_G) : Nat := q_or (fun i => !decide (g.1 i = q_due q g i)) 0 q.1
theorem q_wr_lt {q : q_Q} {g : q_G} (hq : q_ok q) : q_wr q g < 256 := q_or_lt (n := 8) (by decide) q.1 hq.2.1
section
variable {I : Nat → Nat → Int32} {P : Nat → Nat → Option Nat} {s t : Nat} {q : q_Q} {g : q_G}
theorem c_due (ht : t = 14 ∨ t = 17) (hK : c_K I P s q) (hG : c_G I t q.1 g) (hg : g_ok q.1 g) {i : Nat} (hi : i < q.1) : f_X4_dueFacing 0 t (nI i) (p_m I P) = some (nI (q_due q g i), p_m I P) := by
  have hx := hK.x
  have h8 := hK.2.2.1.2.1
  have hf := (hK.2.2.1.2.2.2 i hi).2.1
  have htd := hg.2.2.2.2.1
  have hst := c_st hK.1 ht
  unfold f_X4_dueFacing q_due
  simp (disch := omega) only [c_sq1 hK.2.1, c_sqP hK.2.1 hK.1, c_sqA hK.2.1, hst, hx, hG.2.2.2.2.1, p_N, p_A, p_mo]
theorem m_due (h : m_B I P q g) {i : Nat} (hi : i < q.1) : f_X5_dueOf 57 (nI i) (p_m I P) = some (nI (q_due q g i), p_m I P) := by
  have hx := h.x
  have h8 := h.2.1.2.1
  have hf := (h.2.1.2.2.2 i hi).2.1
  have htd := h.2.2.1.2.2.2.2.1
  unfold f_X5_dueOf q_due
  simp (disch := omega) only [p_Q h.1, p_L, hx, p_N, p_A, p_mo]
theorem c_wrL (ht : t = 14 ∨ t = 17) (hK : c_K I P s q) (hG : c_G I t q.1 g) (hg : g_ok q.1 g) : ∀ (f i : Nat), i ≤ q.1 → q.1 - i < f → f_X4_wrongMen_L4 f 0 t (nI (q_or (fun i => !decide (g.1 i = q_due q g i)) 0 i)) (nI i) (p_m I P) = some (nI (q_wr q g), p_m I P) := by
  intro f
  induction f with
  | zero => intro i _ h; omega
  | succ f ih =>
    intro i hi hf
    have hx := hK.x
    have h8 := hK.2.2.1.2.1
    have hst := c_st hK.1 ht
    unfold f_X4_wrongMen_L4 f_X4_wrongMen_L36 z_lt
    simp (disch := omega) only [c_sq1 hK.2.1, c_sqI hK.2.1, hst, p_N, hx, p_A]
    by_cases h1 : q.1 ≤ i
    · rw [if_pos h1, show i = q.1 by omega]
      rfl
    · rw [if_neg h1]
      have hin : i < q.1 := by omega
      have hfc := (hg.1 i hin).1
      have hdu : q_due q g i < 4 := Nat.mod_lt _ (by decide)
      simp (disch := omega) only [p_C, c_due ht hK hG hg hin, p_b, (hG.1 i hin).1, p_A, p_sh, p_or]
      have hs : q_or (fun i => !decide (g.1 i = q_due q g i)) 0 (i + 1) = if (!decide (g.1 i = q_due q g i)) = true then q_or (fun i => !decide (g.1 i = q_due q g i)) 0 i ||| 2 ^ i else q_or (fun i => !decide (g.1 i = q_due q g i)) 0 i := rfl
      by_cases hc : g.1 i = q_due q g i
      · rw [if_pos hc]
        rw [if_neg (by simp [hc])] at hs
        rw [← hs]
        exact ih (i + 1) (by omega) (by omega)
      · rw [if_neg hc]
        rw [if_pos (by simp [hc])] at hs
        rw [← hs]
        exact ih (i + 1) (by omega) (by omega)
theorem c_wrong (ht : t = 14 ∨ t = 17) (hK : c_K I P s q) (hG : c_G I t q.1 g) (hg : g_ok q.1 g) : f_X4_wrongMen 0 t (p_m I P) = some (nI (q_wr q g), p_m I P) := by
  have h8 := hK.2.2.1.2.1
  unfold f_X4_wrongMen
  exact c_wrL ht hK hG hg 400 0 (by omega) (by omega)
theorem m_wrL (h : m_B I P q g) : ∀ (f i : Nat), i ≤ q.1 → q.1 - i < f → f_X5_wrong_L4 f 57 (nI (q_or (fun i => !decide (g.1 i = q_due q g i)) 0 i)) (nI i) (p_m I P) = some (nI (q_wr q g), p_m I P) := by
  intro f
  induction f with
  | zero => intro i _ h; omega
  | succ f ih =>
    intro i hi hf
    have hx := h.x
    have h8 := h.2.1.2.1
    unfold f_X5_wrong_L4 f_X5_wrong_L36 z_lt
    simp (disch := omega) only [p_Q h.1, p_L, p_N, hx, p_A]
    by_cases h1 : q.1 ≤ i
    · rw [if_pos h1, show i = q.1 by omega]
      rfl
    · rw [if_neg h1]
      have hin : i < q.1 := by omega
      have hfc := (h.2.2.1.1 i hin).1
      have hdu : q_due q g i < 4 := Nat.mod_lt _ (by decide)
      simp (disch := omega) only [p_C, p_L, m_due h hin, p_b, hx, p_A, p_sh, p_or, Nat.or_zero]
      have hs : q_or (fun i => !decide (g.1 i = q_due q g i)) 0 (i + 1) = if (!decide (g.1 i = q_due q g i)) = true then q_or (fun i => !decide (g.1 i = q_due q g i)) 0 i ||| 2 ^ i else q_or (fun i => !decide (g.1 i = q_due q g i)) 0 i := rfl
      by_cases hc : g.1 i = q_due q g i
      · rw [if_pos hc]
        rw [if_neg (by simp [hc])] at hs
        rw [← hs]
        exact ih (i + 1) (by omega) (by omega)
      · rw [if_neg hc]
        rw [if_pos (by simp [hc])] at hs
        rw [← hs]
        exact ih (i + 1) (by omega) (by omega)
theorem m_wrong (h : m_B I P q g) : f_X5_wrong 57 (p_m I P) = some (nI (q_wr q g), p_m I P) := by
  have h8 := h.2.1.2.1
  unfold f_X5_wrong
  exact m_wrL h 400 0 (by omega) (by omega)
end
