/-! HOW LIKELY A MAN COMES RIGHT -/
section
variable {I : Nat → Nat → Int32} {P : Nat → Nat → Option Nat} {s d : Nat} {pl : Nat → Nat} {A : q_S} {q : q_Q} {g : q_G}
abbrev q_ch (q : q_Q) (a : Nat) : Prop := q.2.2.1 a = 1 ∨ q.2.2.1 a = 2
def q_ways (q : q_Q) (a mn : Nat) : Nat := if q_ch q a then (if mn = 1 then q.2.2.2.2 a else if mn = 0 then 10 - q.2.2.2.2 a else 0) else (if mn = q_mn q a false then 1 else 0)
theorem q_ways_le {q : q_Q} (hq : q_ok q) {a mn : Nat} (ha : a < q.1) : q_ways q a mn ≤ 10 := by
  have := (hq.2.2.2 a ha).2.2
  unfold q_ways
  split <;> split <;> (try split) <;> omega
theorem c_ways (h : c_B I P s q g) {a mn : Nat} (ha : a < q.1) (hm : mn < 3) : f_X4_waysOfManner 0 (nI a) (nI mn) (p_m I P) = some (nI (q_ways q a mn), p_m I P) := by
  have hx := h.x
  have h8 := h.2.2.1.2.1
  have her := (h.2.2.1.2.2.2 a ha).2.2
  have e0 := c_manner h.k ha false
  have em := q_mn3 q a false
  simp only [Bool.false_eq_true, if_false] at e0
  unfold f_X4_waysOfManner q_ways
  simp (disch := omega) only [p_C, c_chancy h.k ha, p_b, p_N]
  by_cases hc : q_ch q a
  · rw [if_pos hc, if_pos hc]
    simp (disch := omega) only [p_A, p_tf, if_false, c_sq1 h.2.1, c_sqP h.2.1 h.1, c_sqA h.2.1, hx, p_sb]
    split
    · rfl
    · split <;> rfl
  · rw [if_neg hc, if_neg hc]
    simp (disch := omega) only [p_A, p_tf, if_true, e0, p_b]
    split <;> rfl
theorem c_toTurn (h : c_B I P s q g) {a : Nat} (ha : a < q.1) : f_X4_waysToTurn 0 (nI a) (p_m I P) = some (nI (if q_ch q a then 10 else 1), p_m I P) := by
  unfold f_X4_waysToTurn
  simp (disch := omega) only [p_C, c_chancy h.k ha, p_b, p_N]
  by_cases hc : q_ch q a
  · rw [if_pos hc, if_pos hc, if_neg (by decide)]
  · rw [if_neg hc, if_neg hc, if_pos (by decide)]
/-- the ways that bring man i to the facing D -/
def q_rt (q : q_Q) (g : q_G) (i t D mn : Nat) : Nat := if (g.1 i + q_tb mn t (q_t g.2.2.2.2.1)) % 4 = D then q_ways q (q_ld q g i) mn else 0
def q_rs (q : q_Q) (g : q_G) (i t D : Nat) : Nat → Nat
  | 0 => 0
  | k + 1 => q_rs q g i t D k + q_rt q g i t D k
theorem c_rtL (h : c_B I P s q g) (hL : ∀ j, j < q.1 → I 54 j = nI (q_ld q g j)) {i t D z : Nat} (hi : i < q.1) (ht : t < 4) (hD : D < 4) (hz : z < 2) : ∀ (f k : Nat), k ≤ 3 → 3 - k < f → q_rs q g i t D k ≤ 10 * k → f_X4_right_L57 f 0 (nI i) (nI z) (nI t) (nI D) (nI (q_rs q g i t D k)) (nI k) (p_m I P) = some (nI ((if z = 0 then q_rs q g i t D 3 else (if q_ch q (q_ld q g i) then 10 else 1)) / Nat.gcd (q_rs q g i t D 3) (if q_ch q (q_ld q g i) then 10 else 1)), p_m I P) := by
  intro f
  induction f with
  | zero => intro k _ h; omega
  | succ f ih =>
    intro k hk hf hb
    have hx := h.x
    have h8 := h.2.2.1.2.1
    have hl := q_ld_lt h.2.2.2.1 h.2.2.1 hi
    unfold f_X4_right_L57 f_X4_right_L94 z_lt
    simp (disch := omega) only [p_N, p_A]
    by_cases h1 : 3 ≤ k
    · rw [if_pos h1]
      have hk3 : k = 3 := by omega
      subst hk3
      have ht0 : 0 < (if q_ch q (q_ld q g i) then 10 else 1) := by split <;> omega
      have ht1 : (if q_ch q (q_ld q g i) then 10 else 1) < 2147483648 := by split <;> omega
      simp (disch := omega) only [p_Q h.1, p_L, hL i hi, p_C, c_toTurn h hl, p_b, c_part _ (show q_rs q g i t D 3 < 2147483648 by omega) ht0 ht1 hz]
    · rw [if_neg h1]
      have hw := q_ways_le (mn := k) h.2.2.1 hl
      have hlt : (g.1 i + q_tb k t (q_t g.2.2.2.2.1)) % 4 < 4 := Nat.mod_lt _ (by decide)
      have hrt : q_rt q g i t D k = if (g.1 i + q_tb k t (q_t g.2.2.2.2.1)) % 4 = D then q_ways q (q_ld q g i) k else 0 := rfl
      have hsx : q_rs q g i t D (k + 1) = q_rs q g i t D k + q_rt q g i t D k := rfl
      simp (disch := omega) only [p_C, c_facing h hi (show k < 3 by omega) ht, p_b, p_A, p_Q h.1, p_L, hL i hi, c_ways h hl (show k < 3 by omega)]
      by_cases hc : (g.1 i + q_tb k t (q_t g.2.2.2.2.1)) % 4 = D
      · rw [if_pos hc]
        rw [if_pos hc] at hrt
        have ih1 := ih (k + 1) (by omega) (by omega) (by omega)
        rw [hsx, hrt] at ih1
        exact ih1
      · rw [if_neg hc]
        rw [if_neg hc] at hrt
        have ih1 := ih (k + 1) (by omega) (by omega) (by omega)
        rw [hsx, hrt] at ih1
        exact ih1
end
