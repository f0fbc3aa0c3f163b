/-! LOWEST TERMS -/
theorem q_half {a b j : Nat} (hb : 0 < b) (hr : 0 < a % b) (h : b < 2 ^ (j + 1)) : b % (a % b) < 2 ^ j := by
  have h1 : a % b < b := Nat.mod_lt _ hb
  have h2 : b % (a % b) < a % b := Nat.mod_lt _ hr
  have h3 := Nat.div_add_mod b (a % b)
  have h4 : 1 ≤ b / (a % b) := Nat.div_pos (Nat.le_of_lt h1) hr
  have h5 : a % b ≤ (a % b) * (b / (a % b)) := Nat.le_mul_of_pos_right _ h4
  have h6 : 2 ^ (j + 1) = 2 * 2 ^ j := by rw [Nat.pow_succ, Nat.mul_comm]
  omega
theorem c_gcL (m : z_M) : ∀ (j f a b k : Nat), a < 2147483648 → b < 2147483648 → b < 2 ^ j → k + 2 * j ≤ 64 → 2 * j < f → f_X4_commonDivisor_L7 f (nI a) (nI b) (nI k) m = some (nI (Nat.gcd a b), m) := by
  have Z : ∀ (f a k : Nat), 0 < f → k ≤ 64 → f_X4_commonDivisor_L7 f (nI a) (nI 0) (nI k) m = some (nI (Nat.gcd a 0), m) := by
    intro f a k hf hk
    obtain ⟨f, rfl⟩ : ∃ f', f = f' + 1 := ⟨f - 1, by omega⟩
    unfold f_X4_commonDivisor_L7
    rw [Nat.gcd_zero_right]
    simp only [p_N, if_true]
    split <;> rfl
  have S : ∀ (f a b k : Nat), a < 2147483648 → 0 < b → b < 2147483648 → k < 64 → f_X4_commonDivisor_L7 (f + 1) (nI a) (nI b) (nI k) m = f_X4_commonDivisor_L7 f (nI b) (nI (a % b)) (nI (k + 1)) m := by
    intro f a b k ha h0 hb hk
    have e : (b = 0) = False := eq_false (by omega)
    rw [f_X4_commonDivisor_L7]
    unfold z_rm'
    have n64 : (64 : Int32) = nI 64 := rfl
    simp (disch := omega) only [n64, p_N, p_A, e, if_false, p_mo]
    rw [if_neg (by omega)]
  intro j
  induction j with
  | zero =>
    intro f a b k ha hb h1 h2 h3
    have : b = 0 := by have : (2 : Nat) ^ 0 = 1 := rfl; omega
    subst this
    exact Z f a k (by omega) (by omega)
  | succ j ih =>
    intro f a b k ha hb h1 h2 h3
    by_cases hb0 : b = 0
    · subst hb0; exact Z f a k (by omega) (by omega)
    · obtain ⟨f, rfl⟩ : ∃ f', f = f' + 2 := ⟨f - 2, by omega⟩
      have hlt : a % b < b := Nat.mod_lt _ (by omega)
      rw [S (f + 1) a b k ha (by omega) hb (by omega)]
      by_cases hr : a % b = 0
      · rw [hr, Z _ _ _ (by omega) (by omega), Nat.gcd_comm a b, Nat.gcd_rec b a, hr, Nat.gcd_zero_right, Nat.gcd_zero_left]
      · have hlt2 : b % (a % b) < a % b := Nat.mod_lt _ (by omega)
        rw [S f b (a % b) (k + 1) hb (by omega) (by omega) (by omega), ih f (a % b) (b % (a % b)) (k + 1 + 1) (by omega) (by omega) (q_half (by omega) (by omega) h1) (by omega) (by omega)]
        rw [Nat.gcd_comm (a % b), ← Nat.gcd_rec, ← Nat.gcd_rec, Nat.gcd_comm]
theorem c_gcd (m : z_M) {a b : Nat} (ha : a < 2147483648) (hb : b < 2147483648) : f_X4_commonDivisor (nI a) (nI b) m = some (nI (Nat.gcd a b), m) := by
  unfold f_X4_commonDivisor
  exact c_gcL m 31 400 a b 0 ha hb (by omega) (by omega) (by omega)
theorem m_gcL (m : z_M) : ∀ (j f a b : Nat), a < 2147483648 → b < 2147483648 → b < 2 ^ j → 2 * j < f → f_X5_common_L4 f (nI a) (nI b) m = some (nI (Nat.gcd a b), m) := by
  have Z : ∀ (f a : Nat), 0 < f → f_X5_common_L4 f (nI a) (nI 0) m = some (nI (Nat.gcd a 0), m) := by
    intro f a hf
    obtain ⟨f, rfl⟩ : ∃ f', f = f' + 1 := ⟨f - 1, by omega⟩
    unfold f_X5_common_L4
    rw [Nat.gcd_zero_right]
    simp (disch := omega) only [p_N, p_A]
    rw [if_pos (by omega)]
  have S : ∀ (f a b : Nat), a < 2147483648 → 0 < b → b < 2147483648 → f_X5_common_L4 (f + 1) (nI a) (nI b) m = f_X5_common_L4 f (nI b) (nI (a % b)) m := by
    intro f a b ha h0 hb
    have e : (b = 0) = False := eq_false (by omega)
    rw [f_X5_common_L4]
    unfold z_rm'
    simp (disch := omega) only [p_N, p_A, e, if_false, p_mo]
    rw [if_neg (by omega)]
  intro j
  induction j with
  | zero =>
    intro f a b ha hb h1 h3
    have : b = 0 := by have : (2 : Nat) ^ 0 = 1 := rfl; omega
    subst this
    exact Z f a (by omega)
  | succ j ih =>
    intro f a b ha hb h1 h3
    by_cases hb0 : b = 0
    · subst hb0; exact Z f a (by omega)
    · obtain ⟨f, rfl⟩ : ∃ f', f = f' + 2 := ⟨f - 2, by omega⟩
      have hlt : a % b < b := Nat.mod_lt _ (by omega)
      rw [S (f + 1) a b ha (by omega) hb]
      by_cases hr : a % b = 0
      · rw [hr, Z _ _ (by omega), Nat.gcd_comm a b, Nat.gcd_rec b a, hr, Nat.gcd_zero_right, Nat.gcd_zero_left]
      · have hlt2 : b % (a % b) < a % b := Nat.mod_lt _ (by omega)
        rw [S f b (a % b) hb (by omega) (by omega), ih f (a % b) (b % (a % b)) (by omega) (by omega) (q_half (by omega) (by omega) h1) (by omega)]
        rw [Nat.gcd_comm (a % b), ← Nat.gcd_rec, ← Nat.gcd_rec, Nat.gcd_comm]
theorem m_gcd (m : z_M) {a b : Nat} (ha : a < 2147483648) (hb : b < 2147483648) : f_X5_common (nI a) (nI b) m = some (nI (Nat.gcd a b), m) := by
  unfold f_X5_common
  exact m_gcL m 31 400 a b ha hb (by omega) (by omega)
theorem c_part (m : z_M) {a b z : Nat} (ha : a < 2147483648) (h0 : 0 < b) (hb : b < 2147483648) (hz : z < 2) : f_X4_partInLowestTerms (nI a) (nI b) (nI z) m = some (nI ((if z = 0 then a else b) / Nat.gcd a b), m) := by
  have g0 : 0 < Nat.gcd a b := Nat.gcd_pos_of_pos_right a h0
  have g1 : Nat.gcd a b ≤ b := Nat.gcd_le_right a h0
  have e : (Nat.gcd a b = 0) = False := eq_false (by omega)
  have e' : (Nat.gcd a b ≤ 0) = False := eq_false (by omega)
  unfold f_X4_partInLowestTerms f_X4_partInLowestTerms_L15 z_dv
  simp (disch := omega) only [c_gcd m ha hb, p_b, p_N, p_A, e, e', if_false, p_di]
  split <;> rfl
