/-! A CHAIN THAT IS LED ANOTHER WAY -/
section
variable {kd lk : Nat → Nat} {i j : Nat}
abbrev q_k2 (kd : Nat → Nat) (i : Nat) : Nat → Nat := fun a => if a = i then 2 else kd a
abbrev q_l2 (lk : Nat → Nat) (i j : Nat) : Nat → Nat := fun a => if a = i then j else lk a
theorem q_tk1 {n : Nat} (hn : n ≤ 8) (hi : i < n) (hlk : ∀ a, a < n → lk a < n) : ∀ (k a : Nat), a < n → q_ce kd lk i k a = q_ce (q_k2 kd i) (q_l2 lk i j) 99 k a ∨ ∃ k1, k1 < k ∧ q_ce (q_k2 kd i) (q_l2 lk i j) 99 k a = q_ce (q_k2 kd i) (q_l2 lk i j) 99 k1 j
  | 0, a, _ => Or.inl rfl
  | k + 1, a, ha => by
    rw [q_ce_s, q_ce_s, if_neg (show ¬ a = 99 by omega)]
    by_cases e : a = i
    · right
      refine ⟨k, by omega, ?_⟩
      subst e
      simp only [q_k2, q_l2, if_true]
    · rw [if_neg e]
      simp only [q_k2, q_l2, if_neg e]
      by_cases h2 : kd a = 2
      · rw [if_pos h2, if_pos h2]
        rcases q_tk1 hn hi hlk k (lk a) (hlk a ha) with h | ⟨k1, h1, h⟩
        · exact Or.inl h
        · exact Or.inr ⟨k1, by omega, h⟩
      · rw [if_neg h2, if_neg h2]
        exact Or.inl rfl
theorem q_tk2 {n : Nat} (hn : n ≤ 8) (hlk : ∀ a, a < n → lk a < n) : ∀ (k a : Nat), a < n → q_ce kd lk i k a ≠ 99 → q_ce (q_k2 kd i) (q_l2 lk i j) 99 k a = q_ce kd lk i k a
  | 0, a, _, h => absurd rfl h
  | k + 1, a, ha, h => by
    rw [q_ce_s] at h ⊢
    rw [q_ce_s, if_neg (show ¬ a = 99 by omega)]
    by_cases e : a = i
    · rw [if_pos e] at h; exact absurd rfl h
    · rw [if_neg e] at h ⊢
      simp only [q_k2, q_l2, if_neg e]
      by_cases h2 : kd a = 2
      · rw [if_pos h2] at h ⊢
        rw [if_pos h2]
        exact q_tk2 hn hlk k (lk a) (hlk a ha) h
      · rw [if_neg h2, if_neg h2]
theorem q_tk3 {n : Nat} (hn : n ≤ 8) (hi : i < n) (hj : j < n) (hlk : ∀ a, a < n → lk a < n) : ∀ (m K : Nat), K < m → q_ce (q_k2 kd i) (q_l2 lk i j) 99 K j ≠ 99 → q_ce kd lk i K j = q_ce (q_k2 kd i) (q_l2 lk i j) 99 K j
  | 0, K, h, _ => by omega
  | m + 1, K, h, h' => by
    rcases q_tk1 (kd := kd) (j := j) hn hi hlk K j hj with e | ⟨k1, h1, e⟩
    · exact e
    · rw [e] at h'
      have := q_tk3 hn hi hj hlk m k1 (by omega) h'
      rw [e, ← this]
      exact q_ce_eq k1 K j (by omega) (by rw [this]; exact h')
theorem q_tk {n : Nat} (hn : n ≤ 8) (hi : i < n) (hj : j < n) (hlk : ∀ a, a < n → lk a < n) (K : Nat) : q_ce kd lk i K j = q_ce (q_k2 kd i) (q_l2 lk i j) 99 K j := by
  by_cases h : q_ce kd lk i K j = 99
  · by_cases h' : q_ce (q_k2 kd i) (q_l2 lk i j) 99 K j = 99
    · rw [h, h']
    · exact q_tk3 hn hi hj hlk (K + 1) K (by omega) h'
  · exact (q_tk2 hn hlk K j hj h).symm
end
