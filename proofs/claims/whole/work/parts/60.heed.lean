/-! WHO HEEDS A SHOUT -/
def q_cb (kd lk : Nat → Nat) (b : Nat) : Nat → Nat → Bool
  | 0, _ => false
  | k + 1, a => decide (a = b) || q_cb kd lk b k (if kd a = 2 then lk a else a)
theorem q_cb_s (kd lk : Nat → Nat) (b k a : Nat) : q_cb kd lk b (k + 1) a = (decide (a = b) || q_cb kd lk b k (if kd a = 2 then lk a else a)) := rfl
theorem q_cb_stay {kd lk : Nat → Nat} {b a : Nat} (h1 : ¬ kd a = 2) (h2 : ¬ a = b) : ∀ k, q_cb kd lk b k a = false
  | 0 => rfl
  | k + 1 => by rw [q_cb_s, if_neg h1, q_cb_stay h1 h2 k]; simp [h2]
theorem q_cb_mono {kd lk : Nat → Nat} {b : Nat} : ∀ (k k' a : Nat), k ≤ k' → q_cb kd lk b k a = true → q_cb kd lk b k' a = true
  | 0, _, _, _, h => by simp [q_cb] at h
  | k + 1, 0, _, h, _ => by omega
  | k + 1, k' + 1, a, h, h' => by
    rw [q_cb_s] at h' ⊢
    simp only [Bool.or_eq_true] at h' ⊢
    rcases h' with h' | h'
    · exact Or.inl h'
    · exact Or.inr (q_cb_mono k k' _ (by omega) h')
theorem q_ce_s (kd lk : Nat → Nat) (b k a : Nat) : q_ce kd lk b (k + 1) a = if a = b then 99 else if kd a = 2 then q_ce kd lk b k (lk a) else a := rfl
theorem q_cb_ce {kd lk : Nat → Nat} {b n : Nat} (hn : n ≤ 8) (hlk : ∀ i, i < n → lk i < n) : ∀ (k a : Nat), a < n → q_ce kd lk 99 k a ≠ 99 → (q_ce kd lk b k a = 99 ↔ q_cb kd lk b k a = true)
  | 0, _, _, h => absurd rfl h
  | k + 1, a, ha, h => by
    rw [q_ce_s, if_neg (by omega)] at h
    rw [q_ce_s, q_cb_s]
    by_cases hab : a = b
    · rw [if_pos hab]; simp [hab]
    · rw [if_neg hab]
      by_cases hk : kd a = 2
      · rw [if_pos hk] at h
        rw [if_pos hk, if_pos hk, q_cb_ce hn hlk k (lk a) (hlk a ha) h]
        simp [hab]
      · rw [if_neg hk, if_neg hk, q_cb_stay hk hab]
        constructor
        · intro z; omega
        · intro z; simp [hab] at z
theorem q_heed {kd lk : Nat → Nat} {b n i : Nat} (hn : n ≤ 8) (hlk : ∀ i, i < n → lk i < n) (hi : i < n) (h : q_ce kd lk 99 9 i ≠ 99) : q_ce kd lk b (n + 1) i = 99 ↔ q_cb kd lk b 9 i = true := by
  have h' : q_ce kd lk 99 (n + 1) i ≠ 99 := by rw [q_fuel hlk hn hi (k := n + 1) (k' := 9) (by omega) (by omega)]; exact h
  constructor
  · intro z
    exact q_cb_mono (n + 1) 9 i (by omega) ((q_cb_ce hn hlk (n + 1) i hi h').1 z)
  · intro z
    have z9 := (q_cb_ce hn hlk 9 i hi h).2 z
    by_cases e : q_ce kd lk b (n + 1) i = 99
    · exact e
    · have := q_ce_eq (n + 1) 9 i (by omega) e
      rw [← this]; exact z9
theorem q_or_acc (p : Nat → Bool) (e : Nat) : ∀ i, q_or p e i = e ||| q_or p 0 i
  | 0 => by show e = e ||| 0; rw [Nat.or_zero]
  | i + 1 => by
    have ih := q_or_acc p e i
    show (if p i then q_or p e i ||| 2 ^ i else q_or p e i) = e ||| (if p i then q_or p 0 i ||| 2 ^ i else q_or p 0 i)
    split
    · rw [ih, Nat.or_assoc]
    · exact ih
theorem q_pf_or (p : Nat → Bool) (n : Nat) : ∀ k, q_pf (q_or p 0 n) k = q_ct p (min k n)
  | 0 => by rw [Nat.zero_min]; rfl
  | k + 1 => by
    have ih := q_pf_or p n k
    show q_pf (q_or p 0 n) k + (if (q_or p 0 n).testBit k then 1 else 0) = _
    rw [ih, q_or_bit]
    by_cases h : k < n
    · rw [Nat.min_eq_left (by omega), Nat.min_eq_left (by omega), q_ct_s]
      simp [h]
    · rw [Nat.min_eq_right (by omega), Nat.min_eq_right (by omega)]
      simp [h]
section
variable {I : Nat → Nat → Int32} {P : Nat → Nat → Option Nat} {s : Nat} {q : q_Q} {g : q_G}
def q_hd (q : q_Q) (g : q_G) (b i : Nat) : Bool := decide (g.2.2.1 = 0) && (!decide (q_ce q.2.2.1 g.2.1 99 9 i = 99) && q_cb q.2.2.1 g.2.1 b 9 i)
theorem c_heeds (h : c_B I P s q g) {i b : Nat} (hi : i < q.1) (hb : b < q.1) : f_X4_heeds 0 (nI i) (nI b) (p_m I P) = some (nI (if q_hd q g b i then 1 else 0), p_m I P) := by
  have hx := h.x
  have h8 := h.2.2.1.2.1
  have hs1 := h.2.2.2.1.2.1
  have hlk : ∀ i, i < q.1 → g.2.1 i < q.1 := fun i hi => (h.2.2.2.1.1 i hi).2
  have he := q_r_eq (q := q) (g := g) hlk h8 hi
  have he2 : (q_r (q_ce q.2.2.1 g.2.1 b (q.1 + 1) i) = -nI 4) = (q_ce q.2.2.1 g.2.1 b (q.1 + 1) i = 99) := by
    rcases q_ce_lt (kd := q.2.2.1) (b := b) hlk (q.1 + 1) i hi with e | e
    · rw [e]; simp [q_r]
    · rw [q_rn (by omega), p_A.2.2.2.2.1 _ (by omega)]
      exact (eq_false (by omega)).symm
  unfold f_X4_heeds q_hd
  simp (disch := omega) only [p_Q h.1, p_G, hx, p_N, p_A, p_C, c_end h hi, c_endB h hi hb, p_b, he, he2]
  by_cases h0 : g.2.2.1 = 0
  · rw [if_pos h0]
    by_cases h1 : q_ce q.2.2.1 g.2.1 99 9 i = 99
    · rw [if_pos h1]; simp [h0, h1]
    · rw [if_neg h1]
      have hq := q_heed (b := b) h8 hlk hi h1
      by_cases h2 : q_ce q.2.2.1 g.2.1 b (q.1 + 1) i = 99
      · rw [if_pos h2]; simp [h0, h1, hq.1 h2]
      · rw [if_neg h2]
        have : q_cb q.2.2.1 g.2.1 b 9 i = false := by
          cases e : q_cb q.2.2.1 g.2.1 b 9 i with
          | false => rfl
          | true => exact absurd (hq.2 e) h2
        simp [h0, h1, this]
  · rw [if_neg h0]; simp [h0]
end
