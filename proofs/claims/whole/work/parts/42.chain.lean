/-! WHOM A MAN FOLLOWS -/
def q_ce (kd lk : Nat → Nat) (b : Nat) : Nat → Nat → Nat
  | 0, _ => 99
  | k + 1, a => if a = b then 99 else if kd a = 2 then q_ce kd lk b k (lk a) else a
def q_r (x : Nat) : Int32 := if x = 99 then -nI 4 else nI x
theorem q_r99 : q_r 99 = -nI 4 := rfl
theorem q_rn {x : Nat} (h : x < 99) : q_r x = nI x := if_neg (by omega)
theorem q_ce_lt {kd lk : Nat → Nat} {b n : Nat} (hlk : ∀ i, i < n → lk i < n) : ∀ (k a : Nat), a < n → q_ce kd lk b k a = 99 ∨ q_ce kd lk b k a < n
  | 0, a, _ => Or.inl rfl
  | k + 1, a, ha => by
    unfold q_ce
    split
    · exact Or.inl rfl
    · split
      · exact q_ce_lt hlk k (lk a) (hlk a ha)
      · exact Or.inr ha
theorem c_ceL {I : Nat → Nat → Int32} {P : Nat → Nat → Option Nat} {s n b : Nat} {bI : Int32} {kd lk : Nat → Nat} (hP : p_F0 P) (hs : c_sq P s) (hI : I s 0 = nI n) (hn : n ≤ 8) (hk : ∀ i, i < n → I (s + 1) i = nI (kd i)) (hk3 : ∀ i, i < n → kd i ≤ 3) (hl : ∀ i, i < n → I 16 i = nI (lk i)) (hlk : ∀ i, i < n → lk i < n) (hb : (bI = nI b ∧ b < 8) ∨ (bI = -nI 4 ∧ b = 99)) :
    ∀ (f a st : Nat), a < n → st ≤ n + 1 → n + 1 - st < f → f_X4_chainEnd_L5 f 0 bI (nI a) (nI st) (p_m I P) = some (q_r (q_ce kd lk b (n + 1 - st) a), p_m I P) := by
  intro f
  induction f with
  | zero => intro a st _ _ h; omega
  | succ f ih =>
    intro a st ha hst hf
    have hbe : (nI a = bI) = (a = b) := by
      rcases hb with ⟨h1, h2⟩ | ⟨h1, h2⟩
      · rw [h1]; exact propext (nI_eq (by omega) (by omega))
      · rw [h1, h2, p_A.2.2.2.2.1 a (by omega)]
        exact (eq_false (by omega)).symm
    unfold f_X4_chainEnd_L5
    have h3 := hk3 a ha
    simp (disch := omega) only [c_sq1 hs, c_sqI hs, c_sqP hs hP, c_sqA hs, p_Q hP, p_L, p_N, hI, hk a ha, hl a ha, hbe, p_A]
    by_cases h1 : n < st
    · rw [if_pos h1, show n + 1 - st = 0 by omega]
      rfl
    · rw [if_neg h1, show n + 1 - st = (n - st) + 1 by omega]
      unfold q_ce
      by_cases h2 : a = b
      · rw [if_pos h2, if_pos h2]
        rfl
      · rw [if_neg h2, if_neg h2]
        by_cases h4 : kd a = 2
        · rw [if_pos h4, if_pos h4, ih (lk a) (st + 1) (hlk a ha) (by omega) (by omega), show n + 1 - (st + 1) = n - st by omega]
        · rw [if_neg h4, if_neg h4, q_rn (by omega)]
theorem c_ce {I : Nat → Nat → Int32} {P : Nat → Nat → Option Nat} {s n b a : Nat} {bI : Int32} {kd lk : Nat → Nat} (hP : p_F0 P) (hs : c_sq P s) (hI : I s 0 = nI n) (hn : n ≤ 8) (hk : ∀ i, i < n → I (s + 1) i = nI (kd i)) (hk3 : ∀ i, i < n → kd i ≤ 3) (hl : ∀ i, i < n → I 16 i = nI (lk i)) (hlk : ∀ i, i < n → lk i < n) (hb : (bI = nI b ∧ b < 8) ∨ (bI = -nI 4 ∧ b = 99)) (ha : a < n) :
    f_X4_chainEnd 0 (nI a) bI (p_m I P) = some (q_r (q_ce kd lk b (n + 1) a), p_m I P) := by
  unfold f_X4_chainEnd
  rw [show (0 : Int32) = nI 0 from rfl]
  exact c_ceL hP hs hI hn hk hk3 hl hlk hb 400 a 0 ha (by omega) (by omega)
/-- the reference, with one man taken for a looking one (T, at TA), or none (99) -/
theorem m_look {I : Nat → Nat → Int32} {P : Nat → Nat → Option Nat} {n T a : Nat} {kd : Nat → Nat} (hP : p_F0 P) (hn : n ≤ 8) (hk : ∀ i, i < n → I 59 (3 + i) = nI (kd i)) (hk3 : ∀ i, i < n → kd i ≤ 3) (hT : (I 57 10 = nI T ∧ T < 8) ∨ (I 57 10 = -nI 1 ∧ T = 99)) (ha : a < n) :
    f_X5_isLooking 57 (nI a) (p_m I P) = some (if (if a = T then 2 else kd a) = 2 then nI 1 else nI 0, p_m I P) ∧ (nI a = I 57 10) = (a = T) := by
  have hbe : (nI a = I 57 10) = (a = T) := by
    rcases hT with ⟨h1, h2⟩ | ⟨h1, h2⟩
    · rw [h1]; exact propext (nI_eq (by omega) (by omega))
    · rw [h1, h2, p_A.2.2.2.2.2.1 a (by omega)]
      exact (eq_false (by omega)).symm
  refine ⟨?_, hbe⟩
  unfold f_X5_isLooking f_X5_isLooking_L20
  have h3 := hk3 a ha
  simp (disch := omega) only [p_Q hP, p_G, p_L, p_N, hbe, p_A, hk a ha]
  by_cases h1 : a = T
  · rw [if_pos h1, if_pos h1, if_pos rfl]
  · rw [if_neg h1, if_neg h1]
    by_cases h2 : kd a = 2
    · rw [if_pos h2, if_pos h2]
    · rw [if_neg h2, if_neg h2]
theorem m_ldL {I : Nat → Nat → Int32} {P : Nat → Nat → Option Nat} {n T TA : Nat} {kd lk : Nat → Nat} (hP : p_F0 P) (hn : n ≤ 8) (hk : ∀ i, i < n → I 59 (3 + i) = nI (kd i)) (hk3 : ∀ i, i < n → kd i ≤ 3) (hl : ∀ i, i < n → I 61 (8 + i) = nI (lk i)) (hlk : ∀ i, i < n → lk i < n) (hT : (I 57 10 = nI T ∧ T < 8) ∨ (I 57 10 = -nI 1 ∧ T = 99)) (hA : T < 8 → I 57 11 = nI TA ∧ TA < n) :
    ∀ (f a st : Nat), a < n → st ≤ 9 → 9 - st < f → f_X5_leader_L4 f 57 (nI a) (nI st) (p_m I P) = some (q_r (q_ce (fun i => if i = T then 2 else kd i) (fun i => if i = T then TA else lk i) 99 (9 - st) a), p_m I P) := by
  intro f
  induction f with
  | zero => intro a st _ _ h; omega
  | succ f ih =>
    intro a st ha hst hf
    obtain ⟨e1, e2⟩ := m_look (P := P) hP hn hk hk3 hT ha
    unfold f_X5_leader_L4 f_X5_leader_L44
    simp (disch := omega) only [p_Q hP, p_G, p_L, p_C, p_N, p_b, e1, e2, hl a ha, p_A]
    by_cases h1 : 8 < st
    · rw [if_pos h1, show 9 - st = 0 by omega]
      rfl
    · rw [if_neg h1, show 9 - st = (8 - st) + 1 by omega]
      unfold q_ce
      rw [if_neg (show ¬ a = 99 by omega)]
      by_cases h2 : a = T
      · subst h2
        simp only [if_true]
        rw [if_neg (by decide)]
        have hT8 : a < 8 := by omega
        rw [(hA hT8).1, ih TA (st + 1) (hA hT8).2 (by omega) (by omega), show 9 - (st + 1) = 8 - st by omega]
      · rw [if_neg h2, if_neg h2]
        by_cases h4 : kd a = 2
        · rw [if_pos h4, if_pos h4, if_neg (by decide), if_neg h2, ih (lk a) (st + 1) (hlk a ha) (by omega) (by omega), show 9 - (st + 1) = 8 - st by omega]
        · rw [if_neg h4, if_neg h4, if_pos rfl, q_rn (by omega)]
/-- the reference's leader when nobody is taken -/
theorem m_ld {I : Nat → Nat → Int32} {P : Nat → Nat → Option Nat} {n a : Nat} {kd lk : Nat → Nat} (hP : p_F0 P) (hn : n ≤ 8) (hk : ∀ i, i < n → I 59 (3 + i) = nI (kd i)) (hk3 : ∀ i, i < n → kd i ≤ 3) (hl : ∀ i, i < n → I 61 (8 + i) = nI (lk i)) (hlk : ∀ i, i < n → lk i < n) (hT : I 57 10 = -nI 1) (ha : a < n) :
    f_X5_leader 57 (nI a) (p_m I P) = some (q_r (q_ce kd lk 99 9 a), p_m I P) := by
  unfold f_X5_leader
  rw [show (0 : Int32) = nI 0 from rfl, m_ldL (T := 99) (TA := 0) hP hn hk hk3 hl hlk (Or.inr ⟨hT, rfl⟩) (fun h => by omega) 400 a 0 ha (by omega) (by omega)]
  congr 3
  have key : ∀ (k a : Nat), q_ce (fun i => if i = 99 then 2 else kd i) (fun i => if i = 99 then 0 else lk i) 99 k a = q_ce kd lk 99 k a := by
    intro k
    induction k with
    | zero => intro a; rfl
    | succ k ih =>
      intro a
      unfold q_ce
      by_cases h : a = 99
      · rw [if_pos h, if_pos h]
      · rw [if_neg h, if_neg h, if_neg h, if_neg h]
        split
        · exact ih _
        · rfl
  exact key _ a
/-! a row of more than n numbers below n has two alike -/
theorem q_pig : ∀ (n : Nat) (f : Nat → Nat), (∀ j, j ≤ n → f j < n) → ∃ i j, i < j ∧ j ≤ n ∧ f i = f j
  | 0, f, h => absurd (h 0 (Nat.le_refl _)) (Nat.not_lt_zero _)
  | n + 1, f, h => by
    by_cases hx : ∃ i, i ≤ n ∧ f i = f (n + 1)
    · obtain ⟨i, hi, e⟩ := hx
      exact ⟨i, n + 1, by omega, Nat.le_refl _, e⟩
    · -- the last value is met once: take it out
      have hx' : ∀ i, i ≤ n → f i ≠ f (n + 1) := fun i hi e => hx ⟨i, hi, e⟩
      obtain ⟨i, j, h1, h2, e⟩ := q_pig n (fun i => if f i < f (n + 1) then f i else f i - 1) (fun j hj => by
        have a1 := h j (by omega)
        have a2 := h (n + 1) (Nat.le_refl _)
        have a3 := hx' j hj
        show (if f j < f (n + 1) then f j else f j - 1) < n
        split <;> omega)
      refine ⟨i, j, h1, by omega, ?_⟩
      have a1 := hx' i (by omega)
      have a2 := hx' j (by omega)
      split at e <;> split at e <;> omega
/-- the k-th one of a row of looks -/
def q_it (lk : Nat → Nat) (a : Nat) : Nat → Nat
  | 0 => a
  | k + 1 => lk (q_it lk a k)
theorem q_it_lt {lk : Nat → Nat} {n : Nat} (hlk : ∀ i, i < n → lk i < n) {a : Nat} (ha : a < n) : ∀ k, q_it lk a k < n
  | 0 => ha
  | k + 1 => hlk _ (q_it_lt hlk ha k)
theorem q_it_s (lk : Nat → Nat) (a : Nat) : ∀ k, q_it lk (lk a) k = q_it lk a (k + 1)
  | 0 => rfl
  | k + 1 => by
    show lk (q_it lk (lk a) k) = lk (q_it lk a (k + 1))
    rw [q_it_s lk a k]
/-- it doesn't end within k: all k ones go on -/
theorem q_go {kd lk : Nat → Nat} {b : Nat} (hb : 99 ≤ b) : ∀ (k a : Nat), (∀ j, j < k → q_it lk a j < 99) → (q_ce kd lk b k a = 99 ↔ ∀ j, j < k → kd (q_it lk a j) = 2)
  | 0, a, _ => by
    constructor
    · intro _ j hj; omega
    · intro _; rfl
  | k + 1, a, hlt => by
    have h0 : a < 99 := hlt 0 (by omega)
    unfold q_ce
    rw [if_neg (show ¬ a = b by omega)]
    by_cases h2 : kd a = 2
    · rw [if_pos h2, q_go hb k (lk a) (fun j hj => by rw [q_it_s]; exact hlt (j + 1) (by omega))]
      constructor
      · intro h j hj
        cases j with
        | zero => exact h2
        | succ j => rw [← q_it_s]; exact h j (by omega)
      · intro h j hj
        rw [q_it_s]
        exact h (j + 1) (by omega)
    · rw [if_neg h2]
      constructor
      · intro h; omega
      · intro h; exact absurd (h 0 (by omega)) h2
/-- if n ones go on, all go on -/
theorem q_all {kd lk : Nat → Nat} {n a : Nat} (hlk : ∀ i, i < n → lk i < n) (ha : a < n) (h : ∀ j, j < n → kd (q_it lk a j) = 2) : ∀ j, kd (q_it lk a j) = 2 := by
  obtain ⟨i, j, hij, hj, e⟩ := q_pig n (q_it lk a) (fun j _ => q_it_lt hlk ha j)
  have per : ∀ k, q_it lk a (i + k) = q_it lk a (j + k) := by
    intro k
    induction k with
    | zero => exact e
    | succ k ih => show lk (q_it lk a (i + k)) = lk (q_it lk a (j + k)); rw [ih]
  intro k
  induction k using Nat.strongRecOn with
  | ind k ih =>
    by_cases hk : k < n
    · exact h k hk
    · have e1 := per (k - j)
      rw [show j + (k - j) = k by omega] at e1
      rw [← e1]
      exact ih (i + (k - j)) (by omega)
theorem q_ce_eq {kd lk : Nat → Nat} {b : Nat} : ∀ (k k' a : Nat), k ≤ k' → q_ce kd lk b k a ≠ 99 → q_ce kd lk b k' a = q_ce kd lk b k a
  | 0, k', a, _, h => absurd rfl h
  | k + 1, 0, a, h, _ => by omega
  | k + 1, k' + 1, a, h, hne => by
    unfold q_ce at hne ⊢
    by_cases h1 : a = b
    · rw [if_pos h1, if_pos h1]
    · rw [if_neg h1, if_neg h1]
      rw [if_neg h1] at hne
      by_cases h2 : kd a = 2
      · rw [if_pos h2] at hne ⊢
        rw [if_pos h2]
        exact q_ce_eq k k' (lk a) (by omega) hne
      · rw [if_neg h2, if_neg h2]
/-- n steps are enough -/
theorem q_fuel {kd lk : Nat → Nat} {n a k k' : Nat} (hlk : ∀ i, i < n → lk i < n) (hn : n ≤ 8) (ha : a < n) (hk : n ≤ k) (hk' : n ≤ k') : q_ce kd lk 99 k a = q_ce kd lk 99 k' a := by
  have lt99 : ∀ j, q_it lk a j < 99 := fun j => by have := q_it_lt hlk ha j; omega
  by_cases h : q_ce kd lk 99 n a = 99
  · have hall := q_all hlk ha ((q_go (Nat.le_refl _) n a (fun j _ => lt99 j)).mp h)
    rw [(q_go (Nat.le_refl _) k a (fun j _ => lt99 j)).mpr (fun j _ => hall j), (q_go (Nat.le_refl _) k' a (fun j _ => lt99 j)).mpr (fun j _ => hall j)]
  · rw [q_ce_eq n k a hk h, q_ce_eq n k' a hk' h]
