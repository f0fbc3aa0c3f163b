/-! THE TEXT: WHAT IT SAYS -/
def r_txt (len : Nat) (tx : Nat → Nat) : Prop := len ≤ 200 ∧ ∀ j, j < len → 32 ≤ tx j ∧ tx j ≤ 126
def r_cT (I : Nat → Nat → Int32) (len : Nat) (tx : Nat → Nat) : Prop := I 1 1 = nI len ∧ ∀ j, j < len → I 2 j = nI (tx j)
def r_mT (I : Nat → Nat → Int32) (len : Nat) (tx : Nat → Nat) : Prop := I 57 1 = nI len ∧ ∀ j, j < len → I 58 j = nI (tx j)
def r_fg (len : Nat) (tx : Nat → Nat) (p : Nat) : Bool := decide (p < len ∧ 48 ≤ tx p ∧ tx p ≤ 57)
theorem r_fg_iff {len : Nat} {tx : Nat → Nat} {p : Nat} : r_fg len tx p = true ↔ p < len ∧ 48 ≤ tx p ∧ tx p ≤ 57 := decide_eq_true_iff
/-- how many figures, their number, is the sign c behind them, the place behind it -/
def r_nf (len : Nat) (tx : Nat → Nat) (p : Nat) : Nat := if r_fg len tx p then (if r_fg len tx (p + 1) then 2 else 1) else 0
def r_nv (len : Nat) (tx : Nat → Nat) (p : Nat) : Nat := if r_fg len tx p then (if r_fg len tx (p + 1) then 10 * (tx p - 48) + (tx (p + 1) - 48) else tx p - 48) else 0
def r_cm (len : Nat) (tx : Nat → Nat) (p c : Nat) : Prop := r_nf len tx p ≠ 0 ∧ p + r_nf len tx p < len ∧ tx (p + r_nf len tx p) = c
def r_nx (len : Nat) (tx : Nat → Nat) (p : Nat) : Nat := p + r_nf len tx p + 1
theorem r_nf_le (len : Nat) (tx : Nat → Nat) (p : Nat) : r_nf len tx p ≤ 2 := by unfold r_nf; split <;> (try split) <;> omega
theorem r_nv_le (len : Nat) (tx : Nat → Nat) (p : Nat) : r_nv len tx p ≤ 99 := by
  unfold r_nv
  split
  · next h =>
    have h1 := r_fg_iff.mp h
    split
    · next h' =>
      have h2 := r_fg_iff.mp h'
      omega
    · omega
  · omega
/-- a squad that is being read: what is drilled, eyes, looks -/
abbrev r_D : Type := q_Q × Nat × (Nat → Nat)
def r_Dok (D : r_D) : Prop := D.1.1 ≤ 8 ∧ D.1.2.1 ≤ 99 ∧ (∀ i, i < D.1.1 → D.1.2.2.1 i ≤ 3 ∧ D.1.2.2.2.1 i < 4 ∧ D.1.2.2.2.2 i ≤ 10 ∧ D.2.2 i < 8) ∧ D.2.1 ≤ 1
def r_cD (I : Nat → Nat → Int32) (d : Nat) (D : r_D) : Prop := c_Q I d D.1 ∧ I d 2 = nI D.2.1 ∧ ∀ i, i < D.1.1 → I (d + 3) i = nI (D.2.2 i)
def r_mD (I : Nat → Nat → Int32) (D : r_D) : Prop := I 60 0 = nI D.1.1 ∧ I 60 1 = nI D.1.2.1 ∧ I 60 2 = nI D.2.1 ∧ ∀ i, i < D.1.1 → I 60 (3 + i) = nI (D.1.2.2.1 i) ∧ I 60 (11 + i) = nI (D.1.2.2.2.1 i) ∧ I 60 (19 + i) = nI (D.2.2 i) ∧ I 60 (27 + i) = nI (D.1.2.2.2.2 i)
def r_ad (D : r_D) (a b c e : Nat) : r_D := ((D.1.1 + 1, D.1.2.1, fun i => if i = D.1.1 then a else D.1.2.2.1 i, fun i => if i = D.1.1 then b else D.1.2.2.2.1 i, fun i => if i = D.1.1 then e else D.1.2.2.2.2 i), D.2.1, fun i => if i = D.1.1 then c else D.2.2 i)
def r_sd (D : r_D) (v : Nat) : r_D := ((D.1.1, v, D.1.2.2), D.2)
def r_se (D : r_D) (v : Nat) : r_D := (D.1, v, D.2.2)
/-- the item at a place is a man's -/
def r_gm (len : Nat) (tx : Nat → Nat) (D : r_D) (p0 p1 p2 p3 : Nat) : Prop := (r_cm len tx p0 44 ∧ r_nv len tx p0 ≤ 3) ∧ (r_cm len tx p1 44 ∧ r_nv len tx p1 ≤ 3) ∧ (r_cm len tx p2 44 ∧ r_nv len tx p2 ≤ 7) ∧ (r_cm len tx p3 59 ∧ r_nv len tx p3 ≤ 10) ∧ D.1.1 < 8
/-- what an item is: how the reader goes on, or not -/
def r_is (len : Nat) (tx : Nat → Nat) (D : r_D) (a p' : Nat) (D' : r_D) : Prop :=
  (tx a = 109 ∧ r_gm len tx D (a + 1) (r_nx len tx (a + 1)) (r_nx len tx (r_nx len tx (a + 1))) (r_nx len tx (r_nx len tx (r_nx len tx (a + 1)))) ∧ p' = r_nx len tx (r_nx len tx (r_nx len tx (r_nx len tx (a + 1)))) ∧ D' = r_ad D (r_nv len tx (a + 1)) (r_nv len tx (r_nx len tx (a + 1))) (r_nv len tx (r_nx len tx (r_nx len tx (a + 1)))) (r_nv len tx (r_nx len tx (r_nx len tx (r_nx len tx (a + 1))))))
  ∨ (tx a = 122 ∧ r_cm len tx (a + 1) 59 ∧ p' = r_nx len tx (a + 1) ∧ D' = r_sd D (r_nv len tx (a + 1)))
  ∨ (tx a = 101 ∧ (r_cm len tx (a + 1) 59 ∧ r_nv len tx (a + 1) ≤ 1) ∧ p' = r_nx len tx (a + 1) ∧ D' = r_se D (r_nv len tx (a + 1)))
def r_no (len : Nat) (tx : Nat → Nat) (D : r_D) (a : Nat) : Prop :=
  (tx a = 109 ∧ ¬ r_gm len tx D (a + 1) (r_nx len tx (a + 1)) (r_nx len tx (r_nx len tx (a + 1))) (r_nx len tx (r_nx len tx (r_nx len tx (a + 1)))))
  ∨ (tx a = 122 ∧ ¬ r_cm len tx (a + 1) 59)
  ∨ (tx a = 101 ∧ ¬ (r_cm len tx (a + 1) 59 ∧ r_nv len tx (a + 1) ≤ 1))
  ∨ (tx a ≠ 109 ∧ tx a ≠ 122 ∧ tx a ≠ 101)
theorem r_nx_lt {len : Nat} {tx : Nat → Nat} {p c : Nat} (h : r_cm len tx p c) : p < r_nx len tx p ∧ r_nx len tx p ≤ len := by
  unfold r_nx
  have := h.2.1
  omega
theorem r_is_ok {len : Nat} {tx : Nat → Nat} {D D' : r_D} {a p' : Nat} (hD : r_Dok D) (h : r_is len tx D a p' D') : r_Dok D' ∧ a < p' ∧ p' ≤ len := by
  obtain ⟨d1, d2, d3, d4⟩ := hD
  rcases h with ⟨-, ⟨⟨g1, v1⟩, ⟨g2, v2⟩, ⟨g3, v3⟩, ⟨g4, v4⟩, g5⟩, rfl, rfl⟩ | ⟨-, g1, rfl, rfl⟩ | ⟨-, ⟨g1, v1⟩, rfl, rfl⟩
  · have a1 := r_nx_lt g1
    have a2 := r_nx_lt g2
    have a3 := r_nx_lt g3
    have a4 := r_nx_lt g4
    refine ⟨⟨?_, d2, fun i hi => ?_, d4⟩, by omega, by omega⟩
    · show D.1.1 + 1 ≤ 8
      omega
    · have hi : i < D.1.1 + 1 := hi
      unfold r_ad
      by_cases e : i = D.1.1
      · simp only [e, if_true]; omega
      · simp only [e, if_false]; exact d3 i (by omega)
  · have a1 := r_nx_lt g1
    exact ⟨⟨d1, r_nv_le _ _ _, d3, d4⟩, by omega, by omega⟩
  · have a1 := r_nx_lt g1
    exact ⟨⟨d1, d2, d3, v1⟩, by omega, by omega⟩
theorem r_em (len : Nat) (tx : Nat → Nat) (D : r_D) (a : Nat) : (∃ p' D', r_is len tx D a p' D') ∨ r_no len tx D a := by
  unfold r_is r_no
  by_cases h1 : tx a = 109
  · by_cases g : r_gm len tx D (a + 1) (r_nx len tx (a + 1)) (r_nx len tx (r_nx len tx (a + 1))) (r_nx len tx (r_nx len tx (r_nx len tx (a + 1))))
    · exact Or.inl ⟨_, _, Or.inl ⟨h1, g, rfl, rfl⟩⟩
    · exact Or.inr (Or.inl ⟨h1, g⟩)
  · by_cases h2 : tx a = 122
    · by_cases g : r_cm len tx (a + 1) 59
      · exact Or.inl ⟨_, _, Or.inr (Or.inl ⟨h2, g, rfl, rfl⟩)⟩
      · exact Or.inr (Or.inr (Or.inl ⟨h2, g⟩))
    · by_cases h3 : tx a = 101
      · by_cases g : r_cm len tx (a + 1) 59 ∧ r_nv len tx (a + 1) ≤ 1
        · exact Or.inl ⟨_, _, Or.inr (Or.inr ⟨h3, g, rfl, rfl⟩)⟩
        · exact Or.inr (Or.inr (Or.inr (Or.inl ⟨h3, g⟩)))
      · exact Or.inr (Or.inr (Or.inr (Or.inr ⟨h1, h2, h3⟩)))
