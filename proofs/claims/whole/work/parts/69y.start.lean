/-! THE TWO OBJECTS AS THEY ARE MADE -/
def r_m0 : z_M := (0, 0, fun _ _ => 0, fun _ _ => none)
def r_R1 : z_R := f_X4_init 0 (z_nw r_m0)
def r_m1 : z_M := (r_R1.getD (0, r_m0)).2
def r_R2 : z_R := f_X5_init 57 (z_nw r_m1)
def r_m2 : z_M := (r_R2.getD (0, r_m0)).2
def r_I : Nat → Nat → Int32 := r_m2.2.2.1
def r_P : Nat → Nat → Option Nat := r_m2.2.2.2
theorem r_is1 : r_R1.isSome = true ∧ r_m1.1 = 57 ∧ r_m1.2.1 ≤ 7000000 := by decide +kernel
theorem r_is2 : r_R2.isSome = true ∧ r_m2.1 = 65 ∧ r_m2.2.1 = p_z := by decide +kernel
def r_q0 : q_Q := (7, 4, fun i => ([0, 1, 2, 2, 3, 1, 2] : List Nat).getD i 0, fun _ => 0, fun i => ([0, 10, 0, 3, 0, 5, 6] : List Nat).getD i 0)
def r_gf : q_G := (fun _ => 0, fun i => ([0, 0, 1, 2, 0, 5, 3] : List Nat).getD i 0, 0, 0, 0, 0, 0, 0)
def r_A0 : q_S := (r_q0, r_gf, 0, fun _ => r_gf, 0, fun _ => r_gf, 0, fun _ => 0)
theorem r_some {o : z_R} (h : o.isSome = true) : o = some ((o.getD (0, r_m0)).1, (o.getD (0, r_m0)).2) := by
  cases o with
  | none => cases h
  | some x => rfl
theorem r_f0 : r_P 0 0 = some 1 ∧ r_P 0 3 = some 14 ∧ r_P 0 4 = some 17 ∧ r_P 0 5 = some 20 ∧ r_P 0 6 = some 46 ∧ r_P 0 7 = some 54 ∧ r_P 0 8 = some 55 ∧ r_P 0 9 = some 56 ∧ r_P 1 0 = some 2 ∧ r_P 1 2 = some 3 ∧ r_P 20 0 = some 21 ∧ r_P 46 0 = some 47 ∧ r_P 57 0 = some 58 := by decide +kernel
theorem r_f1 : r_P 57 2 = some 59 ∧ r_P 57 3 = some 60 ∧ r_P 57 4 = some 61 ∧ r_P 57 5 = some 62 ∧ r_P 57 7 = some 63 ∧ r_P 57 12 = some 64 ∧ r_P 4 3 = some 5 ∧ r_P 4 4 = some 6 ∧ r_P 4 5 = some 7 ∧ r_P 4 6 = some 8 ∧ r_P 9 3 = some 10 ∧ r_P 9 4 = some 11 ∧ r_P 9 5 = some 12 := by decide +kernel
theorem r_f2 : r_P 9 6 = some 13 ∧ r_P 14 0 = some 15 ∧ r_P 14 1 = some 16 ∧ r_P 17 0 = some 18 ∧ r_P 17 1 = some 19 ∧ r_P 22 0 = some 23 ∧ r_P 22 1 = some 24 ∧ r_P 25 0 = some 26 ∧ r_P 25 1 = some 27 ∧ r_P 28 0 = some 29 ∧ r_P 28 1 = some 30 ∧ r_P 31 0 = some 32 ∧ r_P 31 1 = some 33 := by decide +kernel
theorem r_f3 : r_P 34 0 = some 35 ∧ r_P 34 1 = some 36 ∧ r_P 37 0 = some 38 ∧ r_P 37 1 = some 39 ∧ r_P 40 0 = some 41 ∧ r_P 40 1 = some 42 ∧ r_P 43 0 = some 44 ∧ r_P 43 1 = some 45 ∧ r_P 48 0 = some 49 ∧ r_P 48 1 = some 50 ∧ r_P 51 0 = some 52 ∧ r_P 51 1 = some 53 := by decide +kernel
theorem r_k1 : p_F0 r_P := ⟨r_f0.1, r_f0.2.1, r_f0.2.2.1, r_f0.2.2.2.1, r_f0.2.2.2.2.1, r_f0.2.2.2.2.2.1, r_f0.2.2.2.2.2.2.1, r_f0.2.2.2.2.2.2.2.1, r_f0.2.2.2.2.2.2.2.2.1, r_f0.2.2.2.2.2.2.2.2.2.1, r_f0.2.2.2.2.2.2.2.2.2.2.1, r_f0.2.2.2.2.2.2.2.2.2.2.2.1, r_f0.2.2.2.2.2.2.2.2.2.2.2.2, r_f1.1, r_f1.2.1, r_f1.2.2.1, r_f1.2.2.2.1, r_f1.2.2.2.2.1, r_f1.2.2.2.2.2.1, r_f1.2.2.2.2.2.2.1, r_f1.2.2.2.2.2.2.2.1, r_f1.2.2.2.2.2.2.2.2.1, r_f1.2.2.2.2.2.2.2.2.2.1, r_f1.2.2.2.2.2.2.2.2.2.2.1, r_f1.2.2.2.2.2.2.2.2.2.2.2.1, r_f1.2.2.2.2.2.2.2.2.2.2.2.2, r_f2.1, r_f2.2.1, r_f2.2.2.1, r_f2.2.2.2.1, r_f2.2.2.2.2.1, r_f2.2.2.2.2.2.1, r_f2.2.2.2.2.2.2.1, r_f2.2.2.2.2.2.2.2.1, r_f2.2.2.2.2.2.2.2.2.1, r_f2.2.2.2.2.2.2.2.2.2.1, r_f2.2.2.2.2.2.2.2.2.2.2.1, r_f2.2.2.2.2.2.2.2.2.2.2.2.1, r_f2.2.2.2.2.2.2.2.2.2.2.2.2, r_f3.1, r_f3.2.1, r_f3.2.2.1, r_f3.2.2.2.1, r_f3.2.2.2.2.1, r_f3.2.2.2.2.2.1, r_f3.2.2.2.2.2.2.1, r_f3.2.2.2.2.2.2.2.1, r_f3.2.2.2.2.2.2.2.2.1, r_f3.2.2.2.2.2.2.2.2.2.1, r_f3.2.2.2.2.2.2.2.2.2.2.1, r_f3.2.2.2.2.2.2.2.2.2.2.2⟩
theorem r_eta {x : z_M} (h1 : x.1 = 65) (h2 : x.2.1 = p_z) : x = p_m x.2.2.1 x.2.2.2 := by
  obtain ⟨a, b, c, e⟩ := x
  have h1 : a = 65 := h1
  have h2 : b = p_z := h2
  subst h1
  subst h2
  rfl
theorem r_k2 : c_Q r_I 9 r_q0 ∧ c_G r_I 14 7 r_gf := by unfold c_Q c_G; decide +kernel
theorem r_k3 : (r_P 0 1 = some 9 ∧ r_P 0 2 = some 4) ∧ (r_I 20 1 = nI 0 ∧ ∀ j, j < 8 → r_P 21 j = some (22 + 3 * j)) ∧ (r_I 46 1 = nI 0 ∧ r_P 47 0 = some 48 ∧ r_P 47 1 = some 51) ∧ r_I 1 1 = nI 0 := by decide +kernel
theorem r_k4 : m_Q r_I r_q0 ∧ m_G r_I 61 0 7 r_gf := by unfold m_Q m_G; decide +kernel
theorem r_k5 : r_I 57 10 = -nI 1 ∧ r_I 57 6 = nI 0 ∧ r_I 57 8 = nI 0 ∧ r_I 57 1 = nI 0 := by decide +kernel
theorem r_k6 : q_ok r_q0 ∧ g_in 7 r_gf := by unfold q_ok g_in g_ok; decide +kernel
theorem r_rel : q_Rel r_m2 := by
  refine ⟨r_I, r_P, 9, 4, fun j => 22 + 3 * j, r_A0, ?_, ?_, ?_, ?_⟩
  · exact r_eta r_is2.2.1 r_is2.2.2
  · exact ⟨r_k6.1, r_k6.2, fun j hj => absurd hj (Nat.not_lt_zero j), fun j hj => absurd hj (Nat.not_lt_zero j), Nat.zero_le _, fun j hj => absurd hj (Nat.not_lt_zero j)⟩
  · obtain ⟨⟨p1, p2⟩, ⟨u1, u2⟩, ⟨w1, w2, w3⟩, t1⟩ := r_k3
    refine ⟨r_k1, ⟨⟨Or.inr rfl, p1⟩, p2, Or.inr ⟨rfl, rfl⟩⟩, r_k2.1, r_k2.2, ⟨u1, Nat.zero_le _, fun j hj => ⟨u2 j hj, ?_⟩, fun i j hi hj e => by have e : 22 + 3 * i = 22 + 3 * j := e; omega, fun j hj => absurd hj (Nat.not_lt_zero j)⟩, ⟨w1, Nat.zero_le _, w2, w3, fun j hj => absurd hj (Nat.not_lt_zero j)⟩, t1, fun j hj => absurd hj (Nat.not_lt_zero j)⟩
    show q_pool (22 + 3 * j)
    unfold q_pool
    omega
  · obtain ⟨t1, t2, t3, t4⟩ := r_k5
    exact ⟨r_k4.1, r_k4.2, t1, ⟨t2, Nat.zero_le _, fun j hj => absurd hj (Nat.not_lt_zero j)⟩, ⟨t3, Nat.zero_le _, fun j hj => absurd hj (Nat.not_lt_zero j)⟩, t4, fun j hj => absurd hj (Nat.not_lt_zero j)⟩
