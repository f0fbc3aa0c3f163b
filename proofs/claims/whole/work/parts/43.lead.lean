/-! BASES: what a query needs of either side -/
def q_scr (a : Nat) : Prop := (54 ≤ a ∧ a ≤ 56) ∨ (17 ≤ a ∧ a ≤ 19)
def c_B (I : Nat → Nat → Int32) (P : Nat → Nat → Option Nat) (s : Nat) (q : q_Q) (g : q_G) : Prop := p_F0 P ∧ c_sq P s ∧ q_ok q ∧ g_ok q.1 g ∧ c_Q I s q ∧ c_G I 14 q.1 g
def m_B (I : Nat → Nat → Int32) (P : Nat → Nat → Option Nat) (q : q_Q) (g : q_G) : Prop := p_F0 P ∧ q_ok q ∧ g_ok q.1 g ∧ m_Q I q ∧ m_G I 61 0 q.1 g ∧ I 57 10 = -nI 1
def m_keep (I I' : Nat → Nat → Int32) : Prop := (∀ a, a ≠ 57 → a ≠ 60 → a ≠ 64 → I' a = I a) ∧ ∀ j, j ≠ 9 → j ≠ 11 → j ≠ 13 → I' 57 j = I 57 j
theorem m_keep.rf {I : Nat → Nat → Int32} : m_keep I I := ⟨fun _ _ _ _ => rfl, fun _ _ _ _ => rfl⟩
theorem m_keep.tr {I I' I'' : Nat → Nat → Int32} (h : m_keep I I') (h' : m_keep I' I'') : m_keep I I'' := ⟨fun a h1 h2 h3 => (h'.1 a h1 h2 h3).trans (h.1 a h1 h2 h3), fun j h1 h2 h3 => (h'.2 j h1 h2 h3).trans (h.2 j h1 h2 h3)⟩
theorem c_B.keep {I I' : Nat → Nat → Int32} {P : Nat → Nat → Option Nat} {s : Nat} {q : q_Q} {g : q_G} (h : c_B I P s q g) (hs : p_same q_scr I I') : c_B I' P s q g := by
  obtain ⟨h1, h2, h3, h4, h5, h6⟩ := h
  refine ⟨h1, h2, h3, h4, ?_, ?_⟩
  · rcases h2.1 with rfl | rfl
    · exact h5.keep hs (by unfold q_scr; omega) (by unfold q_scr; omega) (by unfold q_scr; omega) (by unfold q_scr; omega)
    · exact h5.keep hs (by unfold q_scr; omega) (by unfold q_scr; omega) (by unfold q_scr; omega) (by unfold q_scr; omega)
  · exact h6.keep hs (by unfold q_scr; omega) (by unfold q_scr; omega) (by unfold q_scr; omega)
theorem m_B.keep {I I' : Nat → Nat → Int32} {P : Nat → Nat → Option Nat} {q : q_Q} {g : q_G} {S : Nat → Prop} (h : m_B I P q g) (hs : p_same S I I') (hS : ∀ a, S a → a < 57) : m_B I' P q g := by
  obtain ⟨h1, h2, h3, h4, h5, h6⟩ := h
  refine ⟨h1, h2, h3, h4.keep hs (fun z => by have := hS _ z; omega), h5.keep hs (fun z => by have := hS _ z; omega), ?_⟩
  rw [hs 57 (fun z => by have := hS _ z; omega)]
  exact h6
theorem m_B.keepM {I I' : Nat → Nat → Int32} {P : Nat → Nat → Option Nat} {q : q_Q} {g : q_G} (h : m_B I P q g) (hk : m_keep I I') : m_B I' P q g := by
  obtain ⟨h1, h2, h3, h4, h5, h6⟩ := h
  have hs : p_same (fun a => a = 57 ∨ a = 60 ∨ a = 64) I I' := fun a ha => hk.1 a (by omega) (by omega) (by omega)
  refine ⟨h1, h2, h3, h4.keep hs (by omega), h5.keep hs (by omega), ?_⟩
  rw [hk.2 10 (by omega) (by omega) (by omega)]
  exact h6
/-- the reference's cells, spelled out -/
theorem m_B.x {I : Nat → Nat → Int32} {P : Nat → Nat → Option Nat} {q : q_Q} {g : q_G} (h : m_B I P q g) : (I 59 0 = nI q.1 ∧ I 59 1 = nI q.2.1) ∧ (∀ i, i < q.1 → I 59 (3 + i) = nI (q.2.2.1 i)) ∧ (∀ i, i < q.1 → I 59 (11 + i) = nI (q.2.2.2.1 i)) ∧ (∀ i, i < q.1 → I 59 (27 + i) = nI (q.2.2.2.2 i)) ∧ (∀ i, i < q.1 → I 61 i = nI (g.1 i)) ∧ (∀ i, i < q.1 → I 61 (8 + i) = nI (g.2.1 i)) ∧ I 61 16 = nI g.2.2.1 ∧ I 61 17 = nI g.2.2.2.1 ∧ I 61 18 = q_a g.2.2.2.2.1 ∧ I 61 19 = nI g.2.2.2.2.2.1 ∧ I 61 20 = nI g.2.2.2.2.2.2.1 ∧ I 61 21 = nI g.2.2.2.2.2.2.2 := by
  obtain ⟨-, -, -, ⟨a1, a2, a3⟩, ⟨b1, b2⟩, -⟩ := h
  simp only [Nat.zero_add] at b1 b2
  exact ⟨⟨a1, a2⟩, fun i hi => (a3 i hi).1, fun i hi => (a3 i hi).2.1, fun i hi => (a3 i hi).2.2, fun i hi => (b1 i hi).1, fun i hi => (b1 i hi).2, b2⟩
theorem c_B.x {I : Nat → Nat → Int32} {P : Nat → Nat → Option Nat} {s : Nat} {q : q_Q} {g : q_G} (h : c_B I P s q g) : (I s 0 = nI q.1 ∧ I s 1 = nI q.2.1) ∧ (∀ i, i < q.1 → I (s + 1) i = nI (q.2.2.1 i)) ∧ (∀ i, i < q.1 → I (s + 2) i = nI (q.2.2.2.1 i)) ∧ (∀ i, i < q.1 → I (s + 4) i = nI (q.2.2.2.2 i)) ∧ (∀ i, i < q.1 → I 15 i = nI (g.1 i)) ∧ (∀ i, i < q.1 → I 16 i = nI (g.2.1 i)) ∧ I 14 2 = nI g.2.2.1 ∧ I 14 3 = nI g.2.2.2.1 ∧ I 14 4 = nI (q_t g.2.2.2.2.1) ∧ I 14 5 = nI g.2.2.2.2.2.1 ∧ I 14 6 = nI g.2.2.2.2.2.2.1 ∧ I 14 7 = nI g.2.2.2.2.2.2.2 := by
  obtain ⟨-, -, -, -, ⟨a1, a2, a3⟩, ⟨b1, b2⟩⟩ := h
  exact ⟨⟨a1, a2⟩, fun i hi => (a3 i hi).1, fun i hi => (a3 i hi).2.1, fun i hi => (a3 i hi).2.2, fun i hi => (b1 i hi).1, fun i hi => (b1 i hi).2, b2⟩
/-- whose turn a man copies -/
def q_ld (q : q_Q) (g : q_G) (i : Nat) : Nat := if g.2.2.1 = 1 then i else if q_ce q.2.2.1 g.2.1 99 9 i = 99 then i else q_ce q.2.2.1 g.2.1 99 9 i
theorem q_ld_lt {q : q_Q} {g : q_G} (hg : g_ok q.1 g) (hq : q_ok q) {i : Nat} (hi : i < q.1) : q_ld q g i < q.1 := by
  unfold q_ld
  split
  · exact hi
  · split
    · exact hi
    · rcases q_ce_lt (kd := q.2.2.1) (b := 99) (fun i hi => (hg.1 i hi).2) 9 i hi with h | h
      · contradiction
      · exact h
section
variable {I : Nat → Nat → Int32} {P : Nat → Nat → Option Nat} {s : Nat} {q : q_Q} {g : q_G}
theorem c_end (h : c_B I P s q g) {i : Nat} (hi : i < q.1) : f_X4_chainEnd 0 (nI i) (-nI 4) (p_m I P) = some (q_r (q_ce q.2.2.1 g.2.1 99 9 i), p_m I P) := by
  have hx := h.x
  rw [c_ce (kd := q.2.2.1) (lk := g.2.1) h.1 h.2.1 hx.1.1 h.2.2.1.2.1 hx.2.1 (fun i hi => (h.2.2.1.2.2.2 i hi).1) hx.2.2.2.2.2.1 (fun i hi => (h.2.2.2.1.1 i hi).2) (Or.inr ⟨rfl, rfl⟩) hi]
  rw [q_fuel (fun i hi => (h.2.2.2.1.1 i hi).2) h.2.2.1.2.1 hi (by have := h.2.2.1.2.1; omega) (show q.1 ≤ 9 by have := h.2.2.1.2.1; omega)]
theorem c_endB (h : c_B I P s q g) {i b : Nat} (hi : i < q.1) (hb : b < q.1) : f_X4_chainEnd 0 (nI i) (nI b) (p_m I P) = some (q_r (q_ce q.2.2.1 g.2.1 b (q.1 + 1) i), p_m I P) := by
  have hx := h.x
  have h8 := h.2.2.1.2.1
  exact c_ce (kd := q.2.2.1) (lk := g.2.1) h.1 h.2.1 hx.1.1 h8 hx.2.1 (fun i hi => (h.2.2.1.2.2.2 i hi).1) hx.2.2.2.2.2.1 (fun i hi => (h.2.2.2.1.1 i hi).2) (Or.inl ⟨rfl, by omega⟩) hi
theorem m_end (h : m_B I P q g) {i : Nat} (hi : i < q.1) : f_X5_leader 57 (nI i) (p_m I P) = some (q_r (q_ce q.2.2.1 g.2.1 99 9 i), p_m I P) := by
  have hx := h.x
  exact m_ld h.1 h.2.1.2.1 hx.2.1 (fun i hi => (h.2.1.2.2.2 i hi).1) hx.2.2.2.2.2.1 (fun i hi => (h.2.2.1.1 i hi).2) h.2.2.2.2.2 hi
theorem q_r_eq (h : ∀ i, i < q.1 → g.2.1 i < q.1) (hn : q.1 ≤ 8) {i : Nat} (hi : i < q.1) : (q_r (q_ce q.2.2.1 g.2.1 99 9 i) = -nI 4) = (q_ce q.2.2.1 g.2.1 99 9 i = 99) := by
  rcases q_ce_lt (kd := q.2.2.1) (b := 99) h 9 i hi with e | e
  · rw [e]; simp [q_r]
  · rw [q_rn (by omega), p_A.2.2.2.2.1 _ (by omega)]
    exact (eq_false (by omega)).symm
theorem m_as (h : m_B I P q g) {i : Nat} (hi : i < q.1) : f_X5_turnsAs 57 (nI i) (p_m I P) = some (nI (q_ld q g i), p_m I P) := by
  have hx := h.x
  have h8 := h.2.1.2.1
  have hs1 := h.2.2.1.2.1
  have he := q_r_eq (q := q) (g := g) (fun i hi => (h.2.2.1.1 i hi).2) h8 hi
  unfold f_X5_turnsAs f_X5_turnsAs_L20 q_ld
  simp (disch := omega) only [p_Q h.1, p_L, p_C, p_N, p_b, hx, m_end h hi, p_A, he]
  by_cases h1 : g.2.2.1 = 1
  · rw [if_pos h1, if_pos h1, if_neg (fun z => z)]
  · rw [if_neg h1, if_neg h1]
    rcases q_ce_lt (kd := q.2.2.1) (b := 99) (fun i hi => (h.2.2.1.1 i hi).2) 9 i hi with e | e
    · rw [if_pos e, if_pos e]
    · rw [if_neg (by omega), if_neg (by omega), q_rn (by omega)]
theorem c_fl (h : c_B I P s q g) : ∀ (f i : Nat) (I : Nat → Nat → Int32), c_B I P s q g → i ≤ q.1 → q.1 - i < f → ∃ I', f_X4_findLeaders_L2 f 0 (nI i) (p_m I P) = some (nI 0, p_m I' P) ∧ p_same (fun a => a = 54) I I' ∧ (∀ j, j < i → I' 54 j = I 54 j) ∧ ∀ j, i ≤ j → j < q.1 → I' 54 j = nI (q_ld q g j) := by
  intro f
  induction f with
  | zero => intro i I _ _ h; omega
  | succ f ih =>
    intro i I h hi hf
    have hx := h.x
    have h8 := h.2.2.1.2.1
    have hs1 := h.2.2.2.1.2.1
    unfold f_X4_findLeaders_L2 f_X4_findLeaders_L35 f_X4_findLeaders_L52
    simp (disch := omega) only [p_Q h.1, c_sq1 h.2.1, c_sqI h.2.1, p_G, p_C, p_N, hx, p_A]
    by_cases h1 : q.1 ≤ i
    · rw [if_pos h1]
      exact ⟨I, rfl, p_same.rf, fun _ _ => rfl, fun j h2 h3 => by omega⟩
    · rw [if_neg h1]
      have hin : i < q.1 := by omega
      have he := q_r_eq (q := q) (g := g) (fun i hi => (h.2.2.2.1.1 i hi).2) h8 hin
      have K : ∀ v : Nat, v = q_ld q g i → ∃ I', f_X4_findLeaders_L2 f 0 (nI (i + 1)) (p_m (p_w I 54 i (nI v)) P) = some (nI 0, p_m I' P) ∧ p_same (fun a => a = 54) I I' ∧ (∀ j, j < i → I' 54 j = I 54 j) ∧ ∀ j, i ≤ j → j < q.1 → I' 54 j = nI (q_ld q g j) := by
        intro v hv
        obtain ⟨I', a1, a2, a3, a4⟩ := ih (i + 1) (p_w I 54 i (nI v)) (h.keep (p_same.rf.w (by unfold q_scr; omega))) (by omega) (by omega)
        refine ⟨I', a1, (p_same.w (S := fun a => a = 54) p_same.rf rfl).tr a2, fun j hj => ?_, fun j h2 h3 => ?_⟩
        · rw [a3 j (by omega), p_w_ne (Or.inr (by omega))]
        · by_cases hij : j = i
          · subst hij
            rw [a3 j (by omega), p_w_eq, hv]
          · exact a4 j (by omega) h3
      by_cases h2 : g.2.2.1 = 1
      · rw [if_pos h2]
        have hne : (nI i = -nI 4) = False := p_A.2.2.2.2.1 i (by omega)
        simp (disch := omega) only [hne, if_false, p_S]
        exact K i (by unfold q_ld; rw [if_pos h2])
      · rw [if_neg h2, c_end h hin]
        simp (disch := omega) only [p_b, p_Q h.1, he]
        by_cases h3 : q_ce q.2.2.1 g.2.1 99 9 i = 99
        · rw [if_pos h3]
          simp (disch := omega) only [p_S]
          exact K i (by unfold q_ld; rw [if_neg h2, if_pos h3])
        · rw [if_neg h3]
          simp (disch := omega) only [p_S]
          rcases q_ce_lt (kd := q.2.2.1) (b := 99) (fun i hi => (h.2.2.2.1.1 i hi).2) 9 i hin with e | e
          · contradiction
          · rw [q_rn (by omega)]
            exact K _ (by unfold q_ld; rw [if_neg h2, if_neg h3])
theorem c_leaders (h : c_B I P s q g) : ∃ I', f_X4_findLeaders 0 (p_m I P) = some (nI 0, p_m I' P) ∧ p_same (fun a => a = 54) I I' ∧ ∀ j, j < q.1 → I' 54 j = nI (q_ld q g j) := by
  unfold f_X4_findLeaders
  have h8 := h.2.2.1.2.1
  obtain ⟨I', a1, a2, -, a4⟩ := c_fl h 400 0 I h (by omega) (by omega)
  exact ⟨I', a1, a2, fun j hj => a4 j (by omega) hj⟩
end
