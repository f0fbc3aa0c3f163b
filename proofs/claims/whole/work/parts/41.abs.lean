/-! WHAT A STATE IS: a squad (men, seed, kinds, first facings, errors), a standing (facings, looks, shut, words, the word ahead + 1 or 0, told, erred, shouted) -/
abbrev q_Q : Type := Nat × Nat × (Nat → Nat) × (Nat → Nat) × (Nat → Nat)
abbrev q_G : Type := (Nat → Nat) × (Nat → Nat) × Nat × Nat × Nat × Nat × Nat × Nat
/-- how far the word ahead turns -/
def q_t (a : Nat) : Nat := if a = 0 then 0 else if a = 1 then 3 else if a = 2 then 1 else 2
theorem q_t4 (a : Nat) : q_t a < 4 := by unfold q_t; split <;> (try split) <;> (try split) <;> omega
def q_a (a : Nat) : Int32 := nI a - 1
def q_ok (q : q_Q) : Prop := 1 ≤ q.1 ∧ q.1 ≤ 8 ∧ q.2.1 ≤ 99 ∧ ∀ i, i < q.1 → q.2.2.1 i ≤ 3 ∧ q.2.2.2.1 i < 4 ∧ q.2.2.2.2 i ≤ 10
def g_ok (n : Nat) (g : q_G) : Prop := (∀ i, i < n → g.1 i < 4 ∧ g.2.1 i < n) ∧ g.2.2.1 ≤ 1 ∧ g.2.2.2.1 ≤ 2000 ∧ g.2.2.2.2.1 ≤ 3 ∧ g.2.2.2.2.2.1 < 4 ∧ g.2.2.2.2.2.2.1 < 2 ^ n ∧ g.2.2.2.2.2.2.2 < 2 ^ n
/-- the class's squad at a, its standing at t -/
def c_Q (I : Nat → Nat → Int32) (a : Nat) (q : q_Q) : Prop := I a 0 = nI q.1 ∧ I a 1 = nI q.2.1 ∧ ∀ i, i < q.1 → I (a + 1) i = nI (q.2.2.1 i) ∧ I (a + 2) i = nI (q.2.2.2.1 i) ∧ I (a + 4) i = nI (q.2.2.2.2 i)
def c_G (I : Nat → Nat → Int32) (t n : Nat) (g : q_G) : Prop := (∀ i, i < n → I (t + 1) i = nI (g.1 i) ∧ I (t + 2) i = nI (g.2.1 i)) ∧ I t 2 = nI g.2.2.1 ∧ I t 3 = nI g.2.2.2.1 ∧ I t 4 = nI (q_t g.2.2.2.2.1) ∧ I t 5 = nI g.2.2.2.2.2.1 ∧ I t 6 = nI g.2.2.2.2.2.2.1 ∧ I t 7 = nI g.2.2.2.2.2.2.2
/-- the reference's squad, its row at a from o on -/
def m_Q (I : Nat → Nat → Int32) (q : q_Q) : Prop := I 59 0 = nI q.1 ∧ I 59 1 = nI q.2.1 ∧ ∀ i, i < q.1 → I 59 (3 + i) = nI (q.2.2.1 i) ∧ I 59 (11 + i) = nI (q.2.2.2.1 i) ∧ I 59 (27 + i) = nI (q.2.2.2.2 i)
def m_G (I : Nat → Nat → Int32) (a o n : Nat) (g : q_G) : Prop := (∀ i, i < n → I a (o + i) = nI (g.1 i) ∧ I a (o + (8 + i)) = nI (g.2.1 i)) ∧ I a (o + 16) = nI g.2.2.1 ∧ I a (o + 17) = nI g.2.2.2.1 ∧ I a (o + 18) = q_a g.2.2.2.2.1 ∧ I a (o + 19) = nI g.2.2.2.2.2.1 ∧ I a (o + 20) = nI g.2.2.2.2.2.2.1 ∧ I a (o + 21) = nI g.2.2.2.2.2.2.2
/-- rows outside S stay -/
def p_same (S : Nat → Prop) (I I' : Nat → Nat → Int32) : Prop := ∀ a, ¬ S a → I' a = I a
theorem p_same.rf {S : Nat → Prop} {I : Nat → Nat → Int32} : p_same S I I := fun _ _ => rfl
theorem p_same.tr {S : Nat → Prop} {I I' I'' : Nat → Nat → Int32} (h : p_same S I I') (h' : p_same S I' I'') : p_same S I I'' := fun a ha => (h' a ha).trans (h a ha)
theorem p_same.w {S : Nat → Prop} {I I' : Nat → Nat → Int32} {a j : Nat} {v : Int32} (h : p_same S I I') (hs : S a) : p_same S I (p_w I' a j v) := by
  intro b hb
  have hne : b ≠ a := fun e => hb (e ▸ hs)
  funext k
  rw [p_w_ne (Or.inl hne), h b hb]
theorem p_same.r {S : Nat → Prop} {I I' : Nat → Nat → Int32} {a : Nat} {f : Nat → Int32} (h : p_same S I I') (hs : S a) : p_same S I (p_r I' a f) := by
  intro b hb
  have hne : b ≠ a := fun e => hb (e ▸ hs)
  funext k
  rw [p_r_ne hne, h b hb]
theorem p_same.mono {S S' : Nat → Prop} {I I' : Nat → Nat → Int32} (h : p_same S I I') (hs : ∀ a, S a → S' a) : p_same S' I I' := fun a ha => h a (fun z => ha (hs a z))
theorem c_Q.keep {S : Nat → Prop} {I I' : Nat → Nat → Int32} {a : Nat} {q : q_Q} (h : c_Q I a q) (hs : p_same S I I') (h0 : ¬ S a) (h1 : ¬ S (a + 1)) (h2 : ¬ S (a + 2)) (h4 : ¬ S (a + 4)) : c_Q I' a q := by
  unfold c_Q
  rw [hs _ h0, hs _ h1, hs _ h2, hs _ h4]
  exact h
theorem c_G.keep {S : Nat → Prop} {I I' : Nat → Nat → Int32} {t n : Nat} {g : q_G} (h : c_G I t n g) (hs : p_same S I I') (h0 : ¬ S t) (h1 : ¬ S (t + 1)) (h2 : ¬ S (t + 2)) : c_G I' t n g := by
  unfold c_G
  rw [hs _ h0, hs _ h1, hs _ h2]
  exact h
theorem m_Q.keep {S : Nat → Prop} {I I' : Nat → Nat → Int32} {q : q_Q} (h : m_Q I q) (hs : p_same S I I') (h0 : ¬ S 59) : m_Q I' q := by
  unfold m_Q
  rw [hs _ h0]
  exact h
theorem m_G.keep {S : Nat → Prop} {I I' : Nat → Nat → Int32} {a o n : Nat} {g : q_G} (h : m_G I a o n g) (hs : p_same S I I') (h0 : ¬ S a) : m_G I' a o n g := by
  unfold m_G
  rw [hs _ h0]
  exact h
/-- a squad's place: 4 or 9 -/
def c_sq (P : Nat → Nat → Option Nat) (s : Nat) : Prop := (s = 4 ∨ s = 9) ∧ P 0 1 = some s
theorem c_sq1 {P : Nat → Nat → Option Nat} {s : Nat} (h : c_sq P s) (I : Nat → Nat → Int32) (k : Nat → z_R) : z_gP (p_m I P) 0 4 1 k = k s := p_gP (by decide) (by decide) h.2
theorem c_sqI {P : Nat → Nat → Option Nat} {s : Nat} (h : c_sq P s) (I : Nat → Nat → Int32) (j : Nat) (k : Int32 → z_R) : z_gI (p_m I P) s 2 j k = k (I s j) := by
  rcases h.1 with rfl | rfl
  · exact p_gI (by decide) (by decide)
  · exact p_gI (by decide) (by decide)
theorem c_sqP {P : Nat → Nat → Option Nat} {s : Nat} (h : c_sq P s) (hP : p_F0 P) : (∀ (I : Nat → Nat → Int32) (k : Nat → z_R), z_gP (p_m I P) s 2 3 k = k (s + 1)) ∧ (∀ (I : Nat → Nat → Int32) (k : Nat → z_R), z_gP (p_m I P) s 2 4 k = k (s + 2)) ∧ (∀ (I : Nat → Nat → Int32) (k : Nat → z_R), z_gP (p_m I P) s 2 5 k = k (s + 3)) ∧ (∀ (I : Nat → Nat → Int32) (k : Nat → z_R), z_gP (p_m I P) s 2 6 k = k (s + 4)) := by
  have hq := p_Q hP
  rcases h.1 with rfl | rfl
  · refine ⟨?_, ?_, ?_, ?_⟩ <;> intro I k <;> simp only [hq]
  · refine ⟨?_, ?_, ?_, ?_⟩ <;> intro I k <;> simp only [hq]
theorem c_sqA {P : Nat → Nat → Option Nat} {s : Nat} (h : c_sq P s) : (∀ (I : Nat → Nat → Int32) (i : Nat) (k : Int32 → z_R), i < 8 → z_al (p_m I P) (s + 1) (nI i) k = k (I (s + 1) i)) ∧ (∀ (I : Nat → Nat → Int32) (i : Nat) (k : Int32 → z_R), i < 8 → z_al (p_m I P) (s + 2) (nI i) k = k (I (s + 2) i)) ∧ (∀ (I : Nat → Nat → Int32) (i : Nat) (k : Int32 → z_R), i < 8 → z_al (p_m I P) (s + 4) (nI i) k = k (I (s + 4) i)) := by
  rcases h.1 with rfl | rfl
  · exact ⟨fun I i k hi => p_al (by decide) (by decide) hi, fun I i k hi => p_al (by decide) (by decide) hi, fun I i k hi => p_al (by decide) (by decide) hi⟩
  · exact ⟨fun I i k hi => p_al (by decide) (by decide) hi, fun I i k hi => p_al (by decide) (by decide) hi, fun I i k hi => p_al (by decide) (by decide) hi⟩
/-! numbers -/
theorem p_A : (∀ a b : Nat, nI a + nI b = nI (a + b)) ∧ (∀ a b : Nat, a < 2147483648 → b < 2147483648 → (nI a = nI b) = (a = b)) ∧ (∀ a b : Nat, a < 2147483648 → b < 2147483648 → (nI a < nI b) = (a < b)) ∧ (∀ a b : Nat, a < 2147483648 → b < 2147483648 → (nI a ≤ nI b) = (a ≤ b)) ∧ (∀ a : Nat, a < 2147483648 → (nI a = -nI 4) = False) ∧ (∀ a : Nat, a < 2147483648 → (nI a = -nI 1) = False) ∧ ((-nI 4 = -nI 4) = True) :=
  ⟨nI_add, fun a b ha hb => propext (nI_eq ha hb), fun a b ha hb => propext (nI_ltI ha hb), fun a b ha hb => propext (nI_leI ha hb), fun a ha => eq_false (fun h => by
    have h2 := congrArg Int32.toInt h
    rw [nI_toInt ha, show (-nI 4).toInt = -4 by decide] at h2
    omega), fun a ha => eq_false (fun h => by
    have h2 := congrArg Int32.toInt h
    rw [nI_toInt ha, show (-nI 1).toInt = -1 by decide] at h2
    omega), eq_true rfl⟩
theorem p_sb {a b : Nat} (h : b ≤ a) : nI a - nI b = nI (a - b) := pk_sub h
theorem p_mo {a d : Nat} (ha : a < 2147483648) (h0 : 0 < d) (hd : d < 2147483648) : z_mI (nI a) (nI d) = nI (a % d) := pk_rem ha h0 hd
theorem p_di {a d : Nat} (ha : a < 2147483648) (h0 : 0 < d) (hd : d < 2147483648) : nI a / nI d = nI (a / d) := pk_div ha h0 hd
theorem p_tf : ((1 = 0) = False) ∧ ((0 = 1) = False) ∧ ((0 = 0) = True) ∧ ((1 = 1) = True) := by simp
/-- is it a number below n -/
abbrev q_is (v : Int32) (n : Nat) : Prop := 0 ≤ v.toInt ∧ v.toInt < n
theorem q_is_nI {v : Int32} {n : Nat} (h : q_is v n) (hn : n < 2147483648) : ∃ i, i < n ∧ v = nI i := by
  refine ⟨v.toInt.toNat, by omega, ?_⟩
  apply Int32.toInt_inj.mp
  rw [nI_toInt (by omega)]
  omega
theorem q_is_lt {v : Int32} {n : Nat} (h : ¬ q_is v n) (hn : n < 2147483648) : v < nI 0 ∨ nI n ≤ v := by
  rw [Int32.lt_iff_toInt_lt, Int32.le_iff_toInt_le, nI_toInt (by omega), nI_toInt (by omega)]
  omega
/-! small tests -/
theorem c_man1 {I : Nat → Nat → Int32} {P : Nat → Nat → Option Nat} {s n i : Nat} (hs : c_sq P s) (hI : I s 0 = nI n) (hn : n ≤ 8) (hi : i < n) : f_X4_isMan 0 (nI i) (p_m I P) = some (nI 1, p_m I P) := by
  unfold f_X4_isMan
  simp (disch := omega) only [c_sq1 hs, c_sqI hs, hI, p_N, p_A]
  rw [if_neg (by omega), if_neg (by omega)]
theorem c_man0 {I : Nat → Nat → Int32} {P : Nat → Nat → Option Nat} {s n : Nat} {v : Int32} (hs : c_sq P s) (hI : I s 0 = nI n) (hn : n ≤ 8) (hv : ¬ q_is v n) : f_X4_isMan 0 v (p_m I P) = some (nI 0, p_m I P) := by
  unfold f_X4_isMan
  simp (disch := omega) only [c_sq1 hs, c_sqI hs, hI, p_N]
  rcases q_is_lt hv (by omega) with h | h
  · rw [if_pos h]
  · rw [if_pos h]; split <;> rfl
theorem m_in1 {lo hi i : Nat} (m : z_M) (h1 : lo ≤ i) (h2 : i ≤ hi) (h3 : hi < 2147483648) : f_X5_in (nI i) (nI lo) (nI hi) m = some (nI 1, m) := by
  unfold f_X5_in
  simp (disch := omega) only [p_N, p_A]
  rw [if_neg (by omega), if_neg (by omega)]
theorem m_in0 {lo hi : Nat} {v : Int32} (m : z_M) (hv : ¬ q_is v (hi + 1) ∨ v.toInt < lo) (h3 : hi < 2147483647) (h4 : lo < 2147483648) : f_X5_in v (nI lo) (nI hi) m = some (nI 0, m) := by
  unfold f_X5_in
  simp only [p_N]
  by_cases h : v < nI lo
  · rw [if_pos h]
  · rw [if_neg h, if_pos]
    rw [Int32.lt_iff_toInt_lt, nI_toInt (by omega)] at h ⊢
    omega
theorem m_man1 {I : Nat → Nat → Int32} {P : Nat → Nat → Option Nat} {n i : Nat} (hP : p_F0 P) (hI : I 59 0 = nI n) (hn : n ≤ 8) (hi : i < n) : f_X5_isMan 57 (nI i) (p_m I P) = some (nI 1, p_m I P) := by
  unfold f_X5_isMan
  simp (disch := omega) only [p_Q hP, p_N, p_L, hI, p_sb, m_in1, p_b]
  rfl
theorem m_man0 {I : Nat → Nat → Int32} {P : Nat → Nat → Option Nat} {n : Nat} {v : Int32} (hP : p_F0 P) (hI : I 59 0 = nI n) (h1 : 1 ≤ n) (hn : n ≤ 8) (hv : ¬ q_is v n) : f_X5_isMan 57 v (p_m I P) = some (nI 0, p_m I P) := by
  unfold f_X5_isMan
  have h0 := m_in0 (v := v) (lo := 0) (hi := n - 1) (p_m I P) (Or.inl (by rw [show n - 1 + 1 = n by omega]; exact hv)) (by omega) (by omega)
  simp (disch := omega) only [p_Q hP, p_N, p_L, hI, p_sb, h0, p_b]
  rfl
theorem c_word1 {i : Nat} (m : z_M) (hi : i < 3) : f_X4_isWord (nI i) m = some (nI 1, m) := by
  unfold f_X4_isWord
  simp (disch := omega) only [p_N, p_A]
  rw [if_neg (by omega), if_neg (by omega)]
theorem c_word0 {v : Int32} (m : z_M) (hv : ¬ q_is v 3) : f_X4_isWord v m = some (nI 0, m) := by
  unfold f_X4_isWord
  simp only [p_N]
  rcases q_is_lt hv (by omega) with h | h
  · rw [if_pos h]
  · rw [if_pos h]; split <;> rfl
theorem m_word1 {i : Nat} (m : z_M) (hi : i < 3) : f_X5_isWord (nI i) m = some (nI 1, m) := by
  unfold f_X5_isWord
  simp (disch := omega) only [p_N, m_in1, p_b]
  rfl
theorem m_word0 {v : Int32} (m : z_M) (hv : ¬ q_is v 3) : f_X5_isWord v m = some (nI 0, m) := by
  unfold f_X5_isWord
  have h0 := m_in0 (v := v) (lo := 0) (hi := 2) m (Or.inl hv) (by omega) (by omega)
  simp only [p_N, h0, p_b]
  rfl
theorem c_ei1 {i : Nat} (m : z_M) (hi : i < 2) : f_X4_isEither (nI i) m = some (nI 1, m) := by
  unfold f_X4_isEither f_X4_isEither_L9
  simp (disch := omega) only [p_N, p_A]
  rcases (show i = 0 ∨ i = 1 by omega) with rfl | rfl <;> simp
theorem c_ei0 {v : Int32} (m : z_M) (hv : ¬ q_is v 2) : f_X4_isEither v m = some (nI 0, m) := by
  unfold f_X4_isEither
  rw [if_neg, if_neg]
  · rfl
  · rintro rfl; exact hv (by decide)
  · rintro rfl; exact hv (by decide)
theorem m_ei1 {i : Nat} (m : z_M) (hi : i < 2) : f_X5_in (nI i) (nI 0) (nI 1) m = some (nI 1, m) := m_in1 m (by omega) (by omega) (by omega)
theorem m_ei0 {v : Int32} (m : z_M) (hv : ¬ q_is v 2) : f_X5_in v (nI 0) (nI 1) m = some (nI 0, m) := m_in0 m (Or.inl hv) (by omega) (by omega)
