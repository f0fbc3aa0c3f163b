/-! STANDINGS PUT BY, THE CLASS -/
def q_st (t : Nat) : Prop := t = 14 ∨ t = 17 ∨ t = 22 ∨ t = 25 ∨ t = 28 ∨ t = 31 ∨ t = 34 ∨ t = 37 ∨ t = 40 ∨ t = 43 ∨ t = 48 ∨ t = 51
def q_pool (t : Nat) : Prop := t = 22 ∨ t = 25 ∨ t = 28 ∨ t = 31 ∨ t = 34 ∨ t = 37 ∨ t = 40 ∨ t = 43
theorem q_pool_st {t : Nat} (h : q_pool t) : q_st t := by unfold q_pool at h; unfold q_st; omega
section
variable {I : Nat → Nat → Int32} {P : Nat → Nat → Option Nat} {s t n : Nat} {q : q_Q} {g : q_G}
theorem c_stg (hP : p_F0 P) (ht : q_st t) : (∀ (I : Nat → Nat → Int32) (j : Nat) (k : Int32 → z_R), z_gI (p_m I P) t 3 j k = k (I t j)) ∧ (∀ (I : Nat → Nat → Int32) (j : Nat) (v : Int32) (k : z_M → z_R), z_sI (p_m I P) t 3 j v k = k (p_m (p_w I t j v) P)) ∧ (∀ (I : Nat → Nat → Int32) (k : Nat → z_R), z_gP (p_m I P) t 3 0 k = k (t + 1)) ∧ (∀ (I : Nat → Nat → Int32) (k : Nat → z_R), z_gP (p_m I P) t 3 1 k = k (t + 2)) ∧ (t < 65 ∧ t + 1 < 65 ∧ t + 2 < 65) ∧ (z_k t = 3 ∧ z_k (t + 1) = 6 ∧ z_k (t + 2) = 6 ∧ z_n (t + 1) = 8 ∧ z_n (t + 2) = 8) ∧ ∀ (I : Nat → Nat → Int32) (o : z_R) (k : Int32 → z_M → z_R), z_cv (p_m I P) t 3 o k = z_b o k := by
  have hq := p_Q hP
  rcases ht with rfl | rfl | rfl | rfl | rfl | rfl | rfl | rfl | rfl | rfl | rfl | rfl <;> exact ⟨fun I j k => p_gI (by decide) (by decide), fun I j v k => p_sI (by decide) (by decide), fun I k => by simp only [hq], fun I k => by simp only [hq], by decide, by decide, fun I o k => p_cv (by decide) (by decide)⟩
/-- one standing is copied to another one -/
theorem c_copy (hP : p_F0 P) {d : Nat} (hd : q_st d) (ht : q_st t) (hne : d ≠ t) : ∃ I', f_X3_copy d t (p_m I P) = some (nI 0, p_m I' P) ∧ p_same (fun a => a = d ∨ a = d + 1 ∨ a = d + 2) I I' ∧ ∀ n g, n ≤ 8 → c_G I t n g → c_G I' d n g := by
  obtain ⟨d1, d2, d3, d4, ⟨d5, d6, d7⟩, ⟨d8, d9, d10, d11, d12⟩, -⟩ := c_stg hP hd
  obtain ⟨s1, s2, s3, s4, ⟨s5, s6, s7⟩, ⟨s8, s9, s10, s11, s12⟩, -⟩ := c_stg hP ht
  have far : d + 2 < t ∨ t + 2 < d := by unfold q_st at hd ht; omega
  unfold f_X3_copy
  rw [s3, d3, p_cp s6 s9 d6 d9 s11 d11, s4, d4, p_cp s7 s10 d7 d10 s12 d12]
  simp only [s1, d2]
  have e : ∀ (I : Nat → Nat → Int32) (j : Nat), p_r (p_r I (d + 1) (va_cpy (I (t + 1)) (I (d + 1)) 0 0 8)) (d + 2) (va_cpy (p_r I (d + 1) (va_cpy (I (t + 1)) (I (d + 1)) 0 0 8) (t + 2)) (p_r I (d + 1) (va_cpy (I (t + 1)) (I (d + 1)) 0 0 8) (d + 2)) 0 0 8) t j = I t j := fun I j => by rw [p_r_ne (by omega), p_r_ne (by omega)]
  simp (disch := omega) only [p_w_ne, e]
  refine ⟨_, rfl, ?_, fun n g hn hG => ?_⟩
  · exact (((((((p_same.rf.r (Or.inr (Or.inl rfl))).r (Or.inr (Or.inr rfl))).w (Or.inl rfl)).w (Or.inl rfl)).w (Or.inl rfl)).w (Or.inl rfl)).w (Or.inl rfl)).w (Or.inl rfl)
  · obtain ⟨a, b1, b2, b3, b4, b5, b6⟩ := hG
    refine ⟨fun i hi => ⟨?_, ?_⟩, ?_, ?_, ?_, ?_, ?_, ?_⟩
    · simp (disch := omega) only [p_w_ne]
      rw [p_r_ne (by omega), p_r_eq, sb_cpy0 (by omega)]
      exact (a i hi).1
    · simp (disch := omega) only [p_w_ne]
      rw [p_r_eq, sb_cpy0 (by omega), p_r_ne (by omega)]
      exact (a i hi).2
    · simp (disch := omega) only [p_w_ne, p_w_eq]; exact b1
    · simp (disch := omega) only [p_w_ne, p_w_eq]; exact b2
    · simp (disch := omega) only [p_w_ne, p_w_eq]; exact b3
    · simp (disch := omega) only [p_w_ne, p_w_eq]; exact b4
    · simp (disch := omega) only [p_w_ne, p_w_eq]; exact b5
    · simp (disch := omega) only [p_w_eq]; exact b6
/-- the pile's oldest goes to its end -/
theorem c_loseL {pl : Nat → Nat} (hpl : ∀ j, j < 8 → q_pool (pl j)) : ∀ (f j : Nat) (P : Nat → Nat → Option Nat), p_F0 P → 1 ≤ j → j ≤ 8 → 8 - j < f → (∀ i, i < 8 → P 21 i = some (if i + 1 < j then pl (i + 1) else pl i)) →
    ∃ P', f_X0_loseOldest_L9 f 20 (pl 0) (nI j) (p_m I P) = some (nI 0, p_m (p_w I 20 1 (nI 7)) P') ∧ (∀ a, a ≠ 21 → P' a = P a) ∧ ∀ i, i < 8 → P' 21 i = some (if i = 7 then pl 0 else pl (i + 1)) := by
  intro f
  induction f with
  | zero => intro j P _ _ _ h; omega
  | succ f ih =>
    intro j P hP h1 h8 hf hI
    have hp0 := hpl 0 (by omega)
    have hl : ∀ (I : Nat → Nat → Int32) (P : Nat → Nat → Option Nat) (k : Int32 → z_R), z_ln (p_m I P) 21 k = k (nI 8) := fun I P k => p_ln (by decide) (by decide)
    have hF : ∀ (i b : Nat), p_F0 (p_p P 21 i b) := by
      intro i b
      obtain ⟨h0, h1, h2, h3, h4, h5, h6, h7, h8, h9, h10, h11, h12, h13, h14, h15, h16, h17, h18, h19, h20, h21, h22, h23, h24, h25, h26, h27, h28, h29, h30, h31, h32, h33, h34, h35, h36, h37, h38, h39, h40, h41, h42, h43, h44, h45, h46, h47, h48, h49, h50⟩ := hP
      unfold p_F0 p_p
      simp [*]
    unfold f_X0_loseOldest_L9 z_lt
    simp (disch := omega) only [p_Q hP, hl, p_N, p_A]
    by_cases hj : 8 ≤ j
    · rw [if_pos hj]
      have hj8 : j = 8 := by omega
      subst hj8
      rw [p_sb (by omega), p_ps (i := 7) (by decide) (by decide) (by decide) (by have := hp0; unfold q_pool at this; omega) (c_stg hP (q_pool_st hp0)).2.2.2.2.2.1.1]
      simp (disch := omega) only [p_Q (hF _ _), hl, p_F, p_sb]
      refine ⟨_, rfl, fun a ha => ?_, fun i hi => ?_⟩
      · funext k; simp [p_p, ha]
      · by_cases e : i = 7
        · subst e; simp [p_p]
        · simp only [p_p, true_and, e, if_false]
          rw [hI i hi, if_pos (by omega)]
    · rw [if_neg hj]
      have hpj := hpl j (by omega)
      have e1 : P 21 j = some (pl j) := by rw [hI j (by omega), if_neg (by omega)]
      rw [p_pl (i := j) (b := pl j) (by decide) (by decide) (by show j < 8; omega) e1, p_sb (by omega), p_ps (i := j - 1) (by decide) (by decide) (by show j - 1 < 8; omega) (by have := hpj; unfold q_pool at this; omega) (c_stg hP (q_pool_st hpj)).2.2.2.2.2.1.1]
      obtain ⟨P', a1, a2, a3⟩ := ih (j + 1) (p_p P 21 (j - 1) (pl j)) (hF _ _) (by omega) (by omega) (by omega) (fun i hi => by
        simp only [p_p, true_and]
        by_cases e : i = j - 1
        · subst e
          rw [if_pos rfl, if_pos (by omega), show j - 1 + 1 = j by omega]
        · rw [if_neg e, hI i hi]
          by_cases e2 : i + 1 < j
          · rw [if_pos e2, if_pos (by omega)]
          · rw [if_neg e2, if_neg (by omega)])
      refine ⟨P', a1, fun a ha => ?_, a3⟩
      rw [a2 a ha]
      funext k; simp [p_p, ha]
theorem p_F0.keep {P' : Nat → Nat → Option Nat} (h : p_F0 P) (hs : ∀ a, a ≠ 21 → P' a = P a) : p_F0 P' := by
  unfold p_F0 at h ⊢
  rw [hs 0 (by decide), hs 1 (by decide), hs 20 (by decide), hs 46 (by decide), hs 57 (by decide), hs 4 (by decide), hs 9 (by decide), hs 14 (by decide), hs 17 (by decide), hs 22 (by decide), hs 25 (by decide), hs 28 (by decide), hs 31 (by decide), hs 34 (by decide), hs 37 (by decide), hs 40 (by decide), hs 43 (by decide), hs 48 (by decide), hs 51 (by decide)]
  exact h
/-- the undo pile: places pl, size k, states past -/
def c_U (I : Nat → Nat → Int32) (P : Nat → Nat → Option Nat) (n : Nat) (pl : Nat → Nat) (k : Nat) (past : Nat → q_G) : Prop := I 20 1 = nI k ∧ k ≤ 8 ∧ (∀ j, j < 8 → P 21 j = some (pl j) ∧ q_pool (pl j)) ∧ (∀ i j, i < 8 → j < 8 → pl i = pl j → i = j) ∧ ∀ j, j < k → c_G I (pl j) n (past j)
def q_push (past : Nat → q_G) (k : Nat) (g : q_G) : Nat → q_G := if k < 8 then fun j => if j = k then g else past j else fun j => if j = 7 then g else past (j + 1)
def q_pk (k : Nat) : Nat := if k < 8 then k + 1 else 8
def q_und (a : Nat) : Prop := 20 ≤ a ∧ a ≤ 45
theorem q_far {a b : Nat} (ha : q_pool a) (hb : q_pool b) (h : a ≠ b) : a + 2 < b ∨ b + 2 < a := by unfold q_pool at ha hb; omega
theorem c_putL (hP : p_F0 P) {n k : Nat} {pl : Nat → Nat} {past : Nat → q_G} (hU : c_U I P n pl k past) (hk : k < 8) (hG : c_G I 14 n g) (hn : n ≤ 8) :
    ∃ I', f_X0_put_L16 20 14 (p_m I P) = some (nI 0, p_m I' P) ∧ p_same q_und I I' ∧ c_U I' P n pl (k + 1) (fun j => if j = k then g else past j) := by
  obtain ⟨u1, u2, u3, u4, u5⟩ := hU
  obtain ⟨e1, e2⟩ := u3 k hk
  obtain ⟨I1, a1, a2, a3⟩ := c_copy (I := I) (d := pl k) (t := 14) hP (q_pool_st e2) (Or.inl rfl) (by unfold q_pool at e2; omega)
  have hst := c_stg hP (q_pool_st e2)
  have h20 : I1 20 1 = nI k := by rw [a2 20 (by unfold q_pool at e2; omega)]; exact u1
  unfold f_X0_put_L16 z_lt
  simp (disch := omega) only [p_Q hP, p_G, u1]
  rw [p_pl (a := 21) (i := k) (b := pl k) (by decide) (by decide) (show k < 8 from hk) e1]
  simp (disch := omega) only [hst, a1, p_b, p_G, h20, p_N, p_A, p_F]
  refine ⟨_, rfl, ?_, by rw [p_w_eq], by omega, u3, u4, fun j hj => ?_⟩
  · refine (p_same.mono (S' := q_und) a2 (fun a ha => ?_)).w ?_
    · unfold q_pool at e2; unfold q_und; omega
    · unfold q_und; omega
  · show c_G _ (pl j) n (if j = k then g else past j)
    by_cases ej : j = k
    · subst ej
      rw [if_pos rfl]
      have := a3 n g hn hG
      exact this.keep (S := fun a => a = 20) (p_same.rf.o) (by unfold q_pool at e2; omega) (by unfold q_pool at e2; omega) (by unfold q_pool at e2; omega)
    · rw [if_neg ej]
      have hj8 : j < 8 := by omega
      have hpj := (u3 j hj8).2
      have hf := q_far hpj e2 (fun h => ej (u4 j k hj8 hk h))
      have := (u5 j (by omega)).keep a2 (by omega) (by omega) (by omega)
      exact this.keep (S := fun a => a = 20) (p_same.rf.o) (by unfold q_pool at hpj; omega) (by unfold q_pool at hpj; omega) (by unfold q_pool at hpj; omega)
theorem c_put (hP : p_F0 P) {n k : Nat} {pl : Nat → Nat} {past : Nat → q_G} (hU : c_U I P n pl k past) (hG : c_G I 14 n g) (hn : n ≤ 8) :
    ∃ I' P' pl', f_X0_put 20 14 (p_m I P) = some (nI 0, p_m I' P') ∧ p_same q_und I I' ∧ (∀ a, a ≠ 21 → P' a = P a) ∧ c_U I' P' n pl' (q_pk k) (q_push past k g) := by
  have hU0 := hU
  obtain ⟨u1, u2, u3, u4, u5⟩ := hU
  have hl : ∀ (I : Nat → Nat → Int32) (P : Nat → Nat → Option Nat) (k : Int32 → z_R), z_ln (p_m I P) 21 k = k (nI 8) := fun I P k => p_ln (by decide) (by decide)
  unfold f_X0_put q_pk q_push
  simp (disch := omega) only [p_Q hP, p_G, hl, u1, p_A]
  by_cases hk : k < 8
  · rw [if_pos hk, if_pos hk, if_pos hk]
    obtain ⟨I', a1, a2, a3⟩ := c_putL (g := g) hP hU0 hk hG hn
    exact ⟨I', P, pl, a1, a2, fun _ _ => rfl, a3⟩
  · rw [if_neg hk, if_neg hk, if_neg hk]
    have hk8 : k = 8 := by omega
    subst hk8
    obtain ⟨P1, b1, b2, b3⟩ := c_loseL (I := I) (pl := pl) (fun j hj => (u3 j hj).2) 400 1 P hP (by omega) (by omega) (by omega) (fun i hi => by rw [if_neg (by omega)]; exact (u3 i hi).1)
    have hlo : f_X0_loseOldest 20 (p_m I P) = some (nI 0, p_m (p_w I 20 1 (nI 7)) P1) := by
      unfold f_X0_loseOldest
      simp (disch := omega) only [p_Q hP, p_N]
      rw [p_pl (i := 0) (b := pl 0) (by decide) (by decide) (by decide) (u3 0 (by omega)).1]
      exact b1
    simp (disch := omega) only [p_C, hlo, p_b]
    have hU1 : c_U (p_w I 20 1 (nI 7)) P1 n (fun i => if i = 7 then pl 0 else pl (i + 1)) 7 (fun j => past (j + 1)) := by
      refine ⟨by rw [p_w_eq], by omega, fun j hj => ⟨b3 j hj, ?_⟩, fun i j hi hj he => ?_, fun j hj => ?_⟩
      · dsimp only
        split
        · exact (u3 0 (by omega)).2
        · exact (u3 (j + 1) (by omega)).2
      · dsimp only at he
        split at he <;> split at he
        · omega
        · have := u4 0 (j + 1) (by omega) (by omega) he; omega
        · have := u4 (i + 1) 0 (by omega) (by omega) he; omega
        · have := u4 (i + 1) (j + 1) (by omega) (by omega) he; omega
      · dsimp only
        rw [if_neg (by omega)]
        have hpj := (u3 (j + 1) (by omega)).2
        exact (u5 (j + 1) (by omega)).keep (S := fun a => a = 20) (p_same.rf.o) (by unfold q_pool at hpj; omega) (by unfold q_pool at hpj; omega) (by unfold q_pool at hpj; omega)
    obtain ⟨I', a1, a2, a3⟩ := c_putL (g := g) (p_F0.keep hP b2) hU1 (by omega) (hG.keep (S := fun a => a = 20) (p_same.rf.o) (by omega) (by omega) (by omega)) hn
    refine ⟨I', P1, _, a1, ?_, b2, a3⟩
    exact (p_same.w (S := q_und) p_same.rf (by unfold q_und; omega)).tr a2
/-- the latest is taken back -/
theorem c_undo (hP : p_F0 P) {n k : Nat} {pl : Nat → Nat} {past : Nat → q_G} (hU : c_U I P n pl (k + 1) past) (hn : n ≤ 8) :
    ∃ I', f_X0_takeTop 20 14 (p_m I P) = some (nI 1, p_m I' P) ∧ p_same (fun a => a = 20 ∨ a = 14 ∨ a = 15 ∨ a = 16) I I' ∧ c_U I' P n pl k past ∧ c_G I' 14 n (past k) := by
  obtain ⟨u1, u2, u3, u4, u5⟩ := hU
  obtain ⟨e1, e2⟩ := u3 k (by omega)
  obtain ⟨I1, a1, a2, a3⟩ := c_copy (I := p_w I 20 1 (nI k)) (d := 14) (t := pl k) hP (Or.inl rfl) (q_pool_st e2) (by unfold q_pool at e2; omega)
  have hk : c_G (p_w I 20 1 (nI k)) (pl k) n (past k) := (u5 k (by omega)).keep (S := fun a => a = 20) (p_same.rf.o) (by unfold q_pool at e2; omega) (by unfold q_pool at e2; omega) (by unfold q_pool at e2; omega)
  have hsb : nI (k + 1) - nI 1 = nI k := p_sb (by omega)
  unfold f_X0_takeTop z_lt
  simp (disch := omega) only [p_Q hP, p_G, p_F, u1, p_N, p_A, hsb, p_w_eq]
  rw [if_pos (by omega), p_pl (i := k) (b := pl k) (by decide) (by decide) (by show k < 8; omega) e1]
  simp (disch := omega) only [p_C, a1, p_b]
  have hs : p_same (fun a => a = 20 ∨ a = 14 ∨ a = 15 ∨ a = 16) I I1 := (p_same.w (S := fun a => a = 20 ∨ a = 14 ∨ a = 15 ∨ a = 16) p_same.rf (Or.inl rfl)).tr (a2.mono (fun a ha => by omega))
  refine ⟨I1, rfl, hs, ⟨?_, by omega, u3, u4, fun j hj => ?_⟩, a3 n _ hn hk⟩
  · rw [a2 20 (by omega), p_w_eq]
  · have hpj := (u3 j (by omega)).2
    exact (u5 j (by omega)).keep hs (by unfold q_pool at hpj; omega) (by unfold q_pool at hpj; omega) (by unfold q_pool at hpj; omega)
theorem c_undo0 (hP : p_F0 P) (h : I 20 1 = nI 0) : f_X0_takeTop 20 14 (p_m I P) = some (nI 0, p_m I P) := by
  unfold f_X0_takeTop
  simp (disch := omega) only [p_Q hP, p_G, h, p_N, p_A]
  rfl
/-- the kept ones -/
def c_Kp (I : Nat → Nat → Int32) (P : Nat → Nat → Option Nat) (n : Nat) (k : Nat) (img : Nat → q_G) : Prop := I 46 1 = nI k ∧ k ≤ 2 ∧ P 47 0 = some 48 ∧ P 47 1 = some 51 ∧ ∀ j, j < k → c_G I (48 + 3 * j) n (img j)
theorem c_kp {k0 : Nat} {img : Nat → q_G} (h : c_Kp I P n k0 img) {j : Nat} (hj : j < 2) : P 47 j = some (48 + 3 * j) ∧ q_st (48 + 3 * j) := by
  rcases (show j = 0 ∨ j = 1 by omega) with rfl | rfl
  · exact ⟨h.2.2.1, by unfold q_st; omega⟩
  · exact ⟨h.2.2.2.1, by unfold q_st; omega⟩
theorem c_keepP (hP : p_F0 P) {n k : Nat} {img : Nat → q_G} (hU : c_Kp I P n k img) (hk : k < 2) (hG : c_G I 14 n g) (hn : n ≤ 8) :
    ∃ I', f_X0_put 46 14 (p_m I P) = some (nI 0, p_m I' P) ∧ p_same (fun a => 46 ≤ a ∧ a ≤ 53) I I' ∧ c_Kp I' P n (k + 1) (fun j => if j = k then g else img j) := by
  have hl : ∀ (I : Nat → Nat → Int32) (P : Nat → Nat → Option Nat) (k : Int32 → z_R), z_ln (p_m I P) 47 k = k (nI 2) := fun I P k => p_ln (by decide) (by decide)
  obtain ⟨e1, e2⟩ := c_kp hU hk
  obtain ⟨u1, u2, u3, u4, u5⟩ := hU
  obtain ⟨I1, a1, a2, a3⟩ := c_copy (I := I) (d := 48 + 3 * k) (t := 14) hP e2 (Or.inl rfl) (by omega)
  have hst := c_stg hP e2
  have h46 : I1 46 1 = nI k := by rw [a2 46 (by omega)]; exact u1
  unfold f_X0_put f_X0_put_L16 z_lt
  simp (disch := omega) only [p_Q hP, p_G, hl, u1, p_A]
  rw [if_pos hk, p_pl (a := 47) (i := k) (b := 48 + 3 * k) (by decide) (by decide) (show k < 2 from hk) e1]
  simp (disch := omega) only [hst, a1, p_b, p_G, h46, p_N, p_A, p_F]
  refine ⟨_, rfl, ?_, by rw [p_w_eq], by omega, u3, u4, fun j hj => ?_⟩
  · exact (p_same.mono (S' := fun a => 46 ≤ a ∧ a ≤ 53) a2 (fun a ha => by omega)).w (by omega)
  · show c_G _ (48 + 3 * j) n (if j = k then g else img j)
    by_cases ej : j = k
    · subst ej
      rw [if_pos rfl]
      exact (a3 n g hn hG).keep (S := fun a => a = 46) (p_same.rf.o) (by omega) (by omega) (by omega)
    · rw [if_neg ej]
      exact ((u5 j (by omega)).keep a2 (by omega) (by omega) (by omega)).keep (S := fun a => a = 46) (p_same.rf.o) (by omega) (by omega) (by omega)
theorem c_backP (hP : p_F0 P) {n k : Nat} {img : Nat → q_G} (hU : c_Kp I P n (k + 1) img) (hn : n ≤ 8) :
    ∃ I', f_X0_takeTop 46 14 (p_m I P) = some (nI 1, p_m I' P) ∧ p_same (fun a => a = 46 ∨ a = 14 ∨ a = 15 ∨ a = 16) I I' ∧ c_Kp I' P n k img ∧ c_G I' 14 n (img k) := by
  obtain ⟨e1, e2⟩ := c_kp hU (j := k) (by have := hU.2.1; omega)
  obtain ⟨u1, u2, u3, u4, u5⟩ := hU
  obtain ⟨I1, a1, a2, a3⟩ := c_copy (I := p_w I 46 1 (nI k)) (d := 14) (t := 48 + 3 * k) hP (Or.inl rfl) e2 (by omega)
  have hk : c_G (p_w I 46 1 (nI k)) (48 + 3 * k) n (img k) := (u5 k (by omega)).keep (S := fun a => a = 46) (p_same.rf.o) (by omega) (by omega) (by omega)
  have hsb : nI (k + 1) - nI 1 = nI k := p_sb (by omega)
  unfold f_X0_takeTop z_lt
  simp (disch := omega) only [p_Q hP, p_G, p_F, u1, p_N, p_A, hsb, p_w_eq]
  rw [if_pos (by omega), p_pl (i := k) (b := 48 + 3 * k) (by decide) (by decide) (by show k < 2; omega) e1]
  simp (disch := omega) only [p_C, a1, p_b]
  have hs : p_same (fun a => a = 46 ∨ a = 14 ∨ a = 15 ∨ a = 16) I I1 := (p_same.w (S := fun a => a = 46 ∨ a = 14 ∨ a = 15 ∨ a = 16) p_same.rf (Or.inl rfl)).tr (a2.mono (fun a ha => by omega))
  refine ⟨I1, rfl, hs, ⟨?_, by omega, u3, u4, fun j hj => ?_⟩, a3 n _ hn hk⟩
  · rw [a2 46 (by omega), p_w_eq]
  · exact (u5 j (by omega)).keep hs (by omega) (by omega) (by omega)
theorem c_back0 (hP : p_F0 P) (h : I 46 1 = nI 0) : f_X0_takeTop 46 14 (p_m I P) = some (nI 0, p_m I P) := by
  unfold f_X0_takeTop
  simp (disch := omega) only [p_Q hP, p_G, h, p_N, p_A]
  rfl
end
