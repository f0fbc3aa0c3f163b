/-! ROWS OF WORDS, AS FORESEEN -/
theorem r_a_i {a : Nat} (h : a < 1000) : (q_a a).toInt = (a : Int) - 1 := by
  cases a with
  | zero => decide
  | succ k => rw [q_aw, nI_toInt (by omega)]; omega
theorem r_a_le {a b : Nat} (ha : a < 1000) (hb : b < 1000) : (q_a a ≤ q_a b) = (a ≤ b) := by
  apply propext
  rw [Int32.le_iff_toInt_le, r_a_i ha, r_a_i hb]
  omega
theorem r_a_lt {a b : Nat} (ha : a < 1000) (hb : b < 1000) : (q_a a < q_a b) = (a < b) := by
  apply propext
  rw [Int32.lt_iff_toInt_lt, r_a_i ha, r_a_i hb]
  omega
theorem r_a_eq {a b : Nat} (ha : a < 1000) (hb : b < 1000) : (q_a a = q_a b) = (a = b) := by
  apply propext
  rw [← Int32.toInt_inj, r_a_i ha, r_a_i hb]
  omega
theorem r_a0 : -nI 1 = q_a 0 := by decide
theorem r_ap (a : Nat) : nI a + q_a 0 = q_a a := by
  rw [← r_a0]
  unfold q_a
  rw [show (1 : Int32) = nI 1 from rfl, Int32.sub_eq_add_neg]
theorem r_am (a : Nat) : nI a - nI 1 = q_a a := rfl
theorem r_an (a : Nat) : nI a = q_a (a + 1) := (q_aw a).symm
/-- the k-th of n words of the row r -/
def r_rd (n r k : Nat) : Nat := r / 3 ^ (n - 1 - k) % 3
theorem r_rd3 (n r k : Nat) : r_rd n r k < 3 := Nat.mod_lt _ (by decide)
/-- the word ahead of it, as q_t takes it -/
def r_rh (n r a : Nat) : Nat → Nat
  | 0 => a
  | k + 1 => r_rd n r k + 1
def r_st1 (n r a mn k : Nat) : Nat := q_tb mn (q_t (r_rd n r k + 1)) (q_t (r_rh n r a k))
theorem r_st1_le (n r a mn k : Nat) : r_st1 n r a mn k ≤ 4 := by
  have h1 := q_t4 (r_rd n r k + 1)
  have h2 := q_t4 (r_rh n r a k)
  unfold r_st1 q_tb
  split
  · omega
  · split <;> omega
/-- how far the first k words turn one of a manner -/
def r_sm (n r a mn : Nat) : Nat → Nat
  | 0 => 0
  | k + 1 => r_sm n r a mn k + r_st1 n r a mn k
theorem r_sm_le (n r a mn : Nat) : ∀ k, r_sm n r a mn k ≤ 4 * k
  | 0 => Nat.le_refl _
  | k + 1 => by
    have h1 := r_sm_le n r a mn k
    have h2 := r_st1_le n r a mn k
    show r_sm n r a mn k + r_st1 n r a mn k ≤ _
    omega
theorem r_p3 : ∀ n, n ≤ 5 → 3 ^ n ≤ 243 := by decide
/-- the facings behind the row -/
def r_rf (q : q_Q) (g : q_G) (n r i : Nat) : Nat := (g.1 i + r_sm n r g.2.2.2.2.1 (q_mf q g i) n) % 4
def r_ra (q : q_Q) (g : q_G) (n r : Nat) : Bool := q_al (r_rf q g n r) q.1
section
variable {I : Nat → Nat → Int32} {P : Nat → Nat → Option Nat} {s d : Nat} {pl : Nat → Nat} {A : q_S} {q : q_Q} {g : q_G}
theorem c_addL (h : c_B I P s q g) {n r : Nat} (hn : n ≤ 5) (hr : r < 243) : ∀ (f c x0 x1 x2 : Nat), c ≤ n → c < f → x0 + r_sm n r g.2.2.2.2.1 0 c = r_sm n r g.2.2.2.2.1 0 n → x1 + r_sm n r g.2.2.2.2.1 1 c = r_sm n r g.2.2.2.2.1 1 n → x2 + r_sm n r g.2.2.2.2.1 2 c = r_sm n r g.2.2.2.2.1 2 n →
    ∃ I', f_X4_addUpRow_L16 f 0 (nI x0) (nI x1) (nI x2) (nI (r / 3 ^ (n - c))) (q_a c) (p_m I P) = some (nI 0, p_m I' P) ∧ p_same (fun a => a = 56) I I' ∧ ∀ mn, mn < 3 → I' 56 mn = nI (r_sm n r g.2.2.2.2.1 mn n) := by
  intro f
  induction f with
  | zero => intro c x0 x1 x2 _ h; omega
  | succ f ih =>
    intro c x0 x1 x2 hc hf e0 e1 e2
    have hx := h.x
    unfold f_X4_addUpRow_L16 f_X4_addUpRow_L60 z_lt
    cases c with
    | zero =>
      have ec : (q_a 0 < nI 0) = True := eq_true (by decide)
      simp (disch := omega) only [p_N, ec, if_true, p_Q h.1, p_S]
      refine ⟨_, rfl, ((p_same.rf.o).o).o, fun mn hm => ?_⟩
      have z : ∀ m, r_sm n r g.2.2.2.2.1 m 0 = 0 := fun m => rfl
      rw [z, Nat.add_zero] at e0 e1 e2
      rcases (show mn = 0 ∨ mn = 1 ∨ mn = 2 by omega) with rfl | rfl | rfl
      · rw [p_w_ne (Or.inr (by omega)), p_w_ne (Or.inr (by omega)), p_w_eq, e0]
      · rw [p_w_ne (Or.inr (by omega)), p_w_eq, e1]
      · rw [p_w_eq, e2]
    | succ k =>
      have ec : (nI k < nI 0) = False := by rw [p_A.2.2.1 k 0 (by omega) (by omega)]; exact eq_false (by omega)
      have hd : r / 3 ^ (n - (k + 1)) < 2147483648 := Nat.lt_of_le_of_lt (Nat.div_le_self _ _) (by omega)
      have hw : r / 3 ^ (n - (k + 1)) % 3 = r_rd n r k := by unfold r_rd; rw [show n - 1 - k = n - (k + 1) by omega]
      have hd2 : r / 3 ^ (n - (k + 1)) / 3 = r / 3 ^ (n - k) := by
        rw [Nat.div_div_eq_div_mul, ← Nat.pow_succ, show (n - (k + 1)).succ = n - k by omega]
      have t0 := q_t4 (r_rd n r k + 1)
      have K : ∀ ta, ta = q_t (r_rh n r g.2.2.2.2.1 k) → ∃ I', f_X4_addUpRow_L16 f 0 (nI (x0 + q_tb 0 (q_t (r_rd n r k + 1)) ta)) (nI (x1 + q_tb 1 (q_t (r_rd n r k + 1)) ta)) (nI (x2 + q_tb 2 (q_t (r_rd n r k + 1)) ta)) (nI (r / 3 ^ (n - k))) (q_a k) (p_m I P) = some (nI 0, p_m I' P) ∧ p_same (fun a => a = 56) I I' ∧ ∀ mn, mn < 3 → I' 56 mn = nI (r_sm n r g.2.2.2.2.1 mn n) := by
        intro ta hta
        subst hta
        have z : ∀ m, r_sm n r g.2.2.2.2.1 m (k + 1) = r_sm n r g.2.2.2.2.1 m k + q_tb m (q_t (r_rd n r k + 1)) (q_t (r_rh n r g.2.2.2.2.1 k)) := fun m => rfl
        rw [z] at e0 e1 e2
        exact ih k _ _ _ (by omega) (by omega) (by omega) (by omega) (by omega)
      rw [q_aw]
      simp (disch := omega) only [p_N, ec, if_false, p_mo, p_di, hw, c_tt (r_rd3 n r k), hd2, p_A]
      by_cases hk : k = 0
      · subst hk
        simp (disch := omega) only [if_true, p_Q h.1, p_G, hx, c_turnBy (show 0 < 3 by omega) t0, c_turnBy (show 1 < 3 by omega) t0, c_turnBy (show 2 < 3 by omega) t0, p_b, p_A, r_a0, r_ap]
        exact K _ rfl
      · obtain ⟨j, rfl⟩ : ∃ j, k = j + 1 := ⟨k - 1, by omega⟩
        have hw2 : r / 3 ^ (n - (j + 1)) % 3 = r_rd n r j := by unfold r_rd; rw [show n - 1 - j = n - (j + 1) by omega]
        have hd3 : r / 3 ^ (n - (j + 1)) < 2147483648 := Nat.lt_of_le_of_lt (Nat.div_le_self _ _) (by omega)
        simp (disch := omega) only [hk, if_false, p_mo, hw2, c_tt (r_rd3 n r j), c_turnBy (show 0 < 3 by omega) t0, c_turnBy (show 1 < 3 by omega) t0, c_turnBy (show 2 < 3 by omega) t0, p_b, p_A, r_a0, r_ap]
        exact K _ rfl
theorem c_addUp (h : c_B I P s q g) {n r : Nat} (hn : n ≤ 5) (hr : r < 243) : ∃ I', f_X4_addUpRow 0 (nI r) (nI n) (p_m I P) = some (nI 0, p_m I' P) ∧ p_same (fun a => a = 56) I I' ∧ ∀ mn, mn < 3 → I' 56 mn = nI (r_sm n r g.2.2.2.2.1 mn n) := by
  have h1 := c_addL h hn hr 400 n 0 0 0 (by omega) (by omega) (by omega) (by omega) (by omega)
  rw [Nat.sub_self, Nat.pow_zero, Nat.div_one] at h1
  exact h1
theorem c_raL (h : c_B I P s q g) {n r : Nat} (hn : n ≤ 5) (hm : ∀ j, j < q.1 → I 55 j = nI (q_mf q g j)) (hR : ∀ mn, mn < 3 → I 56 mn = nI (r_sm n r g.2.2.2.2.1 mn n)) : ∀ (f i : Nat), 1 ≤ i → i ≤ q.1 → q.1 - i < f → q_al (r_rf q g n r) i = true → f_X4_isRowAlike_L33 f 0 (nI (r_rf q g n r 0)) (nI i) (p_m I P) = some (nI (if r_ra q g n r then 1 else 0), p_m I P) := by
  intro f
  induction f with
  | zero => intro i _ _ h; omega
  | succ f ih =>
    intro i h0 hi hf ha
    have hx := h.x
    have h8 := h.2.2.1.2.1
    unfold f_X4_isRowAlike_L33
    simp (disch := omega) only [c_sq1 h.2.1, c_sqI h.2.1, p_N, hx, p_A]
    by_cases h1 : q.1 ≤ i
    · rw [if_pos h1]
      rw [show i = q.1 by omega] at ha
      unfold r_ra
      rw [ha]
      rfl
    · rw [if_neg h1]
      have hin : i < q.1 := by omega
      have hfc := (h.2.2.2.1.1 i hin).1
      have hsm := r_sm_le n r g.2.2.2.2.1 (q_mf q g i) n
      have hmf : q_mf q g i < 3 := q_mn3 q _ _
      have hf1 : r_rf q g n r i < 4 := Nat.mod_lt _ (by decide)
      have hf0 : r_rf q g n r 0 < 4 := Nat.mod_lt _ (by decide)
      have hs : q_al (r_rf q g n r) (i + 1) = (q_al (r_rf q g n r) i && decide (r_rf q g n r i = r_rf q g n r 0)) := rfl
      have e1 : (g.1 i + r_sm n r g.2.2.2.2.1 (q_mf q g i) n) % 4 = r_rf q g n r i := rfl
      simp (disch := omega) only [p_Q h.1, p_L, hx, hm i hin, hR _ hmf, p_A, p_mo, e1]
      by_cases hc : r_rf q g n r i = r_rf q g n r 0
      · rw [if_pos hc]
        exact ih (i + 1) (by omega) (by omega) (by omega) (by rw [hs, ha]; simp [hc])
      · rw [if_neg hc]
        have : r_ra q g n r = false := by
          cases hq : r_ra q g n r with
          | false => rfl
          | true =>
            have := q_al_mono (i := i + 1) (by omega) hq
            rw [hs] at this
            simp [hc] at this
        rw [this]
        rfl
theorem c_ra (h : c_B I P s q g) {n r : Nat} (hn : n ≤ 5) (hr : r < 243) (hm : ∀ j, j < q.1 → I 55 j = nI (q_mf q g j)) : ∃ I', f_X4_isRowAlike 0 (nI r) (nI n) (p_m I P) = some (nI (if r_ra q g n r then 1 else 0), p_m I' P) ∧ p_same (fun a => a = 56) I I' := by
  obtain ⟨I1, a1, a2, a3⟩ := c_addUp h hn hr
  have hB1 := h.keep (a2.mono (fun a ha => by unfold q_scr; omega))
  have hx := hB1.x
  have h8 := h.2.2.1.2.1
  have h1 := h.2.2.1.1
  have hm1 : ∀ j, j < q.1 → I1 55 j = nI (q_mf q g j) := fun j hj => by rw [a2 55 (by omega)]; exact hm j hj
  obtain ⟨F, hF⟩ : ∃ F : Nat, 400 = F := ⟨_, rfl⟩
  have c1 := c_raL hB1 hn hm1 a3 F 1 (by omega) (by omega) (by omega) (q_al_1 _)
  refine ⟨I1, ?_, a2⟩
  have hfc := (h.2.2.2.1.1 0 (by omega)).1
  have hsm := r_sm_le n r g.2.2.2.2.1 (q_mf q g 0) n
  have hmf : q_mf q g 0 < 3 := q_mn3 q _ _
  have z0 : I1 15 0 = nI (g.1 0) := hx.2.2.2.2.1 0 (by omega)
  unfold f_X4_isRowAlike z_lt
  rw [hF]
  simp (disch := omega) only [p_C, a1, p_b, p_Q h.1, p_N, p_L, z0, hm1 0 (by omega), a3 _ hmf, p_A, p_mo]
  exact c1
end
