/-! ALL ALIKE: THE LOOPS -/
theorem r_msk {x W : Nat} (hx : x < 256) : (nI x &&& (nI W ^^^ (-nI 1)) = nI 0) = (∀ i, i < 8 → x.testBit i = true → W.testBit i = true) := by
  apply propext
  rw [← Int32.toBitVec_inj]
  show BitVec.ofNat 32 x &&& (BitVec.ofNat 32 W ^^^ (-(BitVec.ofNat 32 1))) = BitVec.ofNat 32 0 ↔ _
  rw [show -(BitVec.ofNat 32 1) = BitVec.allOnes 32 by decide, BitVec.xor_allOnes]
  constructor
  · intro h i hi hb
    have h2 := congrArg (fun b => b.getLsbD i) h
    have hi32 : i < 32 := by omega
    simp only [BitVec.getLsbD_and, BitVec.getLsbD_not, BitVec.getLsbD_ofNat, hi32, decide_true, Bool.true_and, hb, Nat.zero_testBit] at h2
    simpa using h2
  · intro h
    apply BitVec.eq_of_getLsbD_eq
    intro i hi
    simp only [BitVec.getLsbD_and, BitVec.getLsbD_not, BitVec.getLsbD_ofNat, hi, decide_true, Bool.true_and, Nat.zero_testBit]
    by_cases h8 : i < 8
    · cases hb : x.testBit i
      · rfl
      · rw [h i h8 hb]; rfl
    · rw [Nat.testBit_lt_two_pow (Nat.lt_of_lt_of_le hx (Nat.le_trans (show 256 ≤ 2 ^ 8 by decide) (Nat.pow_le_pow_right (by decide) (by omega))))]
      rfl
section
variable {I : Nat → Nat → Int32} {P : Nat → Nat → Option Nat} {s d : Nat} {pl : Nat → Nat} {A : q_S} {q : q_Q} {g : q_G}
theorem r_cle (h : c_B I P s q g) (hL : ∀ j, j < q.1 → I 54 j = nI (q_ld q g j)) {t D c mn : Nat} (ht : t < 4) (hD : D < 4) (hc : c < q.1) (hm : mn < 3) : ∀ (f i : Nat), i ≤ q.1 → q.1 - i < f → r_le q g t D c mn i = true → f_X4_wouldLedFace_L3 f 0 (nI c) (nI mn) (nI D) (nI t) (nI i) (p_m I P) = some (nI (if r_le q g t D c mn q.1 then 1 else 0), p_m I P) := by
  intro f
  induction f with
  | zero => intro i _ h; omega
  | succ f ih =>
    intro i hi hf ha
    have hx := h.x
    have h8 := h.2.2.1.2.1
    unfold f_X4_wouldLedFace_L3 f_X4_wouldLedFace_L41
    simp (disch := omega) only [c_sq1 h.2.1, c_sqI h.2.1, p_N, hx, p_A]
    by_cases h1 : q.1 ≤ i
    · rw [if_pos h1]
      rw [show i = q.1 by omega] at ha
      rw [ha]
      rfl
    · rw [if_neg h1]
      have hin : i < q.1 := by omega
      have hl := q_ld_lt h.2.2.2.1 h.2.2.1 hin
      have hfl : (g.1 i + q_tb mn t (q_t g.2.2.2.2.1)) % 4 < 4 := Nat.mod_lt _ (by decide)
      have ha' := r_le_iff.mp ha
      simp (disch := omega) only [p_Q h.1, p_L, hL i hin, p_A, p_C, c_facing h hin hm ht, p_b]
      by_cases e : q_ld q g i = c
      · rw [if_pos e]
        by_cases e2 : (g.1 i + q_tb mn t (q_t g.2.2.2.2.1)) % 4 = D
        · rw [if_pos e2]
          exact ih (i + 1) (by omega) (by omega) (r_le_iff.mpr (fun j hj hlj => by
            by_cases ej : j = i
            · subst ej; exact e2
            · exact ha' j (by omega) hlj))
        · rw [if_neg e2]
          have : ¬ r_le q g t D c mn q.1 = true := fun z => e2 (r_le_iff.mp z i hin e)
          rw [if_neg this]
      · rw [if_neg e]
        exact ih (i + 1) (by omega) (by omega) (r_le_iff.mpr (fun j hj hlj => by
          by_cases ej : j = i
          · subst ej; exact absurd hlj e
          · exact ha' j (by omega) hlj))
theorem r_clw (h : c_B I P s q g) (hL : ∀ j, j < q.1 → I 54 j = nI (q_ld q g j)) {t D c : Nat} (ht : t < 4) (hD : D < 4) (hc : c < q.1) : ∀ (f k : Nat), k ≤ 3 → 3 - k < f → f_X4_waysLedFace_L6 f 0 (nI c) (nI D) (nI t) (nI (r_lw q g t D c k)) (nI k) (p_m I P) = some (nI (r_lw q g t D c 3), p_m I P) := by
  intro f
  induction f with
  | zero => intro i _ h; omega
  | succ f ih =>
    intro k hk hf
    have h8 := h.2.2.1.2.1
    unfold f_X4_waysLedFace_L6 f_X4_waysLedFace_L36 z_lt
    simp (disch := omega) only [p_N, p_A]
    by_cases h1 : 3 ≤ k
    · rw [if_pos h1, show k = 3 by omega]
    · rw [if_neg h1]
      have e1 : f_X4_wouldLedFace 0 (nI c) (nI k) (nI D) (nI t) (p_m I P) = some (nI (if r_le q g t D c k q.1 then 1 else 0), p_m I P) := r_cle h hL ht hD hc (show k < 3 by omega) 400 0 (by omega) (by omega) rfl
      have ih1 := ih (k + 1) (by omega) (by omega)
      rw [show r_lw q g t D c (k + 1) = r_lw q g t D c k + (if r_le q g t D c k q.1 then q_ways q c k else 0) from rfl] at ih1
      simp (disch := omega) only [p_C, e1, p_b]
      cases hle : r_le q g t D c k q.1 with
      | false =>
        rw [hle] at ih1
        simpa (disch := omega) only [Bool.false_eq_true, if_false, p_A, p_tf, if_true, Nat.add_zero] using ih1
      | true =>
        rw [hle] at ih1
        simpa (disch := omega) only [if_true, p_A, p_tf, if_false, p_C, c_ways h hc (show k < 3 by omega), p_b] using ih1
theorem r_caw (h : c_B I P s q g) (hL : ∀ j, j < q.1 → I 54 j = nI (q_ld q g j)) {t D : Nat} (ht : t < 4) (hD : D < 4) : ∀ (f k : Nat), k ≤ q.1 → q.1 - k < f → f_X4_waysAllFace_L5 f 0 (nI D) (nI t) (nI (r_aw q g t D k)) (nI k) (p_m I P) = some (nI (r_aw q g t D q.1), p_m I P) := by
  intro f
  induction f with
  | zero => intro i _ h; omega
  | succ f ih =>
    intro k hk hf
    have hx := h.x
    have h8 := h.2.2.1.2.1
    unfold f_X4_waysAllFace_L5 f_X4_waysAllFace_L40 z_lt
    simp (disch := omega) only [c_sq1 h.2.1, c_sqI h.2.1, p_N, hx, p_A]
    by_cases h1 : q.1 ≤ k
    · rw [if_pos h1, show k = q.1 by omega]
    · rw [if_neg h1]
      have hin : k < q.1 := by omega
      have hl := q_ld_lt h.2.2.2.1 h.2.2.1 hin
      have e1 : f_X4_waysLedFace 0 (nI k) (nI D) (nI t) (p_m I P) = some (nI (r_lw q g t D k 3), p_m I P) := r_clw h hL ht hD hin 400 0 (by omega) (by omega)
      have ih1 := ih (k + 1) (by omega) (by omega)
      rw [show r_aw q g t D (k + 1) = r_aw q g t D k * (if q_ld q g k = k then r_lw q g t D k 3 else 1) from rfl] at ih1
      simp (disch := omega) only [p_Q h.1, p_L, hL k hin, p_A, p_C, e1, p_b, pk_mul]
      by_cases e : q_ld q g k = k
      · rw [if_pos e] at ih1 ⊢
        exact ih1
      · rw [if_neg e, Nat.mul_one] at ih1
        rw [if_neg e]
        exact ih1
/-- how many ways there are in all -/
def r_be (q : q_Q) (g : q_G) (k : Nat) : Nat := r_pr (fun c => if r_wh q g c then 10 else 1) k
theorem r_be_le (hq : q_ok q) : r_be q g q.1 ≤ 100000000 ∧ 0 < r_be q g q.1 := by
  have h8 := hq.2.1
  refine ⟨Nat.le_trans (r_pr_le (B := 10) q.1 (fun c hc => by split <;> omega)) (Nat.le_trans (Nat.pow_le_pow_right (by decide) h8) (by decide)), r_pr_pos q.1 (fun c hc => by split <;> omega)⟩
theorem r_c57 (h : c_B I P s q g) (hL : ∀ j, j < q.1 → I 54 j = nI (q_ld q g j)) {a z : Nat} (ha : a < 2147483648) (hz : z < 2) : ∀ (f k : Nat), k ≤ q.1 → q.1 - k < f → f_X4_alike_L57 f 0 (nI z) (nI a) (nI (r_be q g k)) (nI k) (p_m I P) = some (nI ((if z = 0 then a else r_be q g q.1) / Nat.gcd a (r_be q g q.1)), p_m I P) := by
  intro f
  induction f with
  | zero => intro i _ h; omega
  | succ f ih =>
    intro k hk hf
    have hx := h.x
    have h8 := h.2.2.1.2.1
    obtain ⟨b1, b2⟩ := r_be_le (g := g) h.2.2.1
    unfold f_X4_alike_L57 f_X4_alike_L92 z_lt
    simp (disch := omega) only [c_sq1 h.2.1, c_sqI h.2.1, p_N, hx, p_A]
    by_cases h1 : q.1 ≤ k
    · rw [if_pos h1, show k = q.1 by omega, c_part _ ha b2 (by omega) hz]
      rfl
    · rw [if_neg h1]
      have hin : k < q.1 := by omega
      have hl := q_ld_lt h.2.2.2.1 h.2.2.1 hin
      have ih1 := ih (k + 1) (by omega) (by omega)
      rw [show r_be q g (k + 1) = r_be q g k * (if r_wh q g k then 10 else 1) from rfl] at ih1
      simp (disch := omega) only [p_Q h.1, p_L, hL k hin, p_A, p_C, c_toTurn h hin, p_b, pk_mul]
      by_cases e : q_ld q g k = k
      · rw [if_pos e]
        by_cases hc : q_ch q k
        · rw [if_pos hc]
          rw [if_pos (r_wh_iff.mpr ⟨hin, e, hc⟩)] at ih1
          exact ih1
        · rw [if_neg hc]
          rw [if_neg (fun z => hc (r_wh_iff.mp z).2.2)] at ih1
          exact ih1
      · rw [if_neg e]
        rw [if_neg (fun z => e (r_wh_iff.mp z).2.1), Nat.mul_one] at ih1
        exact ih1
theorem r_c25 (h : c_B I P s q g) (hL : ∀ j, j < q.1 → I 54 j = nI (q_ld q g j)) {w z : Nat} (hw : w < 3) (hz : z < 2) : ∀ (f k : Nat), k ≤ 4 → 4 - k < f → f_X4_alike_L25 f 0 (nI w) (nI z) (nI (r_su (fun D => r_aw q g (q_t (w + 1)) D q.1) k)) (nI k) (p_m I P) = some (nI ((if z = 0 then r_su (fun D => r_aw q g (q_t (w + 1)) D q.1) 4 else r_be q g q.1) / Nat.gcd (r_su (fun D => r_aw q g (q_t (w + 1)) D q.1) 4) (r_be q g q.1)), p_m I P) := by
  intro f
  induction f with
  | zero => intro i _ h; omega
  | succ f ih =>
    intro k hk hf
    have h8 := h.2.2.1.2.1
    unfold f_X4_alike_L25 z_lt
    simp (disch := omega) only [p_N, p_A]
    by_cases h1 : 4 ≤ k
    · rw [if_pos h1]
      obtain rfl : k = 4 := by omega
      have hle : r_su (fun D => r_aw q g (q_t (w + 1)) D q.1) 4 ≤ 400000000 := by
        show (((0 + r_aw q g (q_t (w + 1)) 0 q.1) + r_aw q g (q_t (w + 1)) 1 q.1) + r_aw q g (q_t (w + 1)) 2 q.1) + r_aw q g (q_t (w + 1)) 3 q.1 ≤ _
        have a0 := r_aw_le (t := q_t (w + 1)) (D := 0) h.2.2.1 h.2.2.2.1
        have a1 := r_aw_le (t := q_t (w + 1)) (D := 1) h.2.2.1 h.2.2.2.1
        have a2 := r_aw_le (t := q_t (w + 1)) (D := 2) h.2.2.1 h.2.2.2.1
        have a3 := r_aw_le (t := q_t (w + 1)) (D := 3) h.2.2.1 h.2.2.2.1
        omega
      exact r_c57 h hL (by omega) hz 400 0 (by omega) (by omega)
    · rw [if_neg h1]
      have e1 : f_X4_waysAllFace 0 (nI k) (nI (q_t (w + 1))) (p_m I P) = some (nI (r_aw q g (q_t (w + 1)) k q.1), p_m I P) := r_caw h hL (q_t4 _) (show k < 4 by omega) 400 0 (by omega) (by omega)
      simp (disch := omega) only [c_tt hw, p_C, e1, p_b, p_A]
      exact ih (k + 1) (by omega) (by omega)
end
