/-! DRAWS, BITS, MANNERS -/
def q_d (x : Nat) : Nat := x * x % 65521 / 8
theorem q_d_lt (x : Nat) : q_d x < 8191 := by
  unfold q_d
  have : x * x % 65521 < 65521 := Nat.mod_lt _ (by decide)
  omega
theorem p_ML {a b : Nat} (ha : a < 2 ^ 63) (h0 : 0 < b) (hb : b < 2 ^ 63) : z_mL (lN a) (lN b) = lN (a % b) := pk_lRem ha h0 hb
theorem q_sq {x : Nat} (h : x < 1000000000) : x * x < 2 ^ 63 := Nat.lt_of_le_of_lt (Nat.mul_le_mul (Nat.le_of_lt h) (Nat.le_of_lt h)) (by decide)
theorem c_draw {x : Nat} (h : x < 1000000000) (m : z_M) : f_X4_drawOf (lN x) m = some (nI (q_d x), m) := by
  unfold f_X4_drawOf q_d
  have h1 : x * x % 65521 < 65521 := Nat.mod_lt _ (by decide)
  rw [show (65521 : Int64) = lN 65521 from rfl, show (8 : Int64) = lN 8 from rfl, lN_mul, p_ML (q_sq h) (by decide) (by decide), pk_lDiv (by omega) (by decide) (by decide), lN_i]
theorem m_draw {x : Nat} (h : x < 1000000000) (m : z_M) : f_X5_drawOf (lN x) m = some (nI (q_d x), m) := by
  unfold f_X5_drawOf q_d
  have h1 : x * x % 65521 < 65521 := Nat.mod_lt _ (by decide)
  rw [show (65521 : Int64) = lN 65521 from rfl, lN_mul, p_ML (q_sq h) (by decide) (by decide), lN_i, show (8 : Int32) = nI 8 from rfl, p_di (by omega) (by decide) (by decide)]
/-- the number out of which is drawn -/
def q_x (s w a : Nat) : Nat := 7919 * s + 6151 * w + 3571 * a + 1
theorem q_xL {s w a : Nat} (hs : s ≤ 99) (hw : w ≤ 2000) (ha : a < 8) : (((7919 * (nI s).toInt64) + (6151 * (nI w).toInt64)) + (3571 * (nI a).toInt64)) + 1 = lN (q_x s w a) := by
  rw [nI_l (by omega), nI_l (by omega), nI_l (by omega), show (7919 : Int64) = lN 7919 from rfl, show (6151 : Int64) = lN 6151 from rfl, show (3571 : Int64) = lN 3571 from rfl, lN_mul, lN_mul, lN_mul, lN_add, lN_add, lN_1]
  rfl
theorem q_x_lt {s w a : Nat} (hs : s ≤ 99) (hw : w ≤ 2000) (ha : a < 8) : q_x s w a < 1000000000 := by
  unfold q_x
  omega
/-- does a chief err by the draw -/
def q_er (q : q_Q) (w a : Nat) : Bool := decide (q_d (q_x q.2.1 w a) % 10 < q.2.2.2.2 a)
/-- as foreseen -/
def q_ef (q : q_Q) (a : Nat) : Bool := decide (5 ≤ q.2.2.2.2 a)
theorem p_or (a b : Nat) : nI a ||| nI b = nI (a ||| b) := by
  apply Int32.toBitVec_inj.mp
  show BitVec.ofNat 32 a ||| BitVec.ofNat 32 b = BitVec.ofNat 32 (a ||| b)
  exact (BitVec.ofNat_or ..).symm
theorem p_sh : ∀ i, i < 8 → (nI 1) <<< (nI i &&& nI 31) = nI (2 ^ i) := by decide
theorem p_bt : ∀ e, e < 256 → ∀ a, a < 8 → (((nI e >>> (nI a &&& nI 31)) &&& nI 1) = nI (if e.testBit a then 1 else 0)) := by decide +kernel
def q_or (p : Nat → Bool) (e : Nat) : Nat → Nat
  | 0 => e
  | i + 1 => if p i then q_or p e i ||| 2 ^ i else q_or p e i
theorem q_or_lt {p : Nat → Bool} {e n : Nat} (he : e < 2 ^ n) : ∀ i, i ≤ n → q_or p e i < 2 ^ n
  | 0, _ => he
  | i + 1, h => by
    unfold q_or
    have h1 := q_or_lt (p := p) he i (by omega)
    split
    · exact Nat.or_lt_two_pow h1 (Nat.pow_lt_pow_right (by decide) (by omega))
    · exact h1
theorem q_or_bit {p : Nat → Bool} {a : Nat} : ∀ i, (q_or p 0 i).testBit a = (decide (a < i) && p a)
  | 0 => by simp [q_or]
  | i + 1 => by
    have ih := q_or_bit (p := p) (a := a) i
    unfold q_or
    by_cases hp : p i = true
    · rw [if_pos hp, Nat.testBit_or, ih, Nat.testBit_two_pow]
      by_cases h : a = i
      · subst h; simp [hp]
      · have : decide (i = a) = false := by simp; omega
        rw [this, Bool.or_false]
        congr 1
        simp
        omega
    · rw [if_neg hp, ih]
      by_cases h : a = i
      · subst h; simp [hp]
      · congr 1
        simp
        omega
theorem q_or_ext {p p' : Nat → Bool} {e : Nat} : ∀ i, (∀ j, j < i → p j = p' j) → q_or p e i = q_or p' e i
  | 0, _ => rfl
  | i + 1, h => by
    unfold q_or
    rw [h i (by omega), q_or_ext i (fun j hj => h j (by omega))]
/-- the manner of a chief: 0 as told, 1 astray, 2 behind -/
def q_mn (q : q_Q) (a : Nat) (e : Bool) : Nat := if q.2.2.1 a = 3 then 2 else if (q.2.2.1 a = 1 ∨ q.2.2.1 a = 2) ∧ e = true then 1 else 0
theorem q_mn3 (q : q_Q) (a : Nat) (e : Bool) : q_mn q a e < 3 := by unfold q_mn; split <;> (try split) <;> omega
def q_tb (mn t ta : Nat) : Nat := if mn = 2 then ta else if mn = 1 then 4 - t else t
/-- how a man turns at a word -/
def q_tw (q : q_Q) (g : q_G) (w : Nat) (er : Nat → Bool) (i : Nat) : Nat := q_tb (q_mn q (q_ld q g i) (er (q_ld q g i))) (q_t (w + 1)) (q_t g.2.2.2.2.1)
theorem q_tw_lt (q : q_Q) (g : q_G) (w : Nat) (er : Nat → Bool) (i : Nat) : q_tw q g w er i < 4 := by
  have h1 := q_t4 (w + 1)
  have h2 := q_t4 g.2.2.2.2.1
  unfold q_tw q_tb
  split
  · exact h2
  · split
    · have : 0 < q_t (w + 1) := by unfold q_t; split <;> (try split) <;> (try split) <;> omega
      omega
    · exact h1
section
variable {I : Nat → Nat → Int32} {P : Nat → Nat → Option Nat} {s : Nat} {q : q_Q} {g : q_G}
/-- what the class's squad alone gives -/
def c_K (I : Nat → Nat → Int32) (P : Nat → Nat → Option Nat) (s : Nat) (q : q_Q) : Prop := p_F0 P ∧ c_sq P s ∧ q_ok q ∧ c_Q I s q
theorem c_B.k (h : c_B I P s q g) : c_K I P s q := ⟨h.1, h.2.1, h.2.2.1, h.2.2.2.2.1⟩
theorem c_K.keep {S : Nat → Prop} {I' : Nat → Nat → Int32} (h : c_K I P s q) (hs : p_same S I I') (hS : ∀ a, S a → 14 ≤ a) : c_K I' P s q := by
  obtain ⟨h1, h2, h3, h4⟩ := h
  refine ⟨h1, h2, h3, ?_⟩
  rcases h2.1 with rfl | rfl
  · exact h4.keep hs (fun z => by have := hS _ z; omega) (fun z => by have := hS _ z; omega) (fun z => by have := hS _ z; omega) (fun z => by have := hS _ z; omega)
  · exact h4.keep hs (fun z => by have := hS _ z; omega) (fun z => by have := hS _ z; omega) (fun z => by have := hS _ z; omega) (fun z => by have := hS _ z; omega)
theorem c_K.x (h : c_K I P s q) : (I s 0 = nI q.1 ∧ I s 1 = nI q.2.1) ∧ (∀ i, i < q.1 → I (s + 1) i = nI (q.2.2.1 i)) ∧ (∀ i, i < q.1 → I (s + 2) i = nI (q.2.2.2.1 i)) ∧ (∀ i, i < q.1 → I (s + 4) i = nI (q.2.2.2.2 i)) := by
  obtain ⟨-, -, -, a1, a2, a3⟩ := h
  exact ⟨⟨a1, a2⟩, fun i hi => (a3 i hi).1, fun i hi => (a3 i hi).2.1, fun i hi => (a3 i hi).2.2⟩
theorem p_b1 {c : Prop} [Decidable c] {m : z_M} {x y : Int32} : (if c then some (x, m) else some (y, m)) = some (if c then x else y, m) := by split <;> rfl
theorem c_errs (h : c_K I P s q) {a w : Nat} (ha : a < q.1) (hw : w ≤ 2000) : f_X4_errsByDraw 0 (nI a) (nI w) (p_m I P) = some (nI (if q_er q w a then 1 else 0), p_m I P) := by
  have hx := h.x
  have h8 := h.2.2.1.2.1
  have hsd := h.2.2.1.2.2.1
  have he := (h.2.2.1.2.2.2 a ha).2.2
  have hd := q_d_lt (q_x q.2.1 w a)
  unfold f_X4_errsByDraw z_lL
  simp (disch := omega) only [c_sq1 h.2.1, c_sqI h.2.1, c_sqP h.2.1 h.1, c_sqA h.2.1, hx, q_xL]
  rw [c_draw (q_x_lt hsd hw (by omega))]
  simp (disch := omega) only [p_b, c_sq1 h.2.1, c_sqI h.2.1, c_sqP h.2.1 h.1, c_sqA h.2.1, hx, p_N, p_mo, p_A]
  unfold q_er
  by_cases hc : q_d (q_x q.2.1 w a) % 10 < q.2.2.2.2 a
  · rw [if_neg (by omega)]; simp [hc]
  · rw [if_pos (by omega)]; simp [hc]
theorem c_chancy (h : c_K I P s q) {a : Nat} (ha : a < q.1) : f_X4_isChancy 0 (nI a) (p_m I P) = some (nI (if q.2.2.1 a = 1 ∨ q.2.2.1 a = 2 then 1 else 0), p_m I P) := by
  have hx := h.x
  have h8 := h.2.2.1.2.1
  have hk := (h.2.2.1.2.2.2 a ha).1
  unfold f_X4_isChancy f_X4_isChancy_L26
  simp (disch := omega) only [c_sq1 h.2.1, c_sqI h.2.1, c_sqP h.2.1 h.1, c_sqA h.2.1, hx, p_N, p_A]
  by_cases h1 : q.2.2.1 a = 1
  · simp [h1]
  · by_cases h2 : q.2.2.1 a = 2
    · simp [h2]
    · simp [h1, h2]
theorem c_manner (h : c_K I P s q) {a : Nat} (ha : a < q.1) (e : Bool) : f_X4_mannerOf 0 (nI a) (nI (if e then 1 else 0)) (p_m I P) = some (nI (q_mn q a e), p_m I P) := by
  have hx := h.x
  have h8 := h.2.2.1.2.1
  have hk := (h.2.2.1.2.2.2 a ha).1
  unfold f_X4_mannerOf q_mn
  simp (disch := omega) only [c_sq1 h.2.1, c_sqI h.2.1, c_sqP h.2.1 h.1, c_sqA h.2.1, p_C, hx, p_N, p_A, c_chancy h ha, p_b]
  by_cases h3 : q.2.2.1 a = 3
  · simp [h3]
  · rw [if_neg h3, if_neg h3]
    by_cases h1 : q.2.2.1 a = 1 ∨ q.2.2.1 a = 2
    · rw [if_pos h1]
      cases e <;> simp (disch := omega) [p_A, h1]
    · rw [if_neg h1]
      simp (disch := omega) [h1]
theorem c_turnBy {mn t ta : Nat} (h1 : mn < 3) (h2 : t < 4) (m : z_M) : f_X4_turnBy (nI mn) (nI t) (nI ta) m = some (nI (q_tb mn t ta), m) := by
  unfold f_X4_turnBy q_tb
  simp (disch := omega) only [p_N, p_A, p_sb]
  split
  · rfl
  · split <;> rfl
theorem m_turnOf {a : Nat} (ha : a ≤ 3) (m : z_M) : f_X5_turnOf (q_a a) m = some (nI (q_t a), m) := by
  unfold f_X5_turnOf
  rcases (show a = 0 ∨ a = 1 ∨ a = 2 ∨ a = 3 by omega) with rfl | rfl | rfl | rfl <;> rfl
theorem q_aw (w : Nat) : q_a (w + 1) = nI w := by
  unfold q_a
  exact nI_pred w
theorem m_turnW {w : Nat} (hw : w < 3) (m : z_M) : f_X5_turnOf (nI w) m = some (nI (q_t (w + 1)), m) := by
  rw [← q_aw]; exact m_turnOf (by omega) m
theorem m_may (h : m_B I P q g) {a : Nat} (ha : a < q.1) : f_X5_mayErr 57 (nI a) (p_m I P) = some (nI (if q.2.2.1 a = 1 ∨ q.2.2.1 a = 2 then 1 else 0), p_m I P) := by
  have hx := h.x
  have h8 := h.2.1.2.1
  have hk := (h.2.1.2.2.2 a ha).1
  unfold f_X5_mayErr
  simp (disch := omega) only [p_Q h.1, p_L, p_N, p_A, hx]
  by_cases h0 : q.2.2.1 a = 0
  · simp [h0]
  · by_cases h3 : q.2.2.1 a = 3
    · simp [h3]
    · rw [if_neg h0, if_neg h3, if_pos (by omega)]
theorem m_turnBy (h : m_B I P q g) {i w e : Nat} (hi : i < q.1) (hw : w < 3) (he : e < 256) : f_X5_turnBy 57 (nI i) (nI w) (nI e) (p_m I P) = some (nI (q_tw q g w (fun a => e.testBit a) i), p_m I P) := by
  have hx := h.x
  have h8 := h.2.1.2.1
  have hl := q_ld_lt h.2.2.1 h.2.1 hi
  have hk := (h.2.1.2.2.2 _ hl).1
  have hah := h.2.2.1.2.2.2.1
  unfold f_X5_turnBy f_X5_turnBy_L54 f_X5_turnBy_L55 f_X5_turnBy_L70 q_tw q_mn q_tb
  simp (disch := omega) only [p_Q h.1, p_L, p_C, p_N, p_A, p_b, hx, m_as h hi, m_may h hl, m_turnOf hah, m_turnW hw, p_bt e he]
  by_cases h3 : q.2.2.1 (q_ld q g i) = 3
  · rw [if_pos h3, if_pos h3, if_pos rfl]
  · rw [if_neg h3, if_neg h3]
    by_cases h1 : q.2.2.1 (q_ld q g i) = 1 ∨ q.2.2.1 (q_ld q g i) = 2
    · simp only [h1, if_true, true_and]
      by_cases hb : e.testBit (q_ld q g i) = true
      · simp only [hb, if_true]
        have hwr : f_X5_wrongly (nI w) (p_m I P) = some (nI (if w = 2 then 2 else 1 - w), p_m I P) := by
          unfold f_X5_wrongly
          rcases (show w = 0 ∨ w = 1 ∨ w = 2 by omega) with rfl | rfl | rfl <;> rfl
        rw [if_neg (by decide), if_neg (by decide), if_neg (by decide)]
        rw [hwr, p_b, m_turnW (by split <;> omega)]
        rcases (show w = 0 ∨ w = 1 ∨ w = 2 by omega) with rfl | rfl | rfl <;> rfl
      · simp only [hb]
        rfl
    · simp only [h1, false_and, if_false]
      rfl
end
