/-! SUMS AND PRODUCTS -/
def r_su (h : Nat → Nat) : Nat → Nat
  | 0 => 0
  | k + 1 => r_su h k + h k
def r_pr (h : Nat → Nat) : Nat → Nat
  | 0 => 1
  | k + 1 => r_pr h k * h k
theorem r_su_ext {h h' : Nat → Nat} : ∀ {n : Nat}, (∀ i, i < n → h i = h' i) → r_su h n = r_su h' n
  | 0, _ => rfl
  | n + 1, e => by
    show r_su h n + h n = r_su h' n + h' n
    rw [r_su_ext (n := n) (fun i hi => e i (by omega)), e n (by omega)]
theorem r_pr_ext {h h' : Nat → Nat} : ∀ {n : Nat}, (∀ i, i < n → h i = h' i) → r_pr h n = r_pr h' n
  | 0, _ => rfl
  | n + 1, e => by
    show r_pr h n * h n = r_pr h' n * h' n
    rw [r_pr_ext (n := n) (fun i hi => e i (by omega)), e n (by omega)]
theorem r_su_add (h : Nat → Nat) (a : Nat) : ∀ b, r_su h (a + b) = r_su h a + r_su (fun j => h (a + j)) b
  | 0 => rfl
  | b + 1 => by
    show r_su h (a + b) + h (a + b) = r_su h a + (r_su (fun j => h (a + j)) b + h (a + b))
    rw [r_su_add h a b]
    omega
theorem r_su_mul (h : Nat → Nat) (c : Nat) : ∀ n, r_su (fun j => h j * c) n = r_su h n * c
  | 0 => by show 0 = 0 * c; rw [Nat.zero_mul]
  | n + 1 => by
    show r_su (fun j => h j * c) n + h n * c = (r_su h n + h n) * c
    rw [r_su_mul h c n, Nat.add_mul]
theorem r_su_0 : ∀ n, r_su (fun _ => 0) n = 0
  | 0 => rfl
  | n + 1 => by show r_su (fun _ => 0) n + 0 = 0; rw [r_su_0 n]
theorem r_su_2 (h h' : Nat → Nat) : ∀ n, r_su (fun j => h j + h' j) n = r_su h n + r_su h' n
  | 0 => rfl
  | n + 1 => by
    show r_su (fun j => h j + h' j) n + (h n + h' n) = (r_su h n + h n) + (r_su h' n + h' n)
    rw [r_su_2 h h' n]
    omega
theorem r_su_sw (h : Nat → Nat → Nat) (b : Nat) : ∀ a, r_su (fun i => r_su (fun j => h i j) b) a = r_su (fun j => r_su (fun i => h i j) a) b
  | 0 => (r_su_0 b).symm
  | a + 1 => by
    show r_su (fun i => r_su (fun j => h i j) b) a + r_su (fun j => h a j) b = r_su (fun j => r_su (fun i => h i j) a + h a j) b
    rw [r_su_sw h b a, r_su_2]
theorem r_pr_up {h : Nat → Nat} {n : Nat} : ∀ k, (∀ c, n ≤ c → h c = 1) → r_pr h (n + k) = r_pr h n
  | 0, _ => rfl
  | k + 1, e => by
    show r_pr h (n + k) * h (n + k) = _
    rw [r_pr_up k e, e (n + k) (by omega), Nat.mul_one]
theorem r_pr_8 {h : Nat → Nat} {n : Nat} (hn : n ≤ 8) (e : ∀ c, n ≤ c → h c = 1) : r_pr h 8 = r_pr h n := by
  have := r_pr_up (h := h) (n := n) (8 - n) e
  rwa [show n + (8 - n) = 8 by omega] at this
theorem r_pr_le {h : Nat → Nat} {B : Nat} : ∀ n, (∀ c, c < n → h c ≤ B) → r_pr h n ≤ B ^ n
  | 0, _ => Nat.le_refl _
  | n + 1, e => by
    rw [Nat.pow_succ]
    exact Nat.mul_le_mul (r_pr_le n (fun c hc => e c (by omega))) (e n (by omega))
theorem r_pr_pos {h : Nat → Nat} : ∀ n, (∀ c, c < n → 0 < h c) → 0 < r_pr h n
  | 0, _ => by show 0 < 1; omega
  | n + 1, e => Nat.mul_pos (r_pr_pos n (fun c hc => e c (by omega))) (e n (by omega))
/-- 10 for each that p takes -/
theorem r_ten (p : Nat → Bool) : ∀ n, 10 ^ q_ct p n = r_pr (fun c => if p c then 10 else 1) n
  | 0 => rfl
  | n + 1 => by
    show 10 ^ (q_ct p n + (if p n then 1 else 0)) = r_pr (fun c => if p c then 10 else 1) n * (if p n then 10 else 1)
    rw [← r_ten p n]
    cases p n
    · simp
    · simp [Nat.pow_succ]
/-- is the set x within those that w takes -/
def r_ok (w : Nat → Bool) (x : Nat) : Nat → Bool
  | 0 => true
  | k + 1 => r_ok w x k && (!x.testBit k || w k)
theorem r_ok_ext {w : Nat → Bool} {x x' : Nat} : ∀ {n : Nat}, (∀ i, i < n → x.testBit i = x'.testBit i) → r_ok w x n = r_ok w x' n
  | 0, _ => rfl
  | n + 1, e => by
    show (r_ok w x n && (!x.testBit n || w n)) = (r_ok w x' n && (!x'.testBit n || w n))
    rw [r_ok_ext (n := n) (fun i hi => e i (by omega)), e n (by omega)]
theorem r_ok_iff {w : Nat → Bool} {x : Nat} : ∀ {n : Nat}, r_ok w x n = true ↔ ∀ i, i < n → x.testBit i = true → w i = true
  | 0 => ⟨fun _ i hi => by omega, fun _ => rfl⟩
  | n + 1 => by
    show (r_ok w x n && (!x.testBit n || w n)) = true ↔ _
    rw [Bool.and_eq_true, r_ok_iff (n := n)]
    constructor
    · rintro ⟨a, b⟩ i hi hx
      by_cases e : i = n
      · subst e; rw [hx] at b; simpa using b
      · exact a i (by omega) hx
    · intro h
      refine ⟨fun i hi hx => h i (by omega) hx, ?_⟩
      cases hx : x.testBit n
      · rfl
      · rw [h n (by omega) hx]; rfl
/-- a product of sums is the sum over the sets of the products -/
theorem r_dist (w : Nat → Bool) (X : Nat → Bool → Nat) : ∀ n, r_su (fun x => if r_ok w x n then r_pr (fun c => X c (x.testBit c)) n else 0) (2 ^ n) = r_pr (fun c => X c false + (if w c then X c true else 0)) n
  | 0 => rfl
  | n + 1 => by
    rw [Nat.pow_succ, Nat.mul_two, r_su_add]
    have e1 : r_su (fun x => if r_ok w x (n + 1) then r_pr (fun c => X c (x.testBit c)) (n + 1) else 0) (2 ^ n) = r_su (fun x => if r_ok w x n then r_pr (fun c => X c (x.testBit c)) n else 0) (2 ^ n) * X n false := by
      rw [← r_su_mul]
      refine r_su_ext (fun x hx => ?_)
      have hb : x.testBit n = false := Nat.testBit_lt_two_pow hx
      show (if (r_ok w x n && (!x.testBit n || w n)) = true then r_pr (fun c => X c (x.testBit c)) n * X n (x.testBit n) else 0) = _
      rw [hb]
      cases r_ok w x n <;> simp
    have e2 : r_su (fun j => (fun x => if r_ok w x (n + 1) then r_pr (fun c => X c (x.testBit c)) (n + 1) else 0) (2 ^ n + j)) (2 ^ n) = r_su (fun x => if r_ok w x n then r_pr (fun c => X c (x.testBit c)) n else 0) (2 ^ n) * (if w n then X n true else 0) := by
      rw [← r_su_mul]
      refine r_su_ext (fun x hx => ?_)
      have hb : (2 ^ n + x).testBit n = true := by rw [Nat.testBit_two_pow_add_eq, Nat.testBit_lt_two_pow hx]; rfl
      have hl : ∀ i, i < n → (2 ^ n + x).testBit i = x.testBit i := fun i hi => Nat.testBit_two_pow_add_gt hi x
      show (if (r_ok w (2 ^ n + x) n && (!(2 ^ n + x).testBit n || w n)) = true then r_pr (fun c => X c ((2 ^ n + x).testBit c)) n * X n ((2 ^ n + x).testBit n) else 0) = _
      rw [hb, r_ok_ext hl, r_pr_ext (h' := fun c => X c (x.testBit c)) (fun i hi => by rw [hl i hi])]
      cases r_ok w x n <;> cases w n <;> simp
    rw [e1, e2, r_dist w X n, ← Nat.mul_add]
    rfl
def r_at (p : Nat → Bool) : Nat → Bool
  | 0 => true
  | k + 1 => r_at p k && p k
theorem r_at_iff {p : Nat → Bool} : ∀ {n : Nat}, r_at p n = true ↔ ∀ i, i < n → p i = true
  | 0 => ⟨fun _ i hi => by omega, fun _ => rfl⟩
  | n + 1 => by
    show (r_at p n && p n) = true ↔ _
    rw [Bool.and_eq_true, r_at_iff (n := n)]
    constructor
    · rintro ⟨a, b⟩ i hi
      by_cases e : i = n
      · subst e; exact b
      · exact a i (by omega)
    · intro h
      exact ⟨fun i hi => h i (by omega), h n (by omega)⟩
theorem r_pr_at (p : Nat → Bool) (y : Nat → Nat) : ∀ n, r_pr (fun c => if p c then y c else 0) n = if r_at p n then r_pr y n else 0
  | 0 => rfl
  | n + 1 => by
    show r_pr (fun c => if p c then y c else 0) n * (if p n then y n else 0) = if (r_at p n && p n) = true then r_pr y n * y n else 0
    rw [r_pr_at p y n]
    cases r_at p n <;> cases p n <;> simp
theorem r_al_iff {fc : Nat → Nat} : ∀ {n : Nat}, q_al fc n = true ↔ ∀ i, i < n → fc i = fc 0
  | 0 => ⟨fun _ i hi => by omega, fun _ => rfl⟩
  | n + 1 => by
    show (q_al fc n && decide (fc n = fc 0)) = true ↔ _
    rw [Bool.and_eq_true, r_al_iff (n := n), decide_eq_true_eq]
    constructor
    · rintro ⟨a, b⟩ i hi
      by_cases e : i = n
      · subst e; exact b
      · exact a i (by omega)
    · intro h
      exact ⟨fun i hi => h i (by omega), h n (by omega)⟩
/-- over the four facings -/
theorem r_four {fc : Nat → Nat} {n y : Nat} (hn : 1 ≤ n) (h4 : fc 0 < 4) (T : Nat → Bool) (hT : ∀ D, D < 4 → (T D = true ↔ ∀ i, i < n → fc i = D)) : r_su (fun D => if T D then y else 0) 4 = if q_al fc n then y else 0 := by
  have h0 : ∀ D, D < 4 → T D = true → fc 0 = D := fun D hD h => (hT D hD).mp h 0 (by omega)
  by_cases ha : q_al fc n = true
  · have t1 : T (fc 0) = true := (hT _ h4).mpr (r_al_iff.mp ha)
    have t0 : ∀ D, D < 4 → D ≠ fc 0 → T D = false := fun D hD hne => by
      cases h : T D
      · rfl
      · exact absurd (h0 D hD h).symm hne
    rw [ha]
    show (((0 + (if T 0 then y else 0)) + (if T 1 then y else 0)) + (if T 2 then y else 0)) + (if T 3 then y else 0) = y
    rcases (show fc 0 = 0 ∨ fc 0 = 1 ∨ fc 0 = 2 ∨ fc 0 = 3 by omega) with e | e | e | e
    · rw [e] at t1 t0; rw [t1, t0 1 (by omega) (by omega), t0 2 (by omega) (by omega), t0 3 (by omega) (by omega)]; simp
    · rw [e] at t1 t0; rw [t1, t0 0 (by omega) (by omega), t0 2 (by omega) (by omega), t0 3 (by omega) (by omega)]; simp
    · rw [e] at t1 t0; rw [t1, t0 0 (by omega) (by omega), t0 1 (by omega) (by omega), t0 3 (by omega) (by omega)]; simp
    · rw [e] at t1 t0; rw [t1, t0 0 (by omega) (by omega), t0 1 (by omega) (by omega), t0 2 (by omega) (by omega)]; simp
  · have t0 : ∀ D, D < 4 → T D = false := fun D hD => by
      cases h : T D
      · rfl
      · exact absurd (r_al_iff.mpr (fun i hi => by rw [(hT D hD).mp h i hi, h0 D hD h])) ha
    rw [if_neg ha]
    show (((0 + (if T 0 then y else 0)) + (if T 1 then y else 0)) + (if T 2 then y else 0)) + (if T 3 then y else 0) = 0
    rw [t0 0 (by omega), t0 1 (by omega), t0 2 (by omega), t0 3 (by omega)]
    rfl
