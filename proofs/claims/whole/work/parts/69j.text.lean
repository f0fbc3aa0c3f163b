/-! THE TEXT: HOW THE CLASS READS IT -/
section
variable {I : Nat → Nat → Int32} {P : Nat → Nat → Option Nat} {s d : Nat} {len : Nat} {tx : Nat → Nat} {D : r_D}
theorem r_chl (I : Nat → Nat → Int32) (P : Nat → Nat → Option Nat) (i : Nat) (k : Int32 → z_R) (hi : i < 200) : z_cl (p_m I P) 2 (nI i) k = k (I 2 i) := p_ch (by decide) (by decide) hi
/-- reading and writing the squad at 4 or 9 -/
theorem r_dr (hP : p_F0 P) (hd : d = 4 ∨ d = 9) : (∀ (I : Nat → Nat → Int32) (j : Nat) (k : Int32 → z_R), z_gI (p_m I P) d 2 j k = k (I d j)) ∧ (∀ (I : Nat → Nat → Int32) (j : Nat) (v : Int32) (k : z_M → z_R), z_sI (p_m I P) d 2 j v k = k (p_m (p_w I d j v) P)) ∧ (∀ (I : Nat → Nat → Int32) (o : z_R) (k : Int32 → z_M → z_R), z_cv (p_m I P) d 2 o k = z_b o k) ∧ (∀ (I : Nat → Nat → Int32) (k : Nat → z_R), z_gP (p_m I P) d 2 3 k = k (d + 1)) ∧ (∀ (I : Nat → Nat → Int32) (k : Nat → z_R), z_gP (p_m I P) d 2 4 k = k (d + 2)) ∧ (∀ (I : Nat → Nat → Int32) (k : Nat → z_R), z_gP (p_m I P) d 2 5 k = k (d + 3)) ∧ (∀ (I : Nat → Nat → Int32) (k : Nat → z_R), z_gP (p_m I P) d 2 6 k = k (d + 4)) ∧ (∀ (I : Nat → Nat → Int32) (i : Nat) (v : Int32) (k : z_M → z_R), i < 8 → z_as (p_m I P) (d + 1) (nI i) v k = k (p_m (p_w I (d + 1) i v) P)) ∧ (∀ (I : Nat → Nat → Int32) (i : Nat) (v : Int32) (k : z_M → z_R), i < 8 → z_as (p_m I P) (d + 2) (nI i) v k = k (p_m (p_w I (d + 2) i v) P)) ∧ (∀ (I : Nat → Nat → Int32) (i : Nat) (v : Int32) (k : z_M → z_R), i < 8 → z_as (p_m I P) (d + 3) (nI i) v k = k (p_m (p_w I (d + 3) i v) P)) ∧ (∀ (I : Nat → Nat → Int32) (i : Nat) (v : Int32) (k : z_M → z_R), i < 8 → z_as (p_m I P) (d + 4) (nI i) v k = k (p_m (p_w I (d + 4) i v) P)) ∧ (∀ (I : Nat → Nat → Int32) (i : Nat) (k : Int32 → z_R), i < 8 → z_al (p_m I P) (d + 3) (nI i) k = k (I (d + 3) i)) := by
  have hq := p_Q hP
  rcases hd with rfl | rfl
  · exact ⟨fun I j k => p_gI (by decide) (by decide), fun I j v k => p_sI (by decide) (by decide), fun I o k => p_cv (by decide) (by decide), fun I k => by simp only [hq], fun I k => by simp only [hq], fun I k => by simp only [hq], fun I k => by simp only [hq], fun I i v k hi => p_as (by decide) (by decide) hi, fun I i v k hi => p_as (by decide) (by decide) hi, fun I i v k hi => p_as (by decide) (by decide) hi, fun I i v k hi => p_as (by decide) (by decide) hi, fun I i k hi => p_al (by decide) (by decide) hi⟩
  · exact ⟨fun I j k => p_gI (by decide) (by decide), fun I j v k => p_sI (by decide) (by decide), fun I o k => p_cv (by decide) (by decide), fun I k => by simp only [hq], fun I k => by simp only [hq], fun I k => by simp only [hq], fun I k => by simp only [hq], fun I i v k hi => p_as (by decide) (by decide) hi, fun I i v k hi => p_as (by decide) (by decide) hi, fun I i v k hi => p_as (by decide) (by decide) hi, fun I i v k hi => p_as (by decide) (by decide) hi, fun I i k hi => p_al (by decide) (by decide) hi⟩
theorem r_cfig (hP : p_F0 P) (ht : r_txt len tx) (hT : r_cT I len tx) {p : Nat} (hp : p ≤ 300) : f_X1_isFigure 1 (nI p) (p_m I P) = some (nI (if r_fg len tx p then 1 else 0), p_m I P) := by
  have h200 := ht.1
  unfold f_X1_isFigure
  simp (disch := omega) only [p_G, p_Q hP, hT.1, p_N, p_A]
  by_cases h1 : len ≤ p
  · rw [if_pos h1, if_neg (fun z => by have := (r_fg_iff.mp z).1; omega)]
  · rw [if_neg h1]
    have hb := ht.2 p (by omega)
    simp (disch := omega) only [r_chl, hT.2 p (by omega), p_A]
    by_cases h2 : tx p < 48
    · rw [if_pos h2, if_neg (fun z => by have := (r_fg_iff.mp z).2.1; omega)]
    · rw [if_neg h2]
      by_cases h3 : 57 < tx p
      · rw [if_pos h3, if_neg (fun z => by have := (r_fg_iff.mp z).2.2; omega)]
      · rw [if_neg h3, if_pos (r_fg_iff.mpr ⟨by omega, by omega, by omega⟩)]
theorem r_cnum (hP : p_F0 P) (ht : r_txt len tx) (hT : r_cT I len tx) {p k : Nat} (hp : p ≤ 200) (hk : k < 4) : f_X1_readNumber 1 (nI p) (nI k) (p_m I P) = some (nI (r_nf len tx p), p_m (p_w I 3 k (nI (r_nv len tx p))) P) := by
  have h200 := ht.1
  have step : ∀ (f v j : Nat), j < 2 → f_X1_readNumber_L5 (f + 1) 1 (nI p) (nI k) (nI v) (nI j) (p_m I P) = if r_fg len tx (p + j) then f_X1_readNumber_L5 f 1 (nI p) (nI k) (nI (v * 10 + (tx (p + j) - 48))) (nI (j + 1)) (p_m I P) else some (nI j, p_m (p_w I 3 k (nI v)) P) := by
    intro f v j hj
    rw [f_X1_readNumber_L5]
    unfold f_X1_readNumber_L46 z_lt
    simp (disch := omega) only [p_N, p_A, p_C, r_cfig hP ht hT (show p + j ≤ 300 by omega), p_b]
    rw [if_neg (by omega)]
    by_cases h : r_fg len tx (p + j) = true
    · have hb := r_fg_iff.mp h
      simp (disch := omega) only [h, if_true, p_A, p_tf, if_false, p_Q hP, r_chl, hT.2 (p + j) hb.1, p_sb, pk_mul]
    · simp (disch := omega) only [h, Bool.false_eq_true, if_false, p_A, p_tf, if_true, p_Q hP, p_S]
  have last : ∀ (f v : Nat), f_X1_readNumber_L5 (f + 1) 1 (nI p) (nI k) (nI v) (nI 2) (p_m I P) = some (nI 2, p_m (p_w I 3 k (nI v)) P) := by
    intro f v
    rw [f_X1_readNumber_L5]
    unfold f_X1_readNumber_L46
    simp (disch := omega) only [p_N, p_A, Nat.le_refl, if_true, p_Q hP, p_S]
  have e : f_X1_readNumber 1 (nI p) (nI k) (p_m I P) = f_X1_readNumber_L5 (397 + 1 + 1 + 1) 1 (nI p) (nI k) (nI 0) (nI 0) (p_m I P) := rfl
  rw [e, step _ 0 0 (by omega), step _ _ 1 (by omega)]
  simp only [Nat.add_zero]
  unfold r_nf r_nv
  by_cases h1 : r_fg len tx p = true
  · rw [if_pos h1, if_pos h1, if_pos h1]
    by_cases h2 : r_fg len tx (p + 1) = true
    · rw [if_pos h2, if_pos h2, if_pos h2, last]
      rw [show (0 * 10 + (tx p - 48)) * 10 + (tx (p + 1) - 48) = 10 * (tx p - 48) + (tx (p + 1) - 48) by omega]
    · rw [if_neg h2, if_neg h2, if_neg h2]
      rw [show 0 * 10 + (tx p - 48) = tx p - 48 by omega]
  · rw [if_neg h1, if_neg h1, if_neg h1]
theorem r_cT.w (hT : r_cT I len tx) {a j : Nat} {v : Int32} (h1 : a ≠ 1) (h2 : a ≠ 2) : r_cT (p_w I a j v) len tx := ⟨by rw [p_w_ne (Or.inl (by omega))]; exact hT.1, fun j hj => by rw [p_w_ne (Or.inl (by omega))]; exact hT.2 j hj⟩
/-- one number of an item and the sign behind it -/
theorem r_c28 (hP : p_F0 P) (ht : r_txt len tx) (hT : r_cT I len tx) {p k N f : Nat} {c : Int32} (hp : p ≤ 200) (hk : k < N) (hN : N ≤ 4) (mk : Nat) (hmk : mk = if k + 1 = N then 59 else 44) :
    (r_cm len tx p mk → f_X1_readItem_L28 (f + 1) 1 d c (nI N) (nI p) (nI k) (p_m I P) = f_X1_readItem_L28 f 1 d c (nI N) (nI (r_nx len tx p)) (nI (k + 1)) (p_m (p_w I 3 k (nI (r_nv len tx p))) P)) ∧ (¬ r_cm len tx p mk → f_X1_readItem_L28 (f + 1) 1 d c (nI N) (nI p) (nI k) (p_m I P) = some (-nI 1, p_m (p_w I 3 k (nI (r_nv len tx p))) P)) := by
  have h200 := ht.1
  have hnf := r_nf_le len tx p
  have hT' := hT.w (a := 3) (j := k) (v := nI (r_nv len tx p)) (by omega) (by omega)
  have key : f_X1_readItem_L28 (f + 1) 1 d c (nI N) (nI p) (nI k) (p_m I P) = if r_nf len tx p = 0 then some (-nI 1, p_m (p_w I 3 k (nI (r_nv len tx p))) P) else if len ≤ p + r_nf len tx p then some (-nI 1, p_m (p_w I 3 k (nI (r_nv len tx p))) P) else if tx (p + r_nf len tx p) = mk then f_X1_readItem_L28 f 1 d c (nI N) (nI (r_nx len tx p)) (nI (k + 1)) (p_m (p_w I 3 k (nI (r_nv len tx p))) P) else some (-nI 1, p_m (p_w I 3 k (nI (r_nv len tx p))) P) := by
    rw [f_X1_readItem_L28]
    unfold f_X1_readItem_L68 z_lt
    simp (disch := omega) only [p_N, p_A, p_C, r_cnum hP ht hT hp (show k < 4 by omega), p_b, p_sb, p_G, p_Q hP, hT'.1]
    rw [if_neg (by omega)]
    by_cases h0 : r_nf len tx p = 0
    · simp only [h0, if_true]
      split <;> rfl
    · simp only [h0, if_false]
      by_cases h1 : len ≤ p + r_nf len tx p
      · simp only [h1, if_true]
        split <;> rfl
      · simp only [h1, if_false]
        have hb := ht.2 (p + r_nf len tx p) (by omega)
        have hmk2 : mk < 100 := by rw [hmk]; split <;> omega
        simp (disch := omega) only [r_chl, hT'.2 _ (show p + r_nf len tx p < len by omega), p_A]
        by_cases hl : k + 1 = N
        · rw [if_pos (by omega)]
          rw [if_pos hl] at hmk
          subst hmk
          rfl
        · rw [if_neg (by omega)]
          rw [if_neg hl] at hmk
          subst hmk
          rfl
  rw [key]
  unfold r_cm
  constructor
  · rintro ⟨a, b, e⟩
    rw [if_neg a, if_neg (by omega), if_pos e]
  · intro h
    by_cases a : r_nf len tx p = 0
    · rw [if_pos a]
    · rw [if_neg a]
      by_cases b : len ≤ p + r_nf len tx p
      · rw [if_pos b]
      · rw [if_neg b, if_neg (fun e => h ⟨a, by omega, e⟩)]
theorem r_c28e (hP : p_F0 P) (hd : d = 4 ∨ d = 9) {N f : Nat} {c v : Int32} (hN : N ≤ 4) : f_X1_readItem_L28 (f + 1) 1 d c (nI N) v (nI N) (p_m I P) = z_b (f_X2_take d c 3 (p_m I P)) fun x5 m6 => if x5 = nI 0 then (some (-nI 1, m6)) else (some (v, m6)) := by
  rw [f_X1_readItem_L28]
  have hr := r_dr hP hd
  simp (disch := omega) only [p_N, p_A, Nat.le_refl, if_true, p_Q hP, hr]
end
