/-! THE TEXT: HOW THE REFERENCE READS IT -/
theorem r_ww (I : Nat → Nat → Int32) (a j : Nat) (v v' : Int32) : p_w (p_w I a j v) a j v' = p_w I a j v' := by
  funext b k
  unfold p_w
  by_cases h : b = a ∧ k = j
  · rw [if_pos h, if_pos h]
  · rw [if_neg h, if_neg h, if_neg h]
theorem r_wid {I : Nat → Nat → Int32} {a j : Nat} {v : Int32} (h : I a j = v) : p_w I a j v = I := by
  funext b k
  unfold p_w
  by_cases e : b = a ∧ k = j
  · rw [if_pos e, e.1, e.2, h]
  · rw [if_neg e]
section
variable {I : Nat → Nat → Int32} {P : Nat → Nat → Option Nat} {s d : Nat} {len : Nat} {tx : Nat → Nat} {D : r_D}
theorem r_mT.w (hT : r_mT I len tx) {v : Int32} : r_mT (p_w I 57 9 v) len tx := ⟨by rw [p_w_ne (Or.inr (by omega))]; exact hT.1, fun j hj => by rw [p_w_ne (Or.inl (by omega))]; exact hT.2 j hj⟩
theorem r_mlet (hP : p_F0 P) (ht : r_txt len tx) (hT : r_mT I len tx) {p : Nat} (hp : p ≤ 300) : f_X5_letterAt 57 (nI p) (p_m I P) = some (if p < len then nI (tx p) else -nI 1, p_m I P) := by
  have h200 := ht.1
  unfold f_X5_letterAt
  simp (disch := omega) only [p_G, p_Q hP, hT.1, p_N, p_A]
  by_cases h1 : len ≤ p
  · rw [if_pos h1, if_neg (by omega)]
  · rw [if_neg h1, if_pos (by omega)]
    simp (disch := omega) only [p_L, hT.2 p (by omega)]
theorem r_mfig (ht : r_txt len tx) {p : Nat} (m : z_M) : f_X5_isFigure (if p < len then nI (tx p) else -nI 1) m = some (nI (if r_fg len tx p then 1 else 0), m) := by
  unfold f_X5_isFigure
  by_cases h : r_fg len tx p = true
  · have hb := r_fg_iff.mp h
    rw [if_pos hb.1, if_pos h]
    simp (disch := omega) only [p_N, m_in1, p_b]
    rfl
  · rw [if_neg h]
    have h0 : f_X5_in (if p < len then nI (tx p) else -nI 1) (nI 48) (nI 57) m = some (nI 0, m) := by
      by_cases hl : p < len
      · have hb := ht.2 p hl
        rw [if_pos hl]
        refine m_in0 m ?_ (by omega) (by omega)
        rw [nI_toInt (by omega)]
        unfold q_is
        rw [nI_toInt (by omega)]
        by_cases h48 : tx p < 48
        · right; omega
        · left; intro z; exact h (r_fg_iff.mpr ⟨hl, by omega, by omega⟩)
      · rw [if_neg hl]
        exact m_in0 m (Or.inl (by unfold q_is; rw [show (-nI 1).toInt = -1 by decide]; omega)) (by omega) (by omega)
    simp only [p_N, h0, p_b]
    rfl
theorem r_mnum (hP : p_F0 P) (ht : r_txt len tx) (hT : r_mT I len tx) {p : Nat} (h9 : I 57 9 = nI p) (hp : p ≤ 200) : f_X5_number 57 (p_m I P) = some (if r_nf len tx p = 0 then -nI 1 else nI (r_nv len tx p), p_m (p_w I 57 9 (nI (p + r_nf len tx p))) P) := by
  unfold f_X5_number z_lt
  simp (disch := omega) only [p_G, h9, p_C, r_mlet hP ht hT (show p ≤ 300 by omega), p_b, r_mfig ht]
  unfold r_nf r_nv
  by_cases h1 : r_fg len tx p = true
  · have b1 := r_fg_iff.mp h1
    have hT1 := hT.w (v := nI (p + 1))
    simp (disch := omega) only [h1, if_true, p_N, p_A, p_tf, if_false, b1.1, p_sb, p_F, p_G, p_w_eq, p_C, r_mlet hP ht hT1 (show p + 1 ≤ 300 by omega), p_b, r_mfig ht]
    by_cases h2 : r_fg len tx (p + 1) = true
    · have b2 := r_fg_iff.mp h2
      have n2 : ((2 : Nat) = 0) = False := by simp
      simp (disch := omega) only [h2, if_true, p_A, p_tf, if_false, b2.1, p_G, p_C, p_w_eq, r_mlet hP ht hT1 (show p + 1 ≤ 300 by omega), p_b, pk_mul, p_sb, p_F, r_ww, n2]
      rw [show 10 * (tx p - 48) + tx (p + 1) - 48 = 10 * (tx p - 48) + (tx (p + 1) - 48) by omega]
    · simp (disch := omega) only [h2, Bool.false_eq_true, if_true, p_A, p_tf, if_false]
  · simp (disch := omega) only [h1, Bool.false_eq_true, if_false, p_N, p_A, p_tf, if_true, Nat.add_zero, r_wid h9]
theorem r_msign (hP : p_F0 P) (ht : r_txt len tx) (hT : r_mT I len tx) {p c : Nat} (h9 : I 57 9 = nI p) (hp : p ≤ 300) (hc : c < 200) : (p < len ∧ tx p = c → f_X5_sign 57 (nI c) (p_m I P) = some (nI 1, p_m (p_w I 57 9 (nI (p + 1))) P)) ∧ (¬ (p < len ∧ tx p = c) → f_X5_sign 57 (nI c) (p_m I P) = some (nI 0, p_m (p_w I 57 9 (nI p)) P)) := by
  unfold f_X5_sign f_X5_sign_L17 f_X5_sign_L32 z_lt
  simp (disch := omega) only [p_G, h9, p_C, r_mlet hP ht hT hp, p_b, p_N, p_F, p_A]
  constructor
  · rintro ⟨h1, h2⟩
    rw [if_pos h1, h2, if_pos rfl, if_neg (by decide)]
    rfl
  · intro h
    rw [if_neg, if_pos trivial, Nat.add_zero]
    · rfl
    · by_cases hl : p < len
      · have hb := ht.2 p hl
        rw [if_pos hl]
        intro z
        rw [nI_eq (by omega) (by omega)] at z
        exact h ⟨hl, z⟩
      · rw [if_neg hl]
        intro z
        have := p_A.2.2.2.2.2.1 c (by omega)
        rw [← z] at this
        simp at this
/-- one number of an item, tested, and the sign behind it -/
theorem r_mfld (hP : p_F0 P) (ht : r_txt len tx) (hT : r_mT I len tx) {p hi c : Nat} {zI hI cI : Int32} (hzI : zI = nI 0) (hhI : hI = nI hi) (hcI : cI = nI c) (h9 : I 57 9 = nI p) (hp : p ≤ 200) (hc : c < 200) (hh : hi ≤ 99) :
    (r_cm len tx p c ∧ r_nv len tx p ≤ hi → ∀ K : Int32 → z_M → z_R, (z_b (f_X5_number 57 (p_m I P)) fun x1 m2 => z_b (f_X5_in x1 zI hI m2) fun x3 m4 => if x3 = zI then (some (zI, m4)) else (z_cv m4 57 5 (f_X5_sign 57 cI m4) fun x5 m6 => if x5 = zI then (some (zI, m6)) else K x1 m6)) = K (nI (r_nv len tx p)) (p_m (p_w I 57 9 (nI (r_nx len tx p))) P)) ∧ (¬ (r_cm len tx p c ∧ r_nv len tx p ≤ hi) → ∃ y, ∀ K : Int32 → z_M → z_R, (z_b (f_X5_number 57 (p_m I P)) fun x1 m2 => z_b (f_X5_in x1 zI hI m2) fun x3 m4 => if x3 = zI then (some (zI, m4)) else (z_cv m4 57 5 (f_X5_sign 57 cI m4) fun x5 m6 => if x5 = zI then (some (zI, m6)) else K x1 m6)) = some (zI, p_m (p_w I 57 9 y) P)) := by
  subst hzI hhI hcI
  have hnf := r_nf_le len tx p
  have hnv := r_nv_le len tx p
  have hT1 := hT.w (v := nI (p + r_nf len tx p))
  have hs := r_msign hP ht hT1 (p := p + r_nf len tx p) (c := c) (by rw [p_w_eq]) (by omega) hc
  rw [r_mnum hP ht hT h9 hp]
  unfold r_cm r_nx
  constructor
  · rintro ⟨⟨h1, h2, h3⟩, h4⟩ K
    simp only [p_b]
    rw [if_neg h1, m_in1 _ (by omega) h4 (by omega), p_b, if_neg (by decide)]
    simp (disch := omega) only [p_C]
    rw [hs.1 ⟨h2, h3⟩, p_b, if_neg (by decide), r_ww]
  · intro h
    by_cases h1 : r_nf len tx p = 0
    · refine ⟨nI (p + r_nf len tx p), fun K => ?_⟩
      simp only [p_b]
      rw [if_pos h1, m_in0 _ (Or.inl (by unfold q_is; rw [show (-nI 1).toInt = -1 by decide]; omega)) (by omega) (by omega), p_b, if_pos rfl]
    · by_cases h4 : r_nv len tx p ≤ hi
      · refine ⟨nI (p + r_nf len tx p), fun K => ?_⟩
        simp only [p_b]
        rw [if_neg h1, m_in1 _ (by omega) h4 (by omega), p_b, if_neg (by decide)]
        simp (disch := omega) only [p_C]
        rw [hs.2 (fun z => h ⟨⟨h1, z.1, z.2⟩, h4⟩), p_b, if_pos rfl, r_ww]
      · refine ⟨nI (p + r_nf len tx p), fun K => ?_⟩
        simp only [p_b]
        rw [if_neg h1, m_in0 _ (Or.inl (by unfold q_is; rw [nI_toInt (by omega)]; omega)) (by omega) (by omega), p_b, if_pos rfl]
end
