/-! THE TEXT: THE CLASS, ITEM BY ITEM -/
section
variable {I : Nat → Nat → Int32} {P : Nat → Nat → Option Nat} {s d : Nat} {len : Nat} {tx : Nat → Nat} {D : r_D}
theorem r_cit_1 (hP : p_F0 P) (hd : d = 4 ∨ d = 9) (ht : r_txt len tx) (hT : r_cT I len tx) {p f : Nat} {c : Int32} (hp : p ≤ 200) :
    (r_cm len tx p 59 → f_X1_readItem_L28 (f + 2) 1 d c (nI 1) (nI p) (nI 0) (p_m I P) = z_b (f_X2_take d c 3 (p_m (p_w I 3 0 (nI (r_nv len tx p))) P)) fun x5 m6 => if x5 = nI 0 then (some (-nI 1, m6)) else (some (nI (r_nx len tx p), m6))) ∧ (¬ r_cm len tx p 59 → f_X1_readItem_L28 (f + 2) 1 d c (nI 1) (nI p) (nI 0) (p_m I P) = some (-nI 1, p_m (p_w I 3 0 (nI (r_nv len tx p))) P)) := by
  have a0 := r_c28 (d := d) (f := f + 1) (c := c) hP ht hT hp (show 0 < 1 by omega) (show 1 ≤ 4 by omega) 59 (by decide)
  exact ⟨fun g => (a0.1 g).trans (r_c28e hP hd (show 1 ≤ 4 by omega)), a0.2⟩
theorem r_citem (hP : p_F0 P) (hd : d = 4 ∨ d = 9) (ht : r_txt len tx) (hT : r_cT I len tx) (hD : r_cD I d D) (hok : r_Dok D) {a : Nat} (ha : a < len) :
    (∀ p' D', r_is len tx D a p' D' → ∃ I', f_X1_readItem 1 (nI a) d (p_m I P) = some (nI p', p_m I' P) ∧ p_same (fun x => x = 3 ∨ (d ≤ x ∧ x ≤ d + 4)) I I' ∧ r_cD I' d D') ∧ (r_no len tx D a → ∃ I', f_X1_readItem 1 (nI a) d (p_m I P) = some (-nI 1, p_m I' P) ∧ p_same (fun x => x = 3 ∨ (d ≤ x ∧ x ≤ d + 4)) I I') := by
  have h200 := ht.1
  have hb := ht.2 a ha
  have hr := r_dr hP hd
  have base : f_X1_readItem 1 (nI a) d (p_m I P) = if tx a = 109 then f_X1_readItem_L28 400 1 d (nI 109) (nI 4) (nI (a + 1)) (nI 0) (p_m I P) else if tx a = 122 ∨ tx a = 101 then f_X1_readItem_L28 400 1 d (nI (tx a)) (nI 1) (nI (a + 1)) (nI 0) (p_m I P) else some (-nI 1, p_m I P) := by
    obtain ⟨F, hF⟩ : ∃ F : Nat, 400 = F := ⟨_, rfl⟩
    unfold f_X1_readItem f_X1_numbersBehind f_X1_numbersBehind_L20 z_lt
    rw [hF]
    simp (disch := omega) only [p_Q hP, r_chl, hT.2 a ha, p_N, p_A]
    by_cases h1 : tx a = 109
    · rw [if_pos h1, if_pos h1, p_b, if_neg (by decide), h1]
    · rw [if_neg h1, if_neg h1]
      by_cases h2 : tx a = 122
      · rw [if_pos h2, if_pos (Or.inl h2), p_b, if_neg (by decide)]
      · rw [if_neg h2]
        by_cases h3 : tx a = 101
        · rw [if_pos h3, if_pos (Or.inr h3), p_b, if_neg (by decide)]
        · rw [if_neg h3, if_neg (by omega), p_b, if_pos (by decide)]
  have hs0 : ∀ v, p_same (fun x => x = 3 ∨ (d ≤ x ∧ x ≤ d + 4)) I (p_w I 3 0 v) := fun v => p_same.rf.w (Or.inl rfl)
  rw [base]
  constructor
  · intro p' D' h
    rcases h with ⟨h1, g, rfl, rfl⟩ | ⟨h1, g, rfl, rfl⟩ | ⟨h1, ⟨g, gv⟩, rfl, rfl⟩
    · rw [if_pos h1]
      exact (r_cit_m (f := 395) hP hd ht hT hD hok (show a + 1 ≤ 200 by omega) rfl rfl rfl).1 g
    · rw [if_neg (by omega), if_pos (Or.inl h1), h1, (r_cit_1 (f := 398) hP hd ht hT (show a + 1 ≤ 200 by omega)).1 g]
      unfold f_X2_take
      have n1 : (122 = 109) = False := by simp
      simp (disch := omega) only [p_N, p_A, n1, if_false, if_true, p_L, p_w_eq, hr, p_b]
      obtain ⟨⟨q1, q2, q3⟩, q4, q5⟩ := hD.w hd (j := 0) (v := nI (r_nv len tx (a + 1)))
      refine ⟨_, rfl, (hs0 _).tr (p_same.rf.w (Or.inr (by omega))), ⟨?_, ?_, fun i hi => ?_⟩, ?_, fun i hi => ?_⟩
      · rw [p_w_ne (Or.inr (by omega))]; exact q1
      · rw [p_w_eq]; rfl
      · exact ⟨(p_w_ne (Or.inl (by omega))).trans (q3 i hi).1, (p_w_ne (Or.inl (by omega))).trans (q3 i hi).2.1, (p_w_ne (Or.inl (by omega))).trans (q3 i hi).2.2⟩
      · rw [p_w_ne (Or.inr (by omega))]; exact q4
      · rw [p_w_ne (Or.inl (by omega))]; exact q5 i hi
    · rw [if_neg (by omega), if_pos (Or.inr h1), h1, (r_cit_1 (f := 398) hP hd ht hT (show a + 1 ≤ 200 by omega)).1 g]
      unfold f_X2_take
      have n1 : (101 = 109) = False := by simp
      have n2 : (101 = 122) = False := by simp
      have n3 : (r_nv len tx (a + 1) ≤ 1) = True := eq_true gv
      simp (disch := omega) only [p_N, p_A, n1, n2, n3, if_false, if_true, p_L, p_w_eq, hr, p_b]
      obtain ⟨⟨q1, q2, q3⟩, q4, q5⟩ := hD.w hd (j := 0) (v := nI (r_nv len tx (a + 1)))
      refine ⟨_, rfl, (hs0 _).tr (p_same.rf.w (Or.inr (by omega))), ⟨?_, ?_, fun i hi => ?_⟩, ?_, fun i hi => ?_⟩
      · rw [p_w_ne (Or.inr (by omega))]; exact q1
      · rw [p_w_ne (Or.inr (by omega))]; exact q2
      · exact ⟨(p_w_ne (Or.inl (by omega))).trans (q3 i hi).1, (p_w_ne (Or.inl (by omega))).trans (q3 i hi).2.1, (p_w_ne (Or.inl (by omega))).trans (q3 i hi).2.2⟩
      · rw [p_w_eq]; rfl
      · rw [p_w_ne (Or.inl (by omega))]; exact q5 i hi
  · intro h
    rcases h with ⟨h1, g⟩ | ⟨h1, g⟩ | ⟨h1, g⟩ | ⟨h1, h2, h3⟩
    · rw [if_pos h1]
      exact (r_cit_m (f := 395) hP hd ht hT hD hok (show a + 1 ≤ 200 by omega) rfl rfl rfl).2 g
    · rw [if_neg (by omega), if_pos (Or.inl h1), (r_cit_1 (f := 398) hP hd ht hT (show a + 1 ≤ 200 by omega)).2 g]
      exact ⟨_, rfl, hs0 _⟩
    · rw [if_neg (by omega), if_pos (Or.inr h1), h1]
      by_cases g1 : r_cm len tx (a + 1) 59
      · rw [(r_cit_1 (f := 398) hP hd ht hT (show a + 1 ≤ 200 by omega)).1 g1]
        have hv := r_nv_le len tx (a + 1)
        unfold f_X2_take
        have n1 : (101 = 109) = False := by simp
        have n2 : (101 = 122) = False := by simp
        have n3 : (r_nv len tx (a + 1) ≤ 1) = False := eq_false (fun z => g ⟨g1, z⟩)
        simp (disch := omega) only [p_N, p_A, n1, n2, n3, if_false, if_true, p_L, p_w_eq, p_b]
        exact ⟨_, rfl, hs0 _⟩
      · rw [(r_cit_1 (f := 398) hP hd ht hT (show a + 1 ≤ 200 by omega)).2 g1]
        exact ⟨_, rfl, hs0 _⟩
    · rw [if_neg h1, if_neg (by omega)]
      exact ⟨_, rfl, p_same.rf⟩
theorem r_cT.keep {I' : Nat → Nat → Int32} {S : Nat → Prop} (hT : r_cT I len tx) (hs : p_same S I I') (h1 : ¬ S 1) (h2 : ¬ S 2) : r_cT I' len tx := by
  unfold r_cT
  rw [hs 1 h1, hs 2 h2]
  exact hT
/-- what comes of reading from a place on: none of those left is at fault, or the first that is -/
def r_end (len : Nat) (tx : Nat → Nat) : Nat → Nat → r_D → Nat → r_D → Prop
  | 0, a, D, y, D' => len ≤ a ∧ y = 999 ∧ D' = D
  | k + 1, a, D, y, D' => (len ≤ a ∧ y = 999 ∧ D' = D) ∨ (a < len ∧ r_no len tx D a ∧ y = a) ∨ (a < len ∧ ∃ p' D1, r_is len tx D a p' D1 ∧ r_end len tx k p' D1 y D')
theorem r_end_ex {len : Nat} {tx : Nat → Nat} : ∀ (k a : Nat) (D : r_D), r_Dok D → len ≤ a + k → ∃ y D', r_end len tx k a D y D' ∧ (y = 999 ∨ y < len) ∧ (y = 999 → r_Dok D')
  | 0, a, D, hD, h => ⟨999, D, ⟨by omega, rfl, rfl⟩, Or.inl rfl, fun _ => hD⟩
  | k + 1, a, D, hD, h => by
    by_cases ha : len ≤ a
    · exact ⟨999, D, Or.inl ⟨ha, rfl, rfl⟩, Or.inl rfl, fun _ => hD⟩
    · rcases r_em len tx D a with ⟨p', D1, hi⟩ | hn
      · obtain ⟨o1, o2, o3⟩ := r_is_ok hD hi
        obtain ⟨y, D', e1, e2, e3⟩ := r_end_ex (len := len) (tx := tx) k p' D1 o1 (by omega)
        exact ⟨y, D', Or.inr (Or.inr ⟨by omega, p', D1, hi, e1⟩), e2, e3⟩
      · exact ⟨a, D, Or.inr (Or.inl ⟨by omega, hn, rfl⟩), Or.inr (by omega), fun _ => hD⟩
def r_y (y : Nat) : Int32 := if y = 999 then -nI 4 else nI y
theorem r_cint (hP : p_F0 P) (hd : d = 4 ∨ d = 9) (ht : r_txt len tx) : ∀ (k f a c : Nat) (I : Nat → Nat → Int32) (D : r_D) (y : Nat) (D' : r_D), r_cT I len tx → r_cD I d D → r_Dok D → c ≤ a → a ≤ 200 → k < f → r_end len tx k a D y D' →
    ∃ I', f_X1_readInto_L8 f 1 d (nI a) (nI c) (p_m I P) = some (r_y y, p_m I' P) ∧ p_same (fun x => x = 3 ∨ (d ≤ x ∧ x ≤ d + 4)) I I' ∧ (y = 999 → r_cD I' d D') := by
  have h200 := ht.1
  have stop : ∀ (f a c : Nat) (I : Nat → Nat → Int32), r_cT I len tx → len ≤ a → c ≤ a → a ≤ 200 → f_X1_readInto_L8 (f + 1) 1 d (nI a) (nI c) (p_m I P) = some (-nI 4, p_m I P) := by
    intro f a c I hT ha hc ha3
    rw [f_X1_readInto_L8]
    simp (disch := omega) only [p_N, p_A, p_G, hT.1]
    rw [if_pos ha]
    split <;> rfl
  intro k
  induction k with
  | zero =>
    intro f a c I D y D' hT hD hok hc ha hf h
    obtain ⟨f, rfl⟩ : ∃ f', f = f' + 1 := ⟨f - 1, by omega⟩
    obtain ⟨h1, rfl, rfl⟩ := h
    exact ⟨I, stop f a c I hT h1 hc ha, p_same.rf, fun _ => hD⟩
  | succ k ih =>
    intro f a c I D y D' hT hD hok hc ha hf h
    obtain ⟨f, rfl⟩ : ∃ f', f = f' + 1 := ⟨f - 1, by omega⟩
    rcases h with ⟨h1, rfl, rfl⟩ | ⟨h1, h2, rfl⟩ | ⟨h1, p', D1, h2, h3⟩
    · exact ⟨I, stop f a c I hT h1 hc ha, p_same.rf, fun _ => hD⟩
    · obtain ⟨I1, a1, a2⟩ := (r_citem hP hd ht hT hD hok h1).2 h2
      refine ⟨I1, ?_, a2, fun z => by omega⟩
      have e : r_y y = nI y := if_neg (by omega)
      rw [f_X1_readInto_L8, e]
      simp (disch := omega) only [p_N, p_A, p_G, hT.1]
      rw [if_neg (by omega), if_neg (by omega)]
      simp (disch := omega) only [p_C, a1, p_b, if_true]
    · obtain ⟨I1, a1, a2, a3⟩ := (r_citem hP hd ht hT hD hok h1).1 p' D1 h2
      obtain ⟨o1, o2, o3⟩ := r_is_ok hok h2
      obtain ⟨I2, b1, b2, b3⟩ := ih f p' (c + 1) I1 D1 y D' (hT.keep a2 (by omega) (by omega)) a3 o1 (by omega) (by omega) (by omega) h3
      refine ⟨I2, ?_, a2.tr b2, b3⟩
      have ne : (nI p' = -nI 1) = False := p_A.2.2.2.2.2.1 p' (by omega)
      rw [f_X1_readInto_L8]
      simp (disch := omega) only [p_N, p_A, p_G, hT.1]
      rw [if_neg (by omega), if_neg (by omega)]
      simp (disch := omega) only [p_C, a1, p_b, ne, if_false]
      exact b1
/-- a squad that nothing is told of yet -/
def r_D0 : r_D := ((0, 0, fun _ => 0, fun _ => 0, fun _ => 0), 0, fun _ => 0)
theorem r_D0_ok : r_Dok r_D0 := ⟨by decide, by decide, fun i hi => absurd hi (Nat.not_lt_zero i), by decide⟩
theorem r_cread (hP : p_F0 P) (hd : d = 4 ∨ d = 9) (ht : r_txt len tx) (hT : r_cT I len tx) {y : Nat} {D' : r_D} (h : r_end len tx 200 0 r_D0 y D') :
    ∃ I', f_X1_readInto 1 d (p_m I P) = some (r_y y, p_m I' P) ∧ p_same (fun x => x = 3 ∨ (d ≤ x ∧ x ≤ d + 4)) I I' ∧ (y = 999 → r_cD I' d D') := by
  have hr := r_dr hP hd
  obtain ⟨F, hF, hF2⟩ : ∃ F : Nat, 400 = F ∧ 200 < F := ⟨_, rfl, by omega⟩
  have hs : p_same (fun x => x = 3 ∨ (d ≤ x ∧ x ≤ d + 4)) I (p_w (p_w (p_w I d 0 (nI 0)) d 1 (nI 0)) d 2 (nI 0)) := ((p_same.rf.w (Or.inr (by omega))).w (Or.inr (by omega))).w (Or.inr (by omega))
  obtain ⟨I', a1, a2, a3⟩ := r_cint hP hd ht 200 F 0 0 (p_w (p_w (p_w I d 0 (nI 0)) d 1 (nI 0)) d 2 (nI 0)) r_D0 y D' (hT.keep hs (by omega) (by omega)) ⟨⟨by rw [p_w_ne (Or.inr (by omega)), p_w_ne (Or.inr (by omega)), p_w_eq]; rfl, by rw [p_w_ne (Or.inr (by omega)), p_w_eq]; rfl, fun i hi => absurd hi (Nat.not_lt_zero i)⟩, by rw [p_w_eq]; rfl, fun i hi => absurd hi (Nat.not_lt_zero i)⟩ r_D0_ok (by omega) (by omega) hF2 h
  refine ⟨I', ?_, hs.tr a2, a3⟩
  unfold f_X1_readInto f_X2_clear
  rw [hF]
  simp (disch := omega) only [hr, p_N, p_b]
  exact a1
end
