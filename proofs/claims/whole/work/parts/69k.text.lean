/-! THE TEXT: WHAT THE CLASS TAKES OF IT -/
section
variable {I : Nat → Nat → Int32} {P : Nat → Nat → Option Nat} {s d : Nat} {len : Nat} {tx : Nat → Nat} {D : r_D}
theorem r_cman (hP : p_F0 P) (hd : d = 4 ∨ d = 9) (hD : r_cD I d D) (hok : r_Dok D) {a b c e : Nat} (ha : a ≤ 99) (hb : b ≤ 99) (hc : c ≤ 99) (he : e ≤ 99) :
    ((a ≤ 3 ∧ b ≤ 3 ∧ c ≤ 7 ∧ e ≤ 10 ∧ D.1.1 < 8) → ∃ I', f_X2_takeMan d (nI a) (nI b) (nI c) (nI e) (p_m I P) = some (nI 1, p_m I' P) ∧ p_same (fun x => d ≤ x ∧ x ≤ d + 4) I I' ∧ r_cD I' d (r_ad D a b c e)) ∧ (¬ (a ≤ 3 ∧ b ≤ 3 ∧ c ≤ 7 ∧ e ≤ 10 ∧ D.1.1 < 8) → f_X2_takeMan d (nI a) (nI b) (nI c) (nI e) (p_m I P) = some (nI 0, p_m I P)) := by
  have hr := r_dr hP hd
  have h8 := hok.1
  obtain ⟨⟨q1, q2, q3⟩, q4, q5⟩ := hD
  unfold f_X2_takeMan z_lt
  simp (disch := omega) only [hr, q1, p_N, p_A]
  constructor
  · rintro ⟨h1, h2, h3, h4, h5⟩
    rw [if_neg (by omega), if_neg (by omega), if_neg (by omega), if_neg (by omega), if_pos h4]
    simp (disch := omega) only [hr, q1, p_w_ne, p_A]
    refine ⟨_, rfl, ((((p_same.rf.w (by omega)).w (by omega)).w (by omega)).w (by omega)).w (by omega), ⟨?_, ?_, fun i hi => ⟨?_, ?_, ?_⟩⟩, ?_, fun i hi => ?_⟩
    · rw [p_w_eq]; rfl
    · simp (disch := omega) only [p_w_ne]; exact q2
    · have hi : i < D.1.1 + 1 := hi
      show _ = nI (if i = D.1.1 then a else D.1.2.2.1 i)
      rw [p_w_ne (Or.inl (by omega)), p_w_ne (Or.inl (by omega)), p_w_ne (Or.inl (by omega)), p_w_ne (Or.inl (by omega))]
      by_cases ei : i = D.1.1
      · rw [if_pos ei, ei, p_w_eq]
      · rw [if_neg ei, p_w_ne (Or.inr ei)]; exact (q3 i (by omega)).1
    · have hi : i < D.1.1 + 1 := hi
      show _ = nI (if i = D.1.1 then b else D.1.2.2.2.1 i)
      rw [p_w_ne (Or.inl (by omega)), p_w_ne (Or.inl (by omega)), p_w_ne (Or.inl (by omega))]
      by_cases ei : i = D.1.1
      · rw [if_pos ei, ei, p_w_eq]
      · rw [if_neg ei, p_w_ne (Or.inr ei), p_w_ne (Or.inl (by omega))]; exact (q3 i (by omega)).2.1
    · have hi : i < D.1.1 + 1 := hi
      show _ = nI (if i = D.1.1 then e else D.1.2.2.2.2 i)
      rw [p_w_ne (Or.inl (by omega))]
      by_cases ei : i = D.1.1
      · rw [if_pos ei, ei, p_w_eq]
      · rw [if_neg ei, p_w_ne (Or.inr ei), p_w_ne (Or.inl (by omega)), p_w_ne (Or.inl (by omega)), p_w_ne (Or.inl (by omega))]; exact (q3 i (by omega)).2.2
    · simp (disch := omega) only [p_w_ne]; exact q4
    · have hi : i < D.1.1 + 1 := hi
      show _ = nI (if i = D.1.1 then c else D.2.2 i)
      rw [p_w_ne (Or.inl (by omega)), p_w_ne (Or.inl (by omega))]
      by_cases ei : i = D.1.1
      · rw [if_pos ei, ei, p_w_eq]
      · rw [if_neg ei, p_w_ne (Or.inr ei), p_w_ne (Or.inl (by omega)), p_w_ne (Or.inl (by omega))]; exact q5 i (by omega)
  · intro h
    by_cases h1 : 8 ≤ D.1.1
    · rw [if_pos h1]
    · rw [if_neg h1]
      by_cases h2 : 3 < a
      · rw [if_pos h2]
      · rw [if_neg h2]
        by_cases h3 : 4 ≤ b
        · rw [if_pos h3]
        · rw [if_neg h3]
          by_cases h4 : 8 ≤ c
          · rw [if_pos h4]
          · rw [if_neg h4, if_neg (by omega)]
theorem r_cD.w (h : r_cD I d D) (hd : d = 4 ∨ d = 9) {j : Nat} {v : Int32} : r_cD (p_w I 3 j v) d D := by
  obtain ⟨q1, q4, q5⟩ := h
  have hs : p_same (fun x => x = 3) I (p_w I 3 j v) := p_same.rf.o
  exact ⟨q1.keep hs (by omega) (by omega) (by omega) (by omega), by rw [hs d (by omega)]; exact q4, fun i hi => by rw [hs (d + 3) (by omega)]; exact q5 i hi⟩
theorem r_cit_m (hP : p_F0 P) (hd : d = 4 ∨ d = 9) (ht : r_txt len tx) (hT : r_cT I len tx) (hD : r_cD I d D) (hok : r_Dok D) {p0 p1 p2 p3 f : Nat} (hp0 : p0 ≤ 200) (e1 : p1 = r_nx len tx p0) (e2 : p2 = r_nx len tx p1) (e3 : p3 = r_nx len tx p2) :
    (r_gm len tx D p0 p1 p2 p3 → ∃ I', f_X1_readItem_L28 (f + 5) 1 d (nI 109) (nI 4) (nI p0) (nI 0) (p_m I P) = some (nI (r_nx len tx p3), p_m I' P) ∧ p_same (fun x => x = 3 ∨ (d ≤ x ∧ x ≤ d + 4)) I I' ∧ r_cD I' d (r_ad D (r_nv len tx p0) (r_nv len tx p1) (r_nv len tx p2) (r_nv len tx p3))) ∧ (¬ r_gm len tx D p0 p1 p2 p3 → ∃ I', f_X1_readItem_L28 (f + 5) 1 d (nI 109) (nI 4) (nI p0) (nI 0) (p_m I P) = some (-nI 1, p_m I' P) ∧ p_same (fun x => x = 3 ∨ (d ≤ x ∧ x ≤ d + 4)) I I') := by
  have h200 := ht.1
  have s3 : ∀ (J : Nat → Nat → Int32) (k : Nat) (v : Int32), p_same (fun x => x = 3 ∨ (d ≤ x ∧ x ≤ d + 4)) I J → p_same (fun x => x = 3 ∨ (d ≤ x ∧ x ≤ d + 4)) I (p_w J 3 k v) := fun J k v h => h.w (Or.inl rfl)
  have key : (r_cm len tx p0 44 ∧ r_cm len tx p1 44 ∧ r_cm len tx p2 44 ∧ r_cm len tx p3 59 ∧ f_X1_readItem_L28 (f + 5) 1 d (nI 109) (nI 4) (nI p0) (nI 0) (p_m I P) = f_X1_readItem_L28 (f + 1) 1 d (nI 109) (nI 4) (nI (r_nx len tx p3)) (nI 4) (p_m (p_w (p_w (p_w (p_w I 3 0 (nI (r_nv len tx p0))) 3 1 (nI (r_nv len tx p1))) 3 2 (nI (r_nv len tx p2))) 3 3 (nI (r_nv len tx p3))) P)) ∨ (¬ (r_cm len tx p0 44 ∧ r_cm len tx p1 44 ∧ r_cm len tx p2 44 ∧ r_cm len tx p3 59) ∧ ∃ I', f_X1_readItem_L28 (f + 5) 1 d (nI 109) (nI 4) (nI p0) (nI 0) (p_m I P) = some (-nI 1, p_m I' P) ∧ p_same (fun x => x = 3 ∨ (d ≤ x ∧ x ≤ d + 4)) I I') := by
    have a0 := r_c28 (d := d) (f := f + 4) (c := nI 109) hP ht hT hp0 (show 0 < 4 by omega) (show 4 ≤ 4 by omega) 44 (by decide)
    by_cases g0 : r_cm len tx p0 44
    · have hp1 : p1 ≤ 200 := by have := r_nx_lt g0; omega
      have b0 := a0.1 g0
      rw [← e1] at b0
      have hT1 := hT.w (a := 3) (j := 0) (v := nI (r_nv len tx p0)) (by omega) (by omega)
      have a1 := r_c28 (d := d) (f := f + 3) (c := nI 109) hP ht hT1 hp1 (show 1 < 4 by omega) (show 4 ≤ 4 by omega) 44 (by decide)
      by_cases g1 : r_cm len tx p1 44
      · have hp2 : p2 ≤ 200 := by have := r_nx_lt g1; omega
        have b1 := a1.1 g1
        rw [← e2] at b1
        have hT2 := hT1.w (a := 3) (j := 1) (v := nI (r_nv len tx p1)) (by omega) (by omega)
        have a2 := r_c28 (d := d) (f := f + 2) (c := nI 109) hP ht hT2 hp2 (show 2 < 4 by omega) (show 4 ≤ 4 by omega) 44 (by decide)
        by_cases g2 : r_cm len tx p2 44
        · have hp3 : p3 ≤ 200 := by have := r_nx_lt g2; omega
          have b2 := a2.1 g2
          rw [← e3] at b2
          have hT3 := hT2.w (a := 3) (j := 2) (v := nI (r_nv len tx p2)) (by omega) (by omega)
          have a3 := r_c28 (d := d) (f := f + 1) (c := nI 109) hP ht hT3 hp3 (show 3 < 4 by omega) (show 4 ≤ 4 by omega) 59 (by decide)
          by_cases g3 : r_cm len tx p3 59
          · exact Or.inl ⟨g0, g1, g2, g3, b0.trans (b1.trans (b2.trans (a3.1 g3)))⟩
          · exact Or.inr ⟨fun z => g3 z.2.2.2, _, b0.trans (b1.trans (b2.trans (a3.2 g3))), s3 _ _ _ (s3 _ _ _ (s3 _ _ _ (s3 _ _ _ p_same.rf)))⟩
        · exact Or.inr ⟨fun z => g2 z.2.2.1, _, b0.trans (b1.trans (a2.2 g2)), s3 _ _ _ (s3 _ _ _ (s3 _ _ _ p_same.rf))⟩
      · exact Or.inr ⟨fun z => g1 z.2.1, _, b0.trans (a1.2 g1), s3 _ _ _ (s3 _ _ _ p_same.rf)⟩
    · exact Or.inr ⟨fun z => g0 z.1, _, a0.2 g0, s3 _ _ _ p_same.rf⟩
  unfold r_gm
  rcases key with ⟨g0, g1, g2, g3, ke⟩ | ⟨no, I', ke, ks⟩
  · rw [r_c28e hP hd (show 4 ≤ 4 by omega)] at ke
    have hD4 := (((hD.w hd (j := 0) (v := nI (r_nv len tx p0))).w hd (j := 1) (v := nI (r_nv len tx p1))).w hd (j := 2) (v := nI (r_nv len tx p2))).w hd (j := 3) (v := nI (r_nv len tx p3))
    have hs4 := s3 _ 3 (nI (r_nv len tx p3)) (s3 _ 2 (nI (r_nv len tx p2)) (s3 _ 1 (nI (r_nv len tx p1)) (s3 _ 0 (nI (r_nv len tx p0)) p_same.rf)))
    have hr := r_dr hP hd
    obtain ⟨y1, y2⟩ := r_cman hP hd hD4 hok (r_nv_le len tx p0) (r_nv_le len tx p1) (r_nv_le len tx p2) (r_nv_le len tx p3)
    unfold f_X2_take at ke
    simp (disch := omega) only [p_N, if_true, p_L, p_w_ne, p_w_eq, hr] at ke
    constructor
    · rintro ⟨⟨-, v0⟩, ⟨-, v1⟩, ⟨-, v2⟩, ⟨-, v3⟩, v4⟩
      obtain ⟨I', c1, c2, c3⟩ := y1 ⟨v0, v1, v2, v3, v4⟩
      rw [c1, p_b, show z_rz (nI 1) (p_m I' P) = some (nI 1, p_m I' P) from rfl, p_b, if_neg (by decide)] at ke
      exact ⟨I', ke, hs4.tr (c2.mono (fun a ha => Or.inr ha)), c3⟩
    · intro h
      have c1 := y2 (fun z => h ⟨⟨g0, z.1⟩, ⟨g1, z.2.1⟩, ⟨g2, z.2.2.1⟩, ⟨g3, z.2.2.2.1⟩, z.2.2.2.2⟩)
      rw [c1, p_b, show ∀ m, z_rz (nI 0) m = some (nI 0, m) from fun m => rfl, p_b, if_pos rfl] at ke
      exact ⟨_, ke, hs4⟩
  · constructor
    · rintro ⟨⟨g0, v0⟩, ⟨g1, v1⟩, ⟨g2, v2⟩, ⟨g3, v3⟩, v4⟩
      exact absurd ⟨g0, g1, g2, g3⟩ no
    · intro _
      exact ⟨I', ke, ks⟩
end
