/-! THE TEXT: THE REFERENCE, ITEM BY ITEM -/
section
variable {I : Nat → Nat → Int32} {P : Nat → Nat → Option Nat} {s d : Nat} {len : Nat} {tx : Nat → Nat} {D : r_D}
/-- what the reference's reading may change -/
def r_mk (I I' : Nat → Nat → Int32) : Prop := p_same (fun x => x = 57 ∨ x = 60) I I' ∧ ∀ j, j ≠ 9 → I' 57 j = I 57 j
theorem r_mk.rf : r_mk I I := ⟨p_same.rf, fun _ _ => rfl⟩
theorem r_mk.tr {I' I'' : Nat → Nat → Int32} (h : r_mk I I') (h' : r_mk I' I'') : r_mk I I'' := ⟨h.1.tr h'.1, fun j hj => (h'.2 j hj).trans (h.2 j hj)⟩
theorem r_mk.w9 {I' : Nat → Nat → Int32} (h : r_mk I I') {v : Int32} : r_mk I (p_w I' 57 9 v) := ⟨h.1.w (Or.inl rfl), fun j hj => by rw [p_w_ne (Or.inr hj)]; exact h.2 j hj⟩
theorem r_mk.w60 {I' : Nat → Nat → Int32} (h : r_mk I I') {j : Nat} {v : Int32} : r_mk I (p_w I' 60 j v) := ⟨h.1.w (Or.inr rfl), fun j hj => by rw [p_w_ne (Or.inl (by omega))]; exact h.2 j hj⟩
theorem r_mT.k {I' : Nat → Nat → Int32} (hT : r_mT I len tx) (h : r_mk I I') : r_mT I' len tx := ⟨by rw [h.2 1 (by omega)]; exact hT.1, fun j hj => by rw [h.1 58 (by omega)]; exact hT.2 j hj⟩
theorem r_mD.w (hD : r_mD I D) {v : Int32} : r_mD (p_w I 57 9 v) D := by
  have e : p_w I 57 9 v 60 = I 60 := by funext k; exact p_w_ne (Or.inl (by omega))
  unfold r_mD
  rw [e]
  exact hD
theorem r_madds (hP : p_F0 P) (hD : r_mD I D) (hok : r_Dok D) (h8 : D.1.1 < 8) (a b c e : Nat) : ∃ I', f_X5_adds 57 (nI a) (nI b) (nI c) (nI e) (p_m I P) = some (nI 0, p_m I' P) ∧ p_same (fun x => x = 60) I I' ∧ r_mD I' (r_ad D a b c e) := by
  obtain ⟨q1, q2, q3, q4⟩ := hD
  unfold f_X5_adds z_lt
  simp (disch := omega) only [p_Q hP, p_L, q1, p_N, p_A, p_S, p_w_ne]
  refine ⟨_, rfl, ((((p_same.rf.o).o).o).o).o, ?_, ?_, ?_, fun i hi => ?_⟩
  · rw [p_w_eq]; rfl
  · simp (disch := omega) only [p_w_ne]; exact q2
  · simp (disch := omega) only [p_w_ne]; exact q3
  · have hi : i < D.1.1 + 1 := hi
    by_cases ei : i = D.1.1
    · subst ei
      refine ⟨?_, ?_, ?_, ?_⟩
      · simp (disch := omega) only [p_w_ne, p_w_eq]; unfold r_ad; simp
      · simp (disch := omega) only [p_w_ne, p_w_eq]; unfold r_ad; simp
      · simp (disch := omega) only [p_w_ne, p_w_eq]; unfold r_ad; simp
      · simp (disch := omega) only [p_w_ne, p_w_eq]; unfold r_ad; simp
    · obtain ⟨z1, z2, z3, z4⟩ := q4 i (by omega)
      refine ⟨?_, ?_, ?_, ?_⟩
      · simp (disch := omega) only [p_w_ne]; unfold r_ad; simp only [ei, if_false]; exact z1
      · simp (disch := omega) only [p_w_ne]; unfold r_ad; simp only [ei, if_false]; exact z2
      · simp (disch := omega) only [p_w_ne]; unfold r_ad; simp only [ei, if_false]; exact z3
      · simp (disch := omega) only [p_w_ne]; unfold r_ad; simp only [ei, if_false]; exact z4
theorem r_mman (hP : p_F0 P) (ht : r_txt len tx) (hT : r_mT I len tx) (hD : r_mD I D) (hok : r_Dok D) {p0 p1 p2 p3 : Nat} (h9 : I 57 9 = nI p0) (hp0 : p0 ≤ 200) (e1 : p1 = r_nx len tx p0) (e2 : p2 = r_nx len tx p1) (e3 : p3 = r_nx len tx p2) :
    (r_gm len tx D p0 p1 p2 p3 → ∃ I', f_X5_readsMan 57 (p_m I P) = some (nI 1, p_m I' P) ∧ r_mk I I' ∧ I' 57 9 = nI (r_nx len tx p3) ∧ r_mD I' (r_ad D (r_nv len tx p0) (r_nv len tx p1) (r_nv len tx p2) (r_nv len tx p3))) ∧ (¬ r_gm len tx D p0 p1 p2 p3 → ∃ I', f_X5_readsMan 57 (p_m I P) = some (nI 0, p_m I' P) ∧ r_mk I I') := by
  have h200 := ht.1
  have h8 := hok.1
  unfold f_X5_readsMan
  have cv : ∀ (J : Nat → Nat → Int32) (o : z_R) (k : Int32 → z_M → z_R), z_cv (p_m J P) 57 5 o k = z_b o k := fun J o k => p_cv (by decide) (by decide)
  unfold r_gm
  rw [cv]
  have f0 := r_mfld (c := 44) (hi := 3) (zI := 0) (hI := 3) (cI := 44) hP ht hT rfl rfl rfl h9 hp0 (by omega) (by omega)
  by_cases g0 : r_cm len tx p0 44 ∧ r_nv len tx p0 ≤ 3
  · rw [f0.1 g0]
    have hp1 : p1 ≤ 200 := by have := r_nx_lt g0.1; omega
    rw [← e1, cv]
    have f1 := r_mfld (I := p_w I 57 9 (nI p1)) (c := 44) (hi := 3) (zI := 0) (hI := 3) (cI := 44) hP ht hT.w rfl rfl rfl (p_w_eq _ _ _ _) hp1 (by omega) (by omega)
    by_cases g1 : r_cm len tx p1 44 ∧ r_nv len tx p1 ≤ 3
    · rw [f1.1 g1]
      have hp2 : p2 ≤ 200 := by have := r_nx_lt g1.1; omega
      rw [← e2, r_ww, cv]
      have f2 := r_mfld (I := p_w I 57 9 (nI p2)) (c := 44) (hi := 7) (zI := 0) (hI := 7) (cI := 44) hP ht hT.w rfl rfl rfl (p_w_eq _ _ _ _) hp2 (by omega) (by omega)
      by_cases g2 : r_cm len tx p2 44 ∧ r_nv len tx p2 ≤ 7
      · rw [f2.1 g2]
        have hp3 : p3 ≤ 200 := by have := r_nx_lt g2.1; omega
        rw [← e3, r_ww, cv]
        have f3 := r_mfld (I := p_w I 57 9 (nI p3)) (c := 59) (hi := 10) (zI := 0) (hI := 10) (cI := 59) hP ht hT.w rfl rfl rfl (p_w_eq _ _ _ _) hp3 (by omega) (by omega)
        by_cases g3 : r_cm len tx p3 59 ∧ r_nv len tx p3 ≤ 10
        · rw [f3.1 g3, r_ww]
          have hD1 := hD.w (v := nI (r_nx len tx p3))
          simp (disch := omega) only [p_Q hP, p_N, p_L, hD1.1, p_A]
          by_cases hm : D.1.1 = 8
          · rw [if_pos hm]
            exact ⟨fun z => by omega, fun _ => ⟨_, rfl, r_mk.rf.w9⟩⟩
          · rw [if_neg hm]
            obtain ⟨I', a1, a2, a3⟩ := r_madds hP hD1 hok (by omega) (r_nv len tx p0) (r_nv len tx p1) (r_nv len tx p2) (r_nv len tx p3)
            simp (disch := omega) only [p_C, a1, p_b]
            refine ⟨fun _ => ⟨I', rfl, ⟨(p_same.rf.w (Or.inl rfl)).tr (a2.mono (fun x hx => Or.inr hx)), fun j hj => by rw [a2 57 (by omega), p_w_ne (Or.inr hj)]⟩, by rw [a2 57 (by omega), p_w_eq], a3⟩, fun z => absurd ⟨g0, g1, g2, g3, by omega⟩ z⟩
        · obtain ⟨y, hy⟩ := f3.2 g3
          rw [hy, r_ww]
          exact ⟨fun z => absurd z.2.2.2.1 g3, fun _ => ⟨_, rfl, r_mk.rf.w9⟩⟩
      · obtain ⟨y, hy⟩ := f2.2 g2
        rw [hy, r_ww]
        exact ⟨fun z => absurd z.2.2.1 g2, fun _ => ⟨_, rfl, r_mk.rf.w9⟩⟩
    · obtain ⟨y, hy⟩ := f1.2 g1
      rw [hy, r_ww]
      exact ⟨fun z => absurd z.2.1 g1, fun _ => ⟨_, rfl, r_mk.rf.w9⟩⟩
  · obtain ⟨y, hy⟩ := f0.2 g0
    rw [hy]
    exact ⟨fun z => absurd z.1 g0, fun _ => ⟨_, rfl, r_mk.rf.w9⟩⟩
/-- seed (1, to 99) or eyes (2, to 1) -/
theorem r_mone (hP : p_F0 P) (ht : r_txt len tx) (hT : r_mT I len tx) {p w hi : Nat} (h9 : I 57 9 = nI p) (hp : p ≤ 200) (hw : w < 35) (hh : hi ≤ 99) :
    (r_cm len tx p 59 ∧ r_nv len tx p ≤ hi → f_X5_readsOne 57 (nI w) (nI hi) (p_m I P) = some (nI 1, p_m (p_w (p_w I 60 w (nI (r_nv len tx p))) 57 9 (nI (r_nx len tx p))) P)) ∧ (¬ (r_cm len tx p 59 ∧ r_nv len tx p ≤ hi) → ∃ I', f_X5_readsOne 57 (nI w) (nI hi) (p_m I P) = some (nI 0, p_m I' P) ∧ r_mk I I') := by
  have hnf := r_nf_le len tx p
  have hnv := r_nv_le len tx p
  have sw : ∀ (v v' : Int32), p_w (p_w I 57 9 v) 60 w v' = p_w (p_w I 60 w v') 57 9 v := by
    intro v v'
    funext b k
    unfold p_w
    by_cases h1 : b = 57 ∧ k = 9
    · have : ¬ (b = 60 ∧ k = w) := by omega
      rw [if_neg this, if_pos h1, if_pos h1]
    · rw [if_neg h1, if_neg h1]
  unfold f_X5_readsOne
  simp (disch := omega) only [p_Q hP, p_C, r_mnum hP ht hT h9 hp, p_b, p_S, p_L, p_w_eq, p_N]
  have hT1 : r_mT (p_w I 60 w (nI (r_nv len tx p))) len tx := ⟨by rw [p_w_ne (Or.inl (by omega))]; exact hT.1, fun j hj => by rw [p_w_ne (Or.inl (by omega))]; exact hT.2 j hj⟩
  have hs := r_msign hP ht (hT1.w (v := nI (p + r_nf len tx p))) (p := p + r_nf len tx p) (c := 59) (by rw [p_w_eq]) (by omega) (by omega)
  unfold r_cm r_nx
  constructor
  · rintro ⟨⟨h1, h2, h3⟩, h4⟩
    rw [if_neg h1, m_in1 _ (by omega) h4 (by omega), p_b, if_neg (by decide), sw]
    simp (disch := omega) only [p_C]
    rw [hs.1 ⟨h2, h3⟩, p_b, if_neg (by decide), r_ww]
  · intro h
    by_cases h1 : r_nf len tx p = 0
    · rw [if_pos h1, m_in0 _ (Or.inl (by unfold q_is; rw [show (-nI 1).toInt = -1 by decide]; omega)) (by omega) (by omega), p_b, if_pos rfl]
      exact ⟨_, rfl, r_mk.rf.w9.w60⟩
    · rw [if_neg h1]
      by_cases h4 : r_nv len tx p ≤ hi
      · rw [m_in1 _ (by omega) h4 (by omega), p_b, if_neg (by decide), sw]
        simp (disch := omega) only [p_C]
        rw [hs.2 (fun z => h ⟨⟨h1, z.1, z.2⟩, h4⟩), p_b, if_pos rfl, r_ww]
        exact ⟨_, rfl, r_mk.rf.w60.w9⟩
      · rw [m_in0 _ (Or.inl (by unfold q_is; rw [nI_toInt (by omega)]; omega)) (by omega) (by omega), p_b, if_pos rfl]
        exact ⟨_, rfl, r_mk.rf.w9.w60⟩
end
