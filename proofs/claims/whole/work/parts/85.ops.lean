/-! EVERY CALL KEEPS THE RELATION; THE START GIVES IT -/
theorem r_ops : z_Ops q_Rel := by
  refine ⟨?_, ?_, ?_, ?_, ?_, ?_, ?_, ?_, ?_, ?_, ?_, ?_, ?_, ?_, ?_, ?_, ?_, ?_, ?_, ?_, ?_, ?_, ?_, ?_, ?_, ?_, ?_⟩
  · rintro m ⟨I, P, s, d, pl, A, rfl, hO, hC, hM⟩
    exact q_bound I P
  · rintro a1 m ⟨I, P, s, d, pl, A, rfl, hO, hC, hM⟩
    exact o_write hO hC hM a1
  · rintro m ⟨I, P, s, d, pl, A, rfl, hO, hC, hM⟩
    exact o_wipe hO hC hM
  · rintro m ⟨I, P, s, d, pl, A, rfl, hO, hC, hM⟩
    exact o_fault hO hC hM
  · rintro m ⟨I, P, s, d, pl, A, rfl, hO, hC, hM⟩
    exact o_lay hO hC hM
  · rintro a1 a2 m ⟨I, P, s, d, pl, A, rfl, hO, hC, hM⟩
    exact o_man hO hC hM a1 a2
  · rintro a1 m ⟨I, P, s, d, pl, A, rfl, hO, hC, hM⟩
    exact o_word hO hC hM a1
  · rintro a1 m ⟨I, P, s, d, pl, A, rfl, hO, hC, hM⟩
    exact o_shout hO hC hM a1
  · rintro a1 m ⟨I, P, s, d, pl, A, rfl, hO, hC, hM⟩
    exact o_eyes hO hC hM a1
  · rintro a1 a2 m ⟨I, P, s, d, pl, A, rfl, hO, hC, hM⟩
    exact o_look hO hC hM a1 a2
  · rintro m ⟨I, P, s, d, pl, A, rfl, hO, hC, hM⟩
    exact o_undo hO hC hM
  · rintro a1 m ⟨I, P, s, d, pl, A, rfl, hO, hC, hM⟩
    exact o_who hO hC hM a1
  · rintro a1 m ⟨I, P, s, d, pl, A, rfl, hO, hC, hM⟩
    exact o_follows hO hC hM a1
  · rintro a1 m ⟨I, P, s, d, pl, A, rfl, hO, hC, hM⟩
    exact o_runs hO hC hM a1
  · rintro a1 m ⟨I, P, s, d, pl, A, rfl, hO, hC, hM⟩
    exact o_most hO hC hM a1
  · rintro a1 m ⟨I, P, s, d, pl, A, rfl, hO, hC, hM⟩
    exact o_groups hO hC hM a1
  · rintro a1 m ⟨I, P, s, d, pl, A, rfl, hO, hC, hM⟩
    exact o_plan hO hC hM a1
  · rintro a1 a2 m ⟨I, P, s, d, pl, A, rfl, hO, hC, hM⟩
    exact o_turn hO hC hM a1 a2
  · rintro a1 a2 m ⟨I, P, s, d, pl, A, rfl, hO, hC, hM⟩
    exact o_alike hO hC hM a1 a2
  · rintro a1 a2 a3 m ⟨I, P, s, d, pl, A, rfl, hO, hC, hM⟩
    exact o_right hO hC hM a1 a2 a3
  · rintro a1 a2 m ⟨I, P, s, d, pl, A, rfl, hO, hC, hM⟩
    exact o_which hO hC hM a1 a2
  · rintro a1 m ⟨I, P, s, d, pl, A, rfl, hO, hC, hM⟩
    exact o_safe hO hC hM a1
  · rintro a1 m ⟨I, P, s, d, pl, A, rfl, hO, hC, hM⟩
    exact o_numbers hO hC hM a1
  · rintro a1 a2 a3 m ⟨I, P, s, d, pl, A, rfl, hO, hC, hM⟩
    exact o_drill hO hC hM a1 a2 a3
  · rintro m ⟨I, P, s, d, pl, A, rfl, hO, hC, hM⟩
    exact o_keep hO hC hM
  · rintro m ⟨I, P, s, d, pl, A, rfl, hO, hC, hM⟩
    exact o_back hO hC hM
  · rintro a1 m ⟨I, P, s, d, pl, A, rfl, hO, hC, hM⟩
    exact o_count hO hC hM a1
theorem r_start : z_Start q_Rel := by
  have e : z_m0 = r_m0 := rfl
  unfold z_Start
  rw [e]
  refine ⟨(r_R1.getD (0, r_m0)).1, r_m1, (r_R2.getD (0, r_m0)).1, r_m2, ?_, r_is1.2.1, r_is1.2.2, ?_, r_rel⟩
  · exact r_some (o := r_R1) r_is1.1
  · exact r_some (o := r_R2) r_is2.1
