set_option maxRecDepth 100000 in
set_option maxHeartbeats 4000000 in
theorem s_X5_adds (X : z_X) (v0 : Nat) (v1 : Int32) (v2 : Int32) (v3 : Int32) (v4 : Int32) (m : z_M) : z_Sim X yX5_adds cX5_adds 6 none 0 0 [(0, .ref (z_ad X v0)), (1, .int v1), (2, .int v2), (3, .int v3), (4, .int v4)] [] m (f_X5_adds v0 v1 v2 v3 v4 m) := by
  unfold f_X5_adds
  refine z_aload_n dX5_adds_0 rfl 0 rfl ?_
  refine z_getP z_X5 (j := 3) (by decide) rfl rfl wf_X5_16 dX5_adds_1 (fun a1 => ?_)
  refine z_iconst (v := 0) dX5_adds_4 k_c0 ?_
  refine z_iald dX5_adds_5 (fun x2 => ?_)
  refine z_istore (lv' := [(5, .int x2), (0, .ref (z_ad X v0)), (1, .int v1), (2, .int v2), (3, .int v3), (4, .int v4)]) dX5_adds_6 (by decide) rfl ?_
  refine z_aload_n dX5_adds_8 rfl 1 rfl ?_
  refine z_getP z_X5 (j := 3) (by decide) rfl rfl wf_X5_16 dX5_adds_9 (fun a3 => ?_)
  refine z_iconst (v := 3) dX5_adds_12 k_c3 ?_
  refine z_iload dX5_adds_13 0 rfl ?_
  refine z_iadd dX5_adds_15 ?_
  refine z_iload_n dX5_adds_16 rfl 2 rfl ?_
  refine z_iast dX5_adds_17 ?_
  generalize z_wI m a3 (Int32.toNatClampNeg (3 + x2)) v1 = m4
  refine z_aload_n dX5_adds_18 rfl 1 rfl ?_
  refine z_getP z_X5 (j := 3) (by decide) rfl rfl wf_X5_16 dX5_adds_19 (fun a5 => ?_)
  refine z_bipush (v := 11) dX5_adds_22 k_bi11 ?_
  refine z_iload dX5_adds_24 0 rfl ?_
  refine z_iadd dX5_adds_26 ?_
  refine z_iload_n dX5_adds_27 rfl 3 rfl ?_
  refine z_iast dX5_adds_28 ?_
  generalize z_wI m4 a5 (Int32.toNatClampNeg (11 + x2)) v2 = m6
  refine z_aload_n dX5_adds_29 rfl 1 rfl ?_
  refine z_getP z_X5 (j := 3) (by decide) rfl rfl wf_X5_16 dX5_adds_30 (fun a7 => ?_)
  refine z_bipush (v := 19) dX5_adds_33 k_bi19 ?_
  refine z_iload dX5_adds_35 0 rfl ?_
  refine z_iadd dX5_adds_37 ?_
  refine z_iload_n dX5_adds_38 rfl 4 rfl ?_
  refine z_iast dX5_adds_39 ?_
  generalize z_wI m6 a7 (Int32.toNatClampNeg (19 + x2)) v3 = m8
  refine z_aload_n dX5_adds_40 rfl 1 rfl ?_
  refine z_getP z_X5 (j := 3) (by decide) rfl rfl wf_X5_16 dX5_adds_41 (fun a9 => ?_)
  refine z_bipush (v := 27) dX5_adds_44 k_bi27 ?_
  refine z_iload dX5_adds_46 0 rfl ?_
  refine z_iadd dX5_adds_48 ?_
  refine z_iload dX5_adds_49 5 rfl ?_
  refine z_iast dX5_adds_51 ?_
  generalize z_wI m8 a9 (Int32.toNatClampNeg (27 + x2)) v4 = m10
  refine z_aload_n dX5_adds_52 rfl 1 rfl ?_
  refine z_getP z_X5 (j := 3) (by decide) rfl rfl wf_X5_16 dX5_adds_53 (fun a11 => ?_)
  refine z_iconst (v := 0) dX5_adds_56 k_c0 ?_
  refine z_dup2 dX5_adds_57 rfl rfl ?_
  refine z_iald dX5_adds_58 (fun x12 => ?_)
  refine z_iconst (v := 1) dX5_adds_59 k_c1 ?_
  refine z_iadd dX5_adds_60 ?_
  refine z_nm (fun x13 => ?_)
  refine z_iast dX5_adds_61 ?_
  generalize z_wI m10 a11 (Int32.toNatClampNeg 0) x13 = m14
  exact z_vret dX5_adds_62
set_option maxRecDepth 100000 in
set_option maxHeartbeats 4000000 in
theorem c_X5_adds (X : z_X) (v0 : Nat) (v1 : Int32) (v2 : Int32) (v3 : Int32) (v4 : Int32) (m : z_M) : z_Ct X yX5_adds cX5_adds 6 none 0 [.ref (z_ad X v0), .int v1, .int v2, .int v3, .int v4] m (f_X5_adds v0 v1 v2 v3 v4 m) := z_Ct.of (by decide) (Nat.le_of_ble_eq_true rfl) (s_X5_adds X v0 v1 v2 v3 v4 m)
set_option maxRecDepth 100000 in
set_option maxHeartbeats 4000000 in
theorem s_X5_common_L4 (X : z_X) : ∀ (n : Nat) (v2 : Int32) (v3 : Int32) (m : z_M), z_Sim X yX5_common cX5_common 5 (some .int) 0 4 [(2, .int v2), (3, .int v3)] [] m (f_X5_common_L4 n v2 v3 m) := by
  intro n
  induction n with
  | zero => intros; exact z_none
  | succ n ih =>
      intro v2 v3 m
      unfold f_X5_common_L4
      refine z_iload_n dX5_common_4 rfl 1 rfl ?_
      refine z_if_le (tg := 21) dX5_common_5 (by decide) ?_ ?_
      · refine z_iload_n dX5_common_21 rfl 0 rfl ?_
        exact z_iret dX5_common_22
      · refine z_iload_n dX5_common_8 rfl 0 rfl ?_
        refine z_iload_n dX5_common_9 rfl 1 rfl ?_
        refine z_iremG dX5_common_10 (fun x1 => ?_)
        refine z_istore (lv' := [(4, .int x1), (2, .int v2), (3, .int v3)]) dX5_common_11 (by decide) rfl ?_
        refine z_iload_n dX5_common_13 rfl 2 rfl ?_
        refine z_istore_n (lv' := [(2, .int v3), (4, .int x1), (3, .int v3)]) dX5_common_14 rfl (by decide) rfl ?_
        refine z_iload dX5_common_15 1 rfl ?_
        refine z_istore_n (lv' := [(3, .int x1), (2, .int v3), (4, .int x1)]) dX5_common_17 rfl (by decide) rfl ?_
        refine z_goto (tg := 4) dX5_common_18 (by decide) ?_
        exact z_sub (lv' := [(2, .int v3), (3, .int x1)]) [1, 0] rfl (ih v3 x1 m)
set_option maxRecDepth 100000 in
set_option maxHeartbeats 4000000 in
theorem s_X5_common (X : z_X) (v0 : Int32) (v1 : Int32) (m : z_M) : z_Sim X yX5_common cX5_common 5 (some .int) 0 0 [(0, .int v0), (1, .int v1)] [] m (f_X5_common v0 v1 m) := by
  unfold f_X5_common
  refine z_iload_n dX5_common_0 rfl 0 rfl ?_
  refine z_istore_n (lv' := [(2, .int v0), (0, .int v0), (1, .int v1)]) dX5_common_1 rfl (by decide) rfl ?_
  refine z_iload_n dX5_common_2 rfl 2 rfl ?_
  refine z_istore_n (lv' := [(3, .int v1), (2, .int v0), (0, .int v0), (1, .int v1)]) dX5_common_3 rfl (by decide) rfl ?_
  exact z_sub (lv' := [(2, .int v0), (3, .int v1)]) [1, 0] rfl (s_X5_common_L4 X 400 v0 v1 m)
set_option maxRecDepth 100000 in
set_option maxHeartbeats 4000000 in
theorem c_X5_common (X : z_X) (v0 : Int32) (v1 : Int32) (m : z_M) : z_Ct X yX5_common cX5_common 5 (some .int) 0 [.int v0, .int v1] m (f_X5_common v0 v1 m) := z_Ct.of (by decide) (Nat.le_of_ble_eq_true rfl) (s_X5_common X v0 v1 m)
set_option maxRecDepth 100000 in
set_option maxHeartbeats 4000000 in
theorem s_X5_mayErr (X : z_X) (v0 : Nat) (v1 : Int32) (m : z_M) : z_Sim X yX5_mayErr cX5_mayErr 2 (some .boolean) 0 0 [(0, .ref (z_ad X v0)), (1, .int v1)] [] m (f_X5_mayErr v0 v1 m) := by
  unfold f_X5_mayErr
  refine z_aload_n dX5_mayErr_0 rfl 0 rfl ?_
  refine z_getP z_X5 (j := 2) (by decide) rfl rfl wf_X5_13 dX5_mayErr_1 (fun a1 => ?_)
  refine z_iconst (v := 3) dX5_mayErr_4 k_c3 ?_
  refine z_iload_n dX5_mayErr_5 rfl 1 rfl ?_
  refine z_iadd dX5_mayErr_6 ?_
  refine z_iald dX5_mayErr_7 (fun x2 => ?_)
  refine z_if_eq (tg := 27) dX5_mayErr_8 (by decide) ?_ ?_
  · refine z_iconst (v := 0) dX5_mayErr_27 k_c0 ?_
    exact z_zret0 dX5_mayErr_28
  · refine z_aload_n dX5_mayErr_11 rfl 0 rfl ?_
    refine z_getP z_X5 (j := 2) (by decide) rfl rfl wf_X5_13 dX5_mayErr_12 (fun a3 => ?_)
    refine z_iconst (v := 3) dX5_mayErr_15 k_c3 ?_
    refine z_iload_n dX5_mayErr_16 rfl 1 rfl ?_
    refine z_iadd dX5_mayErr_17 ?_
    refine z_iald dX5_mayErr_18 (fun x4 => ?_)
    refine z_iconst (v := 3) dX5_mayErr_19 k_c3 ?_
    refine z_icmp_eq (tg := 27) dX5_mayErr_20 (by decide) ?_ ?_
    · refine z_iconst (v := 0) dX5_mayErr_27 k_c0 ?_
      exact z_zret0 dX5_mayErr_28
    · refine z_iconst (v := 1) dX5_mayErr_23 k_c1 ?_
      refine z_goto (tg := 28) dX5_mayErr_24 (by decide) ?_
      exact z_zret1 dX5_mayErr_28
set_option maxRecDepth 100000 in
set_option maxHeartbeats 4000000 in
theorem c_X5_mayErr (X : z_X) (v0 : Nat) (v1 : Int32) (m : z_M) : z_Ct X yX5_mayErr cX5_mayErr 2 (some .boolean) 0 [.ref (z_ad X v0), .int v1] m (f_X5_mayErr v0 v1 m) := z_Ct.of (by decide) (Nat.le_of_ble_eq_true rfl) (s_X5_mayErr X v0 v1 m)
set_option maxRecDepth 100000 in
set_option maxHeartbeats 4000000 in
theorem s_X5_isLooking_L20 (X : z_X) (m : z_M) : z_Sim X yX5_isLooking cX5_isLooking 2 (some .boolean) 0 20 [] [] m (f_X5_isLooking_L20 m) := by
  unfold f_X5_isLooking_L20
  refine z_iconst (v := 1) dX5_isLooking_20 k_c1 ?_
  refine z_goto (tg := 25) dX5_isLooking_21 (by decide) ?_
  exact z_zret1 dX5_isLooking_25
set_option maxRecDepth 100000 in
set_option maxHeartbeats 4000000 in
theorem s_X5_isLooking (X : z_X) (v0 : Nat) (v1 : Int32) (m : z_M) : z_Sim X yX5_isLooking cX5_isLooking 2 (some .boolean) 0 0 [(0, .ref (z_ad X v0)), (1, .int v1)] [] m (f_X5_isLooking v0 v1 m) := by
  unfold f_X5_isLooking
  refine z_iload_n dX5_isLooking_0 rfl 1 rfl ?_
  refine z_aload_n dX5_isLooking_1 rfl 0 rfl ?_
  refine z_getI z_X5 (j := 10) (by decide) rfl rfl wf_X5_28 dX5_isLooking_2 (fun x1 => ?_)
  refine z_icmp_eq (tg := 20) dX5_isLooking_5 (by decide) ?_ ?_
  · exact z_sub (lv' := []) [] rfl (s_X5_isLooking_L20 X m)
  · refine z_aload_n dX5_isLooking_8 rfl 0 rfl ?_
    refine z_getP z_X5 (j := 2) (by decide) rfl rfl wf_X5_13 dX5_isLooking_9 (fun a2 => ?_)
    refine z_iconst (v := 3) dX5_isLooking_12 k_c3 ?_
    refine z_iload_n dX5_isLooking_13 rfl 1 rfl ?_
    refine z_iadd dX5_isLooking_14 ?_
    refine z_iald dX5_isLooking_15 (fun x3 => ?_)
    refine z_iconst (v := 2) dX5_isLooking_16 k_c2 ?_
    refine z_icmp_ne (tg := 24) dX5_isLooking_17 (by decide) ?_ ?_
    · refine z_iconst (v := 0) dX5_isLooking_24 k_c0 ?_
      exact z_zret0 dX5_isLooking_25
    · exact z_sub (lv' := []) [] rfl (s_X5_isLooking_L20 X m)
set_option maxRecDepth 100000 in
set_option maxHeartbeats 4000000 in
theorem c_X5_isLooking (X : z_X) (v0 : Nat) (v1 : Int32) (m : z_M) : z_Ct X yX5_isLooking cX5_isLooking 2 (some .boolean) 0 [.ref (z_ad X v0), .int v1] m (f_X5_isLooking v0 v1 m) := z_Ct.of (by decide) (Nat.le_of_ble_eq_true rfl) (s_X5_isLooking X v0 v1 m)
set_option maxRecDepth 100000 in
set_option maxHeartbeats 4000000 in
theorem s_X5_leader_L44 (X : z_X) (h4 : Nat → Int32 → Int32 → z_M → z_R) (H4 : ∀ (w0 : Nat) (w2 : Int32) (w3 : Int32) (w : z_M), z_Sim X yX5_leader cX5_leader 4 (some .int) 1 4 [(0, .ref (z_ad X w0)), (2, .int w2), (3, .int w3)] [] w (h4 w0 w2 w3 w)) (v0 : Nat) (v3 : Int32) (s0 : Int32) (m : z_M) : z_Sim X yX5_leader cX5_leader 4 (some .int) 1 44 [(0, .ref (z_ad X v0)), (3, .int v3)] [.int s0] m (f_X5_leader_L44 h4 v0 v3 s0 m) := by
  unfold f_X5_leader_L44
  refine z_istore_n (lv' := [(2, .int s0), (0, .ref (z_ad X v0)), (3, .int v3)]) dX5_leader_44 rfl (by decide) rfl ?_
  refine z_iinc (k := 2) (lv' := [(3, .int (v3 + 1)), (2, .int s0), (0, .ref (z_ad X v0))]) dX5_leader_45 rfl (k_i1 _) (by decide) rfl ?_
  refine z_goto (tg := 4) dX5_leader_48 (by decide) ?_
  exact z_sub (lv' := [(0, .ref (z_ad X v0)), (2, .int s0), (3, .int (v3 + 1))]) [2, 1, 0] rfl (H4 v0 s0 (v3 + 1) m)
set_option maxRecDepth 100000 in
set_option maxHeartbeats 4000000 in
theorem s_X5_leader_L4 (X : z_X) : ∀ (n : Nat) (v0 : Nat) (v2 : Int32) (v3 : Int32) (m : z_M), z_Sim X yX5_leader cX5_leader 4 (some .int) 1 4 [(0, .ref (z_ad X v0)), (2, .int v2), (3, .int v3)] [] m (f_X5_leader_L4 n v0 v2 v3 m) := by
  intro n
  induction n with
  | zero => intros; exact z_none
  | succ n ih =>
      intro v0 v2 v3 m
      unfold f_X5_leader_L4
      refine z_iload_n dX5_leader_4 rfl 2 rfl ?_
      refine z_bipush (v := 8) dX5_leader_5 k_bi8 ?_
      refine z_icmp_gt (tg := 51) dX5_leader_7 (by decide) ?_ ?_
      · refine z_bipush (v := (-4)) dX5_leader_51 k_bim4 ?_
        exact z_iret dX5_leader_53
      · refine z_aload_n dX5_leader_10 rfl 0 rfl ?_
        refine z_iload_n dX5_leader_11 rfl 1 rfl ?_
        refine z_cVi (As := [.int v2]) (rest := []) (c_X5_isLooking X v0 v2 m) mw_X5_isLooking iw_X5_isLooking z_X5 wm_X5_93 rfl rfl (by decide) (Nat.le_of_ble_eq_true rfl) dX5_leader_12 (fun x1 m2 => ?_)
        refine z_if_ne (tg := 20) dX5_leader_15 (by decide) ?_ ?_
        · refine z_iload_n dX5_leader_20 rfl 1 rfl ?_
          refine z_aload_n dX5_leader_21 rfl 0 rfl ?_
          refine z_getI z_X5 (j := 10) (by decide) rfl rfl wf_X5_28 dX5_leader_22 (fun x3 => ?_)
          refine z_icmp_ne (tg := 35) dX5_leader_25 (by decide) ?_ ?_
          · refine z_aload_n dX5_leader_35 rfl 0 rfl ?_
            refine z_getP z_X5 (j := 4) (by decide) rfl rfl wf_X5_19 dX5_leader_36 (fun a4 => ?_)
            refine z_bipush (v := 8) dX5_leader_39 k_bi8 ?_
            refine z_iload_n dX5_leader_41 rfl 1 rfl ?_
            refine z_iadd dX5_leader_42 ?_
            refine z_iald dX5_leader_43 (fun x5 => ?_)
            exact z_sub (lv' := [(0, .ref (z_ad X v0)), (3, .int v3)]) [0, 2] rfl (s_X5_leader_L44 X (f_X5_leader_L4 n) ih v0 v3 x5 m2)
          · refine z_aload_n dX5_leader_28 rfl 0 rfl ?_
            refine z_getI z_X5 (j := 11) (by decide) rfl rfl wf_X5_96 dX5_leader_29 (fun x6 => ?_)
            refine z_goto (tg := 44) dX5_leader_32 (by decide) ?_
            exact z_sub (lv' := [(0, .ref (z_ad X v0)), (3, .int v3)]) [0, 2] rfl (s_X5_leader_L44 X (f_X5_leader_L4 n) ih v0 v3 x6 m2)
        · refine z_iload_n dX5_leader_18 rfl 1 rfl ?_
          exact z_iret dX5_leader_19
set_option maxRecDepth 100000 in
set_option maxHeartbeats 4000000 in
theorem s_X5_leader (X : z_X) (v0 : Nat) (v1 : Int32) (m : z_M) : z_Sim X yX5_leader cX5_leader 4 (some .int) 1 0 [(0, .ref (z_ad X v0)), (1, .int v1)] [] m (f_X5_leader v0 v1 m) := by
  unfold f_X5_leader
  refine z_iload_n dX5_leader_0 rfl 1 rfl ?_
  refine z_istore_n (lv' := [(2, .int v1), (0, .ref (z_ad X v0)), (1, .int v1)]) dX5_leader_1 rfl (by decide) rfl ?_
  refine z_iconst (v := 0) dX5_leader_2 k_c0 ?_
  refine z_istore_n (lv' := [(3, .int 0), (2, .int v1), (0, .ref (z_ad X v0)), (1, .int v1)]) dX5_leader_3 rfl (by decide) rfl ?_
  exact z_sub (lv' := [(0, .ref (z_ad X v0)), (2, .int v1), (3, .int 0)]) [2, 1, 0] rfl (s_X5_leader_L4 X 400 v0 v1 0 m)
set_option maxRecDepth 100000 in
set_option maxHeartbeats 4000000 in
theorem c_X5_leader (X : z_X) (v0 : Nat) (v1 : Int32) (m : z_M) : z_Ct X yX5_leader cX5_leader 4 (some .int) 1 [.ref (z_ad X v0), .int v1] m (f_X5_leader v0 v1 m) := z_Ct.of (by decide) (Nat.le_of_ble_eq_true rfl) (s_X5_leader X v0 v1 m)
set_option maxRecDepth 100000 in
set_option maxHeartbeats 4000000 in
theorem s_X5_turnsAs_L20 (X : z_X) (v1 : Int32) (s0 : Int32) (m : z_M) : z_Sim X yX5_turnsAs cX5_turnsAs 3 (some .int) 2 20 [(1, .int v1)] [.int s0] m (f_X5_turnsAs_L20 v1 s0 m) := by
  unfold f_X5_turnsAs_L20
  refine z_istore_n (lv' := [(2, .int s0), (1, .int v1)]) dX5_turnsAs_20 rfl (by decide) rfl ?_
  refine z_iload_n dX5_turnsAs_21 rfl 0 rfl ?_
  refine z_bipush (v := (-4)) dX5_turnsAs_22 k_bim4 ?_
  refine z_icmp_ne (tg := 31) dX5_turnsAs_24 (by decide) ?_ ?_
  · refine z_iload_n dX5_turnsAs_31 rfl 0 rfl ?_
    exact z_iret dX5_turnsAs_32
  · refine z_iload_n dX5_turnsAs_27 rfl 1 rfl ?_
    refine z_goto (tg := 32) dX5_turnsAs_28 (by decide) ?_
    exact z_iret dX5_turnsAs_32
set_option maxRecDepth 100000 in
set_option maxHeartbeats 4000000 in
theorem s_X5_turnsAs (X : z_X) (v0 : Nat) (v1 : Int32) (m : z_M) : z_Sim X yX5_turnsAs cX5_turnsAs 3 (some .int) 2 0 [(0, .ref (z_ad X v0)), (1, .int v1)] [] m (f_X5_turnsAs v0 v1 m) := by
  unfold f_X5_turnsAs
  refine z_aload_n dX5_turnsAs_0 rfl 0 rfl ?_
  refine z_getP z_X5 (j := 4) (by decide) rfl rfl wf_X5_19 dX5_turnsAs_1 (fun a1 => ?_)
  refine z_bipush (v := 16) dX5_turnsAs_4 k_bi16 ?_
  refine z_iald dX5_turnsAs_6 (fun x2 => ?_)
  refine z_iconst (v := 1) dX5_turnsAs_7 k_c1 ?_
  refine z_icmp_ne (tg := 15) dX5_turnsAs_8 (by decide) ?_ ?_
  · refine z_aload_n dX5_turnsAs_15 rfl 0 rfl ?_
    refine z_iload_n dX5_turnsAs_16 rfl 1 rfl ?_
    refine z_cVi (As := [.int v1]) (rest := []) (c_X5_leader X v0 v1 m) mw_X5_leader iw_X5_leader z_X5 wm_X5_99 rfl rfl (by decide) (Nat.le_of_ble_eq_true rfl) dX5_turnsAs_17 (fun x3 m4 => ?_)
    exact z_sub (lv' := [(1, .int v1)]) [1] rfl (s_X5_turnsAs_L20 X v1 x3 m4)
  · refine z_iload_n dX5_turnsAs_11 rfl 1 rfl ?_
    refine z_goto (tg := 20) dX5_turnsAs_12 (by decide) ?_
    exact z_sub (lv' := [(1, .int v1)]) [1] rfl (s_X5_turnsAs_L20 X v1 v1 m)
set_option maxRecDepth 100000 in
set_option maxHeartbeats 4000000 in
theorem c_X5_turnsAs (X : z_X) (v0 : Nat) (v1 : Int32) (m : z_M) : z_Ct X yX5_turnsAs cX5_turnsAs 3 (some .int) 2 [.ref (z_ad X v0), .int v1] m (f_X5_turnsAs v0 v1 m) := z_Ct.of (by decide) (Nat.le_of_ble_eq_true rfl) (s_X5_turnsAs X v0 v1 m)
set_option maxRecDepth 100000 in
set_option maxHeartbeats 4000000 in
theorem s_X5_doubtful_L39 (X : z_X) (h4 : Nat → Int32 → Int32 → z_M → z_R) (H4 : ∀ (w0 : Nat) (w1 : Int32) (w2 : Int32) (w : z_M), z_Sim X yX5_doubtful cX5_doubtful 3 (some .int) 3 4 [(0, .ref (z_ad X w0)), (1, .int w1), (2, .int w2)] [] w (h4 w0 w1 w2 w)) (v0 : Nat) (v2 : Int32) (s0 : Int32) (s1 : Int32) (m : z_M) : z_Sim X yX5_doubtful cX5_doubtful 3 (some .int) 3 39 [(0, .ref (z_ad X v0)), (2, .int v2)] [.int s0, .int s1] m (f_X5_doubtful_L39 h4 v0 v2 s0 s1 m) := by
  unfold f_X5_doubtful_L39
  refine z_ior dX5_doubtful_39 ?_
  refine z_nm (fun x1 => ?_)
  refine z_istore_n (lv' := [(1, .int x1), (0, .ref (z_ad X v0)), (2, .int v2)]) dX5_doubtful_40 rfl (by decide) rfl ?_
  refine z_iinc (k := 2) (lv' := [(2, .int (v2 + 1)), (1, .int x1), (0, .ref (z_ad X v0))]) dX5_doubtful_41 rfl (k_i1 _) (by decide) rfl ?_
  refine z_goto (tg := 4) dX5_doubtful_44 (by decide) ?_
  exact z_sub (lv' := [(0, .ref (z_ad X v0)), (1, .int x1), (2, .int (v2 + 1))]) [2, 1, 0] rfl (H4 v0 x1 (v2 + 1) m)
set_option maxRecDepth 100000 in
set_option maxHeartbeats 4000000 in
theorem s_X5_doubtful_L38 (X : z_X) (h4 : Nat → Int32 → Int32 → z_M → z_R) (H4 : ∀ (w0 : Nat) (w1 : Int32) (w2 : Int32) (w : z_M), z_Sim X yX5_doubtful cX5_doubtful 3 (some .int) 3 4 [(0, .ref (z_ad X w0)), (1, .int w1), (2, .int w2)] [] w (h4 w0 w1 w2 w)) (v0 : Nat) (v2 : Int32) (s0 : Int32) (m : z_M) : z_Sim X yX5_doubtful cX5_doubtful 3 (some .int) 3 38 [(0, .ref (z_ad X v0)), (2, .int v2)] [.int s0] m (f_X5_doubtful_L38 h4 v0 v2 s0 m) := by
  unfold f_X5_doubtful_L38
  refine z_iconst (v := 0) dX5_doubtful_38 k_c0 ?_
  exact z_sub (lv' := [(0, .ref (z_ad X v0)), (2, .int v2)]) [0, 1] rfl (s_X5_doubtful_L39 X h4 H4 v0 v2 0 s0 m)
set_option maxRecDepth 100000 in
set_option maxHeartbeats 4000000 in
theorem s_X5_doubtful_L4 (X : z_X) : ∀ (n : Nat) (v0 : Nat) (v1 : Int32) (v2 : Int32) (m : z_M), z_Sim X yX5_doubtful cX5_doubtful 3 (some .int) 3 4 [(0, .ref (z_ad X v0)), (1, .int v1), (2, .int v2)] [] m (f_X5_doubtful_L4 n v0 v1 v2 m) := by
  intro n
  induction n with
  | zero => intros; exact z_none
  | succ n ih =>
      intro v0 v1 v2 m
      unfold f_X5_doubtful_L4
      refine z_iload_n dX5_doubtful_4 rfl 2 rfl ?_
      refine z_aload_n dX5_doubtful_5 rfl 0 rfl ?_
      refine z_getP z_X5 (j := 2) (by decide) rfl rfl wf_X5_13 dX5_doubtful_6 (fun a2 => ?_)
      refine z_iconst (v := 0) dX5_doubtful_9 k_c0 ?_
      refine z_iald dX5_doubtful_10 (fun x3 => ?_)
      refine z_icmp_ge (tg := 47) dX5_doubtful_11 (by decide) ?_ ?_
      · refine z_iload_n dX5_doubtful_47 rfl 1 rfl ?_
        exact z_iret dX5_doubtful_48
      · refine z_iload_n dX5_doubtful_14 rfl 1 rfl ?_
        refine z_aload_n dX5_doubtful_15 rfl 0 rfl ?_
        refine z_iload_n dX5_doubtful_16 rfl 2 rfl ?_
        refine z_cVi (As := [.int v2]) (rest := [.int v1]) (c_X5_turnsAs X v0 v2 m) mw_X5_turnsAs iw_X5_turnsAs z_X5 wm_X5_114 rfl rfl (by decide) (Nat.le_of_ble_eq_true rfl) dX5_doubtful_17 (fun x4 m5 => ?_)
        refine z_iload_n dX5_doubtful_20 rfl 2 rfl ?_
        refine z_icmp_ne (tg := 38) dX5_doubtful_21 (by decide) ?_ ?_
        · exact z_sub (lv' := [(0, .ref (z_ad X v0)), (2, .int v2)]) [0, 2] rfl (s_X5_doubtful_L38 X (f_X5_doubtful_L4 n) ih v0 v2 v1 m5)
        · refine z_aload_n dX5_doubtful_24 rfl 0 rfl ?_
          refine z_iload_n dX5_doubtful_25 rfl 2 rfl ?_
          refine z_cVi (As := [.int v2]) (rest := [.int v1]) (c_X5_mayErr X v0 v2 m5) mw_X5_mayErr iw_X5_mayErr z_X5 wm_X5_120 rfl rfl (by decide) (Nat.le_of_ble_eq_true rfl) dX5_doubtful_26 (fun x6 m7 => ?_)
          refine z_if_eq (tg := 38) dX5_doubtful_29 (by decide) ?_ ?_
          · exact z_sub (lv' := [(0, .ref (z_ad X v0)), (2, .int v2)]) [0, 2] rfl (s_X5_doubtful_L38 X (f_X5_doubtful_L4 n) ih v0 v2 v1 m7)
          · refine z_iconst (v := 1) dX5_doubtful_32 k_c1 ?_
            refine z_iload_n dX5_doubtful_33 rfl 2 rfl ?_
            refine z_ishl dX5_doubtful_34 ?_
            refine z_goto (tg := 39) dX5_doubtful_35 (by decide) ?_
            exact z_sub (lv' := [(0, .ref (z_ad X v0)), (2, .int v2)]) [0, 2] rfl (s_X5_doubtful_L39 X (f_X5_doubtful_L4 n) ih v0 v2 (1 <<< (v2 &&& 31)) v1 m7)
set_option maxRecDepth 100000 in
set_option maxHeartbeats 4000000 in
theorem s_X5_doubtful (X : z_X) (v0 : Nat) (m : z_M) : z_Sim X yX5_doubtful cX5_doubtful 3 (some .int) 3 0 [(0, .ref (z_ad X v0))] [] m (f_X5_doubtful v0 m) := by
  unfold f_X5_doubtful
  refine z_iconst (v := 0) dX5_doubtful_0 k_c0 ?_
  refine z_istore_n (lv' := [(1, .int 0), (0, .ref (z_ad X v0))]) dX5_doubtful_1 rfl (by decide) rfl ?_
  refine z_iconst (v := 0) dX5_doubtful_2 k_c0 ?_
  refine z_istore_n (lv' := [(2, .int 0), (1, .int 0), (0, .ref (z_ad X v0))]) dX5_doubtful_3 rfl (by decide) rfl ?_
  exact z_sub (lv' := [(0, .ref (z_ad X v0)), (1, .int 0), (2, .int 0)]) [2, 1, 0] rfl (s_X5_doubtful_L4 X 400 v0 0 0 m)
set_option maxRecDepth 100000 in
set_option maxHeartbeats 4000000 in
theorem c_X5_doubtful (X : z_X) (v0 : Nat) (m : z_M) : z_Ct X yX5_doubtful cX5_doubtful 3 (some .int) 3 [.ref (z_ad X v0)] m (f_X5_doubtful v0 m) := z_Ct.of (by decide) (Nat.le_of_ble_eq_true rfl) (s_X5_doubtful X v0 m)
set_option maxRecDepth 100000 in
set_option maxHeartbeats 4000000 in
theorem s_X5_in (X : z_X) (v0 : Int32) (v1 : Int32) (v2 : Int32) (m : z_M) : z_Sim X yX5_in cX5_in 3 (some .boolean) 0 0 [(0, .int v0), (1, .int v1), (2, .int v2)] [] m (f_X5_in v0 v1 v2 m) := by
  unfold f_X5_in
  refine z_iload_n dX5_in_0 rfl 0 rfl ?_
  refine z_iload_n dX5_in_1 rfl 1 rfl ?_
  refine z_icmp_lt (tg := 14) dX5_in_2 (by decide) ?_ ?_
  · refine z_iconst (v := 0) dX5_in_14 k_c0 ?_
    exact z_zret0 dX5_in_15
  · refine z_iload_n dX5_in_5 rfl 0 rfl ?_
    refine z_iload_n dX5_in_6 rfl 2 rfl ?_
    refine z_icmp_gt (tg := 14) dX5_in_7 (by decide) ?_ ?_
    · refine z_iconst (v := 0) dX5_in_14 k_c0 ?_
      exact z_zret0 dX5_in_15
    · refine z_iconst (v := 1) dX5_in_10 k_c1 ?_
      refine z_goto (tg := 15) dX5_in_11 (by decide) ?_
      exact z_zret1 dX5_in_15
set_option maxRecDepth 100000 in
set_option maxHeartbeats 4000000 in
theorem c_X5_in (X : z_X) (v0 : Int32) (v1 : Int32) (v2 : Int32) (m : z_M) : z_Ct X yX5_in cX5_in 3 (some .boolean) 0 [.int v0, .int v1, .int v2] m (f_X5_in v0 v1 v2 m) := z_Ct.of (by decide) (Nat.le_of_ble_eq_true rfl) (s_X5_in X v0 v1 v2 m)
set_option maxRecDepth 100000 in
set_option maxHeartbeats 4000000 in
theorem s_X5_isWord (X : z_X) (v0 : Int32) (m : z_M) : z_Sim X yX5_isWord cX5_isWord 1 (some .boolean) 1 0 [(0, .int v0)] [] m (f_X5_isWord v0 m) := by
  unfold f_X5_isWord
  refine z_iload_n dX5_isWord_0 rfl 0 rfl ?_
  refine z_iconst (v := 0) dX5_isWord_1 k_c0 ?_
  refine z_iconst (v := 2) dX5_isWord_2 k_c2 ?_
  refine z_cSi (As := [.int v0, .int 0, .int 2]) (rest := []) (c_X5_in X v0 0 2 m) mw_X5_in iw_X5_in wm_X5_45 rfl rfl (by decide) (Nat.le_of_ble_eq_true rfl) dX5_isWord_3 (fun x1 m2 => ?_)
  exact z_zret dX5_isWord_6
set_option maxRecDepth 100000 in
set_option maxHeartbeats 4000000 in
theorem c_X5_isWord (X : z_X) (v0 : Int32) (m : z_M) : z_Ct X yX5_isWord cX5_isWord 1 (some .boolean) 1 [.int v0] m (f_X5_isWord v0 m) := z_Ct.of (by decide) (Nat.le_of_ble_eq_true rfl) (s_X5_isWord X v0 m)
set_option maxRecDepth 100000 in
set_option maxHeartbeats 4000000 in
theorem s_X5_ones_L4 (X : z_X) : ∀ (n : Nat) (v0 : Int32) (v1 : Int32) (v2 : Int32) (m : z_M), z_Sim X yX5_ones cX5_ones 3 (some .int) 0 4 [(0, .int v0), (1, .int v1), (2, .int v2)] [] m (f_X5_ones_L4 n v0 v1 v2 m) := by
  intro n
  induction n with
  | zero => intros; exact z_none
  | succ n ih =>
      intro v0 v1 v2 m
      unfold f_X5_ones_L4
      refine z_iload_n dX5_ones_4 rfl 2 rfl ?_
      refine z_bipush (v := 8) dX5_ones_5 k_bi8 ?_
      refine z_icmp_ge (tg := 24) dX5_ones_7 (by decide) ?_ ?_
      · refine z_iload_n dX5_ones_24 rfl 1 rfl ?_
        exact z_iret dX5_ones_25
      · refine z_iload_n dX5_ones_10 rfl 1 rfl ?_
        refine z_iload_n dX5_ones_11 rfl 0 rfl ?_
        refine z_iload_n dX5_ones_12 rfl 2 rfl ?_
        refine z_ishr dX5_ones_13 ?_
        refine z_iconst (v := 1) dX5_ones_14 k_c1 ?_
        refine z_iand dX5_ones_15 ?_
        refine z_iadd dX5_ones_16 ?_
        refine z_nm (fun x1 => ?_)
        refine z_istore_n (lv' := [(1, .int x1), (0, .int v0), (2, .int v2)]) dX5_ones_17 rfl (by decide) rfl ?_
        refine z_iinc (k := 2) (lv' := [(2, .int (v2 + 1)), (1, .int x1), (0, .int v0)]) dX5_ones_18 rfl (k_i1 _) (by decide) rfl ?_
        refine z_goto (tg := 4) dX5_ones_21 (by decide) ?_
        exact z_sub (lv' := [(0, .int v0), (1, .int x1), (2, .int (v2 + 1))]) [2, 1, 0] rfl (ih v0 x1 (v2 + 1) m)
set_option maxRecDepth 100000 in
set_option maxHeartbeats 4000000 in
theorem s_X5_ones (X : z_X) (v0 : Int32) (m : z_M) : z_Sim X yX5_ones cX5_ones 3 (some .int) 0 0 [(0, .int v0)] [] m (f_X5_ones v0 m) := by
  unfold f_X5_ones
  refine z_iconst (v := 0) dX5_ones_0 k_c0 ?_
  refine z_istore_n (lv' := [(1, .int 0), (0, .int v0)]) dX5_ones_1 rfl (by decide) rfl ?_
  refine z_iconst (v := 0) dX5_ones_2 k_c0 ?_
  refine z_istore_n (lv' := [(2, .int 0), (1, .int 0), (0, .int v0)]) dX5_ones_3 rfl (by decide) rfl ?_
  exact z_sub (lv' := [(0, .int v0), (1, .int 0), (2, .int 0)]) [2, 1, 0] rfl (s_X5_ones_L4 X 400 v0 0 0 m)
set_option maxRecDepth 100000 in
set_option maxHeartbeats 4000000 in
theorem c_X5_ones (X : z_X) (v0 : Int32) (m : z_M) : z_Ct X yX5_ones cX5_ones 3 (some .int) 0 [.int v0] m (f_X5_ones v0 m) := z_Ct.of (by decide) (Nat.le_of_ble_eq_true rfl) (s_X5_ones X v0 m)
set_option maxRecDepth 100000 in
set_option maxHeartbeats 4000000 in
theorem s_X5_turnOf (X : z_X) (v0 : Int32) (m : z_M) : z_Sim X yX5_turnOf cX5_turnOf 1 (some .int) 0 0 [(0, .int v0)] [] m (f_X5_turnOf v0 m) := by
  unfold f_X5_turnOf
  refine z_iload_n dX5_turnOf_0 rfl 0 rfl ?_
  refine z_if_ge (tg := 8) dX5_turnOf_1 (by decide) ?_ ?_
  · refine z_iload_n dX5_turnOf_8 rfl 0 rfl ?_
    refine z_if_ne (tg := 16) dX5_turnOf_9 (by decide) ?_ ?_
    · refine z_iload_n dX5_turnOf_16 rfl 0 rfl ?_
      exact z_iret dX5_turnOf_17
    · refine z_iconst (v := 3) dX5_turnOf_12 k_c3 ?_
      refine z_goto (tg := 17) dX5_turnOf_13 (by decide) ?_
      exact z_iret dX5_turnOf_17
  · refine z_iconst (v := 0) dX5_turnOf_4 k_c0 ?_
    refine z_goto (tg := 17) dX5_turnOf_5 (by decide) ?_
    exact z_iret dX5_turnOf_17
set_option maxRecDepth 100000 in
set_option maxHeartbeats 4000000 in
theorem c_X5_turnOf (X : z_X) (v0 : Int32) (m : z_M) : z_Ct X yX5_turnOf cX5_turnOf 1 (some .int) 0 [.int v0] m (f_X5_turnOf v0 m) := z_Ct.of (by decide) (Nat.le_of_ble_eq_true rfl) (s_X5_turnOf X v0 m)
set_option maxRecDepth 100000 in
set_option maxHeartbeats 4000000 in
theorem s_X5_wrongly (X : z_X) (v0 : Int32) (m : z_M) : z_Sim X yX5_wrongly cX5_wrongly 1 (some .int) 0 0 [(0, .int v0)] [] m (f_X5_wrongly v0 m) := by
  unfold f_X5_wrongly
  refine z_iload_n dX5_wrongly_0 rfl 0 rfl ?_
  refine z_iconst (v := 2) dX5_wrongly_1 k_c2 ?_
  refine z_icmp_ne (tg := 9) dX5_wrongly_2 (by decide) ?_ ?_
  · refine z_iconst (v := 1) dX5_wrongly_9 k_c1 ?_
    refine z_iload_n dX5_wrongly_10 rfl 0 rfl ?_
    refine z_isub dX5_wrongly_11 ?_
    exact z_iret dX5_wrongly_12
  · refine z_iconst (v := 2) dX5_wrongly_5 k_c2 ?_
    refine z_goto (tg := 12) dX5_wrongly_6 (by decide) ?_
    exact z_iret dX5_wrongly_12
set_option maxRecDepth 100000 in
set_option maxHeartbeats 4000000 in
theorem c_X5_wrongly (X : z_X) (v0 : Int32) (m : z_M) : z_Ct X yX5_wrongly cX5_wrongly 1 (some .int) 0 [.int v0] m (f_X5_wrongly v0 m) := z_Ct.of (by decide) (Nat.le_of_ble_eq_true rfl) (s_X5_wrongly X v0 m)
set_option maxRecDepth 100000 in
set_option maxHeartbeats 4000000 in
theorem s_X5_turnBy_L70 (X : z_X) (s0 : Int32) (m : z_M) : z_Sim X yX5_turnBy cX5_turnBy 6 (some .int) 3 70 [] [.int s0] m (f_X5_turnBy_L70 s0 m) := by
  unfold f_X5_turnBy_L70
  refine z_cSi (As := [.int s0]) (rest := []) (c_X5_turnOf X s0 m) mw_X5_turnOf iw_X5_turnOf wm_X5_117 rfl rfl (by decide) (Nat.le_of_ble_eq_true rfl) dX5_turnBy_70 (fun x1 m2 => ?_)
  exact z_iret dX5_turnBy_73
set_option maxRecDepth 100000 in
set_option maxHeartbeats 4000000 in
theorem s_X5_turnBy_L55 (X : z_X) (v2 : Int32) (s0 : Int32) (m : z_M) : z_Sim X yX5_turnBy cX5_turnBy 6 (some .int) 3 55 [(2, .int v2)] [.int s0] m (f_X5_turnBy_L55 v2 s0 m) := by
  unfold f_X5_turnBy_L55
  refine z_istore (lv' := [(5, .int s0), (2, .int v2)]) dX5_turnBy_55 (by decide) rfl ?_
  refine z_iload dX5_turnBy_57 0 rfl ?_
  refine z_if_eq (tg := 69) dX5_turnBy_59 (by decide) ?_ ?_
  · refine z_iload_n dX5_turnBy_69 rfl 1 rfl ?_
    exact z_sub (lv' := []) [] rfl (s_X5_turnBy_L70 X v2 m)
  · refine z_iload_n dX5_turnBy_62 rfl 1 rfl ?_
    refine z_cSi (As := [.int v2]) (rest := []) (c_X5_wrongly X v2 m) mw_X5_wrongly iw_X5_wrongly wm_X5_123 rfl rfl (by decide) (Nat.le_of_ble_eq_true rfl) dX5_turnBy_63 (fun x3 m4 => ?_)
    refine z_goto (tg := 70) dX5_turnBy_66 (by decide) ?_
    exact z_sub (lv' := []) [] rfl (s_X5_turnBy_L70 X x3 m4)
set_option maxRecDepth 100000 in
set_option maxHeartbeats 4000000 in
theorem s_X5_turnBy_L54 (X : z_X) (v2 : Int32) (m : z_M) : z_Sim X yX5_turnBy cX5_turnBy 6 (some .int) 3 54 [(2, .int v2)] [] m (f_X5_turnBy_L54 v2 m) := by
  unfold f_X5_turnBy_L54
  refine z_iconst (v := 0) dX5_turnBy_54 k_c0 ?_
  exact z_sub (lv' := [(2, .int v2)]) [0] rfl (s_X5_turnBy_L55 X v2 0 m)
set_option maxRecDepth 100000 in
set_option maxHeartbeats 4000000 in
theorem s_X5_turnBy (X : z_X) (v0 : Nat) (v1 : Int32) (v2 : Int32) (v3 : Int32) (m : z_M) : z_Sim X yX5_turnBy cX5_turnBy 6 (some .int) 3 0 [(0, .ref (z_ad X v0)), (1, .int v1), (2, .int v2), (3, .int v3)] [] m (f_X5_turnBy v0 v1 v2 v3 m) := by
  unfold f_X5_turnBy
  refine z_aload_n dX5_turnBy_0 rfl 0 rfl ?_
  refine z_iload_n dX5_turnBy_1 rfl 1 rfl ?_
  refine z_cVi (As := [.int v1]) (rest := []) (c_X5_turnsAs X v0 v1 m) mw_X5_turnsAs iw_X5_turnsAs z_X5 wm_X5_114 rfl rfl (by decide) (Nat.le_of_ble_eq_true rfl) dX5_turnBy_2 (fun x5 m6 => ?_)
  refine z_istore (lv' := [(4, .int x5), (0, .ref (z_ad X v0)), (1, .int v1), (2, .int v2), (3, .int v3)]) dX5_turnBy_5 (by decide) rfl ?_
  refine z_aload_n dX5_turnBy_7 rfl 1 rfl ?_
  refine z_getP z_X5 (j := 2) (by decide) rfl rfl wf_X5_13 dX5_turnBy_8 (fun a7 => ?_)
  refine z_iconst (v := 3) dX5_turnBy_11 k_c3 ?_
  refine z_iload dX5_turnBy_12 0 rfl ?_
  refine z_iadd dX5_turnBy_14 ?_
  refine z_iald dX5_turnBy_15 (fun x8 => ?_)
  refine z_iconst (v := 3) dX5_turnBy_16 k_c3 ?_
  refine z_icmp_ne (tg := 31) dX5_turnBy_17 (by decide) ?_ ?_
  · refine z_aload_n dX5_turnBy_31 rfl 1 rfl ?_
    refine z_iload dX5_turnBy_32 0 rfl ?_
    refine z_cVi (As := [.int x5]) (rest := []) (c_X5_mayErr X v0 x5 m6) mw_X5_mayErr iw_X5_mayErr z_X5 wm_X5_120 rfl rfl (by decide) (Nat.le_of_ble_eq_true rfl) dX5_turnBy_34 (fun x9 m10 => ?_)
    refine z_if_eq (tg := 54) dX5_turnBy_37 (by decide) ?_ ?_
    · exact z_sub (lv' := [(2, .int v2)]) [3] rfl (s_X5_turnBy_L54 X v2 m10)
    · refine z_iload_n dX5_turnBy_40 rfl 4 rfl ?_
      refine z_iload dX5_turnBy_41 0 rfl ?_
      refine z_ishr dX5_turnBy_43 ?_
      refine z_iconst (v := 1) dX5_turnBy_44 k_c1 ?_
      refine z_iand dX5_turnBy_45 ?_
      refine z_iconst (v := 1) dX5_turnBy_46 k_c1 ?_
      refine z_icmp_ne (tg := 54) dX5_turnBy_47 (by decide) ?_ ?_
      · exact z_sub (lv' := [(2, .int v2)]) [3] rfl (s_X5_turnBy_L54 X v2 m10)
      · refine z_iconst (v := 1) dX5_turnBy_50 k_c1 ?_
        refine z_goto (tg := 55) dX5_turnBy_51 (by decide) ?_
        exact z_sub (lv' := [(2, .int v2)]) [3] rfl (s_X5_turnBy_L55 X v2 1 m10)
  · refine z_aload_n dX5_turnBy_20 rfl 1 rfl ?_
    refine z_getP z_X5 (j := 4) (by decide) rfl rfl wf_X5_19 dX5_turnBy_21 (fun a11 => ?_)
    refine z_bipush (v := 18) dX5_turnBy_24 k_bi18 ?_
    refine z_iald dX5_turnBy_26 (fun x12 => ?_)
    refine z_cSi (As := [.int x12]) (rest := []) (c_X5_turnOf X x12 m6) mw_X5_turnOf iw_X5_turnOf wm_X5_117 rfl rfl (by decide) (Nat.le_of_ble_eq_true rfl) dX5_turnBy_27 (fun x13 m14 => ?_)
    exact z_iret dX5_turnBy_30
set_option maxRecDepth 100000 in
set_option maxHeartbeats 4000000 in
theorem c_X5_turnBy (X : z_X) (v0 : Nat) (v1 : Int32) (v2 : Int32) (v3 : Int32) (m : z_M) : z_Ct X yX5_turnBy cX5_turnBy 6 (some .int) 3 [.ref (z_ad X v0), .int v1, .int v2, .int v3] m (f_X5_turnBy v0 v1 v2 v3 m) := z_Ct.of (by decide) (Nat.le_of_ble_eq_true rfl) (s_X5_turnBy X v0 v1 v2 v3 m)
set_option maxRecDepth 100000 in
set_option maxHeartbeats 4000000 in
theorem s_X5_alike_L222 (X : z_X) (h57 : Nat → Int32 → Int32 → Int32 → Int32 → Int32 → Int32 → z_M → z_R) (H57 : ∀ (w0 : Nat) (w1 : Int32) (w2 : Int32) (w3 : Int32) (w4 : Int32) (w5 : Int32) (w6 : Int32) (w : z_M), z_Sim X yX5_alike cX5_alike 10 (some .int) 4 57 [(0, .ref (z_ad X w0)), (1, .int w1), (2, .int w2), (3, .int w3), (4, .int w4), (5, .int w5), (6, .int w6)] [] w (h57 w0 w1 w2 w3 w4 w5 w6 w)) (v0 : Nat) (v1 : Int32) (v2 : Int32) (v3 : Int32) (v4 : Int32) (v5 : Int32) (v6 : Int32) (m : z_M) : z_Sim X yX5_alike cX5_alike 10 (some .int) 4 222 [(0, .ref (z_ad X v0)), (1, .int v1), (2, .int v2), (3, .int v3), (4, .int v4), (5, .int v5), (6, .int v6)] [] m (f_X5_alike_L222 h57 v0 v1 v2 v3 v4 v5 v6 m) := by
  unfold f_X5_alike_L222
  refine z_iinc (k := 6) (lv' := [(6, .int (v6 + 1)), (0, .ref (z_ad X v0)), (1, .int v1), (2, .int v2), (3, .int v3), (4, .int v4), (5, .int v5)]) dX5_alike_222 rfl (k_i1 _) (by decide) rfl ?_
  refine z_goto (tg := 57) dX5_alike_225 (by decide) ?_
  exact z_sub (lv' := [(0, .ref (z_ad X v0)), (1, .int v1), (2, .int v2), (3, .int v3), (4, .int v4), (5, .int v5), (6, .int (v6 + 1))]) [1, 2, 3, 4, 5, 6, 0] rfl (H57 v0 v1 v2 v3 v4 v5 (v6 + 1) m)
set_option maxRecDepth 100000 in
set_option maxHeartbeats 4000000 in
theorem s_X5_alike_L219 (X : z_X) (h57 : Nat → Int32 → Int32 → Int32 → Int32 → Int32 → Int32 → z_M → z_R) (H57 : ∀ (w0 : Nat) (w1 : Int32) (w2 : Int32) (w3 : Int32) (w4 : Int32) (w5 : Int32) (w6 : Int32) (w : z_M), z_Sim X yX5_alike cX5_alike 10 (some .int) 4 57 [(0, .ref (z_ad X w0)), (1, .int w1), (2, .int w2), (3, .int w3), (4, .int w4), (5, .int w5), (6, .int w6)] [] w (h57 w0 w1 w2 w3 w4 w5 w6 w)) (v0 : Nat) (v1 : Int32) (v2 : Int32) (v3 : Int32) (v5 : Int32) (v6 : Int32) (s0 : Int32) (s1 : Int32) (m : z_M) : z_Sim X yX5_alike cX5_alike 10 (some .int) 4 219 [(0, .ref (z_ad X v0)), (1, .int v1), (2, .int v2), (3, .int v3), (5, .int v5), (6, .int v6)] [.int s0, .int s1] m (f_X5_alike_L219 h57 v0 v1 v2 v3 v5 v6 s0 s1 m) := by
  unfold f_X5_alike_L219
  refine z_iadd dX5_alike_219 ?_
  refine z_nm (fun x1 => ?_)
  refine z_istore (lv' := [(4, .int x1), (0, .ref (z_ad X v0)), (1, .int v1), (2, .int v2), (3, .int v3), (5, .int v5), (6, .int v6)]) dX5_alike_220 (by decide) rfl ?_
  exact z_sub (lv' := [(0, .ref (z_ad X v0)), (1, .int v1), (2, .int v2), (3, .int v3), (4, .int x1), (5, .int v5), (6, .int v6)]) [1, 2, 3, 4, 0, 5, 6] rfl (s_X5_alike_L222 X h57 H57 v0 v1 v2 v3 x1 v5 v6 m)
set_option maxRecDepth 100000 in
set_option maxHeartbeats 4000000 in
theorem s_X5_alike_L198 (X : z_X) (h83 : Nat → Int32 → Int32 → Int32 → Int32 → Int32 → Int32 → Int32 → Int32 → Int32 → z_M → z_R) (H83 : ∀ (w0 : Nat) (w1 : Int32) (w2 : Int32) (w3 : Int32) (w4 : Int32) (w5 : Int32) (w6 : Int32) (w7 : Int32) (w8 : Int32) (w9 : Int32) (w : z_M), z_Sim X yX5_alike cX5_alike 10 (some .int) 4 83 [(0, .ref (z_ad X w0)), (1, .int w1), (2, .int w2), (3, .int w3), (4, .int w4), (5, .int w5), (6, .int w6), (7, .int w7), (8, .int w8), (9, .int w9)] [] w (h83 w0 w1 w2 w3 w4 w5 w6 w7 w8 w9 w)) (v0 : Nat) (v1 : Int32) (v2 : Int32) (v3 : Int32) (v4 : Int32) (v5 : Int32) (v6 : Int32) (v7 : Int32) (v9 : Int32) (s0 : Int32) (m : z_M) : z_Sim X yX5_alike cX5_alike 10 (some .int) 4 198 [(0, .ref (z_ad X v0)), (1, .int v1), (2, .int v2), (3, .int v3), (4, .int v4), (5, .int v5), (6, .int v6), (7, .int v7), (9, .int v9)] [.int s0] m (f_X5_alike_L198 h83 v0 v1 v2 v3 v4 v5 v6 v7 v9 s0 m) := by
  unfold f_X5_alike_L198
  refine z_istore (lv' := [(8, .int s0), (0, .ref (z_ad X v0)), (1, .int v1), (2, .int v2), (3, .int v3), (4, .int v4), (5, .int v5), (6, .int v6), (7, .int v7), (9, .int v9)]) dX5_alike_198 (by decide) rfl ?_
  refine z_iinc (k := 9) (lv' := [(9, .int (v9 + 1)), (8, .int s0), (0, .ref (z_ad X v0)), (1, .int v1), (2, .int v2), (3, .int v3), (4, .int v4), (5, .int v5), (6, .int v6), (7, .int v7)]) dX5_alike_200 rfl (k_i1 _) (by decide) rfl ?_
  refine z_goto (tg := 83) dX5_alike_203 (by decide) ?_
  exact z_sub (lv' := [(0, .ref (z_ad X v0)), (1, .int v1), (2, .int v2), (3, .int v3), (4, .int v4), (5, .int v5), (6, .int v6), (7, .int v7), (8, .int s0), (9, .int (v9 + 1))]) [2, 3, 4, 5, 6, 7, 8, 9, 1, 0] rfl (H83 v0 v1 v2 v3 v4 v5 v6 v7 s0 (v9 + 1) m)
set_option maxRecDepth 100000 in
set_option maxHeartbeats 4000000 in
theorem s_X5_alike_L197 (X : z_X) (h83 : Nat → Int32 → Int32 → Int32 → Int32 → Int32 → Int32 → Int32 → Int32 → Int32 → z_M → z_R) (H83 : ∀ (w0 : Nat) (w1 : Int32) (w2 : Int32) (w3 : Int32) (w4 : Int32) (w5 : Int32) (w6 : Int32) (w7 : Int32) (w8 : Int32) (w9 : Int32) (w : z_M), z_Sim X yX5_alike cX5_alike 10 (some .int) 4 83 [(0, .ref (z_ad X w0)), (1, .int w1), (2, .int w2), (3, .int w3), (4, .int w4), (5, .int w5), (6, .int w6), (7, .int w7), (8, .int w8), (9, .int w9)] [] w (h83 w0 w1 w2 w3 w4 w5 w6 w7 w8 w9 w)) (v0 : Nat) (v1 : Int32) (v2 : Int32) (v3 : Int32) (v4 : Int32) (v5 : Int32) (v6 : Int32) (v7 : Int32) (v9 : Int32) (m : z_M) : z_Sim X yX5_alike cX5_alike 10 (some .int) 4 197 [(0, .ref (z_ad X v0)), (1, .int v1), (2, .int v2), (3, .int v3), (4, .int v4), (5, .int v5), (6, .int v6), (7, .int v7), (9, .int v9)] [] m (f_X5_alike_L197 h83 v0 v1 v2 v3 v4 v5 v6 v7 v9 m) := by
  unfold f_X5_alike_L197
  refine z_iconst (v := 0) dX5_alike_197 k_c0 ?_
  exact z_sub (lv' := [(0, .ref (z_ad X v0)), (1, .int v1), (2, .int v2), (3, .int v3), (4, .int v4), (5, .int v5), (6, .int v6), (7, .int v7), (9, .int v9)]) [0, 1, 2, 3, 4, 5, 6, 7, 8] rfl (s_X5_alike_L198 X h83 H83 v0 v1 v2 v3 v4 v5 v6 v7 v9 0 m)
set_option maxRecDepth 100000 in
set_option maxHeartbeats 4000000 in
theorem s_X5_alike_L146 (X : z_X) (h83 : Nat → Int32 → Int32 → Int32 → Int32 → Int32 → Int32 → Int32 → Int32 → Int32 → z_M → z_R) (H83 : ∀ (w0 : Nat) (w1 : Int32) (w2 : Int32) (w3 : Int32) (w4 : Int32) (w5 : Int32) (w6 : Int32) (w7 : Int32) (w8 : Int32) (w9 : Int32) (w : z_M), z_Sim X yX5_alike cX5_alike 10 (some .int) 4 83 [(0, .ref (z_ad X w0)), (1, .int w1), (2, .int w2), (3, .int w3), (4, .int w4), (5, .int w5), (6, .int w6), (7, .int w7), (8, .int w8), (9, .int w9)] [] w (h83 w0 w1 w2 w3 w4 w5 w6 w7 w8 w9 w)) (v0 : Nat) (v1 : Int32) (v2 : Int32) (v3 : Int32) (v4 : Int32) (v5 : Int32) (v6 : Int32) (v8 : Int32) (v9 : Int32) (s0 : Int32) (s1 : Int32) (m : z_M) : z_Sim X yX5_alike cX5_alike 10 (some .int) 4 146 [(0, .ref (z_ad X v0)), (1, .int v1), (2, .int v2), (3, .int v3), (4, .int v4), (5, .int v5), (6, .int v6), (8, .int v8), (9, .int v9)] [.int s0, .int s1] m (f_X5_alike_L146 h83 v0 v1 v2 v3 v4 v5 v6 v8 v9 s0 s1 m) := by
  unfold f_X5_alike_L146
  refine z_imul dX5_alike_146 ?_
  refine z_nm (fun x2 => ?_)
  refine z_istore (lv' := [(7, .int x2), (0, .ref (z_ad X v0)), (1, .int v1), (2, .int v2), (3, .int v3), (4, .int v4), (5, .int v5), (6, .int v6), (8, .int v8), (9, .int v9)]) dX5_alike_147 (by decide) rfl ?_
  refine z_iload dX5_alike_149 8 rfl ?_
  refine z_if_eq (tg := 197) dX5_alike_151 (by decide) ?_ ?_
  · exact z_sub (lv' := [(0, .ref (z_ad X v0)), (1, .int v1), (2, .int v2), (3, .int v3), (4, .int v4), (5, .int v5), (6, .int v6), (7, .int x2), (9, .int v9)]) [1, 2, 3, 4, 5, 6, 7, 0, 9] rfl (s_X5_alike_L197 X h83 H83 v0 v1 v2 v3 v4 v5 v6 x2 v9 m)
  · refine z_aload_n dX5_alike_154 rfl 1 rfl ?_
    refine z_getP z_X5 (j := 4) (by decide) rfl rfl wf_X5_19 dX5_alike_155 (fun a3 => ?_)
    refine z_iload dX5_alike_158 9 rfl ?_
    refine z_iald dX5_alike_160 (fun x4 => ?_)
    refine z_aload_n dX5_alike_161 rfl 1 rfl ?_
    refine z_iload dX5_alike_162 9 rfl ?_
    refine z_iload_n dX5_alike_164 rfl 2 rfl ?_
    refine z_iload dX5_alike_165 7 rfl ?_
    refine z_cVi (As := [.int v9, .int v1, .int v6]) (rest := [.int x4]) (c_X5_turnBy X v0 v9 v1 v6 m) mw_X5_turnBy iw_X5_turnBy z_X5 wm_X5_126 rfl rfl (by decide) (Nat.le_of_ble_eq_true rfl) dX5_alike_167 (fun x5 m6 => ?_)
    refine z_iadd dX5_alike_170 ?_
    refine z_iconst (v := 4) dX5_alike_171 k_c4 ?_
    refine z_irem dX5_alike_172 (by decide) ?_
    refine z_aload_n dX5_alike_173 rfl 1 rfl ?_
    refine z_getP z_X5 (j := 4) (by decide) rfl rfl wf_X5_19 dX5_alike_174 (fun a7 => ?_)
    refine z_iconst (v := 0) dX5_alike_177 k_c0 ?_
    refine z_iald dX5_alike_178 (fun x8 => ?_)
    refine z_aload_n dX5_alike_179 rfl 1 rfl ?_
    refine z_iconst (v := 0) dX5_alike_180 k_c0 ?_
    refine z_iload_n dX5_alike_181 rfl 2 rfl ?_
    refine z_iload dX5_alike_182 7 rfl ?_
    refine z_cVi (As := [.int 0, .int v1, .int v6]) (rest := [.int x8, .int (z_mI (x4 + x5) 4)]) (c_X5_turnBy X v0 0 v1 v6 m6) mw_X5_turnBy iw_X5_turnBy z_X5 wm_X5_126 rfl rfl (by decide) (Nat.le_of_ble_eq_true rfl) dX5_alike_184 (fun x9 m10 => ?_)
    refine z_iadd dX5_alike_187 ?_
    refine z_iconst (v := 4) dX5_alike_188 k_c4 ?_
    refine z_irem dX5_alike_189 (by decide) ?_
    refine z_icmp_ne (tg := 197) dX5_alike_190 (by decide) ?_ ?_
    · exact z_sub (lv' := [(0, .ref (z_ad X v0)), (1, .int v1), (2, .int v2), (3, .int v3), (4, .int v4), (5, .int v5), (6, .int v6), (7, .int x2), (9, .int v9)]) [1, 2, 3, 4, 5, 6, 7, 0, 9] rfl (s_X5_alike_L197 X h83 H83 v0 v1 v2 v3 v4 v5 v6 x2 v9 m10)
    · refine z_iconst (v := 1) dX5_alike_193 k_c1 ?_
      refine z_goto (tg := 198) dX5_alike_194 (by decide) ?_
      exact z_sub (lv' := [(0, .ref (z_ad X v0)), (1, .int v1), (2, .int v2), (3, .int v3), (4, .int v4), (5, .int v5), (6, .int v6), (7, .int x2), (9, .int v9)]) [1, 2, 3, 4, 5, 6, 7, 0, 9] rfl (s_X5_alike_L198 X h83 H83 v0 v1 v2 v3 v4 v5 v6 x2 v9 1 m10)
set_option maxRecDepth 100000 in
set_option maxHeartbeats 4000000 in
theorem s_X5_alike_L83 (X : z_X) (h57 : Nat → Int32 → Int32 → Int32 → Int32 → Int32 → Int32 → z_M → z_R) (H57 : ∀ (w0 : Nat) (w1 : Int32) (w2 : Int32) (w3 : Int32) (w4 : Int32) (w5 : Int32) (w6 : Int32) (w : z_M), z_Sim X yX5_alike cX5_alike 10 (some .int) 4 57 [(0, .ref (z_ad X w0)), (1, .int w1), (2, .int w2), (3, .int w3), (4, .int w4), (5, .int w5), (6, .int w6)] [] w (h57 w0 w1 w2 w3 w4 w5 w6 w)) : ∀ (n : Nat) (v0 : Nat) (v1 : Int32) (v2 : Int32) (v3 : Int32) (v4 : Int32) (v5 : Int32) (v6 : Int32) (v7 : Int32) (v8 : Int32) (v9 : Int32) (m : z_M), z_Sim X yX5_alike cX5_alike 10 (some .int) 4 83 [(0, .ref (z_ad X v0)), (1, .int v1), (2, .int v2), (3, .int v3), (4, .int v4), (5, .int v5), (6, .int v6), (7, .int v7), (8, .int v8), (9, .int v9)] [] m (f_X5_alike_L83 h57 n v0 v1 v2 v3 v4 v5 v6 v7 v8 v9 m) := by
  intro n
  induction n with
  | zero => intros; exact z_none
  | succ n ih =>
      intro v0 v1 v2 v3 v4 v5 v6 v7 v8 v9 m
      unfold f_X5_alike_L83
      refine z_iload dX5_alike_83 9 rfl ?_
      refine z_aload_n dX5_alike_85 rfl 0 rfl ?_
      refine z_getP z_X5 (j := 2) (by decide) rfl rfl wf_X5_13 dX5_alike_86 (fun a11 => ?_)
      refine z_iconst (v := 0) dX5_alike_89 k_c0 ?_
      refine z_iald dX5_alike_90 (fun x12 => ?_)
      refine z_icmp_ge (tg := 206) dX5_alike_91 (by decide) ?_ ?_
      · refine z_iload dX5_alike_206 4 rfl ?_
        refine z_iload dX5_alike_208 8 rfl ?_
        refine z_if_eq (tg := 218) dX5_alike_210 (by decide) ?_ ?_
        · refine z_iconst (v := 0) dX5_alike_218 k_c0 ?_
          exact z_sub (lv' := [(0, .ref (z_ad X v0)), (1, .int v1), (2, .int v2), (3, .int v3), (5, .int v5), (6, .int v6)]) [0, 1, 2, 3, 5, 6] rfl (s_X5_alike_L219 X h57 H57 v0 v1 v2 v3 v5 v6 0 v4 m)
        · refine z_iload dX5_alike_213 7 rfl ?_
          refine z_goto (tg := 219) dX5_alike_215 (by decide) ?_
          exact z_sub (lv' := [(0, .ref (z_ad X v0)), (1, .int v1), (2, .int v2), (3, .int v3), (5, .int v5), (6, .int v6)]) [0, 1, 2, 3, 5, 6] rfl (s_X5_alike_L219 X h57 H57 v0 v1 v2 v3 v5 v6 v7 v4 m)
      · refine z_iload dX5_alike_94 7 rfl ?_
        refine z_iload_n dX5_alike_96 rfl 3 rfl ?_
        refine z_iload dX5_alike_97 9 rfl ?_
        refine z_ishr dX5_alike_99 ?_
        refine z_iconst (v := 1) dX5_alike_100 k_c1 ?_
        refine z_iand dX5_alike_101 ?_
        refine z_if_ne (tg := 109) dX5_alike_102 (by decide) ?_ ?_
        · refine z_iload dX5_alike_109 6 rfl ?_
          refine z_iload dX5_alike_111 9 rfl ?_
          refine z_ishr dX5_alike_113 ?_
          refine z_iconst (v := 1) dX5_alike_114 k_c1 ?_
          refine z_iand dX5_alike_115 ?_
          refine z_iconst (v := 1) dX5_alike_116 k_c1 ?_
          refine z_icmp_ne (tg := 133) dX5_alike_117 (by decide) ?_ ?_
          · refine z_bipush (v := 10) dX5_alike_133 k_bi10 ?_
            refine z_aload_n dX5_alike_135 rfl 0 rfl ?_
            refine z_getP z_X5 (j := 2) (by decide) rfl rfl wf_X5_13 dX5_alike_136 (fun a13 => ?_)
            refine z_bipush (v := 27) dX5_alike_139 k_bi27 ?_
            refine z_iload dX5_alike_141 9 rfl ?_
            refine z_iadd dX5_alike_143 ?_
            refine z_iald dX5_alike_144 (fun x14 => ?_)
            refine z_isub dX5_alike_145 ?_
            exact z_sub (lv' := [(0, .ref (z_ad X v0)), (1, .int v1), (2, .int v2), (3, .int v3), (4, .int v4), (5, .int v5), (6, .int v6), (8, .int v8), (9, .int v9)]) [0, 1, 2, 3, 4, 5, 6, 8, 9] rfl (s_X5_alike_L146 X (f_X5_alike_L83 h57 n) ih v0 v1 v2 v3 v4 v5 v6 v8 v9 (10 - x14) v7 m)
          · refine z_aload_n dX5_alike_120 rfl 0 rfl ?_
            refine z_getP z_X5 (j := 2) (by decide) rfl rfl wf_X5_13 dX5_alike_121 (fun a15 => ?_)
            refine z_bipush (v := 27) dX5_alike_124 k_bi27 ?_
            refine z_iload dX5_alike_126 9 rfl ?_
            refine z_iadd dX5_alike_128 ?_
            refine z_iald dX5_alike_129 (fun x16 => ?_)
            refine z_goto (tg := 146) dX5_alike_130 (by decide) ?_
            exact z_sub (lv' := [(0, .ref (z_ad X v0)), (1, .int v1), (2, .int v2), (3, .int v3), (4, .int v4), (5, .int v5), (6, .int v6), (8, .int v8), (9, .int v9)]) [0, 1, 2, 3, 4, 5, 6, 8, 9] rfl (s_X5_alike_L146 X (f_X5_alike_L83 h57 n) ih v0 v1 v2 v3 v4 v5 v6 v8 v9 x16 v7 m)
        · refine z_iconst (v := 1) dX5_alike_105 k_c1 ?_
          refine z_goto (tg := 146) dX5_alike_106 (by decide) ?_
          exact z_sub (lv' := [(0, .ref (z_ad X v0)), (1, .int v1), (2, .int v2), (3, .int v3), (4, .int v4), (5, .int v5), (6, .int v6), (8, .int v8), (9, .int v9)]) [0, 1, 2, 3, 4, 5, 6, 8, 9] rfl (s_X5_alike_L146 X (f_X5_alike_L83 h57 n) ih v0 v1 v2 v3 v4 v5 v6 v8 v9 1 v7 m)
set_option maxRecDepth 100000 in
set_option maxHeartbeats 4000000 in
theorem s_X5_alike_L57 (X : z_X) : ∀ (n : Nat) (v0 : Nat) (v1 : Int32) (v2 : Int32) (v3 : Int32) (v4 : Int32) (v5 : Int32) (v6 : Int32) (m : z_M), z_Sim X yX5_alike cX5_alike 10 (some .int) 4 57 [(0, .ref (z_ad X v0)), (1, .int v1), (2, .int v2), (3, .int v3), (4, .int v4), (5, .int v5), (6, .int v6)] [] m (f_X5_alike_L57 n v0 v1 v2 v3 v4 v5 v6 m) := by
  intro n
  induction n with
  | zero => intros; exact z_none
  | succ n ih =>
      intro v0 v1 v2 v3 v4 v5 v6 m
      unfold f_X5_alike_L57
      refine z_iload dX5_alike_57 6 rfl ?_
      refine z_sipush (v := 256) dX5_alike_59 k_si256 ?_
      refine z_icmp_ge (tg := 228) dX5_alike_62 (by decide) ?_ ?_
      · refine z_iload dX5_alike_228 4 rfl ?_
        refine z_iload dX5_alike_230 5 rfl ?_
        refine z_cSi (As := [.int v4, .int v5]) (rest := []) (c_X5_common X v4 v5 m) mw_X5_common iw_X5_common wm_X5_171 rfl rfl (by decide) (Nat.le_of_ble_eq_true rfl) dX5_alike_232 (fun x17 m18 => ?_)
        refine z_istore (lv' := [(6, .int x17), (0, .ref (z_ad X v0)), (1, .int v1), (2, .int v2), (3, .int v3), (4, .int v4), (5, .int v5)]) dX5_alike_235 (by decide) rfl ?_
        refine z_iload_n dX5_alike_237 rfl 3 rfl ?_
        refine z_if_ne (tg := 249) dX5_alike_238 (by decide) ?_ ?_
        · refine z_iload dX5_alike_249 6 rfl ?_
          refine z_iload dX5_alike_251 0 rfl ?_
          refine z_idivG dX5_alike_253 (fun x19 => ?_)
          exact z_iret dX5_alike_254
        · refine z_iload dX5_alike_241 5 rfl ?_
          refine z_iload dX5_alike_243 0 rfl ?_
          refine z_idivG dX5_alike_245 (fun x20 => ?_)
          refine z_goto (tg := 254) dX5_alike_246 (by decide) ?_
          exact z_iret dX5_alike_254
      · refine z_iload dX5_alike_65 6 rfl ?_
        refine z_iload_n dX5_alike_67 rfl 3 rfl ?_
        refine z_iconst (v := (-1)) dX5_alike_68 k_cm1 ?_
        refine z_ixor dX5_alike_69 ?_
        refine z_iand dX5_alike_70 ?_
        refine z_if_ne (tg := 222) dX5_alike_71 (by decide) ?_ ?_
        · exact z_sub (lv' := [(0, .ref (z_ad X v0)), (1, .int v1), (2, .int v2), (3, .int v3), (4, .int v4), (5, .int v5), (6, .int v6)]) [0, 1, 2, 3, 4, 5, 6] rfl (s_X5_alike_L222 X (f_X5_alike_L57 n) ih v0 v1 v2 v3 v4 v5 v6 m)
        · refine z_iconst (v := 1) dX5_alike_74 k_c1 ?_
          refine z_istore (lv' := [(7, .int 1), (0, .ref (z_ad X v0)), (1, .int v1), (2, .int v2), (3, .int v3), (4, .int v4), (5, .int v5), (6, .int v6)]) dX5_alike_75 (by decide) rfl ?_
          refine z_iconst (v := 1) dX5_alike_77 k_c1 ?_
          refine z_istore (lv' := [(8, .int 1), (7, .int 1), (0, .ref (z_ad X v0)), (1, .int v1), (2, .int v2), (3, .int v3), (4, .int v4), (5, .int v5), (6, .int v6)]) dX5_alike_78 (by decide) rfl ?_
          refine z_iconst (v := 0) dX5_alike_80 k_c0 ?_
          refine z_istore (lv' := [(9, .int 0), (8, .int 1), (7, .int 1), (0, .ref (z_ad X v0)), (1, .int v1), (2, .int v2), (3, .int v3), (4, .int v4), (5, .int v5), (6, .int v6)]) dX5_alike_81 (by decide) rfl ?_
          exact z_sub (lv' := [(0, .ref (z_ad X v0)), (1, .int v1), (2, .int v2), (3, .int v3), (4, .int v4), (5, .int v5), (6, .int v6), (7, .int 1), (8, .int 1), (9, .int 0)]) [3, 4, 5, 6, 7, 8, 9, 2, 1, 0] rfl (s_X5_alike_L83 X (f_X5_alike_L57 n) ih 400 v0 v1 v2 v3 v4 v5 v6 1 1 0 m)
set_option maxRecDepth 100000 in
set_option maxHeartbeats 4000000 in
theorem s_X5_alike_L32 (X : z_X) : ∀ (n : Nat) (v0 : Nat) (v1 : Int32) (v2 : Int32) (v3 : Int32) (v4 : Int32) (v5 : Int32) (v6 : Int32) (m : z_M), z_Sim X yX5_alike cX5_alike 10 (some .int) 4 32 [(0, .ref (z_ad X v0)), (1, .int v1), (2, .int v2), (3, .int v3), (4, .int v4), (5, .int v5), (6, .int v6)] [] m (f_X5_alike_L32 n v0 v1 v2 v3 v4 v5 v6 m) := by
  intro n
  induction n with
  | zero => intros; exact z_none
  | succ n ih =>
      intro v0 v1 v2 v3 v4 v5 v6 m
      unfold f_X5_alike_L32
      refine z_iload dX5_alike_32 6 rfl ?_
      refine z_iload_n dX5_alike_34 rfl 3 rfl ?_
      refine z_cSi (As := [.int v3]) (rest := [.int v6]) (c_X5_ones X v3 m) mw_X5_ones iw_X5_ones wm_X5_147 rfl rfl (by decide) (Nat.le_of_ble_eq_true rfl) dX5_alike_35 (fun x21 m22 => ?_)
      refine z_icmp_ge (tg := 54) dX5_alike_38 (by decide) ?_ ?_
      · refine z_iconst (v := 0) dX5_alike_54 k_c0 ?_
        refine z_istore (lv' := [(6, .int 0), (0, .ref (z_ad X v0)), (1, .int v1), (2, .int v2), (3, .int v3), (4, .int v4), (5, .int v5)]) dX5_alike_55 (by decide) rfl ?_
        exact z_sub (lv' := [(0, .ref (z_ad X v0)), (1, .int v1), (2, .int v2), (3, .int v3), (4, .int v4), (5, .int v5), (6, .int 0)]) [1, 2, 3, 4, 5, 6, 0] rfl (s_X5_alike_L57 X 400 v0 v1 v2 v3 v4 v5 0 m22)
      · refine z_iload dX5_alike_41 5 rfl ?_
        refine z_bipush (v := 10) dX5_alike_43 k_bi10 ?_
        refine z_imul dX5_alike_45 ?_
        refine z_nm (fun x23 => ?_)
        refine z_istore (lv' := [(5, .int x23), (0, .ref (z_ad X v0)), (1, .int v1), (2, .int v2), (3, .int v3), (4, .int v4), (6, .int v6)]) dX5_alike_46 (by decide) rfl ?_
        refine z_iinc (k := 6) (lv' := [(6, .int (v6 + 1)), (5, .int x23), (0, .ref (z_ad X v0)), (1, .int v1), (2, .int v2), (3, .int v3), (4, .int v4)]) dX5_alike_48 rfl (k_i1 _) (by decide) rfl ?_
        refine z_goto (tg := 32) dX5_alike_51 (by decide) ?_
        exact z_sub (lv' := [(0, .ref (z_ad X v0)), (1, .int v1), (2, .int v2), (3, .int v3), (4, .int v4), (5, .int x23), (6, .int (v6 + 1))]) [2, 3, 4, 5, 6, 1, 0] rfl (ih v0 v1 v2 v3 v4 x23 (v6 + 1) m22)
set_option maxRecDepth 100000 in
set_option maxHeartbeats 4000000 in
theorem s_X5_alike (X : z_X) (v0 : Nat) (v1 : Int32) (v2 : Int32) (m : z_M) : z_Sim X yX5_alike cX5_alike 10 (some .int) 4 0 [(0, .ref (z_ad X v0)), (1, .int v1), (2, .int v2)] [] m (f_X5_alike v0 v1 v2 m) := by
  unfold f_X5_alike
  refine z_iload_n dX5_alike_0 rfl 1 rfl ?_
  refine z_cSi (As := [.int v1]) (rest := []) (c_X5_isWord X v1 m) mw_X5_isWord iw_X5_isWord wm_X5_130 rfl rfl (by decide) (Nat.le_of_ble_eq_true rfl) dX5_alike_1 (fun x24 m25 => ?_)
  refine z_if_eq (tg := 16) dX5_alike_4 (by decide) ?_ ?_
  · refine z_iconst (v := (-1)) dX5_alike_16 k_cm1 ?_
    exact z_iret dX5_alike_17
  · refine z_iload_n dX5_alike_7 rfl 2 rfl ?_
    refine z_iconst (v := 0) dX5_alike_8 k_c0 ?_
    refine z_iconst (v := 1) dX5_alike_9 k_c1 ?_
    refine z_cSi (As := [.int v2, .int 0, .int 1]) (rest := []) (c_X5_in X v2 0 1 m25) mw_X5_in iw_X5_in wm_X5_45 rfl rfl (by decide) (Nat.le_of_ble_eq_true rfl) dX5_alike_10 (fun x26 m27 => ?_)
    refine z_if_ne (tg := 18) dX5_alike_13 (by decide) ?_ ?_
    · refine z_aload_n dX5_alike_18 rfl 0 rfl ?_
      refine z_cVi (As := []) (rest := []) (c_X5_doubtful X v0 m27) mw_X5_doubtful iw_X5_doubtful z_X5 wm_X5_168 rfl rfl (by decide) (Nat.le_of_ble_eq_true rfl) dX5_alike_19 (fun x28 m29 => ?_)
      refine z_istore_n (lv' := [(3, .int x28), (0, .ref (z_ad X v0)), (1, .int v1), (2, .int v2)]) dX5_alike_22 rfl (by decide) rfl ?_
      refine z_iconst (v := 0) dX5_alike_23 k_c0 ?_
      refine z_istore (lv' := [(4, .int 0), (3, .int x28), (0, .ref (z_ad X v0)), (1, .int v1), (2, .int v2)]) dX5_alike_24 (by decide) rfl ?_
      refine z_iconst (v := 1) dX5_alike_26 k_c1 ?_
      refine z_istore (lv' := [(5, .int 1), (4, .int 0), (3, .int x28), (0, .ref (z_ad X v0)), (1, .int v1), (2, .int v2)]) dX5_alike_27 (by decide) rfl ?_
      refine z_iconst (v := 0) dX5_alike_29 k_c0 ?_
      refine z_istore (lv' := [(6, .int 0), (5, .int 1), (4, .int 0), (3, .int x28), (0, .ref (z_ad X v0)), (1, .int v1), (2, .int v2)]) dX5_alike_30 (by decide) rfl ?_
      exact z_sub (lv' := [(0, .ref (z_ad X v0)), (1, .int v1), (2, .int v2), (3, .int x28), (4, .int 0), (5, .int 1), (6, .int 0)]) [4, 5, 6, 3, 2, 1, 0] rfl (s_X5_alike_L32 X 400 v0 v1 v2 x28 0 1 0 m29)
    · refine z_iconst (v := (-1)) dX5_alike_16 k_cm1 ?_
      exact z_iret dX5_alike_17
set_option maxRecDepth 100000 in
set_option maxHeartbeats 4000000 in
theorem c_X5_alike (X : z_X) (v0 : Nat) (v1 : Int32) (v2 : Int32) (m : z_M) : z_Ct X yX5_alike cX5_alike 10 (some .int) 4 [.ref (z_ad X v0), .int v1, .int v2] m (f_X5_alike v0 v1 v2 m) := z_Ct.of (by decide) (Nat.le_of_ble_eq_true rfl) (s_X5_alike X v0 v1 v2 m)
set_option maxRecDepth 100000 in
set_option maxHeartbeats 4000000 in
theorem s_X5_back_L22 (X : z_X) : ∀ (n : Nat) (v0 : Nat) (v1 : Int32) (m : z_M), z_Sim X yX5_back cX5_back 2 (some .int) 0 22 [(0, .ref (z_ad X v0)), (1, .int v1)] [] m (f_X5_back_L22 n v0 v1 m) := by
  intro n
  induction n with
  | zero => intros; exact z_none
  | succ n ih =>
      intro v0 v1 m
      unfold f_X5_back_L22
      refine z_iload_n dX5_back_22 rfl 1 rfl ?_
      refine z_bipush (v := 22) dX5_back_23 k_bi22 ?_
      refine z_icmp_ge (tg := 54) dX5_back_25 (by decide) ?_ ?_
      · refine z_aload_n dX5_back_54 rfl 0 rfl ?_
        refine z_iconst (v := 0) dX5_back_55 k_c0 ?_
        refine z_setI z_X5 (by decide) rfl rfl wf_X5_81 dX5_back_56 ?_
        generalize z_wI m v0 6 0 = m1
        refine z_aload_n dX5_back_59 rfl 0 rfl ?_
        refine z_getI z_X5 (j := 8) (by decide) rfl rfl wf_X5_84 dX5_back_60 (fun x2 => ?_)
        exact z_iret dX5_back_63
      · refine z_aload_n dX5_back_28 rfl 0 rfl ?_
        refine z_getP z_X5 (j := 4) (by decide) rfl rfl wf_X5_19 dX5_back_29 (fun a3 => ?_)
        refine z_iload_n dX5_back_32 rfl 1 rfl ?_
        refine z_aload_n dX5_back_33 rfl 0 rfl ?_
        refine z_getP z_X5 (j := 7) (by decide) rfl rfl wf_X5_25 dX5_back_34 (fun a4 => ?_)
        refine z_bipush (v := 22) dX5_back_37 k_bi22 ?_
        refine z_aload_n dX5_back_39 rfl 0 rfl ?_
        refine z_getI z_X5 (j := 8) (by decide) rfl rfl wf_X5_84 dX5_back_40 (fun x5 => ?_)
        refine z_imul dX5_back_43 ?_
        refine z_iload_n dX5_back_44 rfl 1 rfl ?_
        refine z_iadd dX5_back_45 ?_
        refine z_iald dX5_back_46 (fun x6 => ?_)
        refine z_iast dX5_back_47 ?_
        generalize z_wI m a3 (Int32.toNatClampNeg v1) x6 = m7
        refine z_iinc (k := 1) (lv' := [(1, .int (v1 + 1)), (0, .ref (z_ad X v0))]) dX5_back_48 rfl (k_i1 _) (by decide) rfl ?_
        refine z_goto (tg := 22) dX5_back_51 (by decide) ?_
        exact z_sub (lv' := [(0, .ref (z_ad X v0)), (1, .int (v1 + 1))]) [1, 0] rfl (ih v0 (v1 + 1) m7)
set_option maxRecDepth 100000 in
set_option maxHeartbeats 4000000 in
theorem s_X5_back (X : z_X) (v0 : Nat) (m : z_M) : z_Sim X yX5_back cX5_back 2 (some .int) 0 0 [(0, .ref (z_ad X v0))] [] m (f_X5_back v0 m) := by
  unfold f_X5_back
  refine z_aload_n dX5_back_0 rfl 0 rfl ?_
  refine z_getI z_X5 (j := 8) (by decide) rfl rfl wf_X5_84 dX5_back_1 (fun x8 => ?_)
  refine z_if_ne (tg := 10) dX5_back_4 (by decide) ?_ ?_
  · refine z_aload_n dX5_back_10 rfl 0 rfl ?_
    refine z_dup dX5_back_11 rfl ?_
    refine z_getI z_X5 (j := 8) (by decide) rfl rfl wf_X5_84 dX5_back_12 (fun x9 => ?_)
    refine z_iconst (v := 1) dX5_back_15 k_c1 ?_
    refine z_isub dX5_back_16 ?_
    refine z_nm (fun x10 => ?_)
    refine z_setI z_X5 (by decide) rfl rfl wf_X5_84 dX5_back_17 ?_
    generalize z_wI m v0 8 x10 = m11
    refine z_iconst (v := 0) dX5_back_20 k_c0 ?_
    refine z_istore_n (lv' := [(1, .int 0), (0, .ref (z_ad X v0))]) dX5_back_21 rfl (by decide) rfl ?_
    exact z_sub (lv' := [(0, .ref (z_ad X v0)), (1, .int 0)]) [1, 0] rfl (s_X5_back_L22 X 400 v0 0 m11)
  · refine z_bipush (v := (-2)) dX5_back_7 k_bim2 ?_
    exact z_iret dX5_back_9
set_option maxRecDepth 100000 in
set_option maxHeartbeats 4000000 in
theorem c_X5_back (X : z_X) (v0 : Nat) (m : z_M) : z_Ct X yX5_back cX5_back 2 (some .int) 0 [.ref (z_ad X v0)] m (f_X5_back v0 m) := z_Ct.of (by decide) (Nat.le_of_ble_eq_true rfl) (s_X5_back X v0 m)
set_option maxRecDepth 100000 in
set_option maxHeartbeats 4000000 in
theorem s_X5_begins_L2 (X : z_X) : ∀ (n : Nat) (v0 : Nat) (v1 : Int32) (m : z_M), z_Sim X yX5_begins cX5_begins 2 none 0 2 [(0, .ref (z_ad X v0)), (1, .int v1)] [] m (f_X5_begins_L2 n v0 v1 m) := by
  intro n
  induction n with
  | zero => intros; exact z_none
  | succ n ih =>
      intro v0 v1 m
      unfold f_X5_begins_L2
      refine z_iload_n dX5_begins_2 rfl 1 rfl ?_
      refine z_bipush (v := 35) dX5_begins_3 k_bi35 ?_
      refine z_icmp_ge (tg := 21) dX5_begins_5 (by decide) ?_ ?_
      · exact z_vret dX5_begins_21
      · refine z_aload_n dX5_begins_8 rfl 0 rfl ?_
        refine z_getP z_X5 (j := 3) (by decide) rfl rfl wf_X5_16 dX5_begins_9 (fun a1 => ?_)
        refine z_iload_n dX5_begins_12 rfl 1 rfl ?_
        refine z_iconst (v := 0) dX5_begins_13 k_c0 ?_
        refine z_iast dX5_begins_14 ?_
        generalize z_wI m a1 (Int32.toNatClampNeg v1) 0 = m2
        refine z_iinc (k := 1) (lv' := [(1, .int (v1 + 1)), (0, .ref (z_ad X v0))]) dX5_begins_15 rfl (k_i1 _) (by decide) rfl ?_
        refine z_goto (tg := 2) dX5_begins_18 (by decide) ?_
        exact z_sub (lv' := [(0, .ref (z_ad X v0)), (1, .int (v1 + 1))]) [1, 0] rfl (ih v0 (v1 + 1) m2)
set_option maxRecDepth 100000 in
set_option maxHeartbeats 4000000 in
theorem s_X5_begins (X : z_X) (v0 : Nat) (m : z_M) : z_Sim X yX5_begins cX5_begins 2 none 0 0 [(0, .ref (z_ad X v0))] [] m (f_X5_begins v0 m) := by
  unfold f_X5_begins
  refine z_iconst (v := 0) dX5_begins_0 k_c0 ?_
  refine z_istore_n (lv' := [(1, .int 0), (0, .ref (z_ad X v0))]) dX5_begins_1 rfl (by decide) rfl ?_
  exact z_sub (lv' := [(0, .ref (z_ad X v0)), (1, .int 0)]) [1, 0] rfl (s_X5_begins_L2 X 400 v0 0 m)
set_option maxRecDepth 100000 in
set_option maxHeartbeats 4000000 in
theorem c_X5_begins (X : z_X) (v0 : Nat) (m : z_M) : z_Ct X yX5_begins cX5_begins 2 none 0 [.ref (z_ad X v0)] m (f_X5_begins v0 m) := z_Ct.of (by decide) (Nat.le_of_ble_eq_true rfl) (s_X5_begins X v0 m)
set_option maxRecDepth 100000 in
set_option maxHeartbeats 4000000 in
theorem s_X5_comesBy_L53 (X : z_X) (h8 : Nat → Int32 → Int32 → Int32 → Int32 → z_M → z_R) (H8 : ∀ (w0 : Nat) (w2 : Int32) (w3 : Int32) (w4 : Int32) (w5 : Int32) (w : z_M), z_Sim X yX5_comesBy cX5_comesBy 6 (some .boolean) 1 8 [(0, .ref (z_ad X w0)), (2, .int w2), (3, .int w3), (4, .int w4), (5, .int w5)] [] w (h8 w0 w2 w3 w4 w5 w)) (v0 : Nat) (v2 : Int32) (v4 : Int32) (v5 : Int32) (s0 : Int32) (m : z_M) : z_Sim X yX5_comesBy cX5_comesBy 6 (some .boolean) 1 53 [(0, .ref (z_ad X v0)), (2, .int v2), (4, .int v4), (5, .int v5)] [.int s0] m (f_X5_comesBy_L53 h8 v0 v2 v4 v5 s0 m) := by
  unfold f_X5_comesBy_L53
  refine z_istore_n (lv' := [(3, .int s0), (0, .ref (z_ad X v0)), (2, .int v2), (4, .int v4), (5, .int v5)]) dX5_comesBy_53 rfl (by decide) rfl ?_
  refine z_iinc (k := 4) (lv' := [(5, .int (v5 + 1)), (3, .int s0), (0, .ref (z_ad X v0)), (2, .int v2), (4, .int v4)]) dX5_comesBy_54 rfl (k_i1 _) (by decide) rfl ?_
  refine z_goto (tg := 8) dX5_comesBy_57 (by decide) ?_
  exact z_sub (lv' := [(0, .ref (z_ad X v0)), (2, .int v2), (3, .int s0), (4, .int v4), (5, .int (v5 + 1))]) [2, 3, 1, 4, 0] rfl (H8 v0 v2 s0 v4 (v5 + 1) m)
set_option maxRecDepth 100000 in
set_option maxHeartbeats 4000000 in
theorem s_X5_comesBy_L30 (X : z_X) (h8 : Nat → Int32 → Int32 → Int32 → Int32 → z_M → z_R) (H8 : ∀ (w0 : Nat) (w2 : Int32) (w3 : Int32) (w4 : Int32) (w5 : Int32) (w : z_M), z_Sim X yX5_comesBy cX5_comesBy 6 (some .boolean) 1 8 [(0, .ref (z_ad X w0)), (2, .int w2), (3, .int w3), (4, .int w4), (5, .int w5)] [] w (h8 w0 w2 w3 w4 w5 w)) (v0 : Nat) (v2 : Int32) (v3 : Int32) (v5 : Int32) (s0 : Int32) (m : z_M) : z_Sim X yX5_comesBy cX5_comesBy 6 (some .boolean) 1 30 [(0, .ref (z_ad X v0)), (2, .int v2), (3, .int v3), (5, .int v5)] [.int s0] m (f_X5_comesBy_L30 h8 v0 v2 v3 v5 s0 m) := by
  unfold f_X5_comesBy_L30
  refine z_istore (lv' := [(4, .int s0), (0, .ref (z_ad X v0)), (2, .int v2), (3, .int v3), (5, .int v5)]) dX5_comesBy_30 (by decide) rfl ?_
  refine z_aload_n dX5_comesBy_32 rfl 1 rfl ?_
  refine z_iload_n dX5_comesBy_33 rfl 3 rfl ?_
  refine z_cVi (As := [.int v3]) (rest := []) (c_X5_isLooking X v0 v3 m) mw_X5_isLooking iw_X5_isLooking z_X5 wm_X5_93 rfl rfl (by decide) (Nat.le_of_ble_eq_true rfl) dX5_comesBy_34 (fun x1 m2 => ?_)
  refine z_if_eq (tg := 52) dX5_comesBy_37 (by decide) ?_ ?_
  · refine z_iload_n dX5_comesBy_52 rfl 3 rfl ?_
    exact z_sub (lv' := [(0, .ref (z_ad X v0)), (2, .int v2), (4, .int s0), (5, .int v5)]) [1, 2, 0, 4] rfl (s_X5_comesBy_L53 X h8 H8 v0 v2 s0 v5 v3 m2)
  · refine z_aload_n dX5_comesBy_40 rfl 1 rfl ?_
    refine z_getP z_X5 (j := 4) (by decide) rfl rfl wf_X5_19 dX5_comesBy_41 (fun a3 => ?_)
    refine z_bipush (v := 8) dX5_comesBy_44 k_bi8 ?_
    refine z_iload_n dX5_comesBy_46 rfl 3 rfl ?_
    refine z_iadd dX5_comesBy_47 ?_
    refine z_iald dX5_comesBy_48 (fun x4 => ?_)
    refine z_goto (tg := 53) dX5_comesBy_49 (by decide) ?_
    exact z_sub (lv' := [(0, .ref (z_ad X v0)), (2, .int v2), (4, .int s0), (5, .int v5)]) [1, 2, 0, 4] rfl (s_X5_comesBy_L53 X h8 H8 v0 v2 s0 v5 x4 m2)
set_option maxRecDepth 100000 in
set_option maxHeartbeats 4000000 in
theorem s_X5_comesBy_L25 (X : z_X) (h8 : Nat → Int32 → Int32 → Int32 → Int32 → z_M → z_R) (H8 : ∀ (w0 : Nat) (w2 : Int32) (w3 : Int32) (w4 : Int32) (w5 : Int32) (w : z_M), z_Sim X yX5_comesBy cX5_comesBy 6 (some .boolean) 1 8 [(0, .ref (z_ad X w0)), (2, .int w2), (3, .int w3), (4, .int w4), (5, .int w5)] [] w (h8 w0 w2 w3 w4 w5 w)) (v0 : Nat) (v2 : Int32) (v3 : Int32) (v5 : Int32) (m : z_M) : z_Sim X yX5_comesBy cX5_comesBy 6 (some .boolean) 1 25 [(0, .ref (z_ad X v0)), (2, .int v2), (3, .int v3), (5, .int v5)] [] m (f_X5_comesBy_L25 h8 v0 v2 v3 v5 m) := by
  unfold f_X5_comesBy_L25
  refine z_iconst (v := 1) dX5_comesBy_25 k_c1 ?_
  refine z_goto (tg := 30) dX5_comesBy_26 (by decide) ?_
  exact z_sub (lv' := [(0, .ref (z_ad X v0)), (2, .int v2), (3, .int v3), (5, .int v5)]) [0, 1, 2, 3] rfl (s_X5_comesBy_L30 X h8 H8 v0 v2 v3 v5 1 m)
set_option maxRecDepth 100000 in
set_option maxHeartbeats 4000000 in
theorem s_X5_comesBy_L8 (X : z_X) : ∀ (n : Nat) (v0 : Nat) (v2 : Int32) (v3 : Int32) (v4 : Int32) (v5 : Int32) (m : z_M), z_Sim X yX5_comesBy cX5_comesBy 6 (some .boolean) 1 8 [(0, .ref (z_ad X v0)), (2, .int v2), (3, .int v3), (4, .int v4), (5, .int v5)] [] m (f_X5_comesBy_L8 n v0 v2 v3 v4 v5 m) := by
  intro n
  induction n with
  | zero => intros; exact z_none
  | succ n ih =>
      intro v0 v2 v3 v4 v5 m
      unfold f_X5_comesBy_L8
      refine z_iload dX5_comesBy_8 4 rfl ?_
      refine z_bipush (v := 8) dX5_comesBy_10 k_bi8 ?_
      refine z_icmp_gt (tg := 60) dX5_comesBy_12 (by decide) ?_ ?_
      · refine z_iload dX5_comesBy_60 3 rfl ?_
        exact z_zret dX5_comesBy_62
      · refine z_iload dX5_comesBy_15 3 rfl ?_
        refine z_if_ne (tg := 25) dX5_comesBy_17 (by decide) ?_ ?_
        · exact z_sub (lv' := [(0, .ref (z_ad X v0)), (2, .int v2), (3, .int v3), (5, .int v5)]) [0, 1, 2, 4] rfl (s_X5_comesBy_L25 X (f_X5_comesBy_L8 n) ih v0 v2 v3 v5 m)
        · refine z_iload_n dX5_comesBy_20 rfl 2 rfl ?_
          refine z_iload_n dX5_comesBy_21 rfl 1 rfl ?_
          refine z_icmp_ne (tg := 29) dX5_comesBy_22 (by decide) ?_ ?_
          · refine z_iconst (v := 0) dX5_comesBy_29 k_c0 ?_
            exact z_sub (lv' := [(0, .ref (z_ad X v0)), (2, .int v2), (3, .int v3), (5, .int v5)]) [0, 1, 2, 4] rfl (s_X5_comesBy_L30 X (f_X5_comesBy_L8 n) ih v0 v2 v3 v5 0 m)
          · exact z_sub (lv' := [(0, .ref (z_ad X v0)), (2, .int v2), (3, .int v3), (5, .int v5)]) [0, 1, 2, 4] rfl (s_X5_comesBy_L25 X (f_X5_comesBy_L8 n) ih v0 v2 v3 v5 m)
set_option maxRecDepth 100000 in
set_option maxHeartbeats 4000000 in
theorem s_X5_comesBy (X : z_X) (v0 : Nat) (v1 : Int32) (v2 : Int32) (m : z_M) : z_Sim X yX5_comesBy cX5_comesBy 6 (some .boolean) 1 0 [(0, .ref (z_ad X v0)), (1, .int v1), (2, .int v2)] [] m (f_X5_comesBy v0 v1 v2 m) := by
  unfold f_X5_comesBy
  refine z_iload_n dX5_comesBy_0 rfl 1 rfl ?_
  refine z_istore_n (lv' := [(3, .int v1), (0, .ref (z_ad X v0)), (1, .int v1), (2, .int v2)]) dX5_comesBy_1 rfl (by decide) rfl ?_
  refine z_iconst (v := 0) dX5_comesBy_2 k_c0 ?_
  refine z_istore (lv' := [(4, .int 0), (3, .int v1), (0, .ref (z_ad X v0)), (1, .int v1), (2, .int v2)]) dX5_comesBy_3 (by decide) rfl ?_
  refine z_iconst (v := 0) dX5_comesBy_5 k_c0 ?_
  refine z_istore (lv' := [(5, .int 0), (4, .int 0), (3, .int v1), (0, .ref (z_ad X v0)), (1, .int v1), (2, .int v2)]) dX5_comesBy_6 (by decide) rfl ?_
  exact z_sub (lv' := [(0, .ref (z_ad X v0)), (2, .int v2), (3, .int v1), (4, .int 0), (5, .int 0)]) [3, 5, 2, 1, 0] rfl (s_X5_comesBy_L8 X 400 v0 v2 v1 0 0 m)
set_option maxRecDepth 100000 in
set_option maxHeartbeats 4000000 in
theorem c_X5_comesBy (X : z_X) (v0 : Nat) (v1 : Int32) (v2 : Int32) (m : z_M) : z_Ct X yX5_comesBy cX5_comesBy 6 (some .boolean) 1 [.ref (z_ad X v0), .int v1, .int v2] m (f_X5_comesBy v0 v1 v2 m) := z_Ct.of (by decide) (Nat.le_of_ble_eq_true rfl) (s_X5_comesBy X v0 v1 v2 m)
set_option maxRecDepth 100000 in
set_option maxHeartbeats 4000000 in
theorem s_X5_count (X : z_X) (v0 : Nat) (v1 : Int32) (m : z_M) : z_Sim X yX5_count cX5_count 2 (some .int) 0 0 [(0, .ref (z_ad X v0)), (1, .int v1)] [] m (f_X5_count v0 v1 m) := by
  unfold f_X5_count
  refine z_iload_n dX5_count_0 rfl 1 rfl ?_
  refine z_if (fun h0 => ?_) (fun h0 => ?_)
  · refine z_swIn (tg := 40) dX5_count_1 (by rw [h0]; decide) (by rw [h0]; decide) (by rw [h0]; rfl) (by decide) ?_
    refine z_aload_n dX5_count_40 rfl 0 rfl ?_
    refine z_getP z_X5 (j := 2) (by decide) rfl rfl wf_X5_13 dX5_count_41 (fun a1 => ?_)
    refine z_iconst (v := 0) dX5_count_44 k_c0 ?_
    refine z_iald dX5_count_45 (fun x2 => ?_)
    exact z_iret dX5_count_46
  refine z_if (fun h1 => ?_) (fun h1 => ?_)
  · refine z_swIn (tg := 47) dX5_count_1 (by rw [h1]; decide) (by rw [h1]; decide) (by rw [h1]; rfl) (by decide) ?_
    refine z_aload_n dX5_count_47 rfl 0 rfl ?_
    refine z_getP z_X5 (j := 4) (by decide) rfl rfl wf_X5_19 dX5_count_48 (fun a3 => ?_)
    refine z_bipush (v := 17) dX5_count_51 k_bi17 ?_
    refine z_iald dX5_count_53 (fun x4 => ?_)
    exact z_iret dX5_count_54
  refine z_if (fun h2 => ?_) (fun h2 => ?_)
  · refine z_swIn (tg := 55) dX5_count_1 (by rw [h2]; decide) (by rw [h2]; decide) (by rw [h2]; rfl) (by decide) ?_
    refine z_aload_n dX5_count_55 rfl 0 rfl ?_
    refine z_getP z_X5 (j := 4) (by decide) rfl rfl wf_X5_19 dX5_count_56 (fun a5 => ?_)
    refine z_bipush (v := 16) dX5_count_59 k_bi16 ?_
    refine z_iald dX5_count_61 (fun x6 => ?_)
    exact z_iret dX5_count_62
  refine z_if (fun h3 => ?_) (fun h3 => ?_)
  · refine z_swIn (tg := 63) dX5_count_1 (by rw [h3]; decide) (by rw [h3]; decide) (by rw [h3]; rfl) (by decide) ?_
    refine z_aload_n dX5_count_63 rfl 0 rfl ?_
    refine z_getI z_X5 (j := 6) (by decide) rfl rfl wf_X5_81 dX5_count_64 (fun x7 => ?_)
    exact z_iret dX5_count_67
  refine z_if (fun h4 => ?_) (fun h4 => ?_)
  · refine z_swIn (tg := 68) dX5_count_1 (by rw [h4]; decide) (by rw [h4]; decide) (by rw [h4]; rfl) (by decide) ?_
    refine z_aload_n dX5_count_68 rfl 0 rfl ?_
    refine z_getI z_X5 (j := 8) (by decide) rfl rfl wf_X5_84 dX5_count_69 (fun x8 => ?_)
    exact z_iret dX5_count_72
  refine z_if (fun h5 => ?_) (fun h5 => ?_)
  · refine z_swIn (tg := 73) dX5_count_1 (by rw [h5]; decide) (by rw [h5]; decide) (by rw [h5]; rfl) (by decide) ?_
    refine z_aload_n dX5_count_73 rfl 0 rfl ?_
    refine z_getI z_X5 (j := 1) (by decide) rfl rfl wf_X5_49 dX5_count_74 (fun x9 => ?_)
    exact z_iret dX5_count_77
  refine z_swOut (tg := 78) dX5_count_1 (z_sw5 h0 h1 h2 h3 h4 h5) (by decide) ?_
  refine z_iconst (v := (-1)) dX5_count_78 k_cm1 ?_
  exact z_iret dX5_count_79
set_option maxRecDepth 100000 in
set_option maxHeartbeats 4000000 in
theorem c_X5_count (X : z_X) (v0 : Nat) (v1 : Int32) (m : z_M) : z_Ct X yX5_count cX5_count 2 (some .int) 0 [.ref (z_ad X v0), .int v1] m (f_X5_count v0 v1 m) := z_Ct.of (by decide) (Nat.le_of_ble_eq_true rfl) (s_X5_count X v0 v1 m)
set_option maxRecDepth 100000 in
set_option maxHeartbeats 4000000 in
theorem s_X5_drawOf (X : z_X) (v0 : Int64) (m : z_M) : z_Sim X yX5_drawOf cX5_drawOf 2 (some .int) 0 0 [(0, .long v0)] [] m (f_X5_drawOf v0 m) := by
  unfold f_X5_drawOf
  refine z_lload_n dX5_drawOf_0 rfl 0 rfl ?_
  refine z_lload_n dX5_drawOf_1 rfl 0 rfl ?_
  refine z_lmul dX5_drawOf_2 ?_
  refine z_ldc2 dX5_drawOf_3 wk_X5_102 ?_
  refine z_lrem dX5_drawOf_6 (by decide) ?_
  refine z_l2i dX5_drawOf_7 ?_
  refine z_bipush (v := 8) dX5_drawOf_8 k_bi8 ?_
  refine z_idiv dX5_drawOf_10 (by decide) ?_
  exact z_iret dX5_drawOf_11
set_option maxRecDepth 100000 in
set_option maxHeartbeats 4000000 in
theorem c_X5_drawOf (X : z_X) (v0 : Int64) (m : z_M) : z_Ct X yX5_drawOf cX5_drawOf 2 (some .int) 0 [.long v0] m (f_X5_drawOf v0 m) := z_Ct.of (by decide) (Nat.le_of_ble_eq_true rfl) (s_X5_drawOf X v0 m)
set_option maxRecDepth 100000 in
set_option maxHeartbeats 4000000 in
theorem s_X5_errors_L98 (X : z_X) (h4 : Nat → Int32 → Int32 → Int32 → z_M → z_R) (H4 : ∀ (w0 : Nat) (w1 : Int32) (w2 : Int32) (w3 : Int32) (w : z_M), z_Sim X yX5_errors cX5_errors 5 (some .int) 1 4 [(0, .ref (z_ad X w0)), (1, .int w1), (2, .int w2), (3, .int w3)] [] w (h4 w0 w1 w2 w3 w)) (v0 : Nat) (v1 : Int32) (v3 : Int32) (s0 : Int32) (s1 : Int32) (m : z_M) : z_Sim X yX5_errors cX5_errors 5 (some .int) 1 98 [(0, .ref (z_ad X v0)), (1, .int v1), (3, .int v3)] [.int s0, .int s1] m (f_X5_errors_L98 h4 v0 v1 v3 s0 s1 m) := by
  unfold f_X5_errors_L98
  refine z_ior dX5_errors_98 ?_
  refine z_nm (fun x1 => ?_)
  refine z_istore_n (lv' := [(2, .int x1), (0, .ref (z_ad X v0)), (1, .int v1), (3, .int v3)]) dX5_errors_99 rfl (by decide) rfl ?_
  refine z_iinc (k := 3) (lv' := [(3, .int (v3 + 1)), (2, .int x1), (0, .ref (z_ad X v0)), (1, .int v1)]) dX5_errors_100 rfl (k_i1 _) (by decide) rfl ?_
  refine z_goto (tg := 4) dX5_errors_103 (by decide) ?_
  exact z_sub (lv' := [(0, .ref (z_ad X v0)), (1, .int v1), (2, .int x1), (3, .int (v3 + 1))]) [2, 3, 1, 0] rfl (H4 v0 v1 x1 (v3 + 1) m)
set_option maxRecDepth 100000 in
set_option maxHeartbeats 4000000 in
theorem s_X5_errors_L97 (X : z_X) (h4 : Nat → Int32 → Int32 → Int32 → z_M → z_R) (H4 : ∀ (w0 : Nat) (w1 : Int32) (w2 : Int32) (w3 : Int32) (w : z_M), z_Sim X yX5_errors cX5_errors 5 (some .int) 1 4 [(0, .ref (z_ad X w0)), (1, .int w1), (2, .int w2), (3, .int w3)] [] w (h4 w0 w1 w2 w3 w)) (v0 : Nat) (v1 : Int32) (v3 : Int32) (s0 : Int32) (m : z_M) : z_Sim X yX5_errors cX5_errors 5 (some .int) 1 97 [(0, .ref (z_ad X v0)), (1, .int v1), (3, .int v3)] [.int s0] m (f_X5_errors_L97 h4 v0 v1 v3 s0 m) := by
  unfold f_X5_errors_L97
  refine z_iconst (v := 0) dX5_errors_97 k_c0 ?_
  exact z_sub (lv' := [(0, .ref (z_ad X v0)), (1, .int v1), (3, .int v3)]) [0, 1, 2] rfl (s_X5_errors_L98 X h4 H4 v0 v1 v3 0 s0 m)
set_option maxRecDepth 100000 in
set_option maxHeartbeats 4000000 in
theorem s_X5_errors_L91 (X : z_X) (h4 : Nat → Int32 → Int32 → Int32 → z_M → z_R) (H4 : ∀ (w0 : Nat) (w1 : Int32) (w2 : Int32) (w3 : Int32) (w : z_M), z_Sim X yX5_errors cX5_errors 5 (some .int) 1 4 [(0, .ref (z_ad X w0)), (1, .int w1), (2, .int w2), (3, .int w3)] [] w (h4 w0 w1 w2 w3 w)) (v0 : Nat) (v1 : Int32) (v3 : Int32) (s0 : Int32) (m : z_M) : z_Sim X yX5_errors cX5_errors 5 (some .int) 1 91 [(0, .ref (z_ad X v0)), (1, .int v1), (3, .int v3)] [.int s0] m (f_X5_errors_L91 h4 v0 v1 v3 s0 m) := by
  unfold f_X5_errors_L91
  refine z_iconst (v := 1) dX5_errors_91 k_c1 ?_
  refine z_iload_n dX5_errors_92 rfl 2 rfl ?_
  refine z_ishl dX5_errors_93 ?_
  refine z_goto (tg := 98) dX5_errors_94 (by decide) ?_
  exact z_sub (lv' := [(0, .ref (z_ad X v0)), (1, .int v1), (3, .int v3)]) [0, 1, 2] rfl (s_X5_errors_L98 X h4 H4 v0 v1 v3 (1 <<< (v3 &&& 31)) s0 m)
set_option maxRecDepth 100000 in
set_option maxHeartbeats 4000000 in
theorem s_X5_errors_L73 (X : z_X) (h4 : Nat → Int32 → Int32 → Int32 → z_M → z_R) (H4 : ∀ (w0 : Nat) (w1 : Int32) (w2 : Int32) (w3 : Int32) (w : z_M), z_Sim X yX5_errors cX5_errors 5 (some .int) 1 4 [(0, .ref (z_ad X w0)), (1, .int w1), (2, .int w2), (3, .int w3)] [] w (h4 w0 w1 w2 w3 w)) (v0 : Nat) (v1 : Int32) (v3 : Int32) (v4 : Int32) (s0 : Int32) (m : z_M) : z_Sim X yX5_errors cX5_errors 5 (some .int) 1 73 [(0, .ref (z_ad X v0)), (1, .int v1), (3, .int v3), (4, .int v4)] [.int s0] m (f_X5_errors_L73 h4 v0 v1 v3 v4 s0 m) := by
  unfold f_X5_errors_L73
  refine z_iload_n dX5_errors_73 rfl 1 rfl ?_
  refine z_if_ne (tg := 97) dX5_errors_74 (by decide) ?_ ?_
  · exact z_sub (lv' := [(0, .ref (z_ad X v0)), (1, .int v1), (3, .int v3)]) [0, 1, 2] rfl (s_X5_errors_L97 X h4 H4 v0 v1 v3 s0 m)
  · refine z_iload dX5_errors_77 3 rfl ?_
    refine z_aload_n dX5_errors_79 rfl 0 rfl ?_
    refine z_getP z_X5 (j := 2) (by decide) rfl rfl wf_X5_13 dX5_errors_80 (fun a2 => ?_)
    refine z_bipush (v := 27) dX5_errors_83 k_bi27 ?_
    refine z_iload_n dX5_errors_85 rfl 2 rfl ?_
    refine z_iadd dX5_errors_86 ?_
    refine z_iald dX5_errors_87 (fun x3 => ?_)
    refine z_icmp_ge (tg := 97) dX5_errors_88 (by decide) ?_ ?_
    · exact z_sub (lv' := [(0, .ref (z_ad X v0)), (1, .int v1), (3, .int v3)]) [0, 1, 2] rfl (s_X5_errors_L97 X h4 H4 v0 v1 v3 s0 m)
    · exact z_sub (lv' := [(0, .ref (z_ad X v0)), (1, .int v1), (3, .int v3)]) [0, 1, 2] rfl (s_X5_errors_L91 X h4 H4 v0 v1 v3 s0 m)
set_option maxRecDepth 100000 in
set_option maxHeartbeats 4000000 in
theorem s_X5_errors_L4 (X : z_X) : ∀ (n : Nat) (v0 : Nat) (v1 : Int32) (v2 : Int32) (v3 : Int32) (m : z_M), z_Sim X yX5_errors cX5_errors 5 (some .int) 1 4 [(0, .ref (z_ad X v0)), (1, .int v1), (2, .int v2), (3, .int v3)] [] m (f_X5_errors_L4 n v0 v1 v2 v3 m) := by
  intro n
  induction n with
  | zero => intros; exact z_none
  | succ n ih =>
      intro v0 v1 v2 v3 m
      unfold f_X5_errors_L4
      refine z_iload_n dX5_errors_4 rfl 3 rfl ?_
      refine z_aload_n dX5_errors_5 rfl 0 rfl ?_
      refine z_getP z_X5 (j := 2) (by decide) rfl rfl wf_X5_13 dX5_errors_6 (fun a4 => ?_)
      refine z_iconst (v := 0) dX5_errors_9 k_c0 ?_
      refine z_iald dX5_errors_10 (fun x5 => ?_)
      refine z_icmp_ge (tg := 106) dX5_errors_11 (by decide) ?_ ?_
      · refine z_iload_n dX5_errors_106 rfl 2 rfl ?_
        exact z_iret dX5_errors_107
      · refine z_ldc2 dX5_errors_14 wk_X5_104 ?_
        refine z_aload_n dX5_errors_17 rfl 0 rfl ?_
        refine z_getP z_X5 (j := 2) (by decide) rfl rfl wf_X5_13 dX5_errors_18 (fun a6 => ?_)
        refine z_iconst (v := 1) dX5_errors_21 k_c1 ?_
        refine z_iald dX5_errors_22 (fun x7 => ?_)
        refine z_i2l dX5_errors_23 ?_
        refine z_lmul dX5_errors_24 ?_
        refine z_ldc2 dX5_errors_25 wk_X5_106 ?_
        refine z_aload_n dX5_errors_28 rfl 0 rfl ?_
        refine z_getP z_X5 (j := 4) (by decide) rfl rfl wf_X5_19 dX5_errors_29 (fun a8 => ?_)
        refine z_bipush (v := 17) dX5_errors_32 k_bi17 ?_
        refine z_iald dX5_errors_34 (fun x9 => ?_)
        refine z_i2l dX5_errors_35 ?_
        refine z_lmul dX5_errors_36 ?_
        refine z_ladd dX5_errors_37 ?_
        refine z_ldc2 dX5_errors_38 wk_X5_108 ?_
        refine z_iload_n dX5_errors_41 rfl 3 rfl ?_
        refine z_i2l dX5_errors_42 ?_
        refine z_lmul dX5_errors_43 ?_
        refine z_ladd dX5_errors_44 ?_
        refine z_lconst (v := 1) dX5_errors_45 k_l1 ?_
        refine z_ladd dX5_errors_46 ?_
        refine z_cSi (As := [.long ((((7919 * (Int32.toInt64 x7)) + (6151 * (Int32.toInt64 x9))) + (3571 * (Int32.toInt64 v3))) + 1)]) (rest := []) (c_X5_drawOf X ((((7919 * (Int32.toInt64 x7)) + (6151 * (Int32.toInt64 x9))) + (3571 * (Int32.toInt64 v3))) + 1) m) mw_X5_drawOf iw_X5_drawOf wm_X5_110 rfl rfl (by decide) (Nat.le_of_ble_eq_true rfl) dX5_errors_47 (fun x10 m11 => ?_)
        refine z_bipush (v := 10) dX5_errors_50 k_bi10 ?_
        refine z_irem dX5_errors_52 (by decide) ?_
        refine z_nm (fun x12 => ?_)
        refine z_istore (lv' := [(4, .int x12), (0, .ref (z_ad X v0)), (1, .int v1), (2, .int v2), (3, .int v3)]) dX5_errors_53 (by decide) rfl ?_
        refine z_iload_n dX5_errors_55 rfl 3 rfl ?_
        refine z_iload_n dX5_errors_56 rfl 2 rfl ?_
        refine z_if_eq (tg := 73) dX5_errors_57 (by decide) ?_ ?_
        · exact z_sub (lv' := [(0, .ref (z_ad X v0)), (1, .int v1), (3, .int v3), (4, .int x12)]) [1, 2, 4, 0] rfl (s_X5_errors_L73 X (f_X5_errors_L4 n) ih v0 v1 v3 x12 v2 m11)
        · refine z_aload_n dX5_errors_60 rfl 1 rfl ?_
          refine z_getP z_X5 (j := 2) (by decide) rfl rfl wf_X5_13 dX5_errors_61 (fun a13 => ?_)
          refine z_bipush (v := 27) dX5_errors_64 k_bi27 ?_
          refine z_iload_n dX5_errors_66 rfl 4 rfl ?_
          refine z_iadd dX5_errors_67 ?_
          refine z_iald dX5_errors_68 (fun x14 => ?_)
          refine z_iconst (v := 5) dX5_errors_69 k_c5 ?_
          refine z_icmp_ge (tg := 91) dX5_errors_70 (by decide) ?_ ?_
          · exact z_sub (lv' := [(0, .ref (z_ad X v0)), (1, .int v1), (3, .int v3)]) [1, 2, 4] rfl (s_X5_errors_L91 X (f_X5_errors_L4 n) ih v0 v1 v3 v2 m11)
          · exact z_sub (lv' := [(0, .ref (z_ad X v0)), (1, .int v1), (3, .int v3), (4, .int x12)]) [1, 2, 4, 0] rfl (s_X5_errors_L73 X (f_X5_errors_L4 n) ih v0 v1 v3 x12 v2 m11)
set_option maxRecDepth 100000 in
set_option maxHeartbeats 4000000 in
theorem s_X5_errors (X : z_X) (v0 : Nat) (v1 : Int32) (m : z_M) : z_Sim X yX5_errors cX5_errors 5 (some .int) 1 0 [(0, .ref (z_ad X v0)), (1, .int v1)] [] m (f_X5_errors v0 v1 m) := by
  unfold f_X5_errors
  refine z_iconst (v := 0) dX5_errors_0 k_c0 ?_
  refine z_istore_n (lv' := [(2, .int 0), (0, .ref (z_ad X v0)), (1, .int v1)]) dX5_errors_1 rfl (by decide) rfl ?_
  refine z_iconst (v := 0) dX5_errors_2 k_c0 ?_
  refine z_istore_n (lv' := [(3, .int 0), (2, .int 0), (0, .ref (z_ad X v0)), (1, .int v1)]) dX5_errors_3 rfl (by decide) rfl ?_
  exact z_sub (lv' := [(0, .ref (z_ad X v0)), (1, .int v1), (2, .int 0), (3, .int 0)]) [2, 3, 1, 0] rfl (s_X5_errors_L4 X 400 v0 v1 0 0 m)
set_option maxRecDepth 100000 in
set_option maxHeartbeats 4000000 in
theorem c_X5_errors (X : z_X) (v0 : Nat) (v1 : Int32) (m : z_M) : z_Ct X yX5_errors cX5_errors 5 (some .int) 1 [.ref (z_ad X v0), .int v1] m (f_X5_errors v0 v1 m) := z_Ct.of (by decide) (Nat.le_of_ble_eq_true rfl) (s_X5_errors X v0 v1 m)
set_option maxRecDepth 100000 in
set_option maxHeartbeats 4000000 in
theorem s_X5_holds_L2 (X : z_X) : ∀ (n : Nat) (v0 : Nat) (v1 : Int32) (m : z_M), z_Sim X yX5_holds cX5_holds 2 none 0 2 [(0, .ref (z_ad X v0)), (1, .int v1)] [] m (f_X5_holds_L2 n v0 v1 m) := by
  intro n
  induction n with
  | zero => intros; exact z_none
  | succ n ih =>
      intro v0 v1 m
      unfold f_X5_holds_L2
      refine z_iload_n dX5_holds_2 rfl 1 rfl ?_
      refine z_bipush (v := 22) dX5_holds_3 k_bi22 ?_
      refine z_icmp_ge (tg := 26) dX5_holds_5 (by decide) ?_ ?_
      · exact z_vret dX5_holds_26
      · refine z_aload_n dX5_holds_8 rfl 0 rfl ?_
        refine z_getP z_X5 (j := 12) (by decide) rfl rfl wf_X5_32 dX5_holds_9 (fun a1 => ?_)
        refine z_iload_n dX5_holds_12 rfl 1 rfl ?_
        refine z_aload_n dX5_holds_13 rfl 0 rfl ?_
        refine z_getP z_X5 (j := 4) (by decide) rfl rfl wf_X5_19 dX5_holds_14 (fun a2 => ?_)
        refine z_iload_n dX5_holds_17 rfl 1 rfl ?_
        refine z_iald dX5_holds_18 (fun x3 => ?_)
        refine z_iast dX5_holds_19 ?_
        generalize z_wI m a1 (Int32.toNatClampNeg v1) x3 = m4
        refine z_iinc (k := 1) (lv' := [(1, .int (v1 + 1)), (0, .ref (z_ad X v0))]) dX5_holds_20 rfl (k_i1 _) (by decide) rfl ?_
        refine z_goto (tg := 2) dX5_holds_23 (by decide) ?_
        exact z_sub (lv' := [(0, .ref (z_ad X v0)), (1, .int (v1 + 1))]) [1, 0] rfl (ih v0 (v1 + 1) m4)
set_option maxRecDepth 100000 in
set_option maxHeartbeats 4000000 in
theorem s_X5_holds (X : z_X) (v0 : Nat) (m : z_M) : z_Sim X yX5_holds cX5_holds 2 none 0 0 [(0, .ref (z_ad X v0))] [] m (f_X5_holds v0 m) := by
  unfold f_X5_holds
  refine z_iconst (v := 0) dX5_holds_0 k_c0 ?_
  refine z_istore_n (lv' := [(1, .int 0), (0, .ref (z_ad X v0))]) dX5_holds_1 rfl (by decide) rfl ?_
  exact z_sub (lv' := [(0, .ref (z_ad X v0)), (1, .int 0)]) [1, 0] rfl (s_X5_holds_L2 X 400 v0 0 m)
set_option maxRecDepth 100000 in
set_option maxHeartbeats 4000000 in
theorem c_X5_holds (X : z_X) (v0 : Nat) (m : z_M) : z_Ct X yX5_holds cX5_holds 2 none 0 [.ref (z_ad X v0)] m (f_X5_holds v0 m) := z_Ct.of (by decide) (Nat.le_of_ble_eq_true rfl) (s_X5_holds X v0 m)
set_option maxRecDepth 100000 in
set_option maxHeartbeats 4000000 in
theorem s_X5_isOneWay_L38 (X : z_X) (h4 : Nat → Int32 → Int32 → z_M → z_R) (H4 : ∀ (w0 : Nat) (w1 : Int32) (w2 : Int32) (w : z_M), z_Sim X yX5_isOneWay cX5_isOneWay 3 (some .boolean) 0 4 [(0, .ref (z_ad X w0)), (1, .int w1), (2, .int w2)] [] w (h4 w0 w1 w2 w)) (v0 : Nat) (v2 : Int32) (s0 : Int32) (m : z_M) : z_Sim X yX5_isOneWay cX5_isOneWay 3 (some .boolean) 0 38 [(0, .ref (z_ad X v0)), (2, .int v2)] [.int s0] m (f_X5_isOneWay_L38 h4 v0 v2 s0 m) := by
  unfold f_X5_isOneWay_L38
  refine z_istore_n (lv' := [(1, .int s0), (0, .ref (z_ad X v0)), (2, .int v2)]) dX5_isOneWay_38 rfl (by decide) rfl ?_
  refine z_iinc (k := 2) (lv' := [(2, .int (v2 + 1)), (1, .int s0), (0, .ref (z_ad X v0))]) dX5_isOneWay_39 rfl (k_i1 _) (by decide) rfl ?_
  refine z_goto (tg := 4) dX5_isOneWay_42 (by decide) ?_
  exact z_sub (lv' := [(0, .ref (z_ad X v0)), (1, .int s0), (2, .int (v2 + 1))]) [2, 1, 0] rfl (H4 v0 s0 (v2 + 1) m)
set_option maxRecDepth 100000 in
set_option maxHeartbeats 4000000 in
theorem s_X5_isOneWay_L37 (X : z_X) (h4 : Nat → Int32 → Int32 → z_M → z_R) (H4 : ∀ (w0 : Nat) (w1 : Int32) (w2 : Int32) (w : z_M), z_Sim X yX5_isOneWay cX5_isOneWay 3 (some .boolean) 0 4 [(0, .ref (z_ad X w0)), (1, .int w1), (2, .int w2)] [] w (h4 w0 w1 w2 w)) (v0 : Nat) (v2 : Int32) (m : z_M) : z_Sim X yX5_isOneWay cX5_isOneWay 3 (some .boolean) 0 37 [(0, .ref (z_ad X v0)), (2, .int v2)] [] m (f_X5_isOneWay_L37 h4 v0 v2 m) := by
  unfold f_X5_isOneWay_L37
  refine z_iconst (v := 0) dX5_isOneWay_37 k_c0 ?_
  exact z_sub (lv' := [(0, .ref (z_ad X v0)), (2, .int v2)]) [0, 1] rfl (s_X5_isOneWay_L38 X h4 H4 v0 v2 0 m)
set_option maxRecDepth 100000 in
set_option maxHeartbeats 4000000 in
theorem s_X5_isOneWay_L4 (X : z_X) : ∀ (n : Nat) (v0 : Nat) (v1 : Int32) (v2 : Int32) (m : z_M), z_Sim X yX5_isOneWay cX5_isOneWay 3 (some .boolean) 0 4 [(0, .ref (z_ad X v0)), (1, .int v1), (2, .int v2)] [] m (f_X5_isOneWay_L4 n v0 v1 v2 m) := by
  intro n
  induction n with
  | zero => intros; exact z_none
  | succ n ih =>
      intro v0 v1 v2 m
      unfold f_X5_isOneWay_L4
      refine z_iload_n dX5_isOneWay_4 rfl 2 rfl ?_
      refine z_aload_n dX5_isOneWay_5 rfl 0 rfl ?_
      refine z_getP z_X5 (j := 2) (by decide) rfl rfl wf_X5_13 dX5_isOneWay_6 (fun a1 => ?_)
      refine z_iconst (v := 0) dX5_isOneWay_9 k_c0 ?_
      refine z_iald dX5_isOneWay_10 (fun x2 => ?_)
      refine z_icmp_ge (tg := 45) dX5_isOneWay_11 (by decide) ?_ ?_
      · refine z_iload_n dX5_isOneWay_45 rfl 1 rfl ?_
        exact z_zret dX5_isOneWay_46
      · refine z_iload_n dX5_isOneWay_14 rfl 1 rfl ?_
        refine z_if_eq (tg := 37) dX5_isOneWay_15 (by decide) ?_ ?_
        · exact z_sub (lv' := [(0, .ref (z_ad X v0)), (2, .int v2)]) [0, 2] rfl (s_X5_isOneWay_L37 X (f_X5_isOneWay_L4 n) ih v0 v2 m)
        · refine z_aload_n dX5_isOneWay_18 rfl 0 rfl ?_
          refine z_getP z_X5 (j := 4) (by decide) rfl rfl wf_X5_19 dX5_isOneWay_19 (fun a3 => ?_)
          refine z_iload_n dX5_isOneWay_22 rfl 2 rfl ?_
          refine z_iald dX5_isOneWay_23 (fun x4 => ?_)
          refine z_aload_n dX5_isOneWay_24 rfl 0 rfl ?_
          refine z_getP z_X5 (j := 4) (by decide) rfl rfl wf_X5_19 dX5_isOneWay_25 (fun a5 => ?_)
          refine z_iconst (v := 0) dX5_isOneWay_28 k_c0 ?_
          refine z_iald dX5_isOneWay_29 (fun x6 => ?_)
          refine z_icmp_ne (tg := 37) dX5_isOneWay_30 (by decide) ?_ ?_
          · exact z_sub (lv' := [(0, .ref (z_ad X v0)), (2, .int v2)]) [0, 2] rfl (s_X5_isOneWay_L37 X (f_X5_isOneWay_L4 n) ih v0 v2 m)
          · refine z_iconst (v := 1) dX5_isOneWay_33 k_c1 ?_
            refine z_goto (tg := 38) dX5_isOneWay_34 (by decide) ?_
            exact z_sub (lv' := [(0, .ref (z_ad X v0)), (2, .int v2)]) [0, 2] rfl (s_X5_isOneWay_L38 X (f_X5_isOneWay_L4 n) ih v0 v2 1 m)
set_option maxRecDepth 100000 in
set_option maxHeartbeats 4000000 in
theorem s_X5_isOneWay (X : z_X) (v0 : Nat) (m : z_M) : z_Sim X yX5_isOneWay cX5_isOneWay 3 (some .boolean) 0 0 [(0, .ref (z_ad X v0))] [] m (f_X5_isOneWay v0 m) := by
  unfold f_X5_isOneWay
  refine z_iconst (v := 1) dX5_isOneWay_0 k_c1 ?_
  refine z_istore_n (lv' := [(1, .int 1), (0, .ref (z_ad X v0))]) dX5_isOneWay_1 rfl (by decide) rfl ?_
  refine z_iconst (v := 1) dX5_isOneWay_2 k_c1 ?_
  refine z_istore_n (lv' := [(2, .int 1), (1, .int 1), (0, .ref (z_ad X v0))]) dX5_isOneWay_3 rfl (by decide) rfl ?_
  exact z_sub (lv' := [(0, .ref (z_ad X v0)), (1, .int 1), (2, .int 1)]) [2, 1, 0] rfl (s_X5_isOneWay_L4 X 400 v0 1 1 m)
set_option maxRecDepth 100000 in
set_option maxHeartbeats 4000000 in
theorem c_X5_isOneWay (X : z_X) (v0 : Nat) (m : z_M) : z_Ct X yX5_isOneWay cX5_isOneWay 3 (some .boolean) 0 [.ref (z_ad X v0)] m (f_X5_isOneWay v0 m) := z_Ct.of (by decide) (Nat.le_of_ble_eq_true rfl) (s_X5_isOneWay X v0 m)
set_option maxRecDepth 100000 in
set_option maxHeartbeats 4000000 in
theorem s_X5_lets_L2 (X : z_X) : ∀ (n : Nat) (v0 : Nat) (v1 : Int32) (m : z_M), z_Sim X yX5_lets cX5_lets 2 none 0 2 [(0, .ref (z_ad X v0)), (1, .int v1)] [] m (f_X5_lets_L2 n v0 v1 m) := by
  intro n
  induction n with
  | zero => intros; exact z_none
  | succ n ih =>
      intro v0 v1 m
      unfold f_X5_lets_L2
      refine z_iload_n dX5_lets_2 rfl 1 rfl ?_
      refine z_bipush (v := 22) dX5_lets_3 k_bi22 ?_
      refine z_icmp_ge (tg := 26) dX5_lets_5 (by decide) ?_ ?_
      · exact z_vret dX5_lets_26
      · refine z_aload_n dX5_lets_8 rfl 0 rfl ?_
        refine z_getP z_X5 (j := 4) (by decide) rfl rfl wf_X5_19 dX5_lets_9 (fun a1 => ?_)
        refine z_iload_n dX5_lets_12 rfl 1 rfl ?_
        refine z_aload_n dX5_lets_13 rfl 0 rfl ?_
        refine z_getP z_X5 (j := 12) (by decide) rfl rfl wf_X5_32 dX5_lets_14 (fun a2 => ?_)
        refine z_iload_n dX5_lets_17 rfl 1 rfl ?_
        refine z_iald dX5_lets_18 (fun x3 => ?_)
        refine z_iast dX5_lets_19 ?_
        generalize z_wI m a1 (Int32.toNatClampNeg v1) x3 = m4
        refine z_iinc (k := 1) (lv' := [(1, .int (v1 + 1)), (0, .ref (z_ad X v0))]) dX5_lets_20 rfl (k_i1 _) (by decide) rfl ?_
        refine z_goto (tg := 2) dX5_lets_23 (by decide) ?_
        exact z_sub (lv' := [(0, .ref (z_ad X v0)), (1, .int (v1 + 1))]) [1, 0] rfl (ih v0 (v1 + 1) m4)
set_option maxRecDepth 100000 in
set_option maxHeartbeats 4000000 in
theorem s_X5_lets (X : z_X) (v0 : Nat) (m : z_M) : z_Sim X yX5_lets cX5_lets 2 none 0 0 [(0, .ref (z_ad X v0))] [] m (f_X5_lets v0 m) := by
  unfold f_X5_lets
  refine z_iconst (v := 0) dX5_lets_0 k_c0 ?_
  refine z_istore_n (lv' := [(1, .int 0), (0, .ref (z_ad X v0))]) dX5_lets_1 rfl (by decide) rfl ?_
  exact z_sub (lv' := [(0, .ref (z_ad X v0)), (1, .int 0)]) [1, 0] rfl (s_X5_lets_L2 X 400 v0 0 m)
set_option maxRecDepth 100000 in
set_option maxHeartbeats 4000000 in
theorem c_X5_lets (X : z_X) (v0 : Nat) (m : z_M) : z_Ct X yX5_lets cX5_lets 2 none 0 [.ref (z_ad X v0)] m (f_X5_lets v0 m) := z_Ct.of (by decide) (Nat.le_of_ble_eq_true rfl) (s_X5_lets X v0 m)
set_option maxRecDepth 100000 in
set_option maxHeartbeats 4000000 in
theorem s_X5_says_L45 (X : z_X) (h2 : Nat → Int32 → Int32 → Int32 → z_M → z_R) (H2 : ∀ (w0 : Nat) (w1 : Int32) (w2 : Int32) (w3 : Int32) (w : z_M), z_Sim X yX5_says cX5_says 5 none 4 2 [(0, .ref (z_ad X w0)), (1, .int w1), (2, .int w2), (3, .int w3)] [] w (h2 w0 w1 w2 w3 w)) (v0 : Nat) (v1 : Int32) (v2 : Int32) (v3 : Int32) (v4 : Int32) (s0 : Int32) (s1 : Int32) (s2 : Int32) (s3 : Nat) (m : z_M) : z_Sim X yX5_says cX5_says 5 none 4 45 [(0, .ref (z_ad X v0)), (1, .int v1), (2, .int v2), (3, .int v3), (4, .int v4)] [.int s0, .int s1, .int s2, .ref (z_ad X s3)] m (f_X5_says_L45 h2 v0 v1 v2 v3 v4 s0 s1 s2 s3 m) := by
  unfold f_X5_says_L45
  refine z_ior dX5_says_45 ?_
  refine z_nm (fun x1 => ?_)
  refine z_iast dX5_says_46 ?_
  generalize z_wI m s3 (Int32.toNatClampNeg s2) x1 = m2
  refine z_aload_n dX5_says_47 rfl 0 rfl ?_
  refine z_getP z_X5 (j := 4) (by decide) rfl rfl wf_X5_19 dX5_says_48 (fun a3 => ?_)
  refine z_iload_n dX5_says_51 rfl 3 rfl ?_
  refine z_aload_n dX5_says_52 rfl 0 rfl ?_
  refine z_getP z_X5 (j := 4) (by decide) rfl rfl wf_X5_19 dX5_says_53 (fun a4 => ?_)
  refine z_iload_n dX5_says_56 rfl 3 rfl ?_
  refine z_iald dX5_says_57 (fun x5 => ?_)
  refine z_iload dX5_says_58 4 rfl ?_
  refine z_iadd dX5_says_60 ?_
  refine z_iconst (v := 4) dX5_says_61 k_c4 ?_
  refine z_irem dX5_says_62 (by decide) ?_
  refine z_nm (fun x6 => ?_)
  refine z_iast dX5_says_63 ?_
  generalize z_wI m2 a3 (Int32.toNatClampNeg v3) x6 = m7
  refine z_iinc (k := 3) (lv' := [(3, .int (v3 + 1)), (0, .ref (z_ad X v0)), (1, .int v1), (2, .int v2), (4, .int v4)]) dX5_says_64 rfl (k_i1 _) (by decide) rfl ?_
  refine z_goto (tg := 2) dX5_says_67 (by decide) ?_
  exact z_sub (lv' := [(0, .ref (z_ad X v0)), (1, .int v1), (2, .int v2), (3, .int (v3 + 1))]) [1, 2, 3, 0] rfl (H2 v0 v1 v2 (v3 + 1) m7)
set_option maxRecDepth 100000 in
set_option maxHeartbeats 4000000 in
theorem s_X5_says_L2 (X : z_X) : ∀ (n : Nat) (v0 : Nat) (v1 : Int32) (v2 : Int32) (v3 : Int32) (m : z_M), z_Sim X yX5_says cX5_says 5 none 4 2 [(0, .ref (z_ad X v0)), (1, .int v1), (2, .int v2), (3, .int v3)] [] m (f_X5_says_L2 n v0 v1 v2 v3 m) := by
  intro n
  induction n with
  | zero => intros; exact z_none
  | succ n ih =>
      intro v0 v1 v2 v3 m
      unfold f_X5_says_L2
      refine z_iload_n dX5_says_2 rfl 3 rfl ?_
      refine z_aload_n dX5_says_3 rfl 0 rfl ?_
      refine z_getP z_X5 (j := 2) (by decide) rfl rfl wf_X5_13 dX5_says_4 (fun a8 => ?_)
      refine z_iconst (v := 0) dX5_says_7 k_c0 ?_
      refine z_iald dX5_says_8 (fun x9 => ?_)
      refine z_icmp_ge (tg := 70) dX5_says_9 (by decide) ?_ ?_
      · refine z_aload_n dX5_says_70 rfl 0 rfl ?_
        refine z_getP z_X5 (j := 4) (by decide) rfl rfl wf_X5_19 dX5_says_71 (fun a10 => ?_)
        refine z_bipush (v := 18) dX5_says_74 k_bi18 ?_
        refine z_iload_n dX5_says_76 rfl 1 rfl ?_
        refine z_iast dX5_says_77 ?_
        generalize z_wI m a10 (Int32.toNatClampNeg 18) v1 = m11
        refine z_aload_n dX5_says_78 rfl 0 rfl ?_
        refine z_getP z_X5 (j := 4) (by decide) rfl rfl wf_X5_19 dX5_says_79 (fun a12 => ?_)
        refine z_bipush (v := 19) dX5_says_82 k_bi19 ?_
        refine z_aload_n dX5_says_84 rfl 0 rfl ?_
        refine z_getP z_X5 (j := 4) (by decide) rfl rfl wf_X5_19 dX5_says_85 (fun a13 => ?_)
        refine z_bipush (v := 19) dX5_says_88 k_bi19 ?_
        refine z_iald dX5_says_90 (fun x14 => ?_)
        refine z_iload_n dX5_says_91 rfl 1 rfl ?_
        refine z_cSi (As := [.int v1]) (rest := [.int x14, .int 19, .ref (z_ad X a12)]) (c_X5_turnOf X v1 m11) mw_X5_turnOf iw_X5_turnOf wm_X5_117 rfl rfl (by decide) (Nat.le_of_ble_eq_true rfl) dX5_says_92 (fun x15 m16 => ?_)
        refine z_iadd dX5_says_95 ?_
        refine z_iconst (v := 4) dX5_says_96 k_c4 ?_
        refine z_irem dX5_says_97 (by decide) ?_
        refine z_nm (fun x17 => ?_)
        refine z_iast dX5_says_98 ?_
        generalize z_wI m16 a12 (Int32.toNatClampNeg 19) x17 = m18
        refine z_aload_n dX5_says_99 rfl 0 rfl ?_
        refine z_getP z_X5 (j := 4) (by decide) rfl rfl wf_X5_19 dX5_says_100 (fun a19 => ?_)
        refine z_bipush (v := 17) dX5_says_103 k_bi17 ?_
        refine z_dup2 dX5_says_105 rfl rfl ?_
        refine z_iald dX5_says_106 (fun x20 => ?_)
        refine z_iconst (v := 1) dX5_says_107 k_c1 ?_
        refine z_iadd dX5_says_108 ?_
        refine z_nm (fun x21 => ?_)
        refine z_iast dX5_says_109 ?_
        generalize z_wI m18 a19 (Int32.toNatClampNeg 17) x21 = m22
        exact z_vret dX5_says_110
      · refine z_aload_n dX5_says_12 rfl 0 rfl ?_
        refine z_iload_n dX5_says_13 rfl 3 rfl ?_
        refine z_iload_n dX5_says_14 rfl 1 rfl ?_
        refine z_iload_n dX5_says_15 rfl 2 rfl ?_
        refine z_cVi (As := [.int v3, .int v1, .int v2]) (rest := []) (c_X5_turnBy X v0 v3 v1 v2 m) mw_X5_turnBy iw_X5_turnBy z_X5 wm_X5_126 rfl rfl (by decide) (Nat.le_of_ble_eq_true rfl) dX5_says_16 (fun x23 m24 => ?_)
        refine z_istore (lv' := [(4, .int x23), (0, .ref (z_ad X v0)), (1, .int v1), (2, .int v2), (3, .int v3)]) dX5_says_19 (by decide) rfl ?_
        refine z_aload_n dX5_says_21 rfl 1 rfl ?_
        refine z_getP z_X5 (j := 4) (by decide) rfl rfl wf_X5_19 dX5_says_22 (fun a25 => ?_)
        refine z_bipush (v := 20) dX5_says_25 k_bi20 ?_
        refine z_dup2 dX5_says_27 rfl rfl ?_
        refine z_iald dX5_says_28 (fun x26 => ?_)
        refine z_iload dX5_says_29 0 rfl ?_
        refine z_iload_n dX5_says_31 rfl 2 rfl ?_
        refine z_cSi (As := [.int v1]) (rest := [.int x23, .int x26, .int 20, .ref (z_ad X a25)]) (c_X5_turnOf X v1 m24) mw_X5_turnOf iw_X5_turnOf wm_X5_117 rfl rfl (by decide) (Nat.le_of_ble_eq_true rfl) dX5_says_32 (fun x27 m28 => ?_)
        refine z_icmp_ne (tg := 42) dX5_says_35 (by decide) ?_ ?_
        · refine z_iconst (v := 1) dX5_says_42 k_c1 ?_
          refine z_iload_n dX5_says_43 rfl 4 rfl ?_
          refine z_ishl dX5_says_44 ?_
          exact z_sub (lv' := [(0, .ref (z_ad X v0)), (1, .int v1), (2, .int v2), (3, .int v3), (4, .int x23)]) [1, 2, 3, 4, 0] rfl (s_X5_says_L45 X (f_X5_says_L2 n) ih v0 v1 v2 v3 x23 (1 <<< (v3 &&& 31)) x26 20 a25 m28)
        · refine z_iconst (v := 0) dX5_says_38 k_c0 ?_
          refine z_goto (tg := 45) dX5_says_39 (by decide) ?_
          exact z_sub (lv' := [(0, .ref (z_ad X v0)), (1, .int v1), (2, .int v2), (3, .int v3), (4, .int x23)]) [1, 2, 3, 4, 0] rfl (s_X5_says_L45 X (f_X5_says_L2 n) ih v0 v1 v2 v3 x23 0 x26 20 a25 m28)
set_option maxRecDepth 100000 in
set_option maxHeartbeats 4000000 in
theorem s_X5_says (X : z_X) (v0 : Nat) (v1 : Int32) (v2 : Int32) (m : z_M) : z_Sim X yX5_says cX5_says 5 none 4 0 [(0, .ref (z_ad X v0)), (1, .int v1), (2, .int v2)] [] m (f_X5_says v0 v1 v2 m) := by
  unfold f_X5_says
  refine z_iconst (v := 0) dX5_says_0 k_c0 ?_
  refine z_istore_n (lv' := [(3, .int 0), (0, .ref (z_ad X v0)), (1, .int v1), (2, .int v2)]) dX5_says_1 rfl (by decide) rfl ?_
  exact z_sub (lv' := [(0, .ref (z_ad X v0)), (1, .int v1), (2, .int v2), (3, .int 0)]) [1, 2, 3, 0] rfl (s_X5_says_L2 X 400 v0 v1 v2 0 m)
set_option maxRecDepth 100000 in
set_option maxHeartbeats 4000000 in
theorem c_X5_says (X : z_X) (v0 : Nat) (v1 : Int32) (v2 : Int32) (m : z_M) : z_Ct X yX5_says cX5_says 5 none 4 [.ref (z_ad X v0), .int v1, .int v2] m (f_X5_says v0 v1 v2 m) := z_Ct.of (by decide) (Nat.le_of_ble_eq_true rfl) (s_X5_says X v0 v1 v2 m)
set_option maxRecDepth 100000 in
set_option maxHeartbeats 4000000 in
theorem s_X5_dueOf (X : z_X) (v0 : Nat) (v1 : Int32) (m : z_M) : z_Sim X yX5_dueOf cX5_dueOf 2 (some .int) 0 0 [(0, .ref (z_ad X v0)), (1, .int v1)] [] m (f_X5_dueOf v0 v1 m) := by
  unfold f_X5_dueOf
  refine z_aload_n dX5_dueOf_0 rfl 0 rfl ?_
  refine z_getP z_X5 (j := 2) (by decide) rfl rfl wf_X5_13 dX5_dueOf_1 (fun a1 => ?_)
  refine z_bipush (v := 11) dX5_dueOf_4 k_bi11 ?_
  refine z_iload_n dX5_dueOf_6 rfl 1 rfl ?_
  refine z_iadd dX5_dueOf_7 ?_
  refine z_iald dX5_dueOf_8 (fun x2 => ?_)
  refine z_aload_n dX5_dueOf_9 rfl 0 rfl ?_
  refine z_getP z_X5 (j := 4) (by decide) rfl rfl wf_X5_19 dX5_dueOf_10 (fun a3 => ?_)
  refine z_bipush (v := 19) dX5_dueOf_13 k_bi19 ?_
  refine z_iald dX5_dueOf_15 (fun x4 => ?_)
  refine z_iadd dX5_dueOf_16 ?_
  refine z_iconst (v := 4) dX5_dueOf_17 k_c4 ?_
  refine z_irem dX5_dueOf_18 (by decide) ?_
  exact z_iret dX5_dueOf_19
set_option maxRecDepth 100000 in
set_option maxHeartbeats 4000000 in
theorem c_X5_dueOf (X : z_X) (v0 : Nat) (v1 : Int32) (m : z_M) : z_Ct X yX5_dueOf cX5_dueOf 2 (some .int) 0 [.ref (z_ad X v0), .int v1] m (f_X5_dueOf v0 v1 m) := z_Ct.of (by decide) (Nat.le_of_ble_eq_true rfl) (s_X5_dueOf X v0 v1 m)
set_option maxRecDepth 100000 in
set_option maxHeartbeats 4000000 in
theorem s_X5_wrong_L36 (X : z_X) (h4 : Nat → Int32 → Int32 → z_M → z_R) (H4 : ∀ (w0 : Nat) (w1 : Int32) (w2 : Int32) (w : z_M), z_Sim X yX5_wrong cX5_wrong 3 (some .int) 1 4 [(0, .ref (z_ad X w0)), (1, .int w1), (2, .int w2)] [] w (h4 w0 w1 w2 w)) (v0 : Nat) (v2 : Int32) (s0 : Int32) (s1 : Int32) (m : z_M) : z_Sim X yX5_wrong cX5_wrong 3 (some .int) 1 36 [(0, .ref (z_ad X v0)), (2, .int v2)] [.int s0, .int s1] m (f_X5_wrong_L36 h4 v0 v2 s0 s1 m) := by
  unfold f_X5_wrong_L36
  refine z_ior dX5_wrong_36 ?_
  refine z_nm (fun x1 => ?_)
  refine z_istore_n (lv' := [(1, .int x1), (0, .ref (z_ad X v0)), (2, .int v2)]) dX5_wrong_37 rfl (by decide) rfl ?_
  refine z_iinc (k := 2) (lv' := [(2, .int (v2 + 1)), (1, .int x1), (0, .ref (z_ad X v0))]) dX5_wrong_38 rfl (k_i1 _) (by decide) rfl ?_
  refine z_goto (tg := 4) dX5_wrong_41 (by decide) ?_
  exact z_sub (lv' := [(0, .ref (z_ad X v0)), (1, .int x1), (2, .int (v2 + 1))]) [2, 1, 0] rfl (H4 v0 x1 (v2 + 1) m)
set_option maxRecDepth 100000 in
set_option maxHeartbeats 4000000 in
theorem s_X5_wrong_L4 (X : z_X) : ∀ (n : Nat) (v0 : Nat) (v1 : Int32) (v2 : Int32) (m : z_M), z_Sim X yX5_wrong cX5_wrong 3 (some .int) 1 4 [(0, .ref (z_ad X v0)), (1, .int v1), (2, .int v2)] [] m (f_X5_wrong_L4 n v0 v1 v2 m) := by
  intro n
  induction n with
  | zero => intros; exact z_none
  | succ n ih =>
      intro v0 v1 v2 m
      unfold f_X5_wrong_L4
      refine z_iload_n dX5_wrong_4 rfl 2 rfl ?_
      refine z_aload_n dX5_wrong_5 rfl 0 rfl ?_
      refine z_getP z_X5 (j := 2) (by decide) rfl rfl wf_X5_13 dX5_wrong_6 (fun a2 => ?_)
      refine z_iconst (v := 0) dX5_wrong_9 k_c0 ?_
      refine z_iald dX5_wrong_10 (fun x3 => ?_)
      refine z_icmp_ge (tg := 44) dX5_wrong_11 (by decide) ?_ ?_
      · refine z_iload_n dX5_wrong_44 rfl 1 rfl ?_
        exact z_iret dX5_wrong_45
      · refine z_iload_n dX5_wrong_14 rfl 1 rfl ?_
        refine z_aload_n dX5_wrong_15 rfl 0 rfl ?_
        refine z_getP z_X5 (j := 4) (by decide) rfl rfl wf_X5_19 dX5_wrong_16 (fun a4 => ?_)
        refine z_iload_n dX5_wrong_19 rfl 2 rfl ?_
        refine z_iald dX5_wrong_20 (fun x5 => ?_)
        refine z_aload_n dX5_wrong_21 rfl 0 rfl ?_
        refine z_iload_n dX5_wrong_22 rfl 2 rfl ?_
        refine z_cVi (As := [.int v2]) (rest := [.int x5, .int v1]) (c_X5_dueOf X v0 v2 m) mw_X5_dueOf iw_X5_dueOf z_X5 wm_X5_90 rfl rfl (by decide) (Nat.le_of_ble_eq_true rfl) dX5_wrong_23 (fun x6 m7 => ?_)
        refine z_icmp_eq (tg := 35) dX5_wrong_26 (by decide) ?_ ?_
        · refine z_iconst (v := 0) dX5_wrong_35 k_c0 ?_
          exact z_sub (lv' := [(0, .ref (z_ad X v0)), (2, .int v2)]) [0, 2] rfl (s_X5_wrong_L36 X (f_X5_wrong_L4 n) ih v0 v2 0 v1 m7)
        · refine z_iconst (v := 1) dX5_wrong_29 k_c1 ?_
          refine z_iload_n dX5_wrong_30 rfl 2 rfl ?_
          refine z_ishl dX5_wrong_31 ?_
          refine z_goto (tg := 36) dX5_wrong_32 (by decide) ?_
          exact z_sub (lv' := [(0, .ref (z_ad X v0)), (2, .int v2)]) [0, 2] rfl (s_X5_wrong_L36 X (f_X5_wrong_L4 n) ih v0 v2 (1 <<< (v2 &&& 31)) v1 m7)
set_option maxRecDepth 100000 in
set_option maxHeartbeats 4000000 in
theorem s_X5_wrong (X : z_X) (v0 : Nat) (m : z_M) : z_Sim X yX5_wrong cX5_wrong 3 (some .int) 1 0 [(0, .ref (z_ad X v0))] [] m (f_X5_wrong v0 m) := by
  unfold f_X5_wrong
  refine z_iconst (v := 0) dX5_wrong_0 k_c0 ?_
  refine z_istore_n (lv' := [(1, .int 0), (0, .ref (z_ad X v0))]) dX5_wrong_1 rfl (by decide) rfl ?_
  refine z_iconst (v := 0) dX5_wrong_2 k_c0 ?_
  refine z_istore_n (lv' := [(2, .int 0), (1, .int 0), (0, .ref (z_ad X v0))]) dX5_wrong_3 rfl (by decide) rfl ?_
  exact z_sub (lv' := [(0, .ref (z_ad X v0)), (1, .int 0), (2, .int 0)]) [2, 1, 0] rfl (s_X5_wrong_L4 X 400 v0 0 0 m)
set_option maxRecDepth 100000 in
set_option maxHeartbeats 4000000 in
theorem c_X5_wrong (X : z_X) (v0 : Nat) (m : z_M) : z_Ct X yX5_wrong cX5_wrong 3 (some .int) 1 [.ref (z_ad X v0)] m (f_X5_wrong v0 m) := z_Ct.of (by decide) (Nat.le_of_ble_eq_true rfl) (s_X5_wrong X v0 m)
set_option maxRecDepth 100000 in
set_option maxHeartbeats 4000000 in
theorem s_X5_drill_L92 (X : z_X) (h42 : Nat → Int32 → Int32 → Int32 → Int32 → Int32 → z_M → z_R) (H42 : ∀ (w0 : Nat) (w1 : Int32) (w2 : Int32) (w3 : Int32) (w4 : Int32) (w5 : Int32) (w : z_M), z_Sim X yX5_drill cX5_drill 6 (some .int) 5 42 [(0, .ref (z_ad X w0)), (1, .int w1), (2, .int w2), (3, .int w3), (4, .int w4), (5, .int w5)] [] w (h42 w0 w1 w2 w3 w4 w5 w)) (v0 : Nat) (v1 : Int32) (v2 : Int32) (v3 : Int32) (v5 : Int32) (s0 : Int32) (s1 : Int32) (m : z_M) : z_Sim X yX5_drill cX5_drill 6 (some .int) 5 92 [(0, .ref (z_ad X v0)), (1, .int v1), (2, .int v2), (3, .int v3), (5, .int v5)] [.int s0, .int s1] m (f_X5_drill_L92 h42 v0 v1 v2 v3 v5 s0 s1 m) := by
  unfold f_X5_drill_L92
  refine z_iadd dX5_drill_92 ?_
  refine z_nm (fun x1 => ?_)
  refine z_istore (lv' := [(4, .int x1), (0, .ref (z_ad X v0)), (1, .int v1), (2, .int v2), (3, .int v3), (5, .int v5)]) dX5_drill_93 (by decide) rfl ?_
  refine z_iinc (k := 5) (lv' := [(5, .int (v5 + 1)), (4, .int x1), (0, .ref (z_ad X v0)), (1, .int v1), (2, .int v2), (3, .int v3)]) dX5_drill_95 rfl (k_i1 _) (by decide) rfl ?_
  refine z_goto (tg := 42) dX5_drill_98 (by decide) ?_
  exact z_sub (lv' := [(0, .ref (z_ad X v0)), (1, .int v1), (2, .int v2), (3, .int v3), (4, .int x1), (5, .int (v5 + 1))]) [2, 3, 4, 5, 1, 0] rfl (H42 v0 v1 v2 v3 x1 (v5 + 1) m)
set_option maxRecDepth 100000 in
set_option maxHeartbeats 4000000 in
theorem s_X5_drill_L42 (X : z_X) : ∀ (n : Nat) (v0 : Nat) (v1 : Int32) (v2 : Int32) (v3 : Int32) (v4 : Int32) (v5 : Int32) (m : z_M), z_Sim X yX5_drill cX5_drill 6 (some .int) 5 42 [(0, .ref (z_ad X v0)), (1, .int v1), (2, .int v2), (3, .int v3), (4, .int v4), (5, .int v5)] [] m (f_X5_drill_L42 n v0 v1 v2 v3 v4 v5 m) := by
  intro n
  induction n with
  | zero => intros; exact z_none
  | succ n ih =>
      intro v0 v1 v2 v3 v4 v5 m
      unfold f_X5_drill_L42
      refine z_iload dX5_drill_42 5 rfl ?_
      refine z_iload_n dX5_drill_44 rfl 2 rfl ?_
      refine z_icmp_ge (tg := 101) dX5_drill_45 (by decide) ?_ ?_
      · refine z_aload_n dX5_drill_101 rfl 0 rfl ?_
        refine z_cVi (As := []) (rest := []) (c_X5_wrong X v0 m) mw_X5_wrong iw_X5_wrong z_X5 wm_X5_144 rfl rfl (by decide) (Nat.le_of_ble_eq_true rfl) dX5_drill_102 (fun x2 m3 => ?_)
        refine z_cSi (As := [.int x2]) (rest := []) (c_X5_ones X x2 m3) mw_X5_ones iw_X5_ones wm_X5_147 rfl rfl (by decide) (Nat.le_of_ble_eq_true rfl) dX5_drill_105 (fun x4 m5 => ?_)
        refine z_istore (lv' := [(5, .int x4), (0, .ref (z_ad X v0)), (1, .int v1), (2, .int v2), (3, .int v3), (4, .int v4)]) dX5_drill_108 (by decide) rfl ?_
        refine z_aload_n dX5_drill_110 rfl 1 rfl ?_
        refine z_cVv (As := []) (rest := []) (c_X5_lets X v0 m5) mw_X5_lets iw_X5_lets z_X5 wm_X5_162 rfl rfl (by decide) (Nat.le_of_ble_eq_true rfl) dX5_drill_111 (fun _ m6 => ?_)
        refine z_iload_n dX5_drill_114 rfl 4 rfl ?_
        refine z_if_ne (tg := 123) dX5_drill_115 (by decide) ?_ ?_
        · refine z_iload dX5_drill_123 5 rfl ?_
          exact z_iret dX5_drill_125
        · refine z_iload dX5_drill_118 0 rfl ?_
          refine z_goto (tg := 125) dX5_drill_120 (by decide) ?_
          exact z_iret dX5_drill_125
      · refine z_aload_n dX5_drill_48 rfl 0 rfl ?_
        refine z_ldc2 dX5_drill_49 wk_X5_104 ?_
        refine z_iload_n dX5_drill_52 rfl 1 rfl ?_
        refine z_i2l dX5_drill_53 ?_
        refine z_lmul dX5_drill_54 ?_
        refine z_ldc2 dX5_drill_55 wk_X5_106 ?_
        refine z_iload dX5_drill_58 5 rfl ?_
        refine z_i2l dX5_drill_60 ?_
        refine z_lmul dX5_drill_61 ?_
        refine z_ladd dX5_drill_62 ?_
        refine z_lconst (v := 1) dX5_drill_63 k_l1 ?_
        refine z_ladd dX5_drill_64 ?_
        refine z_cSi (As := [.long (((7919 * (Int32.toInt64 v1)) + (6151 * (Int32.toInt64 v5))) + 1)]) (rest := [.ref (z_ad X v0)]) (c_X5_drawOf X (((7919 * (Int32.toInt64 v1)) + (6151 * (Int32.toInt64 v5))) + 1) m) mw_X5_drawOf iw_X5_drawOf wm_X5_110 rfl rfl (by decide) (Nat.le_of_ble_eq_true rfl) dX5_drill_65 (fun x7 m8 => ?_)
        refine z_iconst (v := 3) dX5_drill_68 k_c3 ?_
        refine z_irem dX5_drill_69 (by decide) ?_
        refine z_aload_n dX5_drill_70 rfl 0 rfl ?_
        refine z_iconst (v := 0) dX5_drill_71 k_c0 ?_
        refine z_cVi (As := [.int 0]) (rest := [.int (z_mI x7 3), .ref (z_ad X v0)]) (c_X5_errors X v0 0 m8) mw_X5_errors iw_X5_errors z_X5 wm_X5_136 rfl rfl (by decide) (Nat.le_of_ble_eq_true rfl) dX5_drill_72 (fun x9 m10 => ?_)
        refine z_cVv (As := [.int (z_mI x7 3), .int x9]) (rest := []) (c_X5_says X v0 (z_mI x7 3) x9 m10) mw_X5_says iw_X5_says z_X5 wm_X5_140 rfl rfl (by decide) (Nat.le_of_ble_eq_true rfl) dX5_drill_75 (fun _ m11 => ?_)
        refine z_iload dX5_drill_78 4 rfl ?_
        refine z_aload_n dX5_drill_80 rfl 0 rfl ?_
        refine z_cVi (As := []) (rest := [.int v4]) (c_X5_isOneWay X v0 m11) mw_X5_isOneWay iw_X5_isOneWay z_X5 wm_X5_156 rfl rfl (by decide) (Nat.le_of_ble_eq_true rfl) dX5_drill_81 (fun x12 m13 => ?_)
        refine z_if_eq (tg := 91) dX5_drill_84 (by decide) ?_ ?_
        · refine z_iconst (v := 0) dX5_drill_91 k_c0 ?_
          exact z_sub (lv' := [(0, .ref (z_ad X v0)), (1, .int v1), (2, .int v2), (3, .int v3), (5, .int v5)]) [0, 1, 2, 3, 5] rfl (s_X5_drill_L92 X (f_X5_drill_L42 n) ih v0 v1 v2 v3 v5 0 v4 m13)
        · refine z_iconst (v := 1) dX5_drill_87 k_c1 ?_
          refine z_goto (tg := 92) dX5_drill_88 (by decide) ?_
          exact z_sub (lv' := [(0, .ref (z_ad X v0)), (1, .int v1), (2, .int v2), (3, .int v3), (5, .int v5)]) [0, 1, 2, 3, 5] rfl (s_X5_drill_L92 X (f_X5_drill_L42 n) ih v0 v1 v2 v3 v5 1 v4 m13)
set_option maxRecDepth 100000 in
set_option maxHeartbeats 4000000 in
theorem s_X5_drill (X : z_X) (v0 : Nat) (v1 : Int32) (v2 : Int32) (v3 : Int32) (m : z_M) : z_Sim X yX5_drill cX5_drill 6 (some .int) 5 0 [(0, .ref (z_ad X v0)), (1, .int v1), (2, .int v2), (3, .int v3)] [] m (f_X5_drill v0 v1 v2 v3 m) := by
  unfold f_X5_drill
  refine z_iload_n dX5_drill_0 rfl 1 rfl ?_
  refine z_iconst (v := 0) dX5_drill_1 k_c0 ?_
  refine z_sipush (v := 9999) dX5_drill_2 k_si9999 ?_
  refine z_cSi (As := [.int v1, .int 0, .int 9999]) (rest := []) (c_X5_in X v1 0 9999 m) mw_X5_in iw_X5_in wm_X5_45 rfl rfl (by decide) (Nat.le_of_ble_eq_true rfl) dX5_drill_5 (fun x14 m15 => ?_)
  refine z_if_eq (tg := 30) dX5_drill_8 (by decide) ?_ ?_
  · refine z_iconst (v := (-1)) dX5_drill_30 k_cm1 ?_
    exact z_iret dX5_drill_31
  · refine z_iload_n dX5_drill_11 rfl 2 rfl ?_
    refine z_iconst (v := 1) dX5_drill_12 k_c1 ?_
    refine z_bipush (v := 60) dX5_drill_13 k_bi60 ?_
    refine z_cSi (As := [.int v2, .int 1, .int 60]) (rest := []) (c_X5_in X v2 1 60 m15) mw_X5_in iw_X5_in wm_X5_45 rfl rfl (by decide) (Nat.le_of_ble_eq_true rfl) dX5_drill_15 (fun x16 m17 => ?_)
    refine z_if_eq (tg := 30) dX5_drill_18 (by decide) ?_ ?_
    · refine z_iconst (v := (-1)) dX5_drill_30 k_cm1 ?_
      exact z_iret dX5_drill_31
    · refine z_iload_n dX5_drill_21 rfl 3 rfl ?_
      refine z_iconst (v := 0) dX5_drill_22 k_c0 ?_
      refine z_iconst (v := 1) dX5_drill_23 k_c1 ?_
      refine z_cSi (As := [.int v3, .int 0, .int 1]) (rest := []) (c_X5_in X v3 0 1 m17) mw_X5_in iw_X5_in wm_X5_45 rfl rfl (by decide) (Nat.le_of_ble_eq_true rfl) dX5_drill_24 (fun x18 m19 => ?_)
      refine z_if_ne (tg := 32) dX5_drill_27 (by decide) ?_ ?_
      · refine z_aload_n dX5_drill_32 rfl 0 rfl ?_
        refine z_cVv (As := []) (rest := []) (c_X5_holds X v0 m19) mw_X5_holds iw_X5_holds z_X5 wm_X5_153 rfl rfl (by decide) (Nat.le_of_ble_eq_true rfl) dX5_drill_33 (fun _ m20 => ?_)
        refine z_iconst (v := 0) dX5_drill_36 k_c0 ?_
        refine z_istore (lv' := [(4, .int 0), (0, .ref (z_ad X v0)), (1, .int v1), (2, .int v2), (3, .int v3)]) dX5_drill_37 (by decide) rfl ?_
        refine z_iconst (v := 0) dX5_drill_39 k_c0 ?_
        refine z_istore (lv' := [(5, .int 0), (4, .int 0), (0, .ref (z_ad X v0)), (1, .int v1), (2, .int v2), (3, .int v3)]) dX5_drill_40 (by decide) rfl ?_
        exact z_sub (lv' := [(0, .ref (z_ad X v0)), (1, .int v1), (2, .int v2), (3, .int v3), (4, .int 0), (5, .int 0)]) [2, 3, 4, 5, 1, 0] rfl (s_X5_drill_L42 X 400 v0 v1 v2 v3 0 0 m20)
      · refine z_iconst (v := (-1)) dX5_drill_30 k_cm1 ?_
        exact z_iret dX5_drill_31
set_option maxRecDepth 100000 in
set_option maxHeartbeats 4000000 in
theorem c_X5_drill (X : z_X) (v0 : Nat) (v1 : Int32) (v2 : Int32) (v3 : Int32) (m : z_M) : z_Ct X yX5_drill cX5_drill 6 (some .int) 5 [.ref (z_ad X v0), .int v1, .int v2, .int v3] m (f_X5_drill v0 v1 v2 v3 m) := z_Ct.of (by decide) (Nat.le_of_ble_eq_true rfl) (s_X5_drill X v0 v1 v2 v3 m)
set_option maxRecDepth 100000 in
set_option maxHeartbeats 4000000 in
theorem s_X5_keeps_L51 (X : z_X) : ∀ (n : Nat) (v0 : Nat) (v1 : Int32) (m : z_M), z_Sim X yX5_keeps cX5_keeps 2 none 0 51 [(0, .ref (z_ad X v0)), (1, .int v1)] [] m (f_X5_keeps_L51 n v0 v1 m) := by
  intro n
  induction n with
  | zero => intros; exact z_none
  | succ n ih =>
      intro v0 v1 m
      unfold f_X5_keeps_L51
      refine z_iload_n dX5_keeps_51 rfl 1 rfl ?_
      refine z_bipush (v := 22) dX5_keeps_52 k_bi22 ?_
      refine z_icmp_ge (tg := 83) dX5_keeps_54 (by decide) ?_ ?_
      · refine z_aload_n dX5_keeps_83 rfl 0 rfl ?_
        refine z_dup dX5_keeps_84 rfl ?_
        refine z_getI z_X5 (j := 6) (by decide) rfl rfl wf_X5_81 dX5_keeps_85 (fun x1 => ?_)
        refine z_iconst (v := 1) dX5_keeps_88 k_c1 ?_
        refine z_iadd dX5_keeps_89 ?_
        refine z_nm (fun x2 => ?_)
        refine z_setI z_X5 (by decide) rfl rfl wf_X5_81 dX5_keeps_90 ?_
        generalize z_wI m v0 6 x2 = m3
        exact z_vret dX5_keeps_93
      · refine z_aload_n dX5_keeps_57 rfl 0 rfl ?_
        refine z_getP z_X5 (j := 5) (by decide) rfl rfl wf_X5_22 dX5_keeps_58 (fun a4 => ?_)
        refine z_bipush (v := 22) dX5_keeps_61 k_bi22 ?_
        refine z_aload_n dX5_keeps_63 rfl 0 rfl ?_
        refine z_getI z_X5 (j := 6) (by decide) rfl rfl wf_X5_81 dX5_keeps_64 (fun x5 => ?_)
        refine z_imul dX5_keeps_67 ?_
        refine z_iload_n dX5_keeps_68 rfl 1 rfl ?_
        refine z_iadd dX5_keeps_69 ?_
        refine z_aload_n dX5_keeps_70 rfl 0 rfl ?_
        refine z_getP z_X5 (j := 4) (by decide) rfl rfl wf_X5_19 dX5_keeps_71 (fun a6 => ?_)
        refine z_iload_n dX5_keeps_74 rfl 1 rfl ?_
        refine z_iald dX5_keeps_75 (fun x7 => ?_)
        refine z_iast dX5_keeps_76 ?_
        generalize z_wI m a4 (Int32.toNatClampNeg ((22 * x5) + v1)) x7 = m8
        refine z_iinc (k := 1) (lv' := [(1, .int (v1 + 1)), (0, .ref (z_ad X v0))]) dX5_keeps_77 rfl (k_i1 _) (by decide) rfl ?_
        refine z_goto (tg := 51) dX5_keeps_80 (by decide) ?_
        exact z_sub (lv' := [(0, .ref (z_ad X v0)), (1, .int (v1 + 1))]) [1, 0] rfl (ih v0 (v1 + 1) m8)
set_option maxRecDepth 100000 in
set_option maxHeartbeats 4000000 in
theorem s_X5_keeps_L49 (X : z_X) (v0 : Nat) (m : z_M) : z_Sim X yX5_keeps cX5_keeps 2 none 0 49 [(0, .ref (z_ad X v0))] [] m (f_X5_keeps_L49 v0 m) := by
  unfold f_X5_keeps_L49
  refine z_iconst (v := 0) dX5_keeps_49 k_c0 ?_
  refine z_istore_n (lv' := [(1, .int 0), (0, .ref (z_ad X v0))]) dX5_keeps_50 rfl (by decide) rfl ?_
  exact z_sub (lv' := [(0, .ref (z_ad X v0)), (1, .int 0)]) [1, 0] rfl (s_X5_keeps_L51 X 400 v0 0 m)
set_option maxRecDepth 100000 in
set_option maxHeartbeats 4000000 in
theorem s_X5_keeps_L11 (X : z_X) : ∀ (n : Nat) (v0 : Nat) (v1 : Int32) (m : z_M), z_Sim X yX5_keeps cX5_keeps 2 none 0 11 [(0, .ref (z_ad X v0)), (1, .int v1)] [] m (f_X5_keeps_L11 n v0 v1 m) := by
  intro n
  induction n with
  | zero => intros; exact z_none
  | succ n ih =>
      intro v0 v1 m
      unfold f_X5_keeps_L11
      refine z_iload_n dX5_keeps_11 rfl 1 rfl ?_
      refine z_sipush (v := 154) dX5_keeps_12 k_si154 ?_
      refine z_icmp_ge (tg := 39) dX5_keeps_15 (by decide) ?_ ?_
      · refine z_aload_n dX5_keeps_39 rfl 0 rfl ?_
        refine z_dup dX5_keeps_40 rfl ?_
        refine z_getI z_X5 (j := 6) (by decide) rfl rfl wf_X5_81 dX5_keeps_41 (fun x9 => ?_)
        refine z_iconst (v := 1) dX5_keeps_44 k_c1 ?_
        refine z_isub dX5_keeps_45 ?_
        refine z_nm (fun x10 => ?_)
        refine z_setI z_X5 (by decide) rfl rfl wf_X5_81 dX5_keeps_46 ?_
        generalize z_wI m v0 6 x10 = m11
        exact z_sub (lv' := [(0, .ref (z_ad X v0))]) [0] rfl (s_X5_keeps_L49 X v0 m11)
      · refine z_aload_n dX5_keeps_18 rfl 0 rfl ?_
        refine z_getP z_X5 (j := 5) (by decide) rfl rfl wf_X5_22 dX5_keeps_19 (fun a12 => ?_)
        refine z_iload_n dX5_keeps_22 rfl 1 rfl ?_
        refine z_aload_n dX5_keeps_23 rfl 0 rfl ?_
        refine z_getP z_X5 (j := 5) (by decide) rfl rfl wf_X5_22 dX5_keeps_24 (fun a13 => ?_)
        refine z_iload_n dX5_keeps_27 rfl 1 rfl ?_
        refine z_bipush (v := 22) dX5_keeps_28 k_bi22 ?_
        refine z_iadd dX5_keeps_30 ?_
        refine z_iald dX5_keeps_31 (fun x14 => ?_)
        refine z_iast dX5_keeps_32 ?_
        generalize z_wI m a12 (Int32.toNatClampNeg v1) x14 = m15
        refine z_iinc (k := 1) (lv' := [(1, .int (v1 + 1)), (0, .ref (z_ad X v0))]) dX5_keeps_33 rfl (k_i1 _) (by decide) rfl ?_
        refine z_goto (tg := 11) dX5_keeps_36 (by decide) ?_
        exact z_sub (lv' := [(0, .ref (z_ad X v0)), (1, .int (v1 + 1))]) [1, 0] rfl (ih v0 (v1 + 1) m15)
set_option maxRecDepth 100000 in
set_option maxHeartbeats 4000000 in
theorem s_X5_keeps (X : z_X) (v0 : Nat) (m : z_M) : z_Sim X yX5_keeps cX5_keeps 2 none 0 0 [(0, .ref (z_ad X v0))] [] m (f_X5_keeps v0 m) := by
  unfold f_X5_keeps
  refine z_aload_n dX5_keeps_0 rfl 0 rfl ?_
  refine z_getI z_X5 (j := 6) (by decide) rfl rfl wf_X5_81 dX5_keeps_1 (fun x16 => ?_)
  refine z_bipush (v := 8) dX5_keeps_4 k_bi8 ?_
  refine z_icmp_ne (tg := 49) dX5_keeps_6 (by decide) ?_ ?_
  · exact z_sub (lv' := [(0, .ref (z_ad X v0))]) [0] rfl (s_X5_keeps_L49 X v0 m)
  · refine z_iconst (v := 0) dX5_keeps_9 k_c0 ?_
    refine z_istore_n (lv' := [(1, .int 0), (0, .ref (z_ad X v0))]) dX5_keeps_10 rfl (by decide) rfl ?_
    exact z_sub (lv' := [(0, .ref (z_ad X v0)), (1, .int 0)]) [1, 0] rfl (s_X5_keeps_L11 X 400 v0 0 m)
set_option maxRecDepth 100000 in
set_option maxHeartbeats 4000000 in
theorem c_X5_keeps (X : z_X) (v0 : Nat) (m : z_M) : z_Ct X yX5_keeps cX5_keeps 2 none 0 [.ref (z_ad X v0)] m (f_X5_keeps v0 m) := z_Ct.of (by decide) (Nat.le_of_ble_eq_true rfl) (s_X5_keeps X v0 m)
set_option maxRecDepth 100000 in
set_option maxHeartbeats 4000000 in
theorem s_X5_eyes (X : z_X) (v0 : Nat) (v1 : Int32) (m : z_M) : z_Sim X yX5_eyes cX5_eyes 3 (some .int) 1 0 [(0, .ref (z_ad X v0)), (1, .int v1)] [] m (f_X5_eyes v0 v1 m) := by
  unfold f_X5_eyes
  refine z_iload_n dX5_eyes_0 rfl 1 rfl ?_
  refine z_iconst (v := 0) dX5_eyes_1 k_c0 ?_
  refine z_iconst (v := 1) dX5_eyes_2 k_c1 ?_
  refine z_cSi (As := [.int v1, .int 0, .int 1]) (rest := []) (c_X5_in X v1 0 1 m) mw_X5_in iw_X5_in wm_X5_45 rfl rfl (by decide) (Nat.le_of_ble_eq_true rfl) dX5_eyes_3 (fun x1 m2 => ?_)
  refine z_if_ne (tg := 11) dX5_eyes_6 (by decide) ?_ ?_
  · refine z_aload_n dX5_eyes_11 rfl 0 rfl ?_
    refine z_cVv (As := []) (rest := []) (c_X5_keeps X v0 m2) mw_X5_keeps iw_X5_keeps z_X5 wm_X5_133 rfl rfl (by decide) (Nat.le_of_ble_eq_true rfl) dX5_eyes_12 (fun _ m3 => ?_)
    refine z_aload_n dX5_eyes_15 rfl 0 rfl ?_
    refine z_getP z_X5 (j := 4) (by decide) rfl rfl wf_X5_19 dX5_eyes_16 (fun a4 => ?_)
    refine z_bipush (v := 16) dX5_eyes_19 k_bi16 ?_
    refine z_iald dX5_eyes_21 (fun x5 => ?_)
    refine z_istore_n (lv' := [(2, .int x5), (0, .ref (z_ad X v0)), (1, .int v1)]) dX5_eyes_22 rfl (by decide) rfl ?_
    refine z_aload_n dX5_eyes_23 rfl 1 rfl ?_
    refine z_getP z_X5 (j := 4) (by decide) rfl rfl wf_X5_19 dX5_eyes_24 (fun a6 => ?_)
    refine z_bipush (v := 16) dX5_eyes_27 k_bi16 ?_
    refine z_iload_n dX5_eyes_29 rfl 2 rfl ?_
    refine z_iast dX5_eyes_30 ?_
    generalize z_wI m3 a6 (Int32.toNatClampNeg 16) v1 = m7
    refine z_iload_n dX5_eyes_31 rfl 0 rfl ?_
    exact z_iret dX5_eyes_32
  · refine z_iconst (v := (-1)) dX5_eyes_9 k_cm1 ?_
    exact z_iret dX5_eyes_10
set_option maxRecDepth 100000 in
set_option maxHeartbeats 4000000 in
theorem c_X5_eyes (X : z_X) (v0 : Nat) (v1 : Int32) (m : z_M) : z_Ct X yX5_eyes cX5_eyes 3 (some .int) 1 [.ref (z_ad X v0), .int v1] m (f_X5_eyes v0 v1 m) := z_Ct.of (by decide) (Nat.le_of_ble_eq_true rfl) (s_X5_eyes X v0 v1 m)
set_option maxRecDepth 100000 in
set_option maxHeartbeats 4000000 in
theorem s_X5_isFigure (X : z_X) (v0 : Int32) (m : z_M) : z_Sim X yX5_isFigure cX5_isFigure 1 (some .boolean) 1 0 [(0, .int v0)] [] m (f_X5_isFigure v0 m) := by
  unfold f_X5_isFigure
  refine z_iload_n dX5_isFigure_0 rfl 0 rfl ?_
  refine z_bipush (v := 48) dX5_isFigure_1 k_bi48 ?_
  refine z_bipush (v := 57) dX5_isFigure_3 k_bi57 ?_
  refine z_cSi (As := [.int v0, .int 48, .int 57]) (rest := []) (c_X5_in X v0 48 57 m) mw_X5_in iw_X5_in wm_X5_45 rfl rfl (by decide) (Nat.le_of_ble_eq_true rfl) dX5_isFigure_5 (fun x1 m2 => ?_)
  exact z_zret dX5_isFigure_8
set_option maxRecDepth 100000 in
set_option maxHeartbeats 4000000 in
theorem c_X5_isFigure (X : z_X) (v0 : Int32) (m : z_M) : z_Ct X yX5_isFigure cX5_isFigure 1 (some .boolean) 1 [.int v0] m (f_X5_isFigure v0 m) := z_Ct.of (by decide) (Nat.le_of_ble_eq_true rfl) (s_X5_isFigure X v0 m)
