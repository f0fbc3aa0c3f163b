set_option maxRecDepth 100000 in
set_option maxHeartbeats 4000000 in
theorem s_X4_findManners_L52 (X : z_X) (h6 : Nat → Int32 → z_M → z_R) (H6 : ∀ (w0 : Nat) (w1 : Int32) (w : z_M), z_Sim X yX4_findManners cX4_findManners 2 none 2 6 [(0, .ref (z_ad X w0)), (1, .int w1)] [] w (h6 w0 w1 w)) (v0 : Nat) (v1 : Int32) (s0 : Int32) (s1 : Int32) (s2 : Nat) (s3 : Int32) (s4 : Nat) (m : z_M) : z_Sim X yX4_findManners cX4_findManners 2 none 2 52 [(0, .ref (z_ad X v0)), (1, .int v1)] [.int s0, .int s1, .ref (z_ad X s2), .int s3, .ref (z_ad X s4)] m (f_X4_findManners_L52 h6 v0 v1 s0 s1 s2 s3 s4 m) := by
  unfold f_X4_findManners_L52
  refine z_cVi (As := [.int s1, .int s0]) (rest := [.int s3, .ref (z_ad X s4)]) (c_X4_mannerOf X s2 s1 s0 m) mw_X4_mannerOf iw_X4_mannerOf z_X4 wm_X4_246 rfl rfl (by decide) (Nat.le_of_ble_eq_true rfl) dX4_findManners_52 (fun x1 m2 => ?_)
  refine z_iast dX4_findManners_55 ?_
  generalize z_wI m2 s4 (Int32.toNatClampNeg s3) x1 = m3
  refine z_iinc (k := 1) (lv' := [(1, .int (v1 + 1)), (0, .ref (z_ad X v0))]) dX4_findManners_56 rfl (k_i1 _) (by decide) rfl ?_
  refine z_goto (tg := 6) dX4_findManners_59 (by decide) ?_
  exact z_sub (lv' := [(0, .ref (z_ad X v0)), (1, .int (v1 + 1))]) [1, 0] rfl (H6 v0 (v1 + 1) m3)
set_option maxRecDepth 100000 in
set_option maxHeartbeats 4000000 in
theorem s_X4_findManners_L6 (X : z_X) : ∀ (n : Nat) (v0 : Nat) (v1 : Int32) (m : z_M), z_Sim X yX4_findManners cX4_findManners 2 none 2 6 [(0, .ref (z_ad X v0)), (1, .int v1)] [] m (f_X4_findManners_L6 n v0 v1 m) := by
  intro n
  induction n with
  | zero => intros; exact z_none
  | succ n ih =>
      intro v0 v1 m
      unfold f_X4_findManners_L6
      refine z_iload_n dX4_findManners_6 rfl 1 rfl ?_
      refine z_aload_n dX4_findManners_7 rfl 0 rfl ?_
      refine z_getP z_X4 (j := 1) (by decide) rfl rfl wf_X4_19 dX4_findManners_8 (fun a4 => ?_)
      refine z_getI z_X2 (j := 0) (by decide) rfl rfl wf_X4_88 dX4_findManners_11 (fun x5 => ?_)
      refine z_icmp_ge (tg := 62) dX4_findManners_14 (by decide) ?_ ?_
      · exact z_vret dX4_findManners_62
      · refine z_aload_n dX4_findManners_17 rfl 0 rfl ?_
        refine z_getP z_X4 (j := 8) (by decide) rfl rfl wf_X4_52 dX4_findManners_18 (fun a6 => ?_)
        refine z_iload_n dX4_findManners_21 rfl 1 rfl ?_
        refine z_aload_n dX4_findManners_22 rfl 0 rfl ?_
        refine z_aload_n dX4_findManners_23 rfl 0 rfl ?_
        refine z_getP z_X4 (j := 7) (by decide) rfl rfl wf_X4_48 dX4_findManners_24 (fun a7 => ?_)
        refine z_iload_n dX4_findManners_27 rfl 1 rfl ?_
        refine z_iald dX4_findManners_28 (fun x8 => ?_)
        refine z_aload_n dX4_findManners_29 rfl 0 rfl ?_
        refine z_getP z_X4 (j := 1) (by decide) rfl rfl wf_X4_19 dX4_findManners_30 (fun a9 => ?_)
        refine z_getP z_X2 (j := 6) (by decide) rfl rfl wf_X4_104 dX4_findManners_33 (fun a10 => ?_)
        refine z_aload_n dX4_findManners_36 rfl 0 rfl ?_
        refine z_getP z_X4 (j := 7) (by decide) rfl rfl wf_X4_48 dX4_findManners_37 (fun a11 => ?_)
        refine z_iload_n dX4_findManners_40 rfl 1 rfl ?_
        refine z_iald dX4_findManners_41 (fun x12 => ?_)
        refine z_iald dX4_findManners_42 (fun x13 => ?_)
        refine z_iconst (v := 5) dX4_findManners_43 k_c5 ?_
        refine z_icmp_lt (tg := 51) dX4_findManners_44 (by decide) ?_ ?_
        · refine z_iconst (v := 0) dX4_findManners_51 k_c0 ?_
          exact z_sub (lv' := [(0, .ref (z_ad X v0)), (1, .int v1)]) [0, 1] rfl (s_X4_findManners_L52 X (f_X4_findManners_L6 n) ih v0 v1 0 x8 v0 v1 a6 m)
        · refine z_iconst (v := 1) dX4_findManners_47 k_c1 ?_
          refine z_goto (tg := 52) dX4_findManners_48 (by decide) ?_
          exact z_sub (lv' := [(0, .ref (z_ad X v0)), (1, .int v1)]) [0, 1] rfl (s_X4_findManners_L52 X (f_X4_findManners_L6 n) ih v0 v1 1 x8 v0 v1 a6 m)
set_option maxRecDepth 100000 in
set_option maxHeartbeats 4000000 in
theorem s_X4_findManners (X : z_X) (v0 : Nat) (m : z_M) : z_Sim X yX4_findManners cX4_findManners 2 none 2 0 [(0, .ref (z_ad X v0))] [] m (f_X4_findManners v0 m) := by
  unfold f_X4_findManners
  refine z_aload_n dX4_findManners_0 rfl 0 rfl ?_
  refine z_cVv (As := []) (rest := []) (c_X4_findLeaders X v0 m) mw_X4_findLeaders iw_X4_findLeaders z_X4 wm_X4_121 rfl rfl (by decide) (Nat.le_of_ble_eq_true rfl) dX4_findManners_1 (fun _ m14 => ?_)
  refine z_iconst (v := 0) dX4_findManners_4 k_c0 ?_
  refine z_istore_n (lv' := [(1, .int 0), (0, .ref (z_ad X v0))]) dX4_findManners_5 rfl (by decide) rfl ?_
  exact z_sub (lv' := [(0, .ref (z_ad X v0)), (1, .int 0)]) [1, 0] rfl (s_X4_findManners_L6 X 400 v0 0 m14)
set_option maxRecDepth 100000 in
set_option maxHeartbeats 4000000 in
theorem c_X4_findManners (X : z_X) (v0 : Nat) (m : z_M) : z_Ct X yX4_findManners cX4_findManners 2 none 2 [.ref (z_ad X v0)] m (f_X4_findManners v0 m) := z_Ct.of (by decide) (Nat.le_of_ble_eq_true rfl) (s_X4_findManners X v0 m)
set_option maxRecDepth 100000 in
set_option maxHeartbeats 4000000 in
theorem s_X4_isRowAlike_L33 (X : z_X) : ∀ (n : Nat) (v0 : Nat) (v3 : Int32) (v4 : Int32) (m : z_M), z_Sim X yX4_isRowAlike cX4_isRowAlike 5 (some .boolean) 2 33 [(0, .ref (z_ad X v0)), (3, .int v3), (4, .int v4)] [] m (f_X4_isRowAlike_L33 n v0 v3 v4 m) := by
  intro n
  induction n with
  | zero => intros; exact z_none
  | succ n ih =>
      intro v0 v3 v4 m
      unfold f_X4_isRowAlike_L33
      refine z_iload dX4_isRowAlike_33 2 rfl ?_
      refine z_aload_n dX4_isRowAlike_35 rfl 0 rfl ?_
      refine z_getP z_X4 (j := 1) (by decide) rfl rfl wf_X4_19 dX4_isRowAlike_36 (fun a1 => ?_)
      refine z_getI z_X2 (j := 0) (by decide) rfl rfl wf_X4_88 dX4_isRowAlike_39 (fun x2 => ?_)
      refine z_icmp_ge (tg := 82) dX4_isRowAlike_42 (by decide) ?_ ?_
      · refine z_iconst (v := 1) dX4_isRowAlike_82 k_c1 ?_
        exact z_zret1 dX4_isRowAlike_83
      · refine z_aload_n dX4_isRowAlike_45 rfl 0 rfl ?_
        refine z_getP z_X4 (j := 3) (by decide) rfl rfl wf_X4_29 dX4_isRowAlike_46 (fun a3 => ?_)
        refine z_getP z_X3 (j := 0) (by decide) rfl rfl wf_X4_98 dX4_isRowAlike_49 (fun a4 => ?_)
        refine z_iload dX4_isRowAlike_52 2 rfl ?_
        refine z_iald dX4_isRowAlike_54 (fun x5 => ?_)
        refine z_aload_n dX4_isRowAlike_55 rfl 0 rfl ?_
        refine z_getP z_X4 (j := 9) (by decide) rfl rfl wf_X4_55 dX4_isRowAlike_56 (fun a6 => ?_)
        refine z_aload_n dX4_isRowAlike_59 rfl 0 rfl ?_
        refine z_getP z_X4 (j := 8) (by decide) rfl rfl wf_X4_52 dX4_isRowAlike_60 (fun a7 => ?_)
        refine z_iload dX4_isRowAlike_63 2 rfl ?_
        refine z_iald dX4_isRowAlike_65 (fun x8 => ?_)
        refine z_iald dX4_isRowAlike_66 (fun x9 => ?_)
        refine z_iadd dX4_isRowAlike_67 ?_
        refine z_iconst (v := 4) dX4_isRowAlike_68 k_c4 ?_
        refine z_irem dX4_isRowAlike_69 (by decide) ?_
        refine z_iload_n dX4_isRowAlike_70 rfl 1 rfl ?_
        refine z_icmp_eq (tg := 76) dX4_isRowAlike_71 (by decide) ?_ ?_
        · refine z_iinc (k := 2) (lv' := [(4, .int (v4 + 1)), (0, .ref (z_ad X v0)), (3, .int v3)]) dX4_isRowAlike_76 rfl (k_i1 _) (by decide) rfl ?_
          refine z_goto (tg := 33) dX4_isRowAlike_79 (by decide) ?_
          exact z_sub (lv' := [(0, .ref (z_ad X v0)), (3, .int v3), (4, .int (v4 + 1))]) [1, 2, 0] rfl (ih v0 v3 (v4 + 1) m)
        · refine z_iconst (v := 0) dX4_isRowAlike_74 k_c0 ?_
          exact z_zret0 dX4_isRowAlike_75
set_option maxRecDepth 100000 in
set_option maxHeartbeats 4000000 in
theorem s_X4_isRowAlike (X : z_X) (v0 : Nat) (v1 : Int32) (v2 : Int32) (m : z_M) : z_Sim X yX4_isRowAlike cX4_isRowAlike 5 (some .boolean) 2 0 [(0, .ref (z_ad X v0)), (1, .int v1), (2, .int v2)] [] m (f_X4_isRowAlike v0 v1 v2 m) := by
  unfold f_X4_isRowAlike
  refine z_aload_n dX4_isRowAlike_0 rfl 0 rfl ?_
  refine z_iload_n dX4_isRowAlike_1 rfl 1 rfl ?_
  refine z_iload_n dX4_isRowAlike_2 rfl 2 rfl ?_
  refine z_cVv (As := [.int v1, .int v2]) (rest := []) (c_X4_addUpRow X v0 v1 v2 m) mw_X4_addUpRow iw_X4_addUpRow z_X4 wm_X4_260 rfl rfl (by decide) (Nat.le_of_ble_eq_true rfl) dX4_isRowAlike_3 (fun _ m10 => ?_)
  refine z_aload_n dX4_isRowAlike_6 rfl 0 rfl ?_
  refine z_getP z_X4 (j := 3) (by decide) rfl rfl wf_X4_29 dX4_isRowAlike_7 (fun a11 => ?_)
  refine z_getP z_X3 (j := 0) (by decide) rfl rfl wf_X4_98 dX4_isRowAlike_10 (fun a12 => ?_)
  refine z_iconst (v := 0) dX4_isRowAlike_13 k_c0 ?_
  refine z_iald dX4_isRowAlike_14 (fun x13 => ?_)
  refine z_aload_n dX4_isRowAlike_15 rfl 0 rfl ?_
  refine z_getP z_X4 (j := 9) (by decide) rfl rfl wf_X4_55 dX4_isRowAlike_16 (fun a14 => ?_)
  refine z_aload_n dX4_isRowAlike_19 rfl 0 rfl ?_
  refine z_getP z_X4 (j := 8) (by decide) rfl rfl wf_X4_52 dX4_isRowAlike_20 (fun a15 => ?_)
  refine z_iconst (v := 0) dX4_isRowAlike_23 k_c0 ?_
  refine z_iald dX4_isRowAlike_24 (fun x16 => ?_)
  refine z_iald dX4_isRowAlike_25 (fun x17 => ?_)
  refine z_iadd dX4_isRowAlike_26 ?_
  refine z_iconst (v := 4) dX4_isRowAlike_27 k_c4 ?_
  refine z_irem dX4_isRowAlike_28 (by decide) ?_
  refine z_nm (fun x18 => ?_)
  refine z_istore_n (lv' := [(3, .int x18), (0, .ref (z_ad X v0)), (1, .int v1), (2, .int v2)]) dX4_isRowAlike_29 rfl (by decide) rfl ?_
  refine z_iconst (v := 1) dX4_isRowAlike_30 k_c1 ?_
  refine z_istore (lv' := [(4, .int 1), (3, .int x18), (0, .ref (z_ad X v0)), (1, .int v1), (2, .int v2)]) dX4_isRowAlike_31 (by decide) rfl ?_
  exact z_sub (lv' := [(0, .ref (z_ad X v0)), (3, .int x18), (4, .int 1)]) [2, 1, 0] rfl (s_X4_isRowAlike_L33 X 400 v0 x18 1 m10)
set_option maxRecDepth 100000 in
set_option maxHeartbeats 4000000 in
theorem c_X4_isRowAlike (X : z_X) (v0 : Nat) (v1 : Int32) (v2 : Int32) (m : z_M) : z_Ct X yX4_isRowAlike cX4_isRowAlike 5 (some .boolean) 2 [.ref (z_ad X v0), .int v1, .int v2] m (f_X4_isRowAlike v0 v1 v2 m) := z_Ct.of (by decide) (Nat.le_of_ble_eq_true rfl) (s_X4_isRowAlike X v0 v1 v2 m)
set_option maxRecDepth 100000 in
set_option maxHeartbeats 4000000 in
theorem s_X4_firstRowAlike_L2 (X : z_X) : ∀ (n : Nat) (v0 : Nat) (v1 : Int32) (v2 : Int32) (m : z_M), z_Sim X yX4_firstRowAlike cX4_firstRowAlike 3 (some .int) 3 2 [(0, .ref (z_ad X v0)), (1, .int v1), (2, .int v2)] [] m (f_X4_firstRowAlike_L2 n v0 v1 v2 m) := by
  intro n
  induction n with
  | zero => intros; exact z_none
  | succ n ih =>
      intro v0 v1 v2 m
      unfold f_X4_firstRowAlike_L2
      refine z_iload_n dX4_firstRowAlike_2 rfl 2 rfl ?_
      refine z_gets1 wf_X4_204 dX4_firstRowAlike_3 ?_
      refine z_iload_n dX4_firstRowAlike_6 rfl 1 rfl ?_
      refine z_tald (t := 1) (by decide) dX4_firstRowAlike_7 (fun x1 => ?_)
      refine z_icmp_ge (tg := 28) dX4_firstRowAlike_8 (by decide) ?_ ?_
      · refine z_bipush (v := (-4)) dX4_firstRowAlike_28 k_bim4 ?_
        exact z_iret dX4_firstRowAlike_30
      · refine z_aload_n dX4_firstRowAlike_11 rfl 0 rfl ?_
        refine z_iload_n dX4_firstRowAlike_12 rfl 2 rfl ?_
        refine z_iload_n dX4_firstRowAlike_13 rfl 1 rfl ?_
        refine z_cVi (As := [.int v2, .int v1]) (rest := []) (c_X4_isRowAlike X v0 v2 v1 m) mw_X4_isRowAlike iw_X4_isRowAlike z_X4 wm_X4_207 rfl rfl (by decide) (Nat.le_of_ble_eq_true rfl) dX4_firstRowAlike_14 (fun x2 m3 => ?_)
        refine z_if_eq (tg := 22) dX4_firstRowAlike_17 (by decide) ?_ ?_
        · refine z_iinc (k := 2) (lv' := [(2, .int (v2 + 1)), (0, .ref (z_ad X v0)), (1, .int v1)]) dX4_firstRowAlike_22 rfl (k_i1 _) (by decide) rfl ?_
          refine z_goto (tg := 2) dX4_firstRowAlike_25 (by decide) ?_
          exact z_sub (lv' := [(0, .ref (z_ad X v0)), (1, .int v1), (2, .int (v2 + 1))]) [1, 2, 0] rfl (ih v0 v1 (v2 + 1) m3)
        · refine z_iload_n dX4_firstRowAlike_20 rfl 2 rfl ?_
          exact z_iret dX4_firstRowAlike_21
set_option maxRecDepth 100000 in
set_option maxHeartbeats 4000000 in
theorem s_X4_firstRowAlike (X : z_X) (v0 : Nat) (v1 : Int32) (m : z_M) : z_Sim X yX4_firstRowAlike cX4_firstRowAlike 3 (some .int) 3 0 [(0, .ref (z_ad X v0)), (1, .int v1)] [] m (f_X4_firstRowAlike v0 v1 m) := by
  unfold f_X4_firstRowAlike
  refine z_iconst (v := 0) dX4_firstRowAlike_0 k_c0 ?_
  refine z_istore_n (lv' := [(2, .int 0), (0, .ref (z_ad X v0)), (1, .int v1)]) dX4_firstRowAlike_1 rfl (by decide) rfl ?_
  exact z_sub (lv' := [(0, .ref (z_ad X v0)), (1, .int v1), (2, .int 0)]) [1, 2, 0] rfl (s_X4_firstRowAlike_L2 X 400 v0 v1 0 m)
set_option maxRecDepth 100000 in
set_option maxHeartbeats 4000000 in
theorem c_X4_firstRowAlike (X : z_X) (v0 : Nat) (v1 : Int32) (m : z_M) : z_Ct X yX4_firstRowAlike cX4_firstRowAlike 3 (some .int) 3 [.ref (z_ad X v0), .int v1] m (f_X4_firstRowAlike v0 v1 m) := z_Ct.of (by decide) (Nat.le_of_ble_eq_true rfl) (s_X4_firstRowAlike X v0 v1 m)
set_option maxRecDepth 100000 in
set_option maxHeartbeats 4000000 in
theorem s_X4_isMan (X : z_X) (v0 : Nat) (v1 : Int32) (m : z_M) : z_Sim X yX4_isMan cX4_isMan 2 (some .boolean) 0 0 [(0, .ref (z_ad X v0)), (1, .int v1)] [] m (f_X4_isMan v0 v1 m) := by
  unfold f_X4_isMan
  refine z_iload_n dX4_isMan_0 rfl 1 rfl ?_
  refine z_if_lt (tg := 19) dX4_isMan_1 (by decide) ?_ ?_
  · refine z_iconst (v := 0) dX4_isMan_19 k_c0 ?_
    exact z_zret0 dX4_isMan_20
  · refine z_iload_n dX4_isMan_4 rfl 1 rfl ?_
    refine z_aload_n dX4_isMan_5 rfl 0 rfl ?_
    refine z_getP z_X4 (j := 1) (by decide) rfl rfl wf_X4_19 dX4_isMan_6 (fun a1 => ?_)
    refine z_getI z_X2 (j := 0) (by decide) rfl rfl wf_X4_88 dX4_isMan_9 (fun x2 => ?_)
    refine z_icmp_ge (tg := 19) dX4_isMan_12 (by decide) ?_ ?_
    · refine z_iconst (v := 0) dX4_isMan_19 k_c0 ?_
      exact z_zret0 dX4_isMan_20
    · refine z_iconst (v := 1) dX4_isMan_15 k_c1 ?_
      refine z_goto (tg := 20) dX4_isMan_16 (by decide) ?_
      exact z_zret1 dX4_isMan_20
set_option maxRecDepth 100000 in
set_option maxHeartbeats 4000000 in
theorem c_X4_isMan (X : z_X) (v0 : Nat) (v1 : Int32) (m : z_M) : z_Ct X yX4_isMan cX4_isMan 2 (some .boolean) 0 [.ref (z_ad X v0), .int v1] m (f_X4_isMan v0 v1 m) := z_Ct.of (by decide) (Nat.le_of_ble_eq_true rfl) (s_X4_isMan X v0 v1 m)
set_option maxRecDepth 100000 in
set_option maxHeartbeats 4000000 in
theorem s_X4_follows (X : z_X) (v0 : Nat) (v1 : Int32) (m : z_M) : z_Sim X yX4_follows cX4_follows 2 (some .int) 1 0 [(0, .ref (z_ad X v0)), (1, .int v1)] [] m (f_X4_follows v0 v1 m) := by
  unfold f_X4_follows
  refine z_aload_n dX4_follows_0 rfl 0 rfl ?_
  refine z_iload_n dX4_follows_1 rfl 1 rfl ?_
  refine z_cVi (As := [.int v1]) (rest := []) (c_X4_isMan X v0 v1 m) mw_X4_isMan iw_X4_isMan z_X4 wm_X4_91 rfl rfl (by decide) (Nat.le_of_ble_eq_true rfl) dX4_follows_2 (fun x1 m2 => ?_)
  refine z_if_ne (tg := 10) dX4_follows_5 (by decide) ?_ ?_
  · refine z_aload_n dX4_follows_10 rfl 0 rfl ?_
    refine z_getP z_X4 (j := 3) (by decide) rfl rfl wf_X4_29 dX4_follows_11 (fun a3 => ?_)
    refine z_getI z_X3 (j := 2) (by decide) rfl rfl wf_X4_148 dX4_follows_14 (fun x4 => ?_)
    refine z_iconst (v := 1) dX4_follows_17 k_c1 ?_
    refine z_icmp_ne (tg := 25) dX4_follows_18 (by decide) ?_ ?_
    · refine z_aload_n dX4_follows_25 rfl 0 rfl ?_
      refine z_iload_n dX4_follows_26 rfl 1 rfl ?_
      refine z_bipush (v := (-4)) dX4_follows_27 k_bim4 ?_
      refine z_cVi (As := [.int v1, .int (-4)]) (rest := []) (c_X4_chainEnd X v0 v1 (-4) m2) mw_X4_chainEnd iw_X4_chainEnd z_X4 wm_X4_161 rfl rfl (by decide) (Nat.le_of_ble_eq_true rfl) dX4_follows_29 (fun x5 m6 => ?_)
      exact z_iret dX4_follows_32
    · refine z_iload_n dX4_follows_21 rfl 1 rfl ?_
      refine z_goto (tg := 32) dX4_follows_22 (by decide) ?_
      exact z_iret dX4_follows_32
  · refine z_iconst (v := (-1)) dX4_follows_8 k_cm1 ?_
    exact z_iret dX4_follows_9
set_option maxRecDepth 100000 in
set_option maxHeartbeats 4000000 in
theorem c_X4_follows (X : z_X) (v0 : Nat) (v1 : Int32) (m : z_M) : z_Ct X yX4_follows cX4_follows 2 (some .int) 1 [.ref (z_ad X v0), .int v1] m (f_X4_follows v0 v1 m) := z_Ct.of (by decide) (Nat.le_of_ble_eq_true rfl) (s_X4_follows X v0 v1 m)
set_option maxRecDepth 100000 in
set_option maxHeartbeats 4000000 in
theorem s_X4_groups_L67 (X : z_X) (h19 : Nat → Int32 → Int32 → Int32 → Int32 → Int32 → z_M → z_R) (H19 : ∀ (w0 : Nat) (w1 : Int32) (w2 : Int32) (w3 : Int32) (w4 : Int32) (w5 : Int32) (w : z_M), z_Sim X yX4_groups cX4_groups 6 (some .int) 1 19 [(0, .ref (z_ad X w0)), (1, .int w1), (2, .int w2), (3, .int w3), (4, .int w4), (5, .int w5)] [] w (h19 w0 w1 w2 w3 w4 w5 w)) (v0 : Nat) (v1 : Int32) (v2 : Int32) (v3 : Int32) (v4 : Int32) (v5 : Int32) (m : z_M) : z_Sim X yX4_groups cX4_groups 6 (some .int) 1 67 [(0, .ref (z_ad X v0)), (1, .int v1), (2, .int v2), (3, .int v3), (4, .int v4), (5, .int v5)] [] m (f_X4_groups_L67 h19 v0 v1 v2 v3 v4 v5 m) := by
  unfold f_X4_groups_L67
  refine z_iinc (k := 4) (lv' := [(4, .int (v4 + 1)), (0, .ref (z_ad X v0)), (1, .int v1), (2, .int v2), (3, .int v3), (5, .int v5)]) dX4_groups_67 rfl (k_i1 _) (by decide) rfl ?_
  refine z_iload_n dX4_groups_70 rfl 4 rfl ?_
  refine z_iload dX4_groups_71 0 rfl ?_
  refine z_nm (fun x1 => ?_)
  refine z_mmax (by decide) wm_X4_168 (Nat.le_of_ble_eq_true rfl) dX4_groups_73 ?_
  refine z_nm (fun x2 => ?_)
  refine z_istore_n (lv' := [(3, .int x2), (4, .int (v4 + 1)), (0, .ref (z_ad X v0)), (1, .int v1), (2, .int v2), (5, .int v5)]) dX4_groups_76 rfl (by decide) rfl ?_
  refine z_iinc (k := 5) (lv' := [(5, .int (v5 + 1)), (3, .int x2), (4, .int (v4 + 1)), (0, .ref (z_ad X v0)), (1, .int v1), (2, .int v2)]) dX4_groups_77 rfl (k_i1 _) (by decide) rfl ?_
  refine z_goto (tg := 19) dX4_groups_80 (by decide) ?_
  exact z_sub (lv' := [(0, .ref (z_ad X v0)), (1, .int v1), (2, .int v2), (3, .int x2), (4, .int (v4 + 1)), (5, .int (v5 + 1))]) [3, 4, 5, 1, 2, 0] rfl (H19 v0 v1 v2 x2 (v4 + 1) (v5 + 1) m)
set_option maxRecDepth 100000 in
set_option maxHeartbeats 4000000 in
theorem s_X4_groups_L61 (X : z_X) (h19 : Nat → Int32 → Int32 → Int32 → Int32 → Int32 → z_M → z_R) (H19 : ∀ (w0 : Nat) (w1 : Int32) (w2 : Int32) (w3 : Int32) (w4 : Int32) (w5 : Int32) (w : z_M), z_Sim X yX4_groups cX4_groups 6 (some .int) 1 19 [(0, .ref (z_ad X w0)), (1, .int w1), (2, .int w2), (3, .int w3), (4, .int w4), (5, .int w5)] [] w (h19 w0 w1 w2 w3 w4 w5 w)) (v0 : Nat) (v1 : Int32) (v2 : Int32) (v3 : Int32) (v5 : Int32) (m : z_M) : z_Sim X yX4_groups cX4_groups 6 (some .int) 1 61 [(0, .ref (z_ad X v0)), (1, .int v1), (2, .int v2), (3, .int v3), (5, .int v5)] [] m (f_X4_groups_L61 h19 v0 v1 v2 v3 v5 m) := by
  unfold f_X4_groups_L61
  refine z_iinc (k := 2) (lv' := [(2, .int (v2 + 1)), (0, .ref (z_ad X v0)), (1, .int v1), (3, .int v3), (5, .int v5)]) dX4_groups_61 rfl (k_i1 _) (by decide) rfl ?_
  refine z_iconst (v := 0) dX4_groups_64 k_c0 ?_
  refine z_istore (lv' := [(4, .int 0), (2, .int (v2 + 1)), (0, .ref (z_ad X v0)), (1, .int v1), (3, .int v3), (5, .int v5)]) dX4_groups_65 (by decide) rfl ?_
  exact z_sub (lv' := [(0, .ref (z_ad X v0)), (1, .int v1), (2, .int (v2 + 1)), (3, .int v3), (4, .int 0), (5, .int v5)]) [2, 3, 1, 4, 0, 5] rfl (s_X4_groups_L67 X h19 H19 v0 v1 (v2 + 1) v3 0 v5 m)
set_option maxRecDepth 100000 in
set_option maxHeartbeats 4000000 in
theorem s_X4_groups_L19 (X : z_X) : ∀ (n : Nat) (v0 : Nat) (v1 : Int32) (v2 : Int32) (v3 : Int32) (v4 : Int32) (v5 : Int32) (m : z_M), z_Sim X yX4_groups cX4_groups 6 (some .int) 1 19 [(0, .ref (z_ad X v0)), (1, .int v1), (2, .int v2), (3, .int v3), (4, .int v4), (5, .int v5)] [] m (f_X4_groups_L19 n v0 v1 v2 v3 v4 v5 m) := by
  intro n
  induction n with
  | zero => intros; exact z_none
  | succ n ih =>
      intro v0 v1 v2 v3 v4 v5 m
      unfold f_X4_groups_L19
      refine z_iload dX4_groups_19 5 rfl ?_
      refine z_aload_n dX4_groups_21 rfl 0 rfl ?_
      refine z_getP z_X4 (j := 1) (by decide) rfl rfl wf_X4_19 dX4_groups_22 (fun a3 => ?_)
      refine z_getI z_X2 (j := 0) (by decide) rfl rfl wf_X4_88 dX4_groups_25 (fun x4 => ?_)
      refine z_icmp_ge (tg := 83) dX4_groups_28 (by decide) ?_ ?_
      · refine z_iload_n dX4_groups_83 rfl 1 rfl ?_
        refine z_if_ne (tg := 91) dX4_groups_84 (by decide) ?_ ?_
        · refine z_iload_n dX4_groups_91 rfl 3 rfl ?_
          exact z_iret dX4_groups_92
        · refine z_iload_n dX4_groups_87 rfl 2 rfl ?_
          refine z_goto (tg := 92) dX4_groups_88 (by decide) ?_
          exact z_iret dX4_groups_92
      · refine z_iload dX4_groups_31 5 rfl ?_
        refine z_if_eq (tg := 61) dX4_groups_33 (by decide) ?_ ?_
        · exact z_sub (lv' := [(0, .ref (z_ad X v0)), (1, .int v1), (2, .int v2), (3, .int v3), (5, .int v5)]) [0, 1, 2, 3, 5] rfl (s_X4_groups_L61 X (f_X4_groups_L19 n) ih v0 v1 v2 v3 v5 m)
        · refine z_aload_n dX4_groups_36 rfl 0 rfl ?_
          refine z_getP z_X4 (j := 3) (by decide) rfl rfl wf_X4_29 dX4_groups_37 (fun a5 => ?_)
          refine z_getP z_X3 (j := 0) (by decide) rfl rfl wf_X4_98 dX4_groups_40 (fun a6 => ?_)
          refine z_iload dX4_groups_43 5 rfl ?_
          refine z_iald dX4_groups_45 (fun x7 => ?_)
          refine z_aload_n dX4_groups_46 rfl 0 rfl ?_
          refine z_getP z_X4 (j := 3) (by decide) rfl rfl wf_X4_29 dX4_groups_47 (fun a8 => ?_)
          refine z_getP z_X3 (j := 0) (by decide) rfl rfl wf_X4_98 dX4_groups_50 (fun a9 => ?_)
          refine z_iload dX4_groups_53 5 rfl ?_
          refine z_iconst (v := 1) dX4_groups_55 k_c1 ?_
          refine z_isub dX4_groups_56 ?_
          refine z_iald dX4_groups_57 (fun x10 => ?_)
          refine z_icmp_eq (tg := 67) dX4_groups_58 (by decide) ?_ ?_
          · exact z_sub (lv' := [(0, .ref (z_ad X v0)), (1, .int v1), (2, .int v2), (3, .int v3), (4, .int v4), (5, .int v5)]) [0, 1, 2, 3, 4, 5] rfl (s_X4_groups_L67 X (f_X4_groups_L19 n) ih v0 v1 v2 v3 v4 v5 m)
          · exact z_sub (lv' := [(0, .ref (z_ad X v0)), (1, .int v1), (2, .int v2), (3, .int v3), (5, .int v5)]) [0, 1, 2, 3, 5] rfl (s_X4_groups_L61 X (f_X4_groups_L19 n) ih v0 v1 v2 v3 v5 m)
set_option maxRecDepth 100000 in
set_option maxHeartbeats 4000000 in
theorem s_X4_groups (X : z_X) (v0 : Nat) (v1 : Int32) (m : z_M) : z_Sim X yX4_groups cX4_groups 6 (some .int) 1 0 [(0, .ref (z_ad X v0)), (1, .int v1)] [] m (f_X4_groups v0 v1 m) := by
  unfold f_X4_groups
  refine z_iload_n dX4_groups_0 rfl 1 rfl ?_
  refine z_cSi (As := [.int v1]) (rest := []) (c_X4_isEither X v1 m) mw_X4_isEither iw_X4_isEither wm_X4_145 rfl rfl (by decide) (Nat.le_of_ble_eq_true rfl) dX4_groups_1 (fun x11 m12 => ?_)
  refine z_if_ne (tg := 9) dX4_groups_4 (by decide) ?_ ?_
  · refine z_iconst (v := 0) dX4_groups_9 k_c0 ?_
    refine z_istore_n (lv' := [(2, .int 0), (0, .ref (z_ad X v0)), (1, .int v1)]) dX4_groups_10 rfl (by decide) rfl ?_
    refine z_iconst (v := 0) dX4_groups_11 k_c0 ?_
    refine z_istore_n (lv' := [(3, .int 0), (2, .int 0), (0, .ref (z_ad X v0)), (1, .int v1)]) dX4_groups_12 rfl (by decide) rfl ?_
    refine z_iconst (v := 0) dX4_groups_13 k_c0 ?_
    refine z_istore (lv' := [(4, .int 0), (3, .int 0), (2, .int 0), (0, .ref (z_ad X v0)), (1, .int v1)]) dX4_groups_14 (by decide) rfl ?_
    refine z_iconst (v := 0) dX4_groups_16 k_c0 ?_
    refine z_istore (lv' := [(5, .int 0), (4, .int 0), (3, .int 0), (2, .int 0), (0, .ref (z_ad X v0)), (1, .int v1)]) dX4_groups_17 (by decide) rfl ?_
    exact z_sub (lv' := [(0, .ref (z_ad X v0)), (1, .int v1), (2, .int 0), (3, .int 0), (4, .int 0), (5, .int 0)]) [4, 5, 3, 2, 1, 0] rfl (s_X4_groups_L19 X 400 v0 v1 0 0 0 0 m12)
  · refine z_iconst (v := (-1)) dX4_groups_7 k_cm1 ?_
    exact z_iret dX4_groups_8
set_option maxRecDepth 100000 in
set_option maxHeartbeats 4000000 in
theorem c_X4_groups (X : z_X) (v0 : Nat) (v1 : Int32) (m : z_M) : z_Ct X yX4_groups cX4_groups 6 (some .int) 1 [.ref (z_ad X v0), .int v1] m (f_X4_groups v0 v1 m) := z_Ct.of (by decide) (Nat.le_of_ble_eq_true rfl) (s_X4_groups X v0 v1 m)
set_option maxRecDepth 100000 in
set_option maxHeartbeats 4000000 in
theorem s_X4_heeds (X : z_X) (v0 : Nat) (v1 : Int32) (v2 : Int32) (m : z_M) : z_Sim X yX4_heeds cX4_heeds 3 (some .boolean) 1 0 [(0, .ref (z_ad X v0)), (1, .int v1), (2, .int v2)] [] m (f_X4_heeds v0 v1 v2 m) := by
  unfold f_X4_heeds
  refine z_aload_n dX4_heeds_0 rfl 0 rfl ?_
  refine z_getP z_X4 (j := 3) (by decide) rfl rfl wf_X4_29 dX4_heeds_1 (fun a1 => ?_)
  refine z_getI z_X3 (j := 2) (by decide) rfl rfl wf_X4_148 dX4_heeds_4 (fun x2 => ?_)
  refine z_if_ne (tg := 37) dX4_heeds_7 (by decide) ?_ ?_
  · refine z_iconst (v := 0) dX4_heeds_37 k_c0 ?_
    exact z_zret0 dX4_heeds_38
  · refine z_aload_n dX4_heeds_10 rfl 0 rfl ?_
    refine z_iload_n dX4_heeds_11 rfl 1 rfl ?_
    refine z_bipush (v := (-4)) dX4_heeds_12 k_bim4 ?_
    refine z_cVi (As := [.int v1, .int (-4)]) (rest := []) (c_X4_chainEnd X v0 v1 (-4) m) mw_X4_chainEnd iw_X4_chainEnd z_X4 wm_X4_161 rfl rfl (by decide) (Nat.le_of_ble_eq_true rfl) dX4_heeds_14 (fun x3 m4 => ?_)
    refine z_bipush (v := (-4)) dX4_heeds_17 k_bim4 ?_
    refine z_icmp_eq (tg := 37) dX4_heeds_19 (by decide) ?_ ?_
    · refine z_iconst (v := 0) dX4_heeds_37 k_c0 ?_
      exact z_zret0 dX4_heeds_38
    · refine z_aload_n dX4_heeds_22 rfl 0 rfl ?_
      refine z_iload_n dX4_heeds_23 rfl 1 rfl ?_
      refine z_iload_n dX4_heeds_24 rfl 2 rfl ?_
      refine z_cVi (As := [.int v1, .int v2]) (rest := []) (c_X4_chainEnd X v0 v1 v2 m4) mw_X4_chainEnd iw_X4_chainEnd z_X4 wm_X4_161 rfl rfl (by decide) (Nat.le_of_ble_eq_true rfl) dX4_heeds_25 (fun x5 m6 => ?_)
      refine z_bipush (v := (-4)) dX4_heeds_28 k_bim4 ?_
      refine z_icmp_ne (tg := 37) dX4_heeds_30 (by decide) ?_ ?_
      · refine z_iconst (v := 0) dX4_heeds_37 k_c0 ?_
        exact z_zret0 dX4_heeds_38
      · refine z_iconst (v := 1) dX4_heeds_33 k_c1 ?_
        refine z_goto (tg := 38) dX4_heeds_34 (by decide) ?_
        exact z_zret1 dX4_heeds_38
set_option maxRecDepth 100000 in
set_option maxHeartbeats 4000000 in
theorem c_X4_heeds (X : z_X) (v0 : Nat) (v1 : Int32) (v2 : Int32) (m : z_M) : z_Ct X yX4_heeds cX4_heeds 3 (some .boolean) 1 [.ref (z_ad X v0), .int v1, .int v2] m (f_X4_heeds v0 v1 v2 m) := z_Ct.of (by decide) (Nat.le_of_ble_eq_true rfl) (s_X4_heeds X v0 v1 v2 m)
set_option maxRecDepth 100000 in
set_option maxHeartbeats 4000000 in
theorem s_X4_layScript (X : z_X) (v0 : Nat) (m : z_M) : z_Sim X yX4_layScript cX4_layScript 2 (some .boolean) 4 0 [(0, .ref (z_ad X v0))] [] m (f_X4_layScript v0 m) := by
  unfold f_X4_layScript
  refine z_aload_n dX4_layScript_0 rfl 0 rfl ?_
  refine z_getP z_X4 (j := 0) (by decide) rfl rfl wf_X4_10 dX4_layScript_1 (fun a1 => ?_)
  refine z_aload_n dX4_layScript_4 rfl 0 rfl ?_
  refine z_getP z_X4 (j := 2) (by decide) rfl rfl wf_X4_23 dX4_layScript_5 (fun a2 => ?_)
  refine z_cVi (As := [.ref (z_ad X a2)]) (rest := []) (c_X1_readInto X a1 a2 m) mw_X1_readInto iw_X1_readInto z_X1 wm_X4_84 rfl rfl (by decide) (Nat.le_of_ble_eq_true rfl) dX4_layScript_8 (fun x3 m4 => ?_)
  refine z_bipush (v := (-4)) dX4_layScript_11 k_bim4 ?_
  refine z_icmp_ne (tg := 26) dX4_layScript_13 (by decide) ?_ ?_
  · refine z_iconst (v := 0) dX4_layScript_26 k_c0 ?_
    exact z_zret0 dX4_layScript_27
  · refine z_aload_n dX4_layScript_16 rfl 0 rfl ?_
    refine z_getP z_X4 (j := 2) (by decide) rfl rfl wf_X4_23 dX4_layScript_17 (fun a5 => ?_)
    refine z_cVi (As := []) (rest := []) (c_X2_canBeLaid X a5 m4) mw_X2_canBeLaid iw_X2_canBeLaid z_X2 wm_X4_224 rfl rfl (by decide) (Nat.le_of_ble_eq_true rfl) dX4_layScript_20 (fun x6 m7 => ?_)
    refine z_if_ne (tg := 28) dX4_layScript_23 (by decide) ?_ ?_
    · refine z_aload_n dX4_layScript_28 rfl 0 rfl ?_
      refine z_getP z_X4 (j := 1) (by decide) rfl rfl wf_X4_19 dX4_layScript_29 (fun a8 => ?_)
      refine z_astore_n (lv' := [(1, .ref (z_ad X a8)), (0, .ref (z_ad X v0))]) dX4_layScript_32 rfl (by decide) rfl ?_
      refine z_aload_n dX4_layScript_33 rfl 1 rfl ?_
      refine z_aload_n dX4_layScript_34 rfl 1 rfl ?_
      refine z_getP z_X4 (j := 2) (by decide) rfl rfl wf_X4_23 dX4_layScript_35 (fun a9 => ?_)
      refine z_setP (t0 := (.object "HayFootStraw$Squad")) z_X4 (by decide) rfl rfl wf_X4_19 (by decide +kernel) (fun _ => rfl) (fun _ => rfl) dX4_layScript_38 ?_
      generalize z_wP m7 v0 1 a9 = m10
      refine z_aload_n dX4_layScript_41 rfl 1 rfl ?_
      refine z_aload_n dX4_layScript_42 rfl 0 rfl ?_
      refine z_setP (t0 := (.object "HayFootStraw$Squad")) z_X4 (by decide) rfl rfl wf_X4_23 (by decide +kernel) (fun _ => rfl) (fun _ => rfl) dX4_layScript_43 ?_
      generalize z_wP m10 v0 2 a8 = m11
      refine z_aload_n dX4_layScript_46 rfl 1 rfl ?_
      refine z_getP z_X4 (j := 3) (by decide) rfl rfl wf_X4_29 dX4_layScript_47 (fun a12 => ?_)
      refine z_aload_n dX4_layScript_50 rfl 1 rfl ?_
      refine z_getP z_X4 (j := 1) (by decide) rfl rfl wf_X4_19 dX4_layScript_51 (fun a13 => ?_)
      refine z_cVv (As := [.ref (z_ad X a13)]) (rest := []) (c_X3_begin X a12 a13 m11) mw_X3_begin iw_X3_begin z_X3 wm_X4_227 rfl rfl (by decide) (Nat.le_of_ble_eq_true rfl) dX4_layScript_54 (fun _ m14 => ?_)
      refine z_aload_n dX4_layScript_57 rfl 1 rfl ?_
      refine z_getP z_X4 (j := 5) (by decide) rfl rfl wf_X4_41 dX4_layScript_58 (fun a15 => ?_)
      refine z_iconst (v := 0) dX4_layScript_61 k_c0 ?_
      refine z_setI z_X0 (by decide) rfl rfl wf_X4_155 dX4_layScript_62 ?_
      generalize z_wI m14 a15 1 0 = m16
      refine z_aload_n dX4_layScript_65 rfl 1 rfl ?_
      refine z_getP z_X4 (j := 6) (by decide) rfl rfl wf_X4_45 dX4_layScript_66 (fun a17 => ?_)
      refine z_iconst (v := 0) dX4_layScript_69 k_c0 ?_
      refine z_setI z_X0 (by decide) rfl rfl wf_X4_155 dX4_layScript_70 ?_
      generalize z_wI m16 a17 1 0 = m18
      refine z_iconst (v := 1) dX4_layScript_73 k_c1 ?_
      exact z_zret1 dX4_layScript_74
    · refine z_iconst (v := 0) dX4_layScript_26 k_c0 ?_
      exact z_zret0 dX4_layScript_27
set_option maxRecDepth 100000 in
set_option maxHeartbeats 4000000 in
theorem c_X4_layScript (X : z_X) (v0 : Nat) (m : z_M) : z_Ct X yX4_layScript cX4_layScript 2 (some .boolean) 4 [.ref (z_ad X v0)] m (f_X4_layScript v0 m) := z_Ct.of (by decide) (Nat.le_of_ble_eq_true rfl) (s_X4_layScript X v0 m)
set_option maxRecDepth 100000 in
set_option maxHeartbeats 4000000 in
theorem s_X4_keep (X : z_X) (v0 : Nat) (m : z_M) : z_Sim X yX4_keep cX4_keep 1 (some .int) 3 0 [(0, .ref (z_ad X v0))] [] m (f_X4_keep v0 m) := by
  unfold f_X4_keep
  refine z_aload_n dX4_keep_0 rfl 0 rfl ?_
  refine z_getP z_X4 (j := 6) (by decide) rfl rfl wf_X4_45 dX4_keep_1 (fun a1 => ?_)
  refine z_getI z_X0 (j := 1) (by decide) rfl rfl wf_X4_155 dX4_keep_4 (fun x2 => ?_)
  refine z_iconst (v := 2) dX4_keep_7 k_c2 ?_
  refine z_icmp_lt (tg := 14) dX4_keep_8 (by decide) ?_ ?_
  · refine z_aload_n dX4_keep_14 rfl 0 rfl ?_
    refine z_getP z_X4 (j := 6) (by decide) rfl rfl wf_X4_45 dX4_keep_15 (fun a3 => ?_)
    refine z_aload_n dX4_keep_18 rfl 0 rfl ?_
    refine z_getP z_X4 (j := 3) (by decide) rfl rfl wf_X4_29 dX4_keep_19 (fun a4 => ?_)
    refine z_cVv (As := [.ref (z_ad X a4)]) (rest := []) (c_X0_put X a3 a4 m) mw_X0_put iw_X0_put z_X0 wm_X4_117 rfl rfl (by decide) (Nat.le_of_ble_eq_true rfl) dX4_keep_22 (fun _ m5 => ?_)
    refine z_aload_n dX4_keep_25 rfl 0 rfl ?_
    refine z_getP z_X4 (j := 6) (by decide) rfl rfl wf_X4_45 dX4_keep_26 (fun a6 => ?_)
    refine z_getI z_X0 (j := 1) (by decide) rfl rfl wf_X4_155 dX4_keep_29 (fun x7 => ?_)
    exact z_iret dX4_keep_32
  · refine z_bipush (v := (-3)) dX4_keep_11 k_bim3 ?_
    exact z_iret dX4_keep_13
set_option maxRecDepth 100000 in
set_option maxHeartbeats 4000000 in
theorem c_X4_keep (X : z_X) (v0 : Nat) (m : z_M) : z_Ct X yX4_keep cX4_keep 1 (some .int) 3 [.ref (z_ad X v0)] m (f_X4_keep v0 m) := z_Ct.of (by decide) (Nat.le_of_ble_eq_true rfl) (s_X4_keep X v0 m)
set_option maxRecDepth 100000 in
set_option maxHeartbeats 4000000 in
theorem s_X4_lay (X : z_X) (v0 : Nat) (m : z_M) : z_Sim X yX4_lay cX4_lay 1 (some .int) 5 0 [(0, .ref (z_ad X v0))] [] m (f_X4_lay v0 m) := by
  unfold f_X4_lay
  refine z_aload_n dX4_lay_0 rfl 0 rfl ?_
  refine z_cVi (As := []) (rest := []) (c_X4_layScript X v0 m) mw_X4_layScript iw_X4_layScript z_X4 wm_X4_74 rfl rfl (by decide) (Nat.le_of_ble_eq_true rfl) dX4_lay_1 (fun x1 m2 => ?_)
  refine z_if_eq (tg := 17) dX4_lay_4 (by decide) ?_ ?_
  · refine z_bipush (v := (-2)) dX4_lay_17 k_bim2 ?_
    exact z_iret dX4_lay_19
  · refine z_aload_n dX4_lay_7 rfl 0 rfl ?_
    refine z_getP z_X4 (j := 1) (by decide) rfl rfl wf_X4_19 dX4_lay_8 (fun a3 => ?_)
    refine z_getI z_X2 (j := 0) (by decide) rfl rfl wf_X4_88 dX4_lay_11 (fun x4 => ?_)
    refine z_goto (tg := 19) dX4_lay_14 (by decide) ?_
    exact z_iret dX4_lay_19
set_option maxRecDepth 100000 in
set_option maxHeartbeats 4000000 in
theorem c_X4_lay (X : z_X) (v0 : Nat) (m : z_M) : z_Ct X yX4_lay cX4_lay 1 (some .int) 5 [.ref (z_ad X v0)] m (f_X4_lay v0 m) := z_Ct.of (by decide) (Nat.le_of_ble_eq_true rfl) (s_X4_lay X v0 m)
set_option maxRecDepth 100000 in
set_option maxHeartbeats 4000000 in
theorem s_X4_look (X : z_X) (v0 : Nat) (v1 : Int32) (v2 : Int32) (m : z_M) : z_Sim X yX4_look cX4_look 4 (some .int) 3 0 [(0, .ref (z_ad X v0)), (1, .int v1), (2, .int v2)] [] m (f_X4_look v0 v1 v2 m) := by
  unfold f_X4_look
  refine z_aload_n dX4_look_0 rfl 0 rfl ?_
  refine z_iload_n dX4_look_1 rfl 1 rfl ?_
  refine z_cVi (As := [.int v1]) (rest := []) (c_X4_isMan X v0 v1 m) mw_X4_isMan iw_X4_isMan z_X4 wm_X4_91 rfl rfl (by decide) (Nat.le_of_ble_eq_true rfl) dX4_look_2 (fun x1 m2 => ?_)
  refine z_if_eq (tg := 16) dX4_look_5 (by decide) ?_ ?_
  · refine z_iconst (v := (-1)) dX4_look_16 k_cm1 ?_
    exact z_iret dX4_look_17
  · refine z_aload_n dX4_look_8 rfl 0 rfl ?_
    refine z_iload_n dX4_look_9 rfl 2 rfl ?_
    refine z_cVi (As := [.int v2]) (rest := []) (c_X4_isMan X v0 v2 m2) mw_X4_isMan iw_X4_isMan z_X4 wm_X4_91 rfl rfl (by decide) (Nat.le_of_ble_eq_true rfl) dX4_look_10 (fun x3 m4 => ?_)
    refine z_if_ne (tg := 18) dX4_look_13 (by decide) ?_ ?_
    · refine z_aload_n dX4_look_18 rfl 0 rfl ?_
      refine z_getP z_X4 (j := 5) (by decide) rfl rfl wf_X4_41 dX4_look_19 (fun a5 => ?_)
      refine z_aload_n dX4_look_22 rfl 0 rfl ?_
      refine z_getP z_X4 (j := 3) (by decide) rfl rfl wf_X4_29 dX4_look_23 (fun a6 => ?_)
      refine z_cVv (As := [.ref (z_ad X a6)]) (rest := []) (c_X0_put X a5 a6 m4) mw_X0_put iw_X0_put z_X0 wm_X4_117 rfl rfl (by decide) (Nat.le_of_ble_eq_true rfl) dX4_look_26 (fun _ m7 => ?_)
      refine z_aload_n dX4_look_29 rfl 0 rfl ?_
      refine z_getP z_X4 (j := 3) (by decide) rfl rfl wf_X4_29 dX4_look_30 (fun a8 => ?_)
      refine z_getP z_X3 (j := 1) (by decide) rfl rfl wf_X4_101 dX4_look_33 (fun a9 => ?_)
      refine z_iload_n dX4_look_36 rfl 1 rfl ?_
      refine z_iald dX4_look_37 (fun x10 => ?_)
      refine z_istore_n (lv' := [(3, .int x10), (0, .ref (z_ad X v0)), (1, .int v1), (2, .int v2)]) dX4_look_38 rfl (by decide) rfl ?_
      refine z_aload_n dX4_look_39 rfl 1 rfl ?_
      refine z_getP z_X4 (j := 3) (by decide) rfl rfl wf_X4_29 dX4_look_40 (fun a11 => ?_)
      refine z_getP z_X3 (j := 1) (by decide) rfl rfl wf_X4_101 dX4_look_43 (fun a12 => ?_)
      refine z_iload_n dX4_look_46 rfl 2 rfl ?_
      refine z_iload_n dX4_look_47 rfl 3 rfl ?_
      refine z_iast dX4_look_48 ?_
      generalize z_wI m7 a12 (Int32.toNatClampNeg v1) v2 = m13
      refine z_iload_n dX4_look_49 rfl 0 rfl ?_
      exact z_iret dX4_look_50
    · refine z_iconst (v := (-1)) dX4_look_16 k_cm1 ?_
      exact z_iret dX4_look_17
set_option maxRecDepth 100000 in
set_option maxHeartbeats 4000000 in
theorem c_X4_look (X : z_X) (v0 : Nat) (v1 : Int32) (v2 : Int32) (m : z_M) : z_Ct X yX4_look cX4_look 4 (some .int) 3 [.ref (z_ad X v0), .int v1, .int v2] m (f_X4_look v0 v1 v2 m) := z_Ct.of (by decide) (Nat.le_of_ble_eq_true rfl) (s_X4_look X v0 v1 v2 m)
set_option maxRecDepth 100000 in
set_option maxHeartbeats 4000000 in
theorem s_X4_man (X : z_X) (v0 : Nat) (v1 : Int32) (v2 : Int32) (m : z_M) : z_Sim X yX4_man cX4_man 3 (some .int) 1 0 [(0, .ref (z_ad X v0)), (1, .int v1), (2, .int v2)] [] m (f_X4_man v0 v1 v2 m) := by
  unfold f_X4_man
  refine z_aload_n dX4_man_0 rfl 0 rfl ?_
  refine z_iload_n dX4_man_1 rfl 1 rfl ?_
  refine z_cVi (As := [.int v1]) (rest := []) (c_X4_isMan X v0 v1 m) mw_X4_isMan iw_X4_isMan z_X4 wm_X4_91 rfl rfl (by decide) (Nat.le_of_ble_eq_true rfl) dX4_man_2 (fun x1 m2 => ?_)
  refine z_if_ne (tg := 10) dX4_man_5 (by decide) ?_ ?_
  · refine z_iload_n dX4_man_10 rfl 2 rfl ?_
    refine z_if (fun h0 => ?_) (fun h0 => ?_)
    · refine z_swIn (tg := 44) dX4_man_11 (by rw [h0]; decide) (by rw [h0]; decide) (by rw [h0]; rfl) (by decide) ?_
      refine z_aload_n dX4_man_44 rfl 0 rfl ?_
      refine z_getP z_X4 (j := 1) (by decide) rfl rfl wf_X4_19 dX4_man_45 (fun a3 => ?_)
      refine z_getP z_X2 (j := 3) (by decide) rfl rfl wf_X4_95 dX4_man_48 (fun a4 => ?_)
      refine z_iload_n dX4_man_51 rfl 1 rfl ?_
      refine z_iald dX4_man_52 (fun x5 => ?_)
      exact z_iret dX4_man_53
    refine z_if (fun h1 => ?_) (fun h1 => ?_)
    · refine z_swIn (tg := 54) dX4_man_11 (by rw [h1]; decide) (by rw [h1]; decide) (by rw [h1]; rfl) (by decide) ?_
      refine z_aload_n dX4_man_54 rfl 0 rfl ?_
      refine z_getP z_X4 (j := 3) (by decide) rfl rfl wf_X4_29 dX4_man_55 (fun a6 => ?_)
      refine z_getP z_X3 (j := 0) (by decide) rfl rfl wf_X4_98 dX4_man_58 (fun a7 => ?_)
      refine z_iload_n dX4_man_61 rfl 1 rfl ?_
      refine z_iald dX4_man_62 (fun x8 => ?_)
      exact z_iret dX4_man_63
    refine z_if (fun h2 => ?_) (fun h2 => ?_)
    · refine z_swIn (tg := 64) dX4_man_11 (by rw [h2]; decide) (by rw [h2]; decide) (by rw [h2]; rfl) (by decide) ?_
      refine z_aload_n dX4_man_64 rfl 0 rfl ?_
      refine z_getP z_X4 (j := 3) (by decide) rfl rfl wf_X4_29 dX4_man_65 (fun a9 => ?_)
      refine z_getP z_X3 (j := 1) (by decide) rfl rfl wf_X4_101 dX4_man_68 (fun a10 => ?_)
      refine z_iload_n dX4_man_71 rfl 1 rfl ?_
      refine z_iald dX4_man_72 (fun x11 => ?_)
      exact z_iret dX4_man_73
    refine z_if (fun h3 => ?_) (fun h3 => ?_)
    · refine z_swIn (tg := 74) dX4_man_11 (by rw [h3]; decide) (by rw [h3]; decide) (by rw [h3]; rfl) (by decide) ?_
      refine z_aload_n dX4_man_74 rfl 0 rfl ?_
      refine z_getP z_X4 (j := 1) (by decide) rfl rfl wf_X4_19 dX4_man_75 (fun a12 => ?_)
      refine z_getP z_X2 (j := 6) (by decide) rfl rfl wf_X4_104 dX4_man_78 (fun a13 => ?_)
      refine z_iload_n dX4_man_81 rfl 1 rfl ?_
      refine z_iald dX4_man_82 (fun x14 => ?_)
      exact z_iret dX4_man_83
    refine z_if (fun h4 => ?_) (fun h4 => ?_)
    · refine z_swIn (tg := 84) dX4_man_11 (by rw [h4]; decide) (by rw [h4]; decide) (by rw [h4]; rfl) (by decide) ?_
      refine z_aload_n dX4_man_84 rfl 0 rfl ?_
      refine z_aload_n dX4_man_85 rfl 0 rfl ?_
      refine z_getP z_X4 (j := 3) (by decide) rfl rfl wf_X4_29 dX4_man_86 (fun a15 => ?_)
      refine z_iload_n dX4_man_89 rfl 1 rfl ?_
      refine z_cVi (As := [.ref (z_ad X a15), .int v1]) (rest := []) (c_X4_dueFacing X v0 a15 v1 m2) mw_X4_dueFacing iw_X4_dueFacing z_X4 wm_X4_107 rfl rfl (by decide) (Nat.le_of_ble_eq_true rfl) dX4_man_90 (fun x16 m17 => ?_)
      exact z_iret dX4_man_93
    refine z_swOut (tg := 94) dX4_man_11 (z_sw4 h0 h1 h2 h3 h4) (by decide) ?_
    refine z_iconst (v := (-1)) dX4_man_94 k_cm1 ?_
    exact z_iret dX4_man_95
  · refine z_iconst (v := (-1)) dX4_man_8 k_cm1 ?_
    exact z_iret dX4_man_9
set_option maxRecDepth 100000 in
set_option maxHeartbeats 4000000 in
theorem c_X4_man (X : z_X) (v0 : Nat) (v1 : Int32) (v2 : Int32) (m : z_M) : z_Ct X yX4_man cX4_man 3 (some .int) 1 [.ref (z_ad X v0), .int v1, .int v2] m (f_X4_man v0 v1 v2 m) := z_Ct.of (by decide) (Nat.le_of_ble_eq_true rfl) (s_X4_man X v0 v1 v2 m)
set_option maxRecDepth 100000 in
set_option maxHeartbeats 4000000 in
theorem s_X4_menFacing_L31 (X : z_X) (h4 : Nat → Int32 → Int32 → Int32 → z_M → z_R) (H4 : ∀ (w0 : Nat) (w1 : Int32) (w2 : Int32) (w3 : Int32) (w : z_M), z_Sim X yX4_menFacing cX4_menFacing 4 (some .int) 0 4 [(0, .ref (z_ad X w0)), (1, .int w1), (2, .int w2), (3, .int w3)] [] w (h4 w0 w1 w2 w3 w)) (v0 : Nat) (v1 : Int32) (v2 : Int32) (v3 : Int32) (m : z_M) : z_Sim X yX4_menFacing cX4_menFacing 4 (some .int) 0 31 [(0, .ref (z_ad X v0)), (1, .int v1), (2, .int v2), (3, .int v3)] [] m (f_X4_menFacing_L31 h4 v0 v1 v2 v3 m) := by
  unfold f_X4_menFacing_L31
  refine z_iinc (k := 3) (lv' := [(3, .int (v3 + 1)), (0, .ref (z_ad X v0)), (1, .int v1), (2, .int v2)]) dX4_menFacing_31 rfl (k_i1 _) (by decide) rfl ?_
  refine z_goto (tg := 4) dX4_menFacing_34 (by decide) ?_
  exact z_sub (lv' := [(0, .ref (z_ad X v0)), (1, .int v1), (2, .int v2), (3, .int (v3 + 1))]) [1, 2, 3, 0] rfl (H4 v0 v1 v2 (v3 + 1) m)
set_option maxRecDepth 100000 in
set_option maxHeartbeats 4000000 in
theorem s_X4_menFacing_L4 (X : z_X) : ∀ (n : Nat) (v0 : Nat) (v1 : Int32) (v2 : Int32) (v3 : Int32) (m : z_M), z_Sim X yX4_menFacing cX4_menFacing 4 (some .int) 0 4 [(0, .ref (z_ad X v0)), (1, .int v1), (2, .int v2), (3, .int v3)] [] m (f_X4_menFacing_L4 n v0 v1 v2 v3 m) := by
  intro n
  induction n with
  | zero => intros; exact z_none
  | succ n ih =>
      intro v0 v1 v2 v3 m
      unfold f_X4_menFacing_L4
      refine z_iload_n dX4_menFacing_4 rfl 3 rfl ?_
      refine z_aload_n dX4_menFacing_5 rfl 0 rfl ?_
      refine z_getP z_X4 (j := 1) (by decide) rfl rfl wf_X4_19 dX4_menFacing_6 (fun a1 => ?_)
      refine z_getI z_X2 (j := 0) (by decide) rfl rfl wf_X4_88 dX4_menFacing_9 (fun x2 => ?_)
      refine z_icmp_ge (tg := 37) dX4_menFacing_12 (by decide) ?_ ?_
      · refine z_iload_n dX4_menFacing_37 rfl 2 rfl ?_
        exact z_iret dX4_menFacing_38
      · refine z_aload_n dX4_menFacing_15 rfl 0 rfl ?_
        refine z_getP z_X4 (j := 3) (by decide) rfl rfl wf_X4_29 dX4_menFacing_16 (fun a3 => ?_)
        refine z_getP z_X3 (j := 0) (by decide) rfl rfl wf_X4_98 dX4_menFacing_19 (fun a4 => ?_)
        refine z_iload_n dX4_menFacing_22 rfl 3 rfl ?_
        refine z_iald dX4_menFacing_23 (fun x5 => ?_)
        refine z_iload_n dX4_menFacing_24 rfl 1 rfl ?_
        refine z_icmp_ne (tg := 31) dX4_menFacing_25 (by decide) ?_ ?_
        · exact z_sub (lv' := [(0, .ref (z_ad X v0)), (1, .int v1), (2, .int v2), (3, .int v3)]) [0, 1, 2, 3] rfl (s_X4_menFacing_L31 X (f_X4_menFacing_L4 n) ih v0 v1 v2 v3 m)
        · refine z_iinc (k := 2) (lv' := [(2, .int (v2 + 1)), (0, .ref (z_ad X v0)), (1, .int v1), (3, .int v3)]) dX4_menFacing_28 rfl (k_i1 _) (by decide) rfl ?_
          exact z_sub (lv' := [(0, .ref (z_ad X v0)), (1, .int v1), (2, .int (v2 + 1)), (3, .int v3)]) [1, 2, 0, 3] rfl (s_X4_menFacing_L31 X (f_X4_menFacing_L4 n) ih v0 v1 (v2 + 1) v3 m)
set_option maxRecDepth 100000 in
set_option maxHeartbeats 4000000 in
theorem s_X4_menFacing (X : z_X) (v0 : Nat) (v1 : Int32) (m : z_M) : z_Sim X yX4_menFacing cX4_menFacing 4 (some .int) 0 0 [(0, .ref (z_ad X v0)), (1, .int v1)] [] m (f_X4_menFacing v0 v1 m) := by
  unfold f_X4_menFacing
  refine z_iconst (v := 0) dX4_menFacing_0 k_c0 ?_
  refine z_istore_n (lv' := [(2, .int 0), (0, .ref (z_ad X v0)), (1, .int v1)]) dX4_menFacing_1 rfl (by decide) rfl ?_
  refine z_iconst (v := 0) dX4_menFacing_2 k_c0 ?_
  refine z_istore_n (lv' := [(3, .int 0), (2, .int 0), (0, .ref (z_ad X v0)), (1, .int v1)]) dX4_menFacing_3 rfl (by decide) rfl ?_
  exact z_sub (lv' := [(0, .ref (z_ad X v0)), (1, .int v1), (2, .int 0), (3, .int 0)]) [2, 3, 1, 0] rfl (s_X4_menFacing_L4 X 400 v0 v1 0 0 m)
set_option maxRecDepth 100000 in
set_option maxHeartbeats 4000000 in
theorem c_X4_menFacing (X : z_X) (v0 : Nat) (v1 : Int32) (m : z_M) : z_Ct X yX4_menFacing cX4_menFacing 4 (some .int) 0 [.ref (z_ad X v0), .int v1] m (f_X4_menFacing v0 v1 m) := z_Ct.of (by decide) (Nat.le_of_ble_eq_true rfl) (s_X4_menFacing X v0 v1 m)
set_option maxRecDepth 100000 in
set_option maxHeartbeats 4000000 in
theorem s_X4_most_L33 (X : z_X) (h13 : Nat → Int32 → Int32 → Int32 → z_M → z_R) (H13 : ∀ (w0 : Nat) (w1 : Int32) (w2 : Int32) (w3 : Int32) (w : z_M), z_Sim X yX4_most cX4_most 4 (some .int) 1 13 [(0, .ref (z_ad X w0)), (1, .int w1), (2, .int w2), (3, .int w3)] [] w (h13 w0 w1 w2 w3 w)) (v0 : Nat) (v1 : Int32) (v2 : Int32) (v3 : Int32) (m : z_M) : z_Sim X yX4_most cX4_most 4 (some .int) 1 33 [(0, .ref (z_ad X v0)), (1, .int v1), (2, .int v2), (3, .int v3)] [] m (f_X4_most_L33 h13 v0 v1 v2 v3 m) := by
  unfold f_X4_most_L33
  refine z_iinc (k := 3) (lv' := [(3, .int (v3 + 1)), (0, .ref (z_ad X v0)), (1, .int v1), (2, .int v2)]) dX4_most_33 rfl (k_i1 _) (by decide) rfl ?_
  refine z_goto (tg := 13) dX4_most_36 (by decide) ?_
  exact z_sub (lv' := [(0, .ref (z_ad X v0)), (1, .int v1), (2, .int v2), (3, .int (v3 + 1))]) [1, 2, 3, 0] rfl (H13 v0 v1 v2 (v3 + 1) m)
set_option maxRecDepth 100000 in
set_option maxHeartbeats 4000000 in
theorem s_X4_most_L13 (X : z_X) : ∀ (n : Nat) (v0 : Nat) (v1 : Int32) (v2 : Int32) (v3 : Int32) (m : z_M), z_Sim X yX4_most cX4_most 4 (some .int) 1 13 [(0, .ref (z_ad X v0)), (1, .int v1), (2, .int v2), (3, .int v3)] [] m (f_X4_most_L13 n v0 v1 v2 v3 m) := by
  intro n
  induction n with
  | zero => intros; exact z_none
  | succ n ih =>
      intro v0 v1 v2 v3 m
      unfold f_X4_most_L13
      refine z_iload_n dX4_most_13 rfl 3 rfl ?_
      refine z_iconst (v := 4) dX4_most_14 k_c4 ?_
      refine z_icmp_ge (tg := 39) dX4_most_15 (by decide) ?_ ?_
      · refine z_iload_n dX4_most_39 rfl 1 rfl ?_
        refine z_if_ne (tg := 47) dX4_most_40 (by decide) ?_ ?_
        · refine z_aload_n dX4_most_47 rfl 0 rfl ?_
          refine z_iload_n dX4_most_48 rfl 2 rfl ?_
          refine z_cVi (As := [.int v2]) (rest := []) (c_X4_menFacing X v0 v2 m) mw_X4_menFacing iw_X4_menFacing z_X4 wm_X4_165 rfl rfl (by decide) (Nat.le_of_ble_eq_true rfl) dX4_most_49 (fun x1 m2 => ?_)
          exact z_iret dX4_most_52
        · refine z_iload_n dX4_most_43 rfl 2 rfl ?_
          refine z_goto (tg := 52) dX4_most_44 (by decide) ?_
          exact z_iret dX4_most_52
      · refine z_aload_n dX4_most_18 rfl 0 rfl ?_
        refine z_iload_n dX4_most_19 rfl 3 rfl ?_
        refine z_cVi (As := [.int v3]) (rest := []) (c_X4_menFacing X v0 v3 m) mw_X4_menFacing iw_X4_menFacing z_X4 wm_X4_165 rfl rfl (by decide) (Nat.le_of_ble_eq_true rfl) dX4_most_20 (fun x3 m4 => ?_)
        refine z_aload_n dX4_most_23 rfl 0 rfl ?_
        refine z_iload_n dX4_most_24 rfl 2 rfl ?_
        refine z_cVi (As := [.int v2]) (rest := [.int x3]) (c_X4_menFacing X v0 v2 m4) mw_X4_menFacing iw_X4_menFacing z_X4 wm_X4_165 rfl rfl (by decide) (Nat.le_of_ble_eq_true rfl) dX4_most_25 (fun x5 m6 => ?_)
        refine z_icmp_le (tg := 33) dX4_most_28 (by decide) ?_ ?_
        · exact z_sub (lv' := [(0, .ref (z_ad X v0)), (1, .int v1), (2, .int v2), (3, .int v3)]) [0, 1, 2, 3] rfl (s_X4_most_L33 X (f_X4_most_L13 n) ih v0 v1 v2 v3 m6)
        · refine z_iload_n dX4_most_31 rfl 3 rfl ?_
          refine z_istore_n (lv' := [(2, .int v3), (0, .ref (z_ad X v0)), (1, .int v1), (3, .int v3)]) dX4_most_32 rfl (by decide) rfl ?_
          exact z_sub (lv' := [(0, .ref (z_ad X v0)), (1, .int v1), (2, .int v3), (3, .int v3)]) [1, 2, 0, 3] rfl (s_X4_most_L33 X (f_X4_most_L13 n) ih v0 v1 v3 v3 m6)
set_option maxRecDepth 100000 in
set_option maxHeartbeats 4000000 in
theorem s_X4_most (X : z_X) (v0 : Nat) (v1 : Int32) (m : z_M) : z_Sim X yX4_most cX4_most 4 (some .int) 1 0 [(0, .ref (z_ad X v0)), (1, .int v1)] [] m (f_X4_most v0 v1 m) := by
  unfold f_X4_most
  refine z_iload_n dX4_most_0 rfl 1 rfl ?_
  refine z_cSi (As := [.int v1]) (rest := []) (c_X4_isEither X v1 m) mw_X4_isEither iw_X4_isEither wm_X4_145 rfl rfl (by decide) (Nat.le_of_ble_eq_true rfl) dX4_most_1 (fun x7 m8 => ?_)
  refine z_if_ne (tg := 9) dX4_most_4 (by decide) ?_ ?_
  · refine z_iconst (v := 0) dX4_most_9 k_c0 ?_
    refine z_istore_n (lv' := [(2, .int 0), (0, .ref (z_ad X v0)), (1, .int v1)]) dX4_most_10 rfl (by decide) rfl ?_
    refine z_iconst (v := 1) dX4_most_11 k_c1 ?_
    refine z_istore_n (lv' := [(3, .int 1), (2, .int 0), (0, .ref (z_ad X v0)), (1, .int v1)]) dX4_most_12 rfl (by decide) rfl ?_
    exact z_sub (lv' := [(0, .ref (z_ad X v0)), (1, .int v1), (2, .int 0), (3, .int 1)]) [2, 3, 1, 0] rfl (s_X4_most_L13 X 400 v0 v1 0 1 m8)
  · refine z_iconst (v := (-1)) dX4_most_7 k_cm1 ?_
    exact z_iret dX4_most_8
set_option maxRecDepth 100000 in
set_option maxHeartbeats 4000000 in
theorem c_X4_most (X : z_X) (v0 : Nat) (v1 : Int32) (m : z_M) : z_Ct X yX4_most cX4_most 4 (some .int) 1 [.ref (z_ad X v0), .int v1] m (f_X4_most v0 v1 m) := z_Ct.of (by decide) (Nat.le_of_ble_eq_true rfl) (s_X4_most X v0 v1 m)
set_option maxRecDepth 100000 in
set_option maxHeartbeats 4000000 in
theorem s_X4_numbers_L41 (X : z_X) (h20 : Nat → Int32 → Int32 → Int32 → z_M → z_R) (H20 : ∀ (w0 : Nat) (w1 : Int32) (w2 : Int32) (w3 : Int32) (w : z_M), z_Sim X yX4_numbers cX4_numbers 4 (some .int) 3 20 [(0, .ref (z_ad X w0)), (1, .int w1), (2, .int w2), (3, .int w3)] [] w (h20 w0 w1 w2 w3 w)) (v0 : Nat) (v1 : Int32) (v2 : Int32) (v3 : Int32) (m : z_M) : z_Sim X yX4_numbers cX4_numbers 4 (some .int) 3 41 [(0, .ref (z_ad X v0)), (1, .int v1), (2, .int v2), (3, .int v3)] [] m (f_X4_numbers_L41 h20 v0 v1 v2 v3 m) := by
  unfold f_X4_numbers_L41
  refine z_iinc (k := 3) (lv' := [(3, .int (v3 + 1)), (0, .ref (z_ad X v0)), (1, .int v1), (2, .int v2)]) dX4_numbers_41 rfl (k_i1 _) (by decide) rfl ?_
  refine z_goto (tg := 20) dX4_numbers_44 (by decide) ?_
  exact z_sub (lv' := [(0, .ref (z_ad X v0)), (1, .int v1), (2, .int v2), (3, .int (v3 + 1))]) [1, 2, 3, 0] rfl (H20 v0 v1 v2 (v3 + 1) m)
set_option maxRecDepth 100000 in
set_option maxHeartbeats 4000000 in
theorem s_X4_numbers_L20 (X : z_X) : ∀ (n : Nat) (v0 : Nat) (v1 : Int32) (v2 : Int32) (v3 : Int32) (m : z_M), z_Sim X yX4_numbers cX4_numbers 4 (some .int) 3 20 [(0, .ref (z_ad X v0)), (1, .int v1), (2, .int v2), (3, .int v3)] [] m (f_X4_numbers_L20 n v0 v1 v2 v3 m) := by
  intro n
  induction n with
  | zero => intros; exact z_none
  | succ n ih =>
      intro v0 v1 v2 v3 m
      unfold f_X4_numbers_L20
      refine z_iload_n dX4_numbers_20 rfl 3 rfl ?_
      refine z_gets1 wf_X4_204 dX4_numbers_21 ?_
      refine z_iload_n dX4_numbers_24 rfl 1 rfl ?_
      refine z_tald (t := 1) (by decide) dX4_numbers_25 (fun x1 => ?_)
      refine z_icmp_ge (tg := 47) dX4_numbers_26 (by decide) ?_ ?_
      · refine z_iload_n dX4_numbers_47 rfl 2 rfl ?_
        exact z_iret dX4_numbers_48
      · refine z_aload_n dX4_numbers_29 rfl 0 rfl ?_
        refine z_iload_n dX4_numbers_30 rfl 3 rfl ?_
        refine z_iload_n dX4_numbers_31 rfl 1 rfl ?_
        refine z_cVi (As := [.int v3, .int v1]) (rest := []) (c_X4_isRowAlike X v0 v3 v1 m) mw_X4_isRowAlike iw_X4_isRowAlike z_X4 wm_X4_207 rfl rfl (by decide) (Nat.le_of_ble_eq_true rfl) dX4_numbers_32 (fun x2 m3 => ?_)
        refine z_if_eq (tg := 41) dX4_numbers_35 (by decide) ?_ ?_
        · exact z_sub (lv' := [(0, .ref (z_ad X v0)), (1, .int v1), (2, .int v2), (3, .int v3)]) [0, 1, 2, 3] rfl (s_X4_numbers_L41 X (f_X4_numbers_L20 n) ih v0 v1 v2 v3 m3)
        · refine z_iinc (k := 2) (lv' := [(2, .int (v2 + 1)), (0, .ref (z_ad X v0)), (1, .int v1), (3, .int v3)]) dX4_numbers_38 rfl (k_i1 _) (by decide) rfl ?_
          exact z_sub (lv' := [(0, .ref (z_ad X v0)), (1, .int v1), (2, .int (v2 + 1)), (3, .int v3)]) [1, 2, 0, 3] rfl (s_X4_numbers_L41 X (f_X4_numbers_L20 n) ih v0 v1 (v2 + 1) v3 m3)
set_option maxRecDepth 100000 in
set_option maxHeartbeats 4000000 in
theorem s_X4_numbers (X : z_X) (v0 : Nat) (v1 : Int32) (m : z_M) : z_Sim X yX4_numbers cX4_numbers 4 (some .int) 3 0 [(0, .ref (z_ad X v0)), (1, .int v1)] [] m (f_X4_numbers v0 v1 m) := by
  unfold f_X4_numbers
  refine z_iload_n dX4_numbers_0 rfl 1 rfl ?_
  refine z_iconst (v := 1) dX4_numbers_1 k_c1 ?_
  refine z_icmp_lt (tg := 10) dX4_numbers_2 (by decide) ?_ ?_
  · refine z_iconst (v := (-1)) dX4_numbers_10 k_cm1 ?_
    exact z_iret dX4_numbers_11
  · refine z_iload_n dX4_numbers_5 rfl 1 rfl ?_
    refine z_iconst (v := 5) dX4_numbers_6 k_c5 ?_
    refine z_icmp_le (tg := 12) dX4_numbers_7 (by decide) ?_ ?_
    · refine z_aload_n dX4_numbers_12 rfl 0 rfl ?_
      refine z_cVv (As := []) (rest := []) (c_X4_findManners X v0 m) mw_X4_findManners iw_X4_findManners z_X4 wm_X4_173 rfl rfl (by decide) (Nat.le_of_ble_eq_true rfl) dX4_numbers_13 (fun _ m4 => ?_)
      refine z_iconst (v := 0) dX4_numbers_16 k_c0 ?_
      refine z_istore_n (lv' := [(2, .int 0), (0, .ref (z_ad X v0)), (1, .int v1)]) dX4_numbers_17 rfl (by decide) rfl ?_
      refine z_iconst (v := 0) dX4_numbers_18 k_c0 ?_
      refine z_istore_n (lv' := [(3, .int 0), (2, .int 0), (0, .ref (z_ad X v0)), (1, .int v1)]) dX4_numbers_19 rfl (by decide) rfl ?_
      exact z_sub (lv' := [(0, .ref (z_ad X v0)), (1, .int v1), (2, .int 0), (3, .int 0)]) [2, 3, 1, 0] rfl (s_X4_numbers_L20 X 400 v0 v1 0 0 m4)
    · refine z_iconst (v := (-1)) dX4_numbers_10 k_cm1 ?_
      exact z_iret dX4_numbers_11
set_option maxRecDepth 100000 in
set_option maxHeartbeats 4000000 in
theorem c_X4_numbers (X : z_X) (v0 : Nat) (v1 : Int32) (m : z_M) : z_Ct X yX4_numbers cX4_numbers 4 (some .int) 3 [.ref (z_ad X v0), .int v1] m (f_X4_numbers v0 v1 m) := z_Ct.of (by decide) (Nat.le_of_ble_eq_true rfl) (s_X4_numbers X v0 v1 m)
set_option maxRecDepth 100000 in
set_option maxHeartbeats 4000000 in
theorem s_X4_wordOfRow_L15 (X : z_X) : ∀ (n : Nat) (v2 : Int32) (v3 : Int32) (v4 : Int32) (m : z_M), z_Sim X yX4_wordOfRow cX4_wordOfRow 5 (some .int) 0 15 [(2, .int v2), (3, .int v3), (4, .int v4)] [] m (f_X4_wordOfRow_L15 n v2 v3 v4 m) := by
  intro n
  induction n with
  | zero => intros; exact z_none
  | succ n ih =>
      intro v2 v3 v4 m
      unfold f_X4_wordOfRow_L15
      refine z_iload dX4_wordOfRow_15 2 rfl ?_
      refine z_iload_n dX4_wordOfRow_17 rfl 0 rfl ?_
      refine z_icmp_le (tg := 31) dX4_wordOfRow_18 (by decide) ?_ ?_
      · refine z_iload_n dX4_wordOfRow_31 rfl 1 rfl ?_
        refine z_iconst (v := 3) dX4_wordOfRow_32 k_c3 ?_
        refine z_irem dX4_wordOfRow_33 (by decide) ?_
        exact z_iret dX4_wordOfRow_34
      · refine z_iload_n dX4_wordOfRow_21 rfl 1 rfl ?_
        refine z_iconst (v := 3) dX4_wordOfRow_22 k_c3 ?_
        refine z_idiv dX4_wordOfRow_23 (by decide) ?_
        refine z_nm (fun x1 => ?_)
        refine z_istore_n (lv' := [(3, .int x1), (2, .int v2), (4, .int v4)]) dX4_wordOfRow_24 rfl (by decide) rfl ?_
        refine z_iinc (k := 2) (lv' := [(4, .int (v4 + (-1))), (3, .int x1), (2, .int v2)]) dX4_wordOfRow_25 rfl (k_im1 _) (by decide) rfl ?_
        refine z_goto (tg := 15) dX4_wordOfRow_28 (by decide) ?_
        exact z_sub (lv' := [(2, .int v2), (3, .int x1), (4, .int (v4 + (-1)))]) [2, 1, 0] rfl (ih v2 x1 (v4 + (-1)) m)
set_option maxRecDepth 100000 in
set_option maxHeartbeats 4000000 in
theorem s_X4_wordOfRow (X : z_X) (v0 : Int32) (v1 : Int32) (v2 : Int32) (m : z_M) : z_Sim X yX4_wordOfRow cX4_wordOfRow 5 (some .int) 0 0 [(0, .int v0), (1, .int v1), (2, .int v2)] [] m (f_X4_wordOfRow v0 v1 v2 m) := by
  unfold f_X4_wordOfRow
  refine z_iload_n dX4_wordOfRow_0 rfl 2 rfl ?_
  refine z_iload_n dX4_wordOfRow_1 rfl 1 rfl ?_
  refine z_icmp_lt (tg := 8) dX4_wordOfRow_2 (by decide) ?_ ?_
  · refine z_iload_n dX4_wordOfRow_8 rfl 0 rfl ?_
    refine z_istore_n (lv' := [(3, .int v0), (0, .int v0), (1, .int v1), (2, .int v2)]) dX4_wordOfRow_9 rfl (by decide) rfl ?_
    refine z_iload_n dX4_wordOfRow_10 rfl 2 rfl ?_
    refine z_iconst (v := 1) dX4_wordOfRow_11 k_c1 ?_
    refine z_isub dX4_wordOfRow_12 ?_
    refine z_nm (fun x2 => ?_)
    refine z_istore (lv' := [(4, .int x2), (3, .int v0), (0, .int v0), (1, .int v1), (2, .int v2)]) dX4_wordOfRow_13 (by decide) rfl ?_
    exact z_sub (lv' := [(2, .int v2), (3, .int v0), (4, .int x2)]) [4, 1, 0] rfl (s_X4_wordOfRow_L15 X 400 v2 v0 x2 m)
  · refine z_bipush (v := (-4)) dX4_wordOfRow_5 k_bim4 ?_
    exact z_iret dX4_wordOfRow_7
set_option maxRecDepth 100000 in
set_option maxHeartbeats 4000000 in
theorem c_X4_wordOfRow (X : z_X) (v0 : Int32) (v1 : Int32) (v2 : Int32) (m : z_M) : z_Ct X yX4_wordOfRow cX4_wordOfRow 5 (some .int) 0 [.int v0, .int v1, .int v2] m (f_X4_wordOfRow v0 v1 v2 m) := z_Ct.of (by decide) (Nat.le_of_ble_eq_true rfl) (s_X4_wordOfRow X v0 v1 v2 m)
set_option maxRecDepth 100000 in
set_option maxHeartbeats 4000000 in
theorem s_X4_plan_L18 (X : z_X) : ∀ (n : Nat) (v0 : Nat) (v1 : Int32) (v2 : Int32) (m : z_M), z_Sim X yX4_plan cX4_plan 4 (some .int) 4 18 [(0, .ref (z_ad X v0)), (1, .int v1), (2, .int v2)] [] m (f_X4_plan_L18 n v0 v1 v2 m) := by
  intro n
  induction n with
  | zero => intros; exact z_none
  | succ n ih =>
      intro v0 v1 v2 m
      unfold f_X4_plan_L18
      refine z_iload_n dX4_plan_18 rfl 2 rfl ?_
      refine z_iconst (v := 5) dX4_plan_19 k_c5 ?_
      refine z_icmp_gt (tg := 57) dX4_plan_20 (by decide) ?_ ?_
      · refine z_bipush (v := (-4)) dX4_plan_57 k_bim4 ?_
        exact z_iret dX4_plan_59
      · refine z_aload_n dX4_plan_23 rfl 0 rfl ?_
        refine z_iload_n dX4_plan_24 rfl 2 rfl ?_
        refine z_cVi (As := [.int v2]) (rest := []) (c_X4_firstRowAlike X v0 v2 m) mw_X4_firstRowAlike iw_X4_firstRowAlike z_X4 wm_X4_176 rfl rfl (by decide) (Nat.le_of_ble_eq_true rfl) dX4_plan_25 (fun x1 m2 => ?_)
        refine z_istore_n (lv' := [(3, .int x1), (0, .ref (z_ad X v0)), (1, .int v1), (2, .int v2)]) dX4_plan_28 rfl (by decide) rfl ?_
        refine z_iload_n dX4_plan_29 rfl 0 rfl ?_
        refine z_bipush (v := (-4)) dX4_plan_30 k_bim4 ?_
        refine z_icmp_eq (tg := 51) dX4_plan_32 (by decide) ?_ ?_
        · refine z_iinc (k := 3) (lv' := [(2, .int (v2 + 1)), (3, .int x1), (0, .ref (z_ad X v0)), (1, .int v1)]) dX4_plan_51 rfl (k_i1 _) (by decide) rfl ?_
          refine z_goto (tg := 18) dX4_plan_54 (by decide) ?_
          exact z_sub (lv' := [(0, .ref (z_ad X v0)), (1, .int v1), (2, .int (v2 + 1))]) [2, 3, 0] rfl (ih v0 v1 (v2 + 1) m2)
        · refine z_iload_n dX4_plan_35 rfl 2 rfl ?_
          refine z_iconst (v := (-1)) dX4_plan_36 k_cm1 ?_
          refine z_icmp_ne (tg := 44) dX4_plan_37 (by decide) ?_ ?_
          · refine z_iload_n dX4_plan_44 rfl 0 rfl ?_
            refine z_iload_n dX4_plan_45 rfl 3 rfl ?_
            refine z_iload_n dX4_plan_46 rfl 2 rfl ?_
            refine z_cSi (As := [.int x1, .int v2, .int v1]) (rest := []) (c_X4_wordOfRow X x1 v2 v1 m2) mw_X4_wordOfRow iw_X4_wordOfRow wm_X4_179 rfl rfl (by decide) (Nat.le_of_ble_eq_true rfl) dX4_plan_47 (fun x3 m4 => ?_)
            exact z_iret dX4_plan_50
          · refine z_iload_n dX4_plan_40 rfl 3 rfl ?_
            refine z_goto (tg := 50) dX4_plan_41 (by decide) ?_
            exact z_iret dX4_plan_50
set_option maxRecDepth 100000 in
set_option maxHeartbeats 4000000 in
theorem s_X4_plan (X : z_X) (v0 : Nat) (v1 : Int32) (m : z_M) : z_Sim X yX4_plan cX4_plan 4 (some .int) 4 0 [(0, .ref (z_ad X v0)), (1, .int v1)] [] m (f_X4_plan v0 v1 m) := by
  unfold f_X4_plan
  refine z_iload_n dX4_plan_0 rfl 1 rfl ?_
  refine z_iconst (v := (-1)) dX4_plan_1 k_cm1 ?_
  refine z_icmp_lt (tg := 10) dX4_plan_2 (by decide) ?_ ?_
  · refine z_iconst (v := (-1)) dX4_plan_10 k_cm1 ?_
    exact z_iret dX4_plan_11
  · refine z_iload_n dX4_plan_5 rfl 1 rfl ?_
    refine z_iconst (v := 5) dX4_plan_6 k_c5 ?_
    refine z_icmp_lt (tg := 12) dX4_plan_7 (by decide) ?_ ?_
    · refine z_aload_n dX4_plan_12 rfl 0 rfl ?_
      refine z_cVv (As := []) (rest := []) (c_X4_findManners X v0 m) mw_X4_findManners iw_X4_findManners z_X4 wm_X4_173 rfl rfl (by decide) (Nat.le_of_ble_eq_true rfl) dX4_plan_13 (fun _ m5 => ?_)
      refine z_iconst (v := 0) dX4_plan_16 k_c0 ?_
      refine z_istore_n (lv' := [(2, .int 0), (0, .ref (z_ad X v0)), (1, .int v1)]) dX4_plan_17 rfl (by decide) rfl ?_
      exact z_sub (lv' := [(0, .ref (z_ad X v0)), (1, .int v1), (2, .int 0)]) [1, 2, 0] rfl (s_X4_plan_L18 X 400 v0 v1 0 m5)
    · refine z_iconst (v := (-1)) dX4_plan_10 k_cm1 ?_
      exact z_iret dX4_plan_11
set_option maxRecDepth 100000 in
set_option maxHeartbeats 4000000 in
theorem c_X4_plan (X : z_X) (v0 : Nat) (v1 : Int32) (m : z_M) : z_Ct X yX4_plan cX4_plan 4 (some .int) 4 [.ref (z_ad X v0), .int v1] m (f_X4_plan v0 v1 m) := z_Ct.of (by decide) (Nat.le_of_ble_eq_true rfl) (s_X4_plan X v0 v1 m)
set_option maxRecDepth 100000 in
set_option maxHeartbeats 4000000 in
theorem s_X4_right_L94 (X : z_X) (h57 : Nat → Int32 → Int32 → Int32 → Int32 → Int32 → Int32 → z_M → z_R) (H57 : ∀ (w0 : Nat) (w1 : Int32) (w3 : Int32) (w4 : Int32) (w5 : Int32) (w6 : Int32) (w7 : Int32) (w : z_M), z_Sim X yX4_right cX4_right 8 (some .int) 3 57 [(0, .ref (z_ad X w0)), (1, .int w1), (3, .int w3), (4, .int w4), (5, .int w5), (6, .int w6), (7, .int w7)] [] w (h57 w0 w1 w3 w4 w5 w6 w7 w)) (v0 : Nat) (v1 : Int32) (v3 : Int32) (v4 : Int32) (v5 : Int32) (v6 : Int32) (v7 : Int32) (m : z_M) : z_Sim X yX4_right cX4_right 8 (some .int) 3 94 [(0, .ref (z_ad X v0)), (1, .int v1), (3, .int v3), (4, .int v4), (5, .int v5), (6, .int v6), (7, .int v7)] [] m (f_X4_right_L94 h57 v0 v1 v3 v4 v5 v6 v7 m) := by
  unfold f_X4_right_L94
  refine z_iinc (k := 6) (lv' := [(7, .int (v7 + 1)), (0, .ref (z_ad X v0)), (1, .int v1), (3, .int v3), (4, .int v4), (5, .int v5), (6, .int v6)]) dX4_right_94 rfl (k_i1 _) (by decide) rfl ?_
  refine z_goto (tg := 57) dX4_right_97 (by decide) ?_
  exact z_sub (lv' := [(0, .ref (z_ad X v0)), (1, .int v1), (3, .int v3), (4, .int v4), (5, .int v5), (6, .int v6), (7, .int (v7 + 1))]) [1, 2, 3, 4, 5, 6, 0] rfl (H57 v0 v1 v3 v4 v5 v6 (v7 + 1) m)
set_option maxRecDepth 100000 in
set_option maxHeartbeats 4000000 in
theorem s_X4_right_L57 (X : z_X) : ∀ (n : Nat) (v0 : Nat) (v1 : Int32) (v3 : Int32) (v4 : Int32) (v5 : Int32) (v6 : Int32) (v7 : Int32) (m : z_M), z_Sim X yX4_right cX4_right 8 (some .int) 3 57 [(0, .ref (z_ad X v0)), (1, .int v1), (3, .int v3), (4, .int v4), (5, .int v5), (6, .int v6), (7, .int v7)] [] m (f_X4_right_L57 n v0 v1 v3 v4 v5 v6 v7 m) := by
  intro n
  induction n with
  | zero => intros; exact z_none
  | succ n ih =>
      intro v0 v1 v3 v4 v5 v6 v7 m
      unfold f_X4_right_L57
      refine z_iload dX4_right_57 6 rfl ?_
      refine z_iconst (v := 3) dX4_right_59 k_c3 ?_
      refine z_icmp_ge (tg := 100) dX4_right_60 (by decide) ?_ ?_
      · refine z_iload dX4_right_100 5 rfl ?_
        refine z_aload_n dX4_right_102 rfl 0 rfl ?_
        refine z_aload_n dX4_right_103 rfl 0 rfl ?_
        refine z_getP z_X4 (j := 7) (by decide) rfl rfl wf_X4_48 dX4_right_104 (fun a1 => ?_)
        refine z_iload_n dX4_right_107 rfl 1 rfl ?_
        refine z_iald dX4_right_108 (fun x2 => ?_)
        refine z_cVi (As := [.int x2]) (rest := [.int v6]) (c_X4_waysToTurn X v0 x2 m) mw_X4_waysToTurn iw_X4_waysToTurn z_X4 wm_X4_192 rfl rfl (by decide) (Nat.le_of_ble_eq_true rfl) dX4_right_109 (fun x3 m4 => ?_)
        refine z_iload_n dX4_right_112 rfl 2 rfl ?_
        refine z_cSi (As := [.int v6, .int x3, .int v3]) (rest := []) (c_X4_partInLowestTerms X v6 x3 v3 m4) mw_X4_partInLowestTerms iw_X4_partInLowestTerms wm_X4_195 rfl rfl (by decide) (Nat.le_of_ble_eq_true rfl) dX4_right_113 (fun x5 m6 => ?_)
        exact z_iret dX4_right_116
      · refine z_aload_n dX4_right_63 rfl 0 rfl ?_
        refine z_iload_n dX4_right_64 rfl 1 rfl ?_
        refine z_iload dX4_right_65 6 rfl ?_
        refine z_iload dX4_right_67 3 rfl ?_
        refine z_cVi (As := [.int v1, .int v7, .int v4]) (rest := []) (c_X4_facingBy X v0 v1 v7 v4 m) mw_X4_facingBy iw_X4_facingBy z_X4 wm_X4_198 rfl rfl (by decide) (Nat.le_of_ble_eq_true rfl) dX4_right_69 (fun x7 m8 => ?_)
        refine z_iload dX4_right_72 4 rfl ?_
        refine z_icmp_ne (tg := 94) dX4_right_74 (by decide) ?_ ?_
        · exact z_sub (lv' := [(0, .ref (z_ad X v0)), (1, .int v1), (3, .int v3), (4, .int v4), (5, .int v5), (6, .int v6), (7, .int v7)]) [0, 1, 2, 3, 4, 5, 6] rfl (s_X4_right_L94 X (f_X4_right_L57 n) ih v0 v1 v3 v4 v5 v6 v7 m8)
        · refine z_iload dX4_right_77 5 rfl ?_
          refine z_aload_n dX4_right_79 rfl 0 rfl ?_
          refine z_aload_n dX4_right_80 rfl 0 rfl ?_
          refine z_getP z_X4 (j := 7) (by decide) rfl rfl wf_X4_48 dX4_right_81 (fun a9 => ?_)
          refine z_iload_n dX4_right_84 rfl 1 rfl ?_
          refine z_iald dX4_right_85 (fun x10 => ?_)
          refine z_iload dX4_right_86 6 rfl ?_
          refine z_cVi (As := [.int x10, .int v7]) (rest := [.int v6]) (c_X4_waysOfManner X v0 x10 v7 m8) mw_X4_waysOfManner iw_X4_waysOfManner z_X4 wm_X4_201 rfl rfl (by decide) (Nat.le_of_ble_eq_true rfl) dX4_right_88 (fun x11 m12 => ?_)
          refine z_iadd dX4_right_91 ?_
          refine z_nm (fun x13 => ?_)
          refine z_istore (lv' := [(6, .int x13), (0, .ref (z_ad X v0)), (1, .int v1), (3, .int v3), (4, .int v4), (5, .int v5), (7, .int v7)]) dX4_right_92 (by decide) rfl ?_
          exact z_sub (lv' := [(0, .ref (z_ad X v0)), (1, .int v1), (3, .int v3), (4, .int v4), (5, .int v5), (6, .int x13), (7, .int v7)]) [1, 2, 3, 4, 5, 0, 6] rfl (s_X4_right_L94 X (f_X4_right_L57 n) ih v0 v1 v3 v4 v5 x13 v7 m12)
set_option maxRecDepth 100000 in
set_option maxHeartbeats 4000000 in
theorem s_X4_right (X : z_X) (v0 : Nat) (v1 : Int32) (v2 : Int32) (v3 : Int32) (m : z_M) : z_Sim X yX4_right cX4_right 8 (some .int) 3 0 [(0, .ref (z_ad X v0)), (1, .int v1), (2, .int v2), (3, .int v3)] [] m (f_X4_right v0 v1 v2 v3 m) := by
  unfold f_X4_right
  refine z_aload_n dX4_right_0 rfl 0 rfl ?_
  refine z_iload_n dX4_right_1 rfl 1 rfl ?_
  refine z_cVi (As := [.int v1]) (rest := []) (c_X4_isMan X v0 v1 m) mw_X4_isMan iw_X4_isMan z_X4 wm_X4_91 rfl rfl (by decide) (Nat.le_of_ble_eq_true rfl) dX4_right_2 (fun x14 m15 => ?_)
  refine z_if_eq (tg := 22) dX4_right_5 (by decide) ?_ ?_
  · refine z_iconst (v := (-1)) dX4_right_22 k_cm1 ?_
    exact z_iret dX4_right_23
  · refine z_iload_n dX4_right_8 rfl 2 rfl ?_
    refine z_cSi (As := [.int v2]) (rest := []) (c_X4_isWord X v2 m15) mw_X4_isWord iw_X4_isWord wm_X4_111 rfl rfl (by decide) (Nat.le_of_ble_eq_true rfl) dX4_right_9 (fun x16 m17 => ?_)
    refine z_if_eq (tg := 22) dX4_right_12 (by decide) ?_ ?_
    · refine z_iconst (v := (-1)) dX4_right_22 k_cm1 ?_
      exact z_iret dX4_right_23
    · refine z_iload_n dX4_right_15 rfl 3 rfl ?_
      refine z_cSi (As := [.int v3]) (rest := []) (c_X4_isEither X v3 m17) mw_X4_isEither iw_X4_isEither wm_X4_145 rfl rfl (by decide) (Nat.le_of_ble_eq_true rfl) dX4_right_16 (fun x18 m19 => ?_)
      refine z_if_ne (tg := 24) dX4_right_19 (by decide) ?_ ?_
      · refine z_aload_n dX4_right_24 rfl 0 rfl ?_
        refine z_cVv (As := []) (rest := []) (c_X4_findLeaders X v0 m19) mw_X4_findLeaders iw_X4_findLeaders z_X4 wm_X4_121 rfl rfl (by decide) (Nat.le_of_ble_eq_true rfl) dX4_right_25 (fun _ m20 => ?_)
        refine z_gets0 wf_X4_186 dX4_right_28 ?_
        refine z_iload_n dX4_right_31 rfl 2 rfl ?_
        refine z_tald (t := 0) (by decide) dX4_right_32 (fun x21 => ?_)
        refine z_istore (lv' := [(4, .int x21), (0, .ref (z_ad X v0)), (1, .int v1), (2, .int v2), (3, .int v3)]) dX4_right_33 (by decide) rfl ?_
        refine z_aload_n dX4_right_35 rfl 1 rfl ?_
        refine z_aload_n dX4_right_36 rfl 1 rfl ?_
        refine z_getP z_X4 (j := 3) (by decide) rfl rfl wf_X4_29 dX4_right_37 (fun a22 => ?_)
        refine z_iload_n dX4_right_40 rfl 2 rfl ?_
        refine z_cVi (As := [.ref (z_ad X a22), .int v1]) (rest := []) (c_X4_dueFacing X v0 a22 v1 m20) mw_X4_dueFacing iw_X4_dueFacing z_X4 wm_X4_107 rfl rfl (by decide) (Nat.le_of_ble_eq_true rfl) dX4_right_41 (fun x23 m24 => ?_)
        refine z_iload dX4_right_44 0 rfl ?_
        refine z_iadd dX4_right_46 ?_
        refine z_iconst (v := 4) dX4_right_47 k_c4 ?_
        refine z_irem dX4_right_48 (by decide) ?_
        refine z_nm (fun x25 => ?_)
        refine z_istore (lv' := [(5, .int x25), (4, .int x21), (0, .ref (z_ad X v0)), (1, .int v1), (2, .int v2), (3, .int v3)]) dX4_right_49 (by decide) rfl ?_
        refine z_iconst (v := 0) dX4_right_51 k_c0 ?_
        refine z_istore (lv' := [(6, .int 0), (5, .int x25), (4, .int x21), (0, .ref (z_ad X v0)), (1, .int v1), (2, .int v2), (3, .int v3)]) dX4_right_52 (by decide) rfl ?_
        refine z_iconst (v := 0) dX4_right_54 k_c0 ?_
        refine z_istore (lv' := [(7, .int 0), (6, .int 0), (5, .int x25), (4, .int x21), (0, .ref (z_ad X v0)), (1, .int v1), (2, .int v2), (3, .int v3)]) dX4_right_55 (by decide) rfl ?_
        exact z_sub (lv' := [(0, .ref (z_ad X v0)), (1, .int v1), (3, .int v3), (4, .int x21), (5, .int x25), (6, .int 0), (7, .int 0)]) [4, 5, 7, 3, 2, 1, 0] rfl (s_X4_right_L57 X 400 v0 v1 v3 x21 x25 0 0 m24)
      · refine z_iconst (v := (-1)) dX4_right_22 k_cm1 ?_
        exact z_iret dX4_right_23
set_option maxRecDepth 100000 in
set_option maxHeartbeats 4000000 in
theorem c_X4_right (X : z_X) (v0 : Nat) (v1 : Int32) (v2 : Int32) (v3 : Int32) (m : z_M) : z_Ct X yX4_right cX4_right 8 (some .int) 3 [.ref (z_ad X v0), .int v1, .int v2, .int v3] m (f_X4_right v0 v1 v2 v3 m) := z_Ct.of (by decide) (Nat.le_of_ble_eq_true rfl) (s_X4_right X v0 v1 v2 v3 m)
set_option maxRecDepth 100000 in
set_option maxHeartbeats 4000000 in
theorem s_X4_runs_L44 (X : z_X) (h14 : Nat → Int32 → Int32 → Int32 → z_M → z_R) (H14 : ∀ (w0 : Nat) (w1 : Int32) (w2 : Int32) (w3 : Int32) (w : z_M), z_Sim X yX4_runs cX4_runs 4 (some .int) 1 14 [(0, .ref (z_ad X w0)), (1, .int w1), (2, .int w2), (3, .int w3)] [] w (h14 w0 w1 w2 w3 w)) (v0 : Nat) (v1 : Int32) (v2 : Int32) (v3 : Int32) (m : z_M) : z_Sim X yX4_runs cX4_runs 4 (some .int) 1 44 [(0, .ref (z_ad X v0)), (1, .int v1), (2, .int v2), (3, .int v3)] [] m (f_X4_runs_L44 h14 v0 v1 v2 v3 m) := by
  unfold f_X4_runs_L44
  refine z_iinc (k := 3) (lv' := [(3, .int (v3 + 1)), (0, .ref (z_ad X v0)), (1, .int v1), (2, .int v2)]) dX4_runs_44 rfl (k_i1 _) (by decide) rfl ?_
  refine z_goto (tg := 14) dX4_runs_47 (by decide) ?_
  exact z_sub (lv' := [(0, .ref (z_ad X v0)), (1, .int v1), (2, .int v2), (3, .int (v3 + 1))]) [1, 2, 3, 0] rfl (H14 v0 v1 v2 (v3 + 1) m)
set_option maxRecDepth 100000 in
set_option maxHeartbeats 4000000 in
theorem s_X4_runs_L14 (X : z_X) : ∀ (n : Nat) (v0 : Nat) (v1 : Int32) (v2 : Int32) (v3 : Int32) (m : z_M), z_Sim X yX4_runs cX4_runs 4 (some .int) 1 14 [(0, .ref (z_ad X v0)), (1, .int v1), (2, .int v2), (3, .int v3)] [] m (f_X4_runs_L14 n v0 v1 v2 v3 m) := by
  intro n
  induction n with
  | zero => intros; exact z_none
  | succ n ih =>
      intro v0 v1 v2 v3 m
      unfold f_X4_runs_L14
      refine z_iload_n dX4_runs_14 rfl 3 rfl ?_
      refine z_aload_n dX4_runs_15 rfl 0 rfl ?_
      refine z_getP z_X4 (j := 1) (by decide) rfl rfl wf_X4_19 dX4_runs_16 (fun a1 => ?_)
      refine z_getI z_X2 (j := 0) (by decide) rfl rfl wf_X4_88 dX4_runs_19 (fun x2 => ?_)
      refine z_icmp_ge (tg := 50) dX4_runs_22 (by decide) ?_ ?_
      · refine z_iload_n dX4_runs_50 rfl 2 rfl ?_
        exact z_iret dX4_runs_51
      · refine z_iload_n dX4_runs_25 rfl 3 rfl ?_
        refine z_iload_n dX4_runs_26 rfl 1 rfl ?_
        refine z_icmp_eq (tg := 44) dX4_runs_27 (by decide) ?_ ?_
        · exact z_sub (lv' := [(0, .ref (z_ad X v0)), (1, .int v1), (2, .int v2), (3, .int v3)]) [0, 1, 2, 3] rfl (s_X4_runs_L44 X (f_X4_runs_L14 n) ih v0 v1 v2 v3 m)
        · refine z_aload_n dX4_runs_30 rfl 0 rfl ?_
          refine z_iload_n dX4_runs_31 rfl 3 rfl ?_
          refine z_bipush (v := (-4)) dX4_runs_32 k_bim4 ?_
          refine z_cVi (As := [.int v3, .int (-4)]) (rest := []) (c_X4_chainEnd X v0 v3 (-4) m) mw_X4_chainEnd iw_X4_chainEnd z_X4 wm_X4_161 rfl rfl (by decide) (Nat.le_of_ble_eq_true rfl) dX4_runs_34 (fun x3 m4 => ?_)
          refine z_iload_n dX4_runs_37 rfl 1 rfl ?_
          refine z_icmp_ne (tg := 44) dX4_runs_38 (by decide) ?_ ?_
          · exact z_sub (lv' := [(0, .ref (z_ad X v0)), (1, .int v1), (2, .int v2), (3, .int v3)]) [0, 1, 2, 3] rfl (s_X4_runs_L44 X (f_X4_runs_L14 n) ih v0 v1 v2 v3 m4)
          · refine z_iinc (k := 2) (lv' := [(2, .int (v2 + 1)), (0, .ref (z_ad X v0)), (1, .int v1), (3, .int v3)]) dX4_runs_41 rfl (k_i1 _) (by decide) rfl ?_
            exact z_sub (lv' := [(0, .ref (z_ad X v0)), (1, .int v1), (2, .int (v2 + 1)), (3, .int v3)]) [1, 2, 0, 3] rfl (s_X4_runs_L44 X (f_X4_runs_L14 n) ih v0 v1 (v2 + 1) v3 m4)
set_option maxRecDepth 100000 in
set_option maxHeartbeats 4000000 in
theorem s_X4_runs (X : z_X) (v0 : Nat) (v1 : Int32) (m : z_M) : z_Sim X yX4_runs cX4_runs 4 (some .int) 1 0 [(0, .ref (z_ad X v0)), (1, .int v1)] [] m (f_X4_runs v0 v1 m) := by
  unfold f_X4_runs
  refine z_aload_n dX4_runs_0 rfl 0 rfl ?_
  refine z_iload_n dX4_runs_1 rfl 1 rfl ?_
  refine z_cVi (As := [.int v1]) (rest := []) (c_X4_isMan X v0 v1 m) mw_X4_isMan iw_X4_isMan z_X4 wm_X4_91 rfl rfl (by decide) (Nat.le_of_ble_eq_true rfl) dX4_runs_2 (fun x5 m6 => ?_)
  refine z_if_ne (tg := 10) dX4_runs_5 (by decide) ?_ ?_
  · refine z_iconst (v := 0) dX4_runs_10 k_c0 ?_
    refine z_istore_n (lv' := [(2, .int 0), (0, .ref (z_ad X v0)), (1, .int v1)]) dX4_runs_11 rfl (by decide) rfl ?_
    refine z_iconst (v := 0) dX4_runs_12 k_c0 ?_
    refine z_istore_n (lv' := [(3, .int 0), (2, .int 0), (0, .ref (z_ad X v0)), (1, .int v1)]) dX4_runs_13 rfl (by decide) rfl ?_
    exact z_sub (lv' := [(0, .ref (z_ad X v0)), (1, .int v1), (2, .int 0), (3, .int 0)]) [2, 3, 1, 0] rfl (s_X4_runs_L14 X 400 v0 v1 0 0 m6)
  · refine z_iconst (v := (-1)) dX4_runs_8 k_cm1 ?_
    exact z_iret dX4_runs_9
set_option maxRecDepth 100000 in
set_option maxHeartbeats 4000000 in
theorem c_X4_runs (X : z_X) (v0 : Nat) (v1 : Int32) (m : z_M) : z_Ct X yX4_runs cX4_runs 4 (some .int) 1 [.ref (z_ad X v0), .int v1] m (f_X4_runs v0 v1 m) := z_Ct.of (by decide) (Nat.le_of_ble_eq_true rfl) (s_X4_runs X v0 v1 m)
set_option maxRecDepth 100000 in
set_option maxHeartbeats 4000000 in
theorem s_X4_safe_L50 (X : z_X) (h12 : Nat → Int32 → Int32 → z_M → z_R) (H12 : ∀ (w0 : Nat) (w1 : Int32) (w2 : Int32) (w : z_M), z_Sim X yX4_safe cX4_safe 4 (some .int) 1 12 [(0, .ref (z_ad X w0)), (1, .int w1), (2, .int w2)] [] w (h12 w0 w1 w2 w)) (v0 : Nat) (v1 : Int32) (v2 : Int32) (m : z_M) : z_Sim X yX4_safe cX4_safe 4 (some .int) 1 50 [(0, .ref (z_ad X v0)), (1, .int v1), (2, .int v2)] [] m (f_X4_safe_L50 h12 v0 v1 v2 m) := by
  unfold f_X4_safe_L50
  refine z_iinc (k := 2) (lv' := [(2, .int (v2 + 1)), (0, .ref (z_ad X v0)), (1, .int v1)]) dX4_safe_50 rfl (k_i1 _) (by decide) rfl ?_
  refine z_goto (tg := 12) dX4_safe_53 (by decide) ?_
  exact z_sub (lv' := [(0, .ref (z_ad X v0)), (1, .int v1), (2, .int (v2 + 1))]) [1, 2, 0] rfl (H12 v0 v1 (v2 + 1) m)
set_option maxRecDepth 100000 in
set_option maxHeartbeats 4000000 in
theorem s_X4_safe_L12 (X : z_X) : ∀ (n : Nat) (v0 : Nat) (v1 : Int32) (v2 : Int32) (m : z_M), z_Sim X yX4_safe cX4_safe 4 (some .int) 1 12 [(0, .ref (z_ad X v0)), (1, .int v1), (2, .int v2)] [] m (f_X4_safe_L12 n v0 v1 v2 m) := by
  intro n
  induction n with
  | zero => intros; exact z_none
  | succ n ih =>
      intro v0 v1 v2 m
      unfold f_X4_safe_L12
      refine z_iload_n dX4_safe_12 rfl 2 rfl ?_
      refine z_aload_n dX4_safe_13 rfl 0 rfl ?_
      refine z_getP z_X4 (j := 1) (by decide) rfl rfl wf_X4_19 dX4_safe_14 (fun a1 => ?_)
      refine z_getI z_X2 (j := 0) (by decide) rfl rfl wf_X4_88 dX4_safe_17 (fun x2 => ?_)
      refine z_icmp_ge (tg := 56) dX4_safe_20 (by decide) ?_ ?_
      · refine z_bipush (v := (-4)) dX4_safe_56 k_bim4 ?_
        exact z_iret dX4_safe_58
      · refine z_aload_n dX4_safe_23 rfl 0 rfl ?_
        refine z_iload_n dX4_safe_24 rfl 2 rfl ?_
        refine z_iload_n dX4_safe_25 rfl 1 rfl ?_
        refine z_cVi (As := [.int v2, .int v1]) (rest := []) (c_X4_chainEnd X v0 v2 v1 m) mw_X4_chainEnd iw_X4_chainEnd z_X4 wm_X4_161 rfl rfl (by decide) (Nat.le_of_ble_eq_true rfl) dX4_safe_26 (fun x3 m4 => ?_)
        refine z_istore_n (lv' := [(3, .int x3), (0, .ref (z_ad X v0)), (1, .int v1), (2, .int v2)]) dX4_safe_29 rfl (by decide) rfl ?_
        refine z_iload_n dX4_safe_30 rfl 0 rfl ?_
        refine z_bipush (v := (-4)) dX4_safe_31 k_bim4 ?_
        refine z_icmp_eq (tg := 50) dX4_safe_33 (by decide) ?_ ?_
        · exact z_sub (lv' := [(0, .ref (z_ad X v0)), (1, .int v1), (2, .int v2)]) [1, 2, 3] rfl (s_X4_safe_L50 X (f_X4_safe_L12 n) ih v0 v1 v2 m4)
        · refine z_aload_n dX4_safe_36 rfl 1 rfl ?_
          refine z_getP z_X4 (j := 1) (by decide) rfl rfl wf_X4_19 dX4_safe_37 (fun a5 => ?_)
          refine z_getP z_X2 (j := 3) (by decide) rfl rfl wf_X4_95 dX4_safe_40 (fun a6 => ?_)
          refine z_iload_n dX4_safe_43 rfl 0 rfl ?_
          refine z_iald dX4_safe_44 (fun x7 => ?_)
          refine z_if_ne (tg := 50) dX4_safe_45 (by decide) ?_ ?_
          · exact z_sub (lv' := [(0, .ref (z_ad X v0)), (1, .int v1), (2, .int v2)]) [1, 2, 3] rfl (s_X4_safe_L50 X (f_X4_safe_L12 n) ih v0 v1 v2 m4)
          · refine z_iload_n dX4_safe_48 rfl 3 rfl ?_
            exact z_iret dX4_safe_49
set_option maxRecDepth 100000 in
set_option maxHeartbeats 4000000 in
theorem s_X4_safe (X : z_X) (v0 : Nat) (v1 : Int32) (m : z_M) : z_Sim X yX4_safe cX4_safe 4 (some .int) 1 0 [(0, .ref (z_ad X v0)), (1, .int v1)] [] m (f_X4_safe v0 v1 m) := by
  unfold f_X4_safe
  refine z_aload_n dX4_safe_0 rfl 0 rfl ?_
  refine z_iload_n dX4_safe_1 rfl 1 rfl ?_
  refine z_cVi (As := [.int v1]) (rest := []) (c_X4_isMan X v0 v1 m) mw_X4_isMan iw_X4_isMan z_X4 wm_X4_91 rfl rfl (by decide) (Nat.le_of_ble_eq_true rfl) dX4_safe_2 (fun x8 m9 => ?_)
  refine z_if_ne (tg := 10) dX4_safe_5 (by decide) ?_ ?_
  · refine z_iconst (v := 0) dX4_safe_10 k_c0 ?_
    refine z_istore_n (lv' := [(2, .int 0), (0, .ref (z_ad X v0)), (1, .int v1)]) dX4_safe_11 rfl (by decide) rfl ?_
    exact z_sub (lv' := [(0, .ref (z_ad X v0)), (1, .int v1), (2, .int 0)]) [1, 2, 0] rfl (s_X4_safe_L12 X 400 v0 v1 0 m9)
  · refine z_iconst (v := (-1)) dX4_safe_8 k_cm1 ?_
    exact z_iret dX4_safe_9
set_option maxRecDepth 100000 in
set_option maxHeartbeats 4000000 in
theorem c_X4_safe (X : z_X) (v0 : Nat) (v1 : Int32) (m : z_M) : z_Ct X yX4_safe cX4_safe 4 (some .int) 1 [.ref (z_ad X v0), .int v1] m (f_X4_safe v0 v1 m) := z_Ct.of (by decide) (Nat.le_of_ble_eq_true rfl) (s_X4_safe X v0 v1 m)
set_option maxRecDepth 100000 in
set_option maxHeartbeats 4000000 in
theorem s_X4_shout_L78 (X : z_X) (h25 : Nat → Int32 → Int32 → Int32 → z_M → z_R) (H25 : ∀ (w0 : Nat) (w1 : Int32) (w2 : Int32) (w3 : Int32) (w : z_M), z_Sim X yX4_shout cX4_shout 4 (some .int) 3 25 [(0, .ref (z_ad X w0)), (1, .int w1), (2, .int w2), (3, .int w3)] [] w (h25 w0 w1 w2 w3 w)) (v0 : Nat) (v1 : Int32) (v2 : Int32) (v3 : Int32) (m : z_M) : z_Sim X yX4_shout cX4_shout 4 (some .int) 3 78 [(0, .ref (z_ad X v0)), (1, .int v1), (2, .int v2), (3, .int v3)] [] m (f_X4_shout_L78 h25 v0 v1 v2 v3 m) := by
  unfold f_X4_shout_L78
  refine z_iinc (k := 3) (lv' := [(3, .int (v3 + 1)), (0, .ref (z_ad X v0)), (1, .int v1), (2, .int v2)]) dX4_shout_78 rfl (k_i1 _) (by decide) rfl ?_
  refine z_goto (tg := 25) dX4_shout_81 (by decide) ?_
  exact z_sub (lv' := [(0, .ref (z_ad X v0)), (1, .int v1), (2, .int v2), (3, .int (v3 + 1))]) [1, 2, 3, 0] rfl (H25 v0 v1 v2 (v3 + 1) m)
set_option maxRecDepth 100000 in
set_option maxHeartbeats 4000000 in
theorem s_X4_shout_L50 (X : z_X) (h25 : Nat → Int32 → Int32 → Int32 → z_M → z_R) (H25 : ∀ (w0 : Nat) (w1 : Int32) (w2 : Int32) (w3 : Int32) (w : z_M), z_Sim X yX4_shout cX4_shout 4 (some .int) 3 25 [(0, .ref (z_ad X w0)), (1, .int w1), (2, .int w2), (3, .int w3)] [] w (h25 w0 w1 w2 w3 w)) (v0 : Nat) (v1 : Int32) (v2 : Int32) (v3 : Int32) (m : z_M) : z_Sim X yX4_shout cX4_shout 4 (some .int) 3 50 [(0, .ref (z_ad X v0)), (1, .int v1), (2, .int v2), (3, .int v3)] [] m (f_X4_shout_L50 h25 v0 v1 v2 v3 m) := by
  unfold f_X4_shout_L50
  refine z_aload_n dX4_shout_50 rfl 0 rfl ?_
  refine z_getP z_X4 (j := 3) (by decide) rfl rfl wf_X4_29 dX4_shout_51 (fun a1 => ?_)
  refine z_getP z_X3 (j := 0) (by decide) rfl rfl wf_X4_98 dX4_shout_54 (fun a2 => ?_)
  refine z_iload_n dX4_shout_57 rfl 3 rfl ?_
  refine z_aload_n dX4_shout_58 rfl 0 rfl ?_
  refine z_getP z_X4 (j := 3) (by decide) rfl rfl wf_X4_29 dX4_shout_59 (fun a3 => ?_)
  refine z_getP z_X3 (j := 0) (by decide) rfl rfl wf_X4_98 dX4_shout_62 (fun a4 => ?_)
  refine z_iload_n dX4_shout_65 rfl 3 rfl ?_
  refine z_iald dX4_shout_66 (fun x5 => ?_)
  refine z_iconst (v := 2) dX4_shout_67 k_c2 ?_
  refine z_iadd dX4_shout_68 ?_
  refine z_iconst (v := 4) dX4_shout_69 k_c4 ?_
  refine z_irem dX4_shout_70 (by decide) ?_
  refine z_nm (fun x6 => ?_)
  refine z_iast dX4_shout_71 ?_
  generalize z_wI m a2 (Int32.toNatClampNeg v3) x6 = m7
  refine z_iload_n dX4_shout_72 rfl 2 rfl ?_
  refine z_iconst (v := 1) dX4_shout_73 k_c1 ?_
  refine z_iload_n dX4_shout_74 rfl 3 rfl ?_
  refine z_ishl dX4_shout_75 ?_
  refine z_ior dX4_shout_76 ?_
  refine z_nm (fun x8 => ?_)
  refine z_istore_n (lv' := [(2, .int x8), (0, .ref (z_ad X v0)), (1, .int v1), (3, .int v3)]) dX4_shout_77 rfl (by decide) rfl ?_
  exact z_sub (lv' := [(0, .ref (z_ad X v0)), (1, .int v1), (2, .int x8), (3, .int v3)]) [1, 2, 0, 3] rfl (s_X4_shout_L78 X h25 H25 v0 v1 x8 v3 m7)
set_option maxRecDepth 100000 in
set_option maxHeartbeats 4000000 in
theorem s_X4_shout_L25 (X : z_X) : ∀ (n : Nat) (v0 : Nat) (v1 : Int32) (v2 : Int32) (v3 : Int32) (m : z_M), z_Sim X yX4_shout cX4_shout 4 (some .int) 3 25 [(0, .ref (z_ad X v0)), (1, .int v1), (2, .int v2), (3, .int v3)] [] m (f_X4_shout_L25 n v0 v1 v2 v3 m) := by
  intro n
  induction n with
  | zero => intros; exact z_none
  | succ n ih =>
      intro v0 v1 v2 v3 m
      unfold f_X4_shout_L25
      refine z_iload_n dX4_shout_25 rfl 3 rfl ?_
      refine z_aload_n dX4_shout_26 rfl 0 rfl ?_
      refine z_getP z_X4 (j := 1) (by decide) rfl rfl wf_X4_19 dX4_shout_27 (fun a9 => ?_)
      refine z_getI z_X2 (j := 0) (by decide) rfl rfl wf_X4_88 dX4_shout_30 (fun x10 => ?_)
      refine z_icmp_ge (tg := 84) dX4_shout_33 (by decide) ?_ ?_
      · refine z_aload_n dX4_shout_84 rfl 0 rfl ?_
        refine z_getP z_X4 (j := 3) (by decide) rfl rfl wf_X4_29 dX4_shout_85 (fun a11 => ?_)
        refine z_dup dX4_shout_88 rfl ?_
        refine z_getI z_X3 (j := 7) (by decide) rfl rfl wf_X4_142 dX4_shout_89 (fun x12 => ?_)
        refine z_iload_n dX4_shout_92 rfl 2 rfl ?_
        refine z_ior dX4_shout_93 ?_
        refine z_nm (fun x13 => ?_)
        refine z_setI z_X3 (by decide) rfl rfl wf_X4_142 dX4_shout_94 ?_
        generalize z_wI m a11 7 x13 = m14
        refine z_iload_n dX4_shout_97 rfl 2 rfl ?_
        refine z_cSi (As := [.int v2]) (rest := []) (c_J6_bitCount_0f7a4 X v2 m14) mw_J6_bitCount_0f7a4 iw_J6_bitCount_0f7a4 wm_X4_132 rfl rfl (by decide) (Nat.le_of_ble_eq_true rfl) dX4_shout_98 (fun x15 m16 => ?_)
        exact z_iret dX4_shout_101
      · refine z_iload_n dX4_shout_36 rfl 3 rfl ?_
        refine z_iload_n dX4_shout_37 rfl 1 rfl ?_
        refine z_icmp_eq (tg := 50) dX4_shout_38 (by decide) ?_ ?_
        · exact z_sub (lv' := [(0, .ref (z_ad X v0)), (1, .int v1), (2, .int v2), (3, .int v3)]) [0, 1, 2, 3] rfl (s_X4_shout_L50 X (f_X4_shout_L25 n) ih v0 v1 v2 v3 m)
        · refine z_aload_n dX4_shout_41 rfl 0 rfl ?_
          refine z_iload_n dX4_shout_42 rfl 3 rfl ?_
          refine z_iload_n dX4_shout_43 rfl 1 rfl ?_
          refine z_cVi (As := [.int v3, .int v1]) (rest := []) (c_X4_heeds X v0 v3 v1 m) mw_X4_heeds iw_X4_heeds z_X4 wm_X4_138 rfl rfl (by decide) (Nat.le_of_ble_eq_true rfl) dX4_shout_44 (fun x17 m18 => ?_)
          refine z_if_eq (tg := 78) dX4_shout_47 (by decide) ?_ ?_
          · exact z_sub (lv' := [(0, .ref (z_ad X v0)), (1, .int v1), (2, .int v2), (3, .int v3)]) [0, 1, 2, 3] rfl (s_X4_shout_L78 X (f_X4_shout_L25 n) ih v0 v1 v2 v3 m18)
          · exact z_sub (lv' := [(0, .ref (z_ad X v0)), (1, .int v1), (2, .int v2), (3, .int v3)]) [0, 1, 2, 3] rfl (s_X4_shout_L50 X (f_X4_shout_L25 n) ih v0 v1 v2 v3 m18)
set_option maxRecDepth 100000 in
set_option maxHeartbeats 4000000 in
theorem s_X4_shout (X : z_X) (v0 : Nat) (v1 : Int32) (m : z_M) : z_Sim X yX4_shout cX4_shout 4 (some .int) 3 0 [(0, .ref (z_ad X v0)), (1, .int v1)] [] m (f_X4_shout v0 v1 m) := by
  unfold f_X4_shout
  refine z_aload_n dX4_shout_0 rfl 0 rfl ?_
  refine z_iload_n dX4_shout_1 rfl 1 rfl ?_
  refine z_cVi (As := [.int v1]) (rest := []) (c_X4_isMan X v0 v1 m) mw_X4_isMan iw_X4_isMan z_X4 wm_X4_91 rfl rfl (by decide) (Nat.le_of_ble_eq_true rfl) dX4_shout_2 (fun x19 m20 => ?_)
  refine z_if_ne (tg := 10) dX4_shout_5 (by decide) ?_ ?_
  · refine z_aload_n dX4_shout_10 rfl 0 rfl ?_
    refine z_getP z_X4 (j := 5) (by decide) rfl rfl wf_X4_41 dX4_shout_11 (fun a21 => ?_)
    refine z_aload_n dX4_shout_14 rfl 0 rfl ?_
    refine z_getP z_X4 (j := 3) (by decide) rfl rfl wf_X4_29 dX4_shout_15 (fun a22 => ?_)
    refine z_cVv (As := [.ref (z_ad X a22)]) (rest := []) (c_X0_put X a21 a22 m20) mw_X0_put iw_X0_put z_X0 wm_X4_117 rfl rfl (by decide) (Nat.le_of_ble_eq_true rfl) dX4_shout_18 (fun _ m23 => ?_)
    refine z_iconst (v := 0) dX4_shout_21 k_c0 ?_
    refine z_istore_n (lv' := [(2, .int 0), (0, .ref (z_ad X v0)), (1, .int v1)]) dX4_shout_22 rfl (by decide) rfl ?_
    refine z_iconst (v := 0) dX4_shout_23 k_c0 ?_
    refine z_istore_n (lv' := [(3, .int 0), (2, .int 0), (0, .ref (z_ad X v0)), (1, .int v1)]) dX4_shout_24 rfl (by decide) rfl ?_
    exact z_sub (lv' := [(0, .ref (z_ad X v0)), (1, .int v1), (2, .int 0), (3, .int 0)]) [2, 3, 1, 0] rfl (s_X4_shout_L25 X 400 v0 v1 0 0 m23)
  · refine z_iconst (v := (-1)) dX4_shout_8 k_cm1 ?_
    exact z_iret dX4_shout_9
set_option maxRecDepth 100000 in
set_option maxHeartbeats 4000000 in
theorem c_X4_shout (X : z_X) (v0 : Nat) (v1 : Int32) (m : z_M) : z_Ct X yX4_shout cX4_shout 4 (some .int) 3 [.ref (z_ad X v0), .int v1] m (f_X4_shout v0 v1 m) := z_Ct.of (by decide) (Nat.le_of_ble_eq_true rfl) (s_X4_shout X v0 v1 m)
set_option maxRecDepth 100000 in
set_option maxHeartbeats 4000000 in
theorem s_X4_turn (X : z_X) (v0 : Nat) (v1 : Int32) (v2 : Int32) (m : z_M) : z_Sim X yX4_turn cX4_turn 3 (some .int) 3 0 [(0, .ref (z_ad X v0)), (1, .int v1), (2, .int v2)] [] m (f_X4_turn v0 v1 v2 m) := by
  unfold f_X4_turn
  refine z_aload_n dX4_turn_0 rfl 0 rfl ?_
  refine z_iload_n dX4_turn_1 rfl 1 rfl ?_
  refine z_cVi (As := [.int v1]) (rest := []) (c_X4_isMan X v0 v1 m) mw_X4_isMan iw_X4_isMan z_X4 wm_X4_91 rfl rfl (by decide) (Nat.le_of_ble_eq_true rfl) dX4_turn_2 (fun x1 m2 => ?_)
  refine z_if_eq (tg := 15) dX4_turn_5 (by decide) ?_ ?_
  · refine z_iconst (v := (-1)) dX4_turn_15 k_cm1 ?_
    exact z_iret dX4_turn_16
  · refine z_iload_n dX4_turn_8 rfl 2 rfl ?_
    refine z_cSi (As := [.int v2]) (rest := []) (c_X4_isWord X v2 m2) mw_X4_isWord iw_X4_isWord wm_X4_111 rfl rfl (by decide) (Nat.le_of_ble_eq_true rfl) dX4_turn_9 (fun x3 m4 => ?_)
    refine z_if_ne (tg := 17) dX4_turn_12 (by decide) ?_ ?_
    · refine z_aload_n dX4_turn_17 rfl 0 rfl ?_
      refine z_cVv (As := []) (rest := []) (c_X4_findManners X v0 m4) mw_X4_findManners iw_X4_findManners z_X4 wm_X4_173 rfl rfl (by decide) (Nat.le_of_ble_eq_true rfl) dX4_turn_18 (fun _ m5 => ?_)
      refine z_aload_n dX4_turn_21 rfl 0 rfl ?_
      refine z_iload_n dX4_turn_22 rfl 1 rfl ?_
      refine z_iload_n dX4_turn_23 rfl 2 rfl ?_
      refine z_cVi (As := [.int v1, .int v2]) (rest := []) (c_X4_facingForeseen X v0 v1 v2 m5) mw_X4_facingForeseen iw_X4_facingForeseen z_X4 wm_X4_183 rfl rfl (by decide) (Nat.le_of_ble_eq_true rfl) dX4_turn_24 (fun x6 m7 => ?_)
      exact z_iret dX4_turn_27
    · refine z_iconst (v := (-1)) dX4_turn_15 k_cm1 ?_
      exact z_iret dX4_turn_16
set_option maxRecDepth 100000 in
set_option maxHeartbeats 4000000 in
theorem c_X4_turn (X : z_X) (v0 : Nat) (v1 : Int32) (v2 : Int32) (m : z_M) : z_Ct X yX4_turn cX4_turn 3 (some .int) 3 [.ref (z_ad X v0), .int v1, .int v2] m (f_X4_turn v0 v1 v2 m) := z_Ct.of (by decide) (Nat.le_of_ble_eq_true rfl) (s_X4_turn X v0 v1 v2 m)
set_option maxRecDepth 100000 in
set_option maxHeartbeats 4000000 in
theorem s_X4_undo (X : z_X) (v0 : Nat) (m : z_M) : z_Sim X yX4_undo cX4_undo 1 (some .int) 3 0 [(0, .ref (z_ad X v0))] [] m (f_X4_undo v0 m) := by
  unfold f_X4_undo
  refine z_aload_n dX4_undo_0 rfl 0 rfl ?_
  refine z_getP z_X4 (j := 5) (by decide) rfl rfl wf_X4_41 dX4_undo_1 (fun a1 => ?_)
  refine z_aload_n dX4_undo_4 rfl 0 rfl ?_
  refine z_getP z_X4 (j := 3) (by decide) rfl rfl wf_X4_29 dX4_undo_5 (fun a2 => ?_)
  refine z_cVi (As := [.ref (z_ad X a2)]) (rest := []) (c_X0_takeTop X a1 a2 m) mw_X0_takeTop iw_X0_takeTop z_X0 wm_X4_151 rfl rfl (by decide) (Nat.le_of_ble_eq_true rfl) dX4_undo_8 (fun x3 m4 => ?_)
  refine z_if_eq (tg := 24) dX4_undo_11 (by decide) ?_ ?_
  · refine z_bipush (v := (-2)) dX4_undo_24 k_bim2 ?_
    exact z_iret dX4_undo_26
  · refine z_aload_n dX4_undo_14 rfl 0 rfl ?_
    refine z_getP z_X4 (j := 5) (by decide) rfl rfl wf_X4_41 dX4_undo_15 (fun a5 => ?_)
    refine z_getI z_X0 (j := 1) (by decide) rfl rfl wf_X4_155 dX4_undo_18 (fun x6 => ?_)
    refine z_goto (tg := 26) dX4_undo_21 (by decide) ?_
    exact z_iret dX4_undo_26
set_option maxRecDepth 100000 in
set_option maxHeartbeats 4000000 in
theorem c_X4_undo (X : z_X) (v0 : Nat) (m : z_M) : z_Ct X yX4_undo cX4_undo 1 (some .int) 3 [.ref (z_ad X v0)] m (f_X4_undo v0 m) := z_Ct.of (by decide) (Nat.le_of_ble_eq_true rfl) (s_X4_undo X v0 m)
set_option maxRecDepth 100000 in
set_option maxHeartbeats 4000000 in
theorem s_X4_which_L52 (X : z_X) (h28 : Nat → Int32 → Int32 → Int32 → Int32 → z_M → z_R) (H28 : ∀ (w0 : Nat) (w1 : Int32) (w2 : Int32) (w3 : Int32) (w4 : Int32) (w : z_M), z_Sim X yX4_which cX4_which 5 (some .int) 3 28 [(0, .ref (z_ad X w0)), (1, .int w1), (2, .int w2), (3, .int w3), (4, .int w4)] [] w (h28 w0 w1 w2 w3 w4 w)) (v0 : Nat) (v1 : Int32) (v2 : Int32) (v3 : Int32) (v4 : Int32) (m : z_M) : z_Sim X yX4_which cX4_which 5 (some .int) 3 52 [(0, .ref (z_ad X v0)), (1, .int v1), (2, .int v2), (3, .int v3), (4, .int v4)] [] m (f_X4_which_L52 h28 v0 v1 v2 v3 v4 m) := by
  unfold f_X4_which_L52
  refine z_iinc (k := 4) (lv' := [(4, .int (v4 + 1)), (0, .ref (z_ad X v0)), (1, .int v1), (2, .int v2), (3, .int v3)]) dX4_which_52 rfl (k_i1 _) (by decide) rfl ?_
  refine z_goto (tg := 28) dX4_which_55 (by decide) ?_
  exact z_sub (lv' := [(0, .ref (z_ad X v0)), (1, .int v1), (2, .int v2), (3, .int v3), (4, .int (v4 + 1))]) [1, 2, 3, 4, 0] rfl (H28 v0 v1 v2 v3 (v4 + 1) m)
set_option maxRecDepth 100000 in
set_option maxHeartbeats 4000000 in
theorem s_X4_which_L28 (X : z_X) : ∀ (n : Nat) (v0 : Nat) (v1 : Int32) (v2 : Int32) (v3 : Int32) (v4 : Int32) (m : z_M), z_Sim X yX4_which cX4_which 5 (some .int) 3 28 [(0, .ref (z_ad X v0)), (1, .int v1), (2, .int v2), (3, .int v3), (4, .int v4)] [] m (f_X4_which_L28 n v0 v1 v2 v3 v4 m) := by
  intro n
  induction n with
  | zero => intros; exact z_none
  | succ n ih =>
      intro v0 v1 v2 v3 v4 m
      unfold f_X4_which_L28
      refine z_iload dX4_which_28 4 rfl ?_
      refine z_iconst (v := 3) dX4_which_30 k_c3 ?_
      refine z_icmp_ge (tg := 58) dX4_which_31 (by decide) ?_ ?_
      · refine z_iload_n dX4_which_58 rfl 3 rfl ?_
        exact z_iret dX4_which_59
      · refine z_aload_n dX4_which_34 rfl 0 rfl ?_
        refine z_iload_n dX4_which_35 rfl 1 rfl ?_
        refine z_iload dX4_which_36 4 rfl ?_
        refine z_cVi (As := [.int v1, .int v4]) (rest := []) (c_X4_facingForeseen X v0 v1 v4 m) mw_X4_facingForeseen iw_X4_facingForeseen z_X4 wm_X4_183 rfl rfl (by decide) (Nat.le_of_ble_eq_true rfl) dX4_which_38 (fun x1 m2 => ?_)
        refine z_iload_n dX4_which_41 rfl 2 rfl ?_
        refine z_icmp_ne (tg := 52) dX4_which_42 (by decide) ?_ ?_
        · exact z_sub (lv' := [(0, .ref (z_ad X v0)), (1, .int v1), (2, .int v2), (3, .int v3), (4, .int v4)]) [0, 1, 2, 3, 4] rfl (s_X4_which_L52 X (f_X4_which_L28 n) ih v0 v1 v2 v3 v4 m2)
        · refine z_iload_n dX4_which_45 rfl 3 rfl ?_
          refine z_iconst (v := 1) dX4_which_46 k_c1 ?_
          refine z_iload dX4_which_47 4 rfl ?_
          refine z_ishl dX4_which_49 ?_
          refine z_ior dX4_which_50 ?_
          refine z_nm (fun x3 => ?_)
          refine z_istore_n (lv' := [(3, .int x3), (0, .ref (z_ad X v0)), (1, .int v1), (2, .int v2), (4, .int v4)]) dX4_which_51 rfl (by decide) rfl ?_
          exact z_sub (lv' := [(0, .ref (z_ad X v0)), (1, .int v1), (2, .int v2), (3, .int x3), (4, .int v4)]) [1, 2, 3, 0, 4] rfl (s_X4_which_L52 X (f_X4_which_L28 n) ih v0 v1 v2 x3 v4 m2)
set_option maxRecDepth 100000 in
set_option maxHeartbeats 4000000 in
theorem s_X4_which (X : z_X) (v0 : Nat) (v1 : Int32) (v2 : Int32) (m : z_M) : z_Sim X yX4_which cX4_which 5 (some .int) 3 0 [(0, .ref (z_ad X v0)), (1, .int v1), (2, .int v2)] [] m (f_X4_which v0 v1 v2 m) := by
  unfold f_X4_which
  refine z_aload_n dX4_which_0 rfl 0 rfl ?_
  refine z_iload_n dX4_which_1 rfl 1 rfl ?_
  refine z_cVi (As := [.int v1]) (rest := []) (c_X4_isMan X v0 v1 m) mw_X4_isMan iw_X4_isMan z_X4 wm_X4_91 rfl rfl (by decide) (Nat.le_of_ble_eq_true rfl) dX4_which_2 (fun x4 m5 => ?_)
  refine z_if_eq (tg := 17) dX4_which_5 (by decide) ?_ ?_
  · refine z_iconst (v := (-1)) dX4_which_17 k_cm1 ?_
    exact z_iret dX4_which_18
  · refine z_iload_n dX4_which_8 rfl 2 rfl ?_
    refine z_if_lt (tg := 17) dX4_which_9 (by decide) ?_ ?_
    · refine z_iconst (v := (-1)) dX4_which_17 k_cm1 ?_
      exact z_iret dX4_which_18
    · refine z_iload_n dX4_which_12 rfl 2 rfl ?_
      refine z_iconst (v := 4) dX4_which_13 k_c4 ?_
      refine z_icmp_lt (tg := 19) dX4_which_14 (by decide) ?_ ?_
      · refine z_aload_n dX4_which_19 rfl 0 rfl ?_
        refine z_cVv (As := []) (rest := []) (c_X4_findManners X v0 m5) mw_X4_findManners iw_X4_findManners z_X4 wm_X4_173 rfl rfl (by decide) (Nat.le_of_ble_eq_true rfl) dX4_which_20 (fun _ m6 => ?_)
        refine z_iconst (v := 0) dX4_which_23 k_c0 ?_
        refine z_istore_n (lv' := [(3, .int 0), (0, .ref (z_ad X v0)), (1, .int v1), (2, .int v2)]) dX4_which_24 rfl (by decide) rfl ?_
        refine z_iconst (v := 0) dX4_which_25 k_c0 ?_
        refine z_istore (lv' := [(4, .int 0), (3, .int 0), (0, .ref (z_ad X v0)), (1, .int v1), (2, .int v2)]) dX4_which_26 (by decide) rfl ?_
        exact z_sub (lv' := [(0, .ref (z_ad X v0)), (1, .int v1), (2, .int v2), (3, .int 0), (4, .int 0)]) [2, 3, 4, 1, 0] rfl (s_X4_which_L28 X 400 v0 v1 v2 0 0 m6)
      · refine z_iconst (v := (-1)) dX4_which_17 k_cm1 ?_
        exact z_iret dX4_which_18
set_option maxRecDepth 100000 in
set_option maxHeartbeats 4000000 in
theorem c_X4_which (X : z_X) (v0 : Nat) (v1 : Int32) (v2 : Int32) (m : z_M) : z_Ct X yX4_which cX4_which 5 (some .int) 3 [.ref (z_ad X v0), .int v1, .int v2] m (f_X4_which v0 v1 v2 m) := z_Ct.of (by decide) (Nat.le_of_ble_eq_true rfl) (s_X4_which X v0 v1 v2 m)
set_option maxRecDepth 100000 in
set_option maxHeartbeats 4000000 in
theorem s_X4_who (X : z_X) (v0 : Nat) (v1 : Int32) (m : z_M) : z_Sim X yX4_who cX4_who 2 (some .int) 2 0 [(0, .ref (z_ad X v0)), (1, .int v1)] [] m (f_X4_who v0 v1 m) := by
  unfold f_X4_who
  refine z_iload_n dX4_who_0 rfl 1 rfl ?_
  refine z_if (fun h0 => ?_) (fun h0 => ?_)
  · refine z_swIn (tg := 28) dX4_who_1 (by rw [h0]; decide) (by rw [h0]; decide) (by rw [h0]; rfl) (by decide) ?_
    refine z_aload_n dX4_who_28 rfl 0 rfl ?_
    refine z_aload_n dX4_who_29 rfl 0 rfl ?_
    refine z_getP z_X4 (j := 3) (by decide) rfl rfl wf_X4_29 dX4_who_30 (fun a1 => ?_)
    refine z_cVi (As := [.ref (z_ad X a1)]) (rest := []) (c_X4_wrongMen X v0 a1 m) mw_X4_wrongMen iw_X4_wrongMen z_X4 wm_X4_128 rfl rfl (by decide) (Nat.le_of_ble_eq_true rfl) dX4_who_33 (fun x2 m3 => ?_)
    exact z_iret dX4_who_36
  refine z_if (fun h1 => ?_) (fun h1 => ?_)
  · refine z_swIn (tg := 37) dX4_who_1 (by rw [h1]; decide) (by rw [h1]; decide) (by rw [h1]; rfl) (by decide) ?_
    refine z_aload_n dX4_who_37 rfl 0 rfl ?_
    refine z_getP z_X4 (j := 3) (by decide) rfl rfl wf_X4_29 dX4_who_38 (fun a4 => ?_)
    refine z_getI z_X3 (j := 6) (by decide) rfl rfl wf_X4_158 dX4_who_41 (fun x5 => ?_)
    refine z_aload_n dX4_who_44 rfl 0 rfl ?_
    refine z_getP z_X4 (j := 3) (by decide) rfl rfl wf_X4_29 dX4_who_45 (fun a6 => ?_)
    refine z_getI z_X3 (j := 7) (by decide) rfl rfl wf_X4_142 dX4_who_48 (fun x7 => ?_)
    refine z_ior dX4_who_51 ?_
    refine z_aload_n dX4_who_52 rfl 0 rfl ?_
    refine z_aload_n dX4_who_53 rfl 0 rfl ?_
    refine z_getP z_X4 (j := 3) (by decide) rfl rfl wf_X4_29 dX4_who_54 (fun a8 => ?_)
    refine z_cVi (As := [.ref (z_ad X a8)]) (rest := [.int (x5 ||| x7)]) (c_X4_wrongMen X v0 a8 m) mw_X4_wrongMen iw_X4_wrongMen z_X4 wm_X4_128 rfl rfl (by decide) (Nat.le_of_ble_eq_true rfl) dX4_who_57 (fun x9 m10 => ?_)
    refine z_iconst (v := (-1)) dX4_who_60 k_cm1 ?_
    refine z_ixor dX4_who_61 ?_
    refine z_iand dX4_who_62 ?_
    exact z_iret dX4_who_63
  refine z_if (fun h2 => ?_) (fun h2 => ?_)
  · refine z_swIn (tg := 64) dX4_who_1 (by rw [h2]; decide) (by rw [h2]; decide) (by rw [h2]; rfl) (by decide) ?_
    refine z_aload_n dX4_who_64 rfl 0 rfl ?_
    refine z_getP z_X4 (j := 3) (by decide) rfl rfl wf_X4_29 dX4_who_65 (fun a11 => ?_)
    refine z_getI z_X3 (j := 6) (by decide) rfl rfl wf_X4_158 dX4_who_68 (fun x12 => ?_)
    exact z_iret dX4_who_71
  refine z_swOut (tg := 72) dX4_who_1 (z_sw2 h0 h1 h2) (by decide) ?_
  refine z_iconst (v := (-1)) dX4_who_72 k_cm1 ?_
  exact z_iret dX4_who_73
set_option maxRecDepth 100000 in
set_option maxHeartbeats 4000000 in
theorem c_X4_who (X : z_X) (v0 : Nat) (v1 : Int32) (m : z_M) : z_Ct X yX4_who cX4_who 2 (some .int) 2 [.ref (z_ad X v0), .int v1] m (f_X4_who v0 v1 m) := z_Ct.of (by decide) (Nat.le_of_ble_eq_true rfl) (s_X4_who X v0 v1 m)
set_option maxRecDepth 100000 in
set_option maxHeartbeats 4000000 in
theorem s_X4_wipe (X : z_X) (v0 : Nat) (m : z_M) : z_Sim X yX4_wipe cX4_wipe 2 (some .int) 1 0 [(0, .ref (z_ad X v0))] [] m (f_X4_wipe v0 m) := by
  unfold f_X4_wipe
  refine z_aload_n dX4_wipe_0 rfl 0 rfl ?_
  refine z_getP z_X4 (j := 0) (by decide) rfl rfl wf_X4_10 dX4_wipe_1 (fun a1 => ?_)
  refine z_getI z_X1 (j := 1) (by decide) rfl rfl wf_X4_81 dX4_wipe_4 (fun x2 => ?_)
  refine z_istore_n (lv' := [(1, .int x2), (0, .ref (z_ad X v0))]) dX4_wipe_7 rfl (by decide) rfl ?_
  refine z_aload_n dX4_wipe_8 rfl 1 rfl ?_
  refine z_getP z_X4 (j := 0) (by decide) rfl rfl wf_X4_10 dX4_wipe_9 (fun a3 => ?_)
  refine z_cVv (As := []) (rest := []) (c_X1_clear X a3 m) mw_X1_clear iw_X1_clear z_X1 wm_X4_78 rfl rfl (by decide) (Nat.le_of_ble_eq_true rfl) dX4_wipe_12 (fun _ m4 => ?_)
  refine z_iload_n dX4_wipe_15 rfl 0 rfl ?_
  exact z_iret dX4_wipe_16
set_option maxRecDepth 100000 in
set_option maxHeartbeats 4000000 in
theorem c_X4_wipe (X : z_X) (v0 : Nat) (m : z_M) : z_Ct X yX4_wipe cX4_wipe 2 (some .int) 1 [.ref (z_ad X v0)] m (f_X4_wipe v0 m) := z_Ct.of (by decide) (Nat.le_of_ble_eq_true rfl) (s_X4_wipe X v0 m)
set_option maxRecDepth 100000 in
set_option maxHeartbeats 4000000 in
theorem s_X4_word (X : z_X) (v0 : Nat) (v1 : Int32) (m : z_M) : z_Sim X yX4_word cX4_word 2 (some .int) 3 0 [(0, .ref (z_ad X v0)), (1, .int v1)] [] m (f_X4_word v0 v1 m) := by
  unfold f_X4_word
  refine z_iload_n dX4_word_0 rfl 1 rfl ?_
  refine z_cSi (As := [.int v1]) (rest := []) (c_X4_isWord X v1 m) mw_X4_isWord iw_X4_isWord wm_X4_111 rfl rfl (by decide) (Nat.le_of_ble_eq_true rfl) dX4_word_1 (fun x1 m2 => ?_)
  refine z_if_ne (tg := 9) dX4_word_4 (by decide) ?_ ?_
  · refine z_aload_n dX4_word_9 rfl 0 rfl ?_
    refine z_getP z_X4 (j := 3) (by decide) rfl rfl wf_X4_29 dX4_word_10 (fun a3 => ?_)
    refine z_getI z_X3 (j := 3) (by decide) rfl rfl wf_X4_114 dX4_word_13 (fun x4 => ?_)
    refine z_sipush (v := 999) dX4_word_16 k_si999 ?_
    refine z_icmp_lt (tg := 25) dX4_word_19 (by decide) ?_ ?_
    · refine z_aload_n dX4_word_25 rfl 0 rfl ?_
      refine z_getP z_X4 (j := 5) (by decide) rfl rfl wf_X4_41 dX4_word_26 (fun a5 => ?_)
      refine z_aload_n dX4_word_29 rfl 0 rfl ?_
      refine z_getP z_X4 (j := 3) (by decide) rfl rfl wf_X4_29 dX4_word_30 (fun a6 => ?_)
      refine z_cVv (As := [.ref (z_ad X a6)]) (rest := []) (c_X0_put X a5 a6 m2) mw_X0_put iw_X0_put z_X0 wm_X4_117 rfl rfl (by decide) (Nat.le_of_ble_eq_true rfl) dX4_word_33 (fun _ m7 => ?_)
      refine z_aload_n dX4_word_36 rfl 0 rfl ?_
      refine z_cVv (As := []) (rest := []) (c_X4_findLeaders X v0 m7) mw_X4_findLeaders iw_X4_findLeaders z_X4 wm_X4_121 rfl rfl (by decide) (Nat.le_of_ble_eq_true rfl) dX4_word_37 (fun _ m8 => ?_)
      refine z_aload_n dX4_word_40 rfl 0 rfl ?_
      refine z_aload_n dX4_word_41 rfl 0 rfl ?_
      refine z_getP z_X4 (j := 3) (by decide) rfl rfl wf_X4_29 dX4_word_42 (fun a9 => ?_)
      refine z_iload_n dX4_word_45 rfl 1 rfl ?_
      refine z_cVv (As := [.ref (z_ad X a9), .int v1]) (rest := []) (c_X4_say X v0 a9 v1 m8) mw_X4_say iw_X4_say z_X4 wm_X4_124 rfl rfl (by decide) (Nat.le_of_ble_eq_true rfl) dX4_word_46 (fun _ m10 => ?_)
      refine z_aload_n dX4_word_49 rfl 0 rfl ?_
      refine z_aload_n dX4_word_50 rfl 0 rfl ?_
      refine z_getP z_X4 (j := 3) (by decide) rfl rfl wf_X4_29 dX4_word_51 (fun a11 => ?_)
      refine z_cVi (As := [.ref (z_ad X a11)]) (rest := []) (c_X4_wrongMen X v0 a11 m10) mw_X4_wrongMen iw_X4_wrongMen z_X4 wm_X4_128 rfl rfl (by decide) (Nat.le_of_ble_eq_true rfl) dX4_word_54 (fun x12 m13 => ?_)
      refine z_cSi (As := [.int x12]) (rest := []) (c_J6_bitCount_0f7a4 X x12 m13) mw_J6_bitCount_0f7a4 iw_J6_bitCount_0f7a4 wm_X4_132 rfl rfl (by decide) (Nat.le_of_ble_eq_true rfl) dX4_word_57 (fun x14 m15 => ?_)
      exact z_iret dX4_word_60
    · refine z_bipush (v := (-2)) dX4_word_22 k_bim2 ?_
      exact z_iret dX4_word_24
  · refine z_iconst (v := (-1)) dX4_word_7 k_cm1 ?_
    exact z_iret dX4_word_8
set_option maxRecDepth 100000 in
set_option maxHeartbeats 4000000 in
theorem c_X4_word (X : z_X) (v0 : Nat) (v1 : Int32) (m : z_M) : z_Ct X yX4_word cX4_word 2 (some .int) 3 [.ref (z_ad X v0), .int v1] m (f_X4_word v0 v1 m) := z_Ct.of (by decide) (Nat.le_of_ble_eq_true rfl) (s_X4_word X v0 v1 m)
set_option maxRecDepth 100000 in
set_option maxHeartbeats 4000000 in
theorem s_X4_write (X : z_X) (v0 : Nat) (v1 : Int32) (m : z_M) : z_Sim X yX4_write cX4_write 2 (some .int) 1 0 [(0, .ref (z_ad X v0)), (1, .int v1)] [] m (f_X4_write v0 v1 m) := by
  unfold f_X4_write
  refine z_iload_n dX4_write_0 rfl 1 rfl ?_
  refine z_bipush (v := 32) dX4_write_1 k_bi32 ?_
  refine z_icmp_lt (tg := 12) dX4_write_3 (by decide) ?_ ?_
  · refine z_iconst (v := (-1)) dX4_write_12 k_cm1 ?_
    exact z_iret dX4_write_13
  · refine z_iload_n dX4_write_6 rfl 1 rfl ?_
    refine z_bipush (v := 126) dX4_write_7 k_bi126 ?_
    refine z_icmp_le (tg := 14) dX4_write_9 (by decide) ?_ ?_
    · refine z_aload_n dX4_write_14 rfl 0 rfl ?_
      refine z_getP z_X4 (j := 0) (by decide) rfl rfl wf_X4_10 dX4_write_15 (fun a1 => ?_)
      refine z_iload_n dX4_write_18 rfl 1 rfl ?_
      refine z_i2c dX4_write_19 ?_
      refine z_cVi (As := [.int ((Int32.toUInt32 v1 % 65536).toInt32)]) (rest := []) (c_X1_add X a1 ((Int32.toUInt32 v1 % 65536).toInt32) m) mw_X1_add iw_X1_add z_X1 wm_X4_70 rfl rfl (by decide) (Nat.le_of_ble_eq_true rfl) dX4_write_20 (fun x2 m3 => ?_)
      refine z_if_eq (tg := 36) dX4_write_23 (by decide) ?_ ?_
      · refine z_bipush (v := (-3)) dX4_write_36 k_bim3 ?_
        exact z_iret dX4_write_38
      · refine z_aload_n dX4_write_26 rfl 0 rfl ?_
        refine z_getP z_X4 (j := 0) (by decide) rfl rfl wf_X4_10 dX4_write_27 (fun a4 => ?_)
        refine z_getI z_X1 (j := 1) (by decide) rfl rfl wf_X4_81 dX4_write_30 (fun x5 => ?_)
        refine z_goto (tg := 38) dX4_write_33 (by decide) ?_
        exact z_iret dX4_write_38
    · refine z_iconst (v := (-1)) dX4_write_12 k_cm1 ?_
      exact z_iret dX4_write_13
set_option maxRecDepth 100000 in
set_option maxHeartbeats 4000000 in
theorem c_X4_write (X : z_X) (v0 : Nat) (v1 : Int32) (m : z_M) : z_Ct X yX4_write cX4_write 2 (some .int) 1 [.ref (z_ad X v0), .int v1] m (f_X4_write v0 v1 m) := z_Ct.of (by decide) (Nat.le_of_ble_eq_true rfl) (s_X4_write X v0 v1 m)
