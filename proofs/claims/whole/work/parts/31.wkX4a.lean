set_option maxRecDepth 100000 in
set_option maxHeartbeats 4000000 in
theorem s_X4_turnBy (X : z_X) (v0 : Int32) (v1 : Int32) (v2 : Int32) (m : z_M) : z_Sim X yX4_turnBy cX4_turnBy 3 (some .int) 0 0 [(0, .int v0), (1, .int v1), (2, .int v2)] [] m (f_X4_turnBy v0 v1 v2 m) := by
  unfold f_X4_turnBy
  refine z_iload_n dX4_turnBy_0 rfl 0 rfl ?_
  refine z_iconst (v := 2) dX4_turnBy_1 k_c2 ?_
  refine z_icmp_ne (tg := 7) dX4_turnBy_2 (by decide) ?_ ?_
  · refine z_iload_n dX4_turnBy_7 rfl 0 rfl ?_
    refine z_iconst (v := 1) dX4_turnBy_8 k_c1 ?_
    refine z_icmp_ne (tg := 18) dX4_turnBy_9 (by decide) ?_ ?_
    · refine z_iload_n dX4_turnBy_18 rfl 1 rfl ?_
      exact z_iret dX4_turnBy_19
    · refine z_iconst (v := 4) dX4_turnBy_12 k_c4 ?_
      refine z_iload_n dX4_turnBy_13 rfl 1 rfl ?_
      refine z_isub dX4_turnBy_14 ?_
      refine z_goto (tg := 19) dX4_turnBy_15 (by decide) ?_
      exact z_iret dX4_turnBy_19
  · refine z_iload_n dX4_turnBy_5 rfl 2 rfl ?_
    exact z_iret dX4_turnBy_6
set_option maxRecDepth 100000 in
set_option maxHeartbeats 4000000 in
theorem c_X4_turnBy (X : z_X) (v0 : Int32) (v1 : Int32) (v2 : Int32) (m : z_M) : z_Ct X yX4_turnBy cX4_turnBy 3 (some .int) 0 [.int v0, .int v1, .int v2] m (f_X4_turnBy v0 v1 v2 m) := z_Ct.of (by decide) (Nat.le_of_ble_eq_true rfl) (s_X4_turnBy X v0 v1 v2 m)
set_option maxRecDepth 100000 in
set_option maxHeartbeats 4000000 in
theorem s_X4_addUpRow_L60 (X : z_X) (h16 : Nat → Int32 → Int32 → Int32 → Int32 → Int32 → z_M → z_R) (H16 : ∀ (w0 : Nat) (w3 : Int32) (w4 : Int32) (w5 : Int32) (w6 : Int32) (w7 : Int32) (w : z_M), z_Sim X yX4_addUpRow cX4_addUpRow 10 none 1 16 [(0, .ref (z_ad X w0)), (3, .int w3), (4, .int w4), (5, .int w5), (6, .int w6), (7, .int w7)] [] w (h16 w0 w3 w4 w5 w6 w7 w)) (v0 : Nat) (v3 : Int32) (v4 : Int32) (v5 : Int32) (v6 : Int32) (v7 : Int32) (v8 : Int32) (s0 : Int32) (m : z_M) : z_Sim X yX4_addUpRow cX4_addUpRow 10 none 1 60 [(0, .ref (z_ad X v0)), (3, .int v3), (4, .int v4), (5, .int v5), (6, .int v6), (7, .int v7), (8, .int v8)] [.int s0] m (f_X4_addUpRow_L60 h16 v0 v3 v4 v5 v6 v7 v8 s0 m) := by
  unfold f_X4_addUpRow_L60
  refine z_istore (lv' := [(9, .int s0), (0, .ref (z_ad X v0)), (3, .int v3), (4, .int v4), (5, .int v5), (6, .int v6), (7, .int v7), (8, .int v8)]) dX4_addUpRow_60 (by decide) rfl ?_
  refine z_iload_n dX4_addUpRow_62 rfl 2 rfl ?_
  refine z_iconst (v := 0) dX4_addUpRow_63 k_c0 ?_
  refine z_iload dX4_addUpRow_64 7 rfl ?_
  refine z_iload dX4_addUpRow_66 0 rfl ?_
  refine z_cSi (As := [.int 0, .int v8, .int s0]) (rest := [.int v3]) (c_X4_turnBy X 0 v8 s0 m) mw_X4_turnBy iw_X4_turnBy wm_X4_253 rfl rfl (by decide) (Nat.le_of_ble_eq_true rfl) dX4_addUpRow_68 (fun x1 m2 => ?_)
  refine z_iadd dX4_addUpRow_71 ?_
  refine z_nm (fun x3 => ?_)
  refine z_istore_n (lv' := [(3, .int x3), (9, .int s0), (0, .ref (z_ad X v0)), (4, .int v4), (5, .int v5), (6, .int v6), (7, .int v7), (8, .int v8)]) dX4_addUpRow_72 rfl (by decide) rfl ?_
  refine z_iload dX4_addUpRow_73 3 rfl ?_
  refine z_iconst (v := 1) dX4_addUpRow_75 k_c1 ?_
  refine z_iload dX4_addUpRow_76 7 rfl ?_
  refine z_iload dX4_addUpRow_78 1 rfl ?_
  refine z_cSi (As := [.int 1, .int v8, .int s0]) (rest := [.int v4]) (c_X4_turnBy X 1 v8 s0 m2) mw_X4_turnBy iw_X4_turnBy wm_X4_253 rfl rfl (by decide) (Nat.le_of_ble_eq_true rfl) dX4_addUpRow_80 (fun x4 m5 => ?_)
  refine z_iadd dX4_addUpRow_83 ?_
  refine z_nm (fun x6 => ?_)
  refine z_istore (lv' := [(4, .int x6), (3, .int x3), (9, .int s0), (0, .ref (z_ad X v0)), (5, .int v5), (6, .int v6), (7, .int v7), (8, .int v8)]) dX4_addUpRow_84 (by decide) rfl ?_
  refine z_iload dX4_addUpRow_86 4 rfl ?_
  refine z_iconst (v := 2) dX4_addUpRow_88 k_c2 ?_
  refine z_iload dX4_addUpRow_89 7 rfl ?_
  refine z_iload dX4_addUpRow_91 2 rfl ?_
  refine z_cSi (As := [.int 2, .int v8, .int s0]) (rest := [.int v5]) (c_X4_turnBy X 2 v8 s0 m5) mw_X4_turnBy iw_X4_turnBy wm_X4_253 rfl rfl (by decide) (Nat.le_of_ble_eq_true rfl) dX4_addUpRow_93 (fun x7 m8 => ?_)
  refine z_iadd dX4_addUpRow_96 ?_
  refine z_nm (fun x9 => ?_)
  refine z_istore (lv' := [(5, .int x9), (4, .int x6), (3, .int x3), (9, .int s0), (0, .ref (z_ad X v0)), (6, .int v6), (7, .int v7), (8, .int v8)]) dX4_addUpRow_97 (by decide) rfl ?_
  refine z_iinc (k := 6) (lv' := [(7, .int (v7 + (-1))), (5, .int x9), (4, .int x6), (3, .int x3), (9, .int s0), (0, .ref (z_ad X v0)), (6, .int v6), (8, .int v8)]) dX4_addUpRow_99 rfl (k_im1 _) (by decide) rfl ?_
  refine z_goto (tg := 16) dX4_addUpRow_102 (by decide) ?_
  exact z_sub (lv' := [(0, .ref (z_ad X v0)), (3, .int x3), (4, .int x6), (5, .int x9), (6, .int v6), (7, .int (v7 + (-1)))]) [5, 3, 2, 1, 6, 0] rfl (H16 v0 x3 x6 x9 v6 (v7 + (-1)) m8)
set_option maxRecDepth 100000 in
set_option maxHeartbeats 4000000 in
theorem s_X4_addUpRow_L16 (X : z_X) : ∀ (n : Nat) (v0 : Nat) (v3 : Int32) (v4 : Int32) (v5 : Int32) (v6 : Int32) (v7 : Int32) (m : z_M), z_Sim X yX4_addUpRow cX4_addUpRow 10 none 1 16 [(0, .ref (z_ad X v0)), (3, .int v3), (4, .int v4), (5, .int v5), (6, .int v6), (7, .int v7)] [] m (f_X4_addUpRow_L16 n v0 v3 v4 v5 v6 v7 m) := by
  intro n
  induction n with
  | zero => intros; exact z_none
  | succ n ih =>
      intro v0 v3 v4 v5 v6 v7 m
      unfold f_X4_addUpRow_L16
      refine z_iload dX4_addUpRow_16 5 rfl ?_
      refine z_if_lt (tg := 105) dX4_addUpRow_18 (by decide) ?_ ?_
      · refine z_aload_n dX4_addUpRow_105 rfl 0 rfl ?_
        refine z_getP z_X4 (j := 9) (by decide) rfl rfl wf_X4_55 dX4_addUpRow_106 (fun a10 => ?_)
        refine z_iconst (v := 0) dX4_addUpRow_109 k_c0 ?_
        refine z_iload_n dX4_addUpRow_110 rfl 1 rfl ?_
        refine z_iast dX4_addUpRow_111 ?_
        generalize z_wI m a10 (Int32.toNatClampNeg 0) v3 = m11
        refine z_aload_n dX4_addUpRow_112 rfl 0 rfl ?_
        refine z_getP z_X4 (j := 9) (by decide) rfl rfl wf_X4_55 dX4_addUpRow_113 (fun a12 => ?_)
        refine z_iconst (v := 1) dX4_addUpRow_116 k_c1 ?_
        refine z_iload dX4_addUpRow_117 2 rfl ?_
        refine z_iast dX4_addUpRow_119 ?_
        generalize z_wI m11 a12 (Int32.toNatClampNeg 1) v4 = m13
        refine z_aload_n dX4_addUpRow_120 rfl 0 rfl ?_
        refine z_getP z_X4 (j := 9) (by decide) rfl rfl wf_X4_55 dX4_addUpRow_121 (fun a14 => ?_)
        refine z_iconst (v := 2) dX4_addUpRow_124 k_c2 ?_
        refine z_iload dX4_addUpRow_125 3 rfl ?_
        refine z_iast dX4_addUpRow_127 ?_
        generalize z_wI m13 a14 (Int32.toNatClampNeg 2) v5 = m15
        exact z_vret dX4_addUpRow_128
      · refine z_gets0 wf_X4_186 dX4_addUpRow_21 ?_
        refine z_iload dX4_addUpRow_24 4 rfl ?_
        refine z_iconst (v := 3) dX4_addUpRow_26 k_c3 ?_
        refine z_irem dX4_addUpRow_27 (by decide) ?_
        refine z_tald (t := 0) (by decide) dX4_addUpRow_28 (fun x16 => ?_)
        refine z_istore (lv' := [(8, .int x16), (0, .ref (z_ad X v0)), (3, .int v3), (4, .int v4), (5, .int v5), (6, .int v6), (7, .int v7)]) dX4_addUpRow_29 (by decide) rfl ?_
        refine z_iload dX4_addUpRow_31 5 rfl ?_
        refine z_iconst (v := 3) dX4_addUpRow_33 k_c3 ?_
        refine z_idiv dX4_addUpRow_34 (by decide) ?_
        refine z_nm (fun x17 => ?_)
        refine z_istore (lv' := [(6, .int x17), (8, .int x16), (0, .ref (z_ad X v0)), (3, .int v3), (4, .int v4), (5, .int v5), (7, .int v7)]) dX4_addUpRow_35 (by decide) rfl ?_
        refine z_iload dX4_addUpRow_37 6 rfl ?_
        refine z_if_ne (tg := 52) dX4_addUpRow_39 (by decide) ?_ ?_
        · refine z_gets0 wf_X4_186 dX4_addUpRow_52 ?_
          refine z_iload dX4_addUpRow_55 0 rfl ?_
          refine z_iconst (v := 3) dX4_addUpRow_57 k_c3 ?_
          refine z_irem dX4_addUpRow_58 (by decide) ?_
          refine z_tald (t := 0) (by decide) dX4_addUpRow_59 (fun x18 => ?_)
          exact z_sub (lv' := [(0, .ref (z_ad X v0)), (3, .int v3), (4, .int v4), (5, .int v5), (6, .int x17), (7, .int v7), (8, .int x16)]) [2, 3, 4, 5, 0, 6, 1] rfl (s_X4_addUpRow_L60 X (f_X4_addUpRow_L16 n) ih v0 v3 v4 v5 x17 v7 x16 x18 m)
        · refine z_aload_n dX4_addUpRow_42 rfl 2 rfl ?_
          refine z_getP z_X4 (j := 3) (by decide) rfl rfl wf_X4_29 dX4_addUpRow_43 (fun a19 => ?_)
          refine z_getI z_X3 (j := 4) (by decide) rfl rfl wf_X4_250 dX4_addUpRow_46 (fun x20 => ?_)
          refine z_goto (tg := 60) dX4_addUpRow_49 (by decide) ?_
          exact z_sub (lv' := [(0, .ref (z_ad X v0)), (3, .int v3), (4, .int v4), (5, .int v5), (6, .int x17), (7, .int v7), (8, .int x16)]) [2, 3, 4, 5, 0, 6, 1] rfl (s_X4_addUpRow_L60 X (f_X4_addUpRow_L16 n) ih v0 v3 v4 v5 x17 v7 x16 x20 m)
set_option maxRecDepth 100000 in
set_option maxHeartbeats 4000000 in
theorem s_X4_addUpRow (X : z_X) (v0 : Nat) (v1 : Int32) (v2 : Int32) (m : z_M) : z_Sim X yX4_addUpRow cX4_addUpRow 10 none 1 0 [(0, .ref (z_ad X v0)), (1, .int v1), (2, .int v2)] [] m (f_X4_addUpRow v0 v1 v2 m) := by
  unfold f_X4_addUpRow
  refine z_iconst (v := 0) dX4_addUpRow_0 k_c0 ?_
  refine z_istore_n (lv' := [(3, .int 0), (0, .ref (z_ad X v0)), (1, .int v1), (2, .int v2)]) dX4_addUpRow_1 rfl (by decide) rfl ?_
  refine z_iconst (v := 0) dX4_addUpRow_2 k_c0 ?_
  refine z_istore (lv' := [(4, .int 0), (3, .int 0), (0, .ref (z_ad X v0)), (1, .int v1), (2, .int v2)]) dX4_addUpRow_3 (by decide) rfl ?_
  refine z_iconst (v := 0) dX4_addUpRow_5 k_c0 ?_
  refine z_istore (lv' := [(5, .int 0), (4, .int 0), (3, .int 0), (0, .ref (z_ad X v0)), (1, .int v1), (2, .int v2)]) dX4_addUpRow_6 (by decide) rfl ?_
  refine z_iload_n dX4_addUpRow_8 rfl 4 rfl ?_
  refine z_istore (lv' := [(6, .int v1), (5, .int 0), (4, .int 0), (3, .int 0), (0, .ref (z_ad X v0)), (1, .int v1), (2, .int v2)]) dX4_addUpRow_9 (by decide) rfl ?_
  refine z_iload_n dX4_addUpRow_11 rfl 6 rfl ?_
  refine z_iconst (v := 1) dX4_addUpRow_12 k_c1 ?_
  refine z_isub dX4_addUpRow_13 ?_
  refine z_nm (fun x21 => ?_)
  refine z_istore (lv' := [(7, .int x21), (6, .int v1), (5, .int 0), (4, .int 0), (3, .int 0), (0, .ref (z_ad X v0)), (1, .int v1), (2, .int v2)]) dX4_addUpRow_14 (by decide) rfl ?_
  exact z_sub (lv' := [(0, .ref (z_ad X v0)), (3, .int 0), (4, .int 0), (5, .int 0), (6, .int v1), (7, .int x21)]) [5, 4, 3, 2, 1, 0] rfl (s_X4_addUpRow_L16 X 400 v0 0 0 0 v1 x21 m)
set_option maxRecDepth 100000 in
set_option maxHeartbeats 4000000 in
theorem c_X4_addUpRow (X : z_X) (v0 : Nat) (v1 : Int32) (v2 : Int32) (m : z_M) : z_Ct X yX4_addUpRow cX4_addUpRow 10 none 1 [.ref (z_ad X v0), .int v1, .int v2] m (f_X4_addUpRow v0 v1 v2 m) := z_Ct.of (by decide) (Nat.le_of_ble_eq_true rfl) (s_X4_addUpRow X v0 v1 v2 m)
set_option maxRecDepth 100000 in
set_option maxHeartbeats 4000000 in
theorem s_X4_chainEnd_L5 (X : z_X) : ∀ (n : Nat) (v0 : Nat) (v2 : Int32) (v3 : Int32) (v4 : Int32) (m : z_M), z_Sim X yX4_chainEnd cX4_chainEnd 5 (some .int) 0 5 [(0, .ref (z_ad X v0)), (2, .int v2), (3, .int v3), (4, .int v4)] [] m (f_X4_chainEnd_L5 n v0 v2 v3 v4 m) := by
  intro n
  induction n with
  | zero => intros; exact z_none
  | succ n ih =>
      intro v0 v2 v3 v4 m
      unfold f_X4_chainEnd_L5
      refine z_iload dX4_chainEnd_5 3 rfl ?_
      refine z_aload_n dX4_chainEnd_7 rfl 0 rfl ?_
      refine z_getP z_X4 (j := 1) (by decide) rfl rfl wf_X4_19 dX4_chainEnd_8 (fun a1 => ?_)
      refine z_getI z_X2 (j := 0) (by decide) rfl rfl wf_X4_88 dX4_chainEnd_11 (fun x2 => ?_)
      refine z_icmp_gt (tg := 53) dX4_chainEnd_14 (by decide) ?_ ?_
      · refine z_bipush (v := (-4)) dX4_chainEnd_53 k_bim4 ?_
        exact z_iret dX4_chainEnd_55
      · refine z_iload_n dX4_chainEnd_17 rfl 2 rfl ?_
        refine z_iload_n dX4_chainEnd_18 rfl 1 rfl ?_
        refine z_icmp_eq (tg := 53) dX4_chainEnd_19 (by decide) ?_ ?_
        · refine z_bipush (v := (-4)) dX4_chainEnd_53 k_bim4 ?_
          exact z_iret dX4_chainEnd_55
        · refine z_aload_n dX4_chainEnd_22 rfl 0 rfl ?_
          refine z_getP z_X4 (j := 1) (by decide) rfl rfl wf_X4_19 dX4_chainEnd_23 (fun a3 => ?_)
          refine z_getP z_X2 (j := 3) (by decide) rfl rfl wf_X4_95 dX4_chainEnd_26 (fun a4 => ?_)
          refine z_iload_n dX4_chainEnd_29 rfl 2 rfl ?_
          refine z_iald dX4_chainEnd_30 (fun x5 => ?_)
          refine z_iconst (v := 2) dX4_chainEnd_31 k_c2 ?_
          refine z_icmp_eq (tg := 37) dX4_chainEnd_32 (by decide) ?_ ?_
          · refine z_aload_n dX4_chainEnd_37 rfl 0 rfl ?_
            refine z_getP z_X4 (j := 3) (by decide) rfl rfl wf_X4_29 dX4_chainEnd_38 (fun a6 => ?_)
            refine z_getP z_X3 (j := 1) (by decide) rfl rfl wf_X4_101 dX4_chainEnd_41 (fun a7 => ?_)
            refine z_iload_n dX4_chainEnd_44 rfl 2 rfl ?_
            refine z_iald dX4_chainEnd_45 (fun x8 => ?_)
            refine z_istore_n (lv' := [(3, .int x8), (0, .ref (z_ad X v0)), (2, .int v2), (4, .int v4)]) dX4_chainEnd_46 rfl (by decide) rfl ?_
            refine z_iinc (k := 3) (lv' := [(4, .int (v4 + 1)), (3, .int x8), (0, .ref (z_ad X v0)), (2, .int v2)]) dX4_chainEnd_47 rfl (k_i1 _) (by decide) rfl ?_
            refine z_goto (tg := 5) dX4_chainEnd_50 (by decide) ?_
            exact z_sub (lv' := [(0, .ref (z_ad X v0)), (2, .int v2), (3, .int x8), (4, .int (v4 + 1))]) [2, 3, 1, 0] rfl (ih v0 v2 x8 (v4 + 1) m)
          · refine z_iload_n dX4_chainEnd_35 rfl 2 rfl ?_
            exact z_iret dX4_chainEnd_36
set_option maxRecDepth 100000 in
set_option maxHeartbeats 4000000 in
theorem s_X4_chainEnd (X : z_X) (v0 : Nat) (v1 : Int32) (v2 : Int32) (m : z_M) : z_Sim X yX4_chainEnd cX4_chainEnd 5 (some .int) 0 0 [(0, .ref (z_ad X v0)), (1, .int v1), (2, .int v2)] [] m (f_X4_chainEnd v0 v1 v2 m) := by
  unfold f_X4_chainEnd
  refine z_iload_n dX4_chainEnd_0 rfl 1 rfl ?_
  refine z_istore_n (lv' := [(3, .int v1), (0, .ref (z_ad X v0)), (1, .int v1), (2, .int v2)]) dX4_chainEnd_1 rfl (by decide) rfl ?_
  refine z_iconst (v := 0) dX4_chainEnd_2 k_c0 ?_
  refine z_istore (lv' := [(4, .int 0), (3, .int v1), (0, .ref (z_ad X v0)), (1, .int v1), (2, .int v2)]) dX4_chainEnd_3 (by decide) rfl ?_
  exact z_sub (lv' := [(0, .ref (z_ad X v0)), (2, .int v2), (3, .int v1), (4, .int 0)]) [2, 4, 1, 0] rfl (s_X4_chainEnd_L5 X 400 v0 v2 v1 0 m)
set_option maxRecDepth 100000 in
set_option maxHeartbeats 4000000 in
theorem c_X4_chainEnd (X : z_X) (v0 : Nat) (v1 : Int32) (v2 : Int32) (m : z_M) : z_Ct X yX4_chainEnd cX4_chainEnd 5 (some .int) 0 [.ref (z_ad X v0), .int v1, .int v2] m (f_X4_chainEnd v0 v1 v2 m) := z_Ct.of (by decide) (Nat.le_of_ble_eq_true rfl) (s_X4_chainEnd X v0 v1 v2 m)
set_option maxRecDepth 100000 in
set_option maxHeartbeats 4000000 in
theorem s_X4_findLeaders_L52 (X : z_X) (h2 : Nat → Int32 → z_M → z_R) (H2 : ∀ (w0 : Nat) (w1 : Int32) (w : z_M), z_Sim X yX4_findLeaders cX4_findLeaders 3 none 1 2 [(0, .ref (z_ad X w0)), (1, .int w1)] [] w (h2 w0 w1 w)) (v0 : Nat) (v1 : Int32) (s0 : Int32) (s1 : Int32) (s2 : Nat) (m : z_M) : z_Sim X yX4_findLeaders cX4_findLeaders 3 none 1 52 [(0, .ref (z_ad X v0)), (1, .int v1)] [.int s0, .int s1, .ref (z_ad X s2)] m (f_X4_findLeaders_L52 h2 v0 v1 s0 s1 s2 m) := by
  unfold f_X4_findLeaders_L52
  refine z_iast dX4_findLeaders_52 ?_
  generalize z_wI m s2 (Int32.toNatClampNeg s1) s0 = m1
  refine z_iinc (k := 1) (lv' := [(1, .int (v1 + 1)), (0, .ref (z_ad X v0))]) dX4_findLeaders_53 rfl (k_i1 _) (by decide) rfl ?_
  refine z_goto (tg := 2) dX4_findLeaders_56 (by decide) ?_
  exact z_sub (lv' := [(0, .ref (z_ad X v0)), (1, .int (v1 + 1))]) [1, 0] rfl (H2 v0 (v1 + 1) m1)
set_option maxRecDepth 100000 in
set_option maxHeartbeats 4000000 in
theorem s_X4_findLeaders_L35 (X : z_X) (h2 : Nat → Int32 → z_M → z_R) (H2 : ∀ (w0 : Nat) (w1 : Int32) (w : z_M), z_Sim X yX4_findLeaders cX4_findLeaders 3 none 1 2 [(0, .ref (z_ad X w0)), (1, .int w1)] [] w (h2 w0 w1 w)) (v0 : Nat) (v1 : Int32) (s0 : Int32) (m : z_M) : z_Sim X yX4_findLeaders cX4_findLeaders 3 none 1 35 [(0, .ref (z_ad X v0)), (1, .int v1)] [.int s0] m (f_X4_findLeaders_L35 h2 v0 v1 s0 m) := by
  unfold f_X4_findLeaders_L35
  refine z_istore_n (lv' := [(2, .int s0), (0, .ref (z_ad X v0)), (1, .int v1)]) dX4_findLeaders_35 rfl (by decide) rfl ?_
  refine z_aload_n dX4_findLeaders_36 rfl 1 rfl ?_
  refine z_getP z_X4 (j := 7) (by decide) rfl rfl wf_X4_48 dX4_findLeaders_37 (fun a2 => ?_)
  refine z_iload_n dX4_findLeaders_40 rfl 2 rfl ?_
  refine z_iload_n dX4_findLeaders_41 rfl 0 rfl ?_
  refine z_bipush (v := (-4)) dX4_findLeaders_42 k_bim4 ?_
  refine z_icmp_ne (tg := 51) dX4_findLeaders_44 (by decide) ?_ ?_
  · refine z_iload_n dX4_findLeaders_51 rfl 0 rfl ?_
    exact z_sub (lv' := [(0, .ref (z_ad X v0)), (1, .int v1)]) [1, 2] rfl (s_X4_findLeaders_L52 X h2 H2 v0 v1 s0 v1 a2 m)
  · refine z_iload_n dX4_findLeaders_47 rfl 2 rfl ?_
    refine z_goto (tg := 52) dX4_findLeaders_48 (by decide) ?_
    exact z_sub (lv' := [(0, .ref (z_ad X v0)), (1, .int v1)]) [1, 2] rfl (s_X4_findLeaders_L52 X h2 H2 v0 v1 v1 v1 a2 m)
set_option maxRecDepth 100000 in
set_option maxHeartbeats 4000000 in
theorem s_X4_findLeaders_L2 (X : z_X) : ∀ (n : Nat) (v0 : Nat) (v1 : Int32) (m : z_M), z_Sim X yX4_findLeaders cX4_findLeaders 3 none 1 2 [(0, .ref (z_ad X v0)), (1, .int v1)] [] m (f_X4_findLeaders_L2 n v0 v1 m) := by
  intro n
  induction n with
  | zero => intros; exact z_none
  | succ n ih =>
      intro v0 v1 m
      unfold f_X4_findLeaders_L2
      refine z_iload_n dX4_findLeaders_2 rfl 1 rfl ?_
      refine z_aload_n dX4_findLeaders_3 rfl 0 rfl ?_
      refine z_getP z_X4 (j := 1) (by decide) rfl rfl wf_X4_19 dX4_findLeaders_4 (fun a3 => ?_)
      refine z_getI z_X2 (j := 0) (by decide) rfl rfl wf_X4_88 dX4_findLeaders_7 (fun x4 => ?_)
      refine z_icmp_ge (tg := 59) dX4_findLeaders_10 (by decide) ?_ ?_
      · exact z_vret dX4_findLeaders_59
      · refine z_aload_n dX4_findLeaders_13 rfl 0 rfl ?_
        refine z_getP z_X4 (j := 3) (by decide) rfl rfl wf_X4_29 dX4_findLeaders_14 (fun a5 => ?_)
        refine z_getI z_X3 (j := 2) (by decide) rfl rfl wf_X4_148 dX4_findLeaders_17 (fun x6 => ?_)
        refine z_iconst (v := 1) dX4_findLeaders_20 k_c1 ?_
        refine z_icmp_ne (tg := 28) dX4_findLeaders_21 (by decide) ?_ ?_
        · refine z_aload_n dX4_findLeaders_28 rfl 0 rfl ?_
          refine z_iload_n dX4_findLeaders_29 rfl 1 rfl ?_
          refine z_bipush (v := (-4)) dX4_findLeaders_30 k_bim4 ?_
          refine z_cVi (As := [.int v1, .int (-4)]) (rest := []) (c_X4_chainEnd X v0 v1 (-4) m) mw_X4_chainEnd iw_X4_chainEnd z_X4 wm_X4_161 rfl rfl (by decide) (Nat.le_of_ble_eq_true rfl) dX4_findLeaders_32 (fun x7 m8 => ?_)
          exact z_sub (lv' := [(0, .ref (z_ad X v0)), (1, .int v1)]) [0, 1] rfl (s_X4_findLeaders_L35 X (f_X4_findLeaders_L2 n) ih v0 v1 x7 m8)
        · refine z_iload_n dX4_findLeaders_24 rfl 1 rfl ?_
          refine z_goto (tg := 35) dX4_findLeaders_25 (by decide) ?_
          exact z_sub (lv' := [(0, .ref (z_ad X v0)), (1, .int v1)]) [0, 1] rfl (s_X4_findLeaders_L35 X (f_X4_findLeaders_L2 n) ih v0 v1 v1 m)
set_option maxRecDepth 100000 in
set_option maxHeartbeats 4000000 in
theorem s_X4_findLeaders (X : z_X) (v0 : Nat) (m : z_M) : z_Sim X yX4_findLeaders cX4_findLeaders 3 none 1 0 [(0, .ref (z_ad X v0))] [] m (f_X4_findLeaders v0 m) := by
  unfold f_X4_findLeaders
  refine z_iconst (v := 0) dX4_findLeaders_0 k_c0 ?_
  refine z_istore_n (lv' := [(1, .int 0), (0, .ref (z_ad X v0))]) dX4_findLeaders_1 rfl (by decide) rfl ?_
  exact z_sub (lv' := [(0, .ref (z_ad X v0)), (1, .int 0)]) [1, 0] rfl (s_X4_findLeaders_L2 X 400 v0 0 m)
set_option maxRecDepth 100000 in
set_option maxHeartbeats 4000000 in
theorem c_X4_findLeaders (X : z_X) (v0 : Nat) (m : z_M) : z_Ct X yX4_findLeaders cX4_findLeaders 3 none 1 [.ref (z_ad X v0)] m (f_X4_findLeaders v0 m) := z_Ct.of (by decide) (Nat.le_of_ble_eq_true rfl) (s_X4_findLeaders X v0 m)
set_option maxRecDepth 100000 in
set_option maxHeartbeats 4000000 in
theorem s_X4_isEither_L9 (X : z_X) (m : z_M) : z_Sim X yX4_isEither cX4_isEither 1 (some .boolean) 0 9 [] [] m (f_X4_isEither_L9 m) := by
  unfold f_X4_isEither_L9
  refine z_iconst (v := 1) dX4_isEither_9 k_c1 ?_
  refine z_goto (tg := 14) dX4_isEither_10 (by decide) ?_
  exact z_zret1 dX4_isEither_14
set_option maxRecDepth 100000 in
set_option maxHeartbeats 4000000 in
theorem s_X4_isEither (X : z_X) (v0 : Int32) (m : z_M) : z_Sim X yX4_isEither cX4_isEither 1 (some .boolean) 0 0 [(0, .int v0)] [] m (f_X4_isEither v0 m) := by
  unfold f_X4_isEither
  refine z_iload_n dX4_isEither_0 rfl 0 rfl ?_
  refine z_if_eq (tg := 9) dX4_isEither_1 (by decide) ?_ ?_
  · exact z_sub (lv' := []) [] rfl (s_X4_isEither_L9 X m)
  · refine z_iload_n dX4_isEither_4 rfl 0 rfl ?_
    refine z_iconst (v := 1) dX4_isEither_5 k_c1 ?_
    refine z_icmp_ne (tg := 13) dX4_isEither_6 (by decide) ?_ ?_
    · refine z_iconst (v := 0) dX4_isEither_13 k_c0 ?_
      exact z_zret0 dX4_isEither_14
    · exact z_sub (lv' := []) [] rfl (s_X4_isEither_L9 X m)
set_option maxRecDepth 100000 in
set_option maxHeartbeats 4000000 in
theorem c_X4_isEither (X : z_X) (v0 : Int32) (m : z_M) : z_Ct X yX4_isEither cX4_isEither 1 (some .boolean) 0 [.int v0] m (f_X4_isEither v0 m) := z_Ct.of (by decide) (Nat.le_of_ble_eq_true rfl) (s_X4_isEither X v0 m)
set_option maxRecDepth 100000 in
set_option maxHeartbeats 4000000 in
theorem s_X4_isWord (X : z_X) (v0 : Int32) (m : z_M) : z_Sim X yX4_isWord cX4_isWord 1 (some .boolean) 0 0 [(0, .int v0)] [] m (f_X4_isWord v0 m) := by
  unfold f_X4_isWord
  refine z_iload_n dX4_isWord_0 rfl 0 rfl ?_
  refine z_if_lt (tg := 13) dX4_isWord_1 (by decide) ?_ ?_
  · refine z_iconst (v := 0) dX4_isWord_13 k_c0 ?_
    exact z_zret0 dX4_isWord_14
  · refine z_iload_n dX4_isWord_4 rfl 0 rfl ?_
    refine z_iconst (v := 3) dX4_isWord_5 k_c3 ?_
    refine z_icmp_ge (tg := 13) dX4_isWord_6 (by decide) ?_ ?_
    · refine z_iconst (v := 0) dX4_isWord_13 k_c0 ?_
      exact z_zret0 dX4_isWord_14
    · refine z_iconst (v := 1) dX4_isWord_9 k_c1 ?_
      refine z_goto (tg := 14) dX4_isWord_10 (by decide) ?_
      exact z_zret1 dX4_isWord_14
set_option maxRecDepth 100000 in
set_option maxHeartbeats 4000000 in
theorem c_X4_isWord (X : z_X) (v0 : Int32) (m : z_M) : z_Ct X yX4_isWord cX4_isWord 1 (some .boolean) 0 [.int v0] m (f_X4_isWord v0 m) := z_Ct.of (by decide) (Nat.le_of_ble_eq_true rfl) (s_X4_isWord X v0 m)
set_option maxRecDepth 100000 in
set_option maxHeartbeats 4000000 in
theorem s_X4_commonDivisor_L7 (X : z_X) : ∀ (n : Nat) (v2 : Int32) (v3 : Int32) (v4 : Int32) (m : z_M), z_Sim X yX4_commonDivisor cX4_commonDivisor 6 (some .int) 0 7 [(2, .int v2), (3, .int v3), (4, .int v4)] [] m (f_X4_commonDivisor_L7 n v2 v3 v4 m) := by
  intro n
  induction n with
  | zero => intros; exact z_none
  | succ n ih =>
      intro v2 v3 v4 m
      unfold f_X4_commonDivisor_L7
      refine z_iload dX4_commonDivisor_7 2 rfl ?_
      refine z_bipush (v := 64) dX4_commonDivisor_9 k_bi64 ?_
      refine z_icmp_ge (tg := 34) dX4_commonDivisor_11 (by decide) ?_ ?_
      · refine z_iload_n dX4_commonDivisor_34 rfl 0 rfl ?_
        exact z_iret dX4_commonDivisor_35
      · refine z_iload_n dX4_commonDivisor_14 rfl 1 rfl ?_
        refine z_if_eq (tg := 34) dX4_commonDivisor_15 (by decide) ?_ ?_
        · refine z_iload_n dX4_commonDivisor_34 rfl 0 rfl ?_
          exact z_iret dX4_commonDivisor_35
        · refine z_iload_n dX4_commonDivisor_18 rfl 0 rfl ?_
          refine z_iload_n dX4_commonDivisor_19 rfl 1 rfl ?_
          refine z_iremG dX4_commonDivisor_20 (fun x1 => ?_)
          refine z_istore (lv' := [(5, .int x1), (2, .int v2), (3, .int v3), (4, .int v4)]) dX4_commonDivisor_21 (by decide) rfl ?_
          refine z_iload_n dX4_commonDivisor_23 rfl 2 rfl ?_
          refine z_istore_n (lv' := [(2, .int v3), (5, .int x1), (3, .int v3), (4, .int v4)]) dX4_commonDivisor_24 rfl (by decide) rfl ?_
          refine z_iload dX4_commonDivisor_25 1 rfl ?_
          refine z_istore_n (lv' := [(3, .int x1), (2, .int v3), (5, .int x1), (4, .int v4)]) dX4_commonDivisor_27 rfl (by decide) rfl ?_
          refine z_iinc (k := 3) (lv' := [(4, .int (v4 + 1)), (3, .int x1), (2, .int v3), (5, .int x1)]) dX4_commonDivisor_28 rfl (k_i1 _) (by decide) rfl ?_
          refine z_goto (tg := 7) dX4_commonDivisor_31 (by decide) ?_
          exact z_sub (lv' := [(2, .int v3), (3, .int x1), (4, .int (v4 + 1))]) [2, 1, 0] rfl (ih v3 x1 (v4 + 1) m)
set_option maxRecDepth 100000 in
set_option maxHeartbeats 4000000 in
theorem s_X4_commonDivisor (X : z_X) (v0 : Int32) (v1 : Int32) (m : z_M) : z_Sim X yX4_commonDivisor cX4_commonDivisor 6 (some .int) 0 0 [(0, .int v0), (1, .int v1)] [] m (f_X4_commonDivisor v0 v1 m) := by
  unfold f_X4_commonDivisor
  refine z_iload_n dX4_commonDivisor_0 rfl 0 rfl ?_
  refine z_istore_n (lv' := [(2, .int v0), (0, .int v0), (1, .int v1)]) dX4_commonDivisor_1 rfl (by decide) rfl ?_
  refine z_iload_n dX4_commonDivisor_2 rfl 2 rfl ?_
  refine z_istore_n (lv' := [(3, .int v1), (2, .int v0), (0, .int v0), (1, .int v1)]) dX4_commonDivisor_3 rfl (by decide) rfl ?_
  refine z_iconst (v := 0) dX4_commonDivisor_4 k_c0 ?_
  refine z_istore (lv' := [(4, .int 0), (3, .int v1), (2, .int v0), (0, .int v0), (1, .int v1)]) dX4_commonDivisor_5 (by decide) rfl ?_
  exact z_sub (lv' := [(2, .int v0), (3, .int v1), (4, .int 0)]) [2, 1, 0] rfl (s_X4_commonDivisor_L7 X 400 v0 v1 0 m)
set_option maxRecDepth 100000 in
set_option maxHeartbeats 4000000 in
theorem c_X4_commonDivisor (X : z_X) (v0 : Int32) (v1 : Int32) (m : z_M) : z_Ct X yX4_commonDivisor cX4_commonDivisor 6 (some .int) 0 [.int v0, .int v1] m (f_X4_commonDivisor v0 v1 m) := z_Ct.of (by decide) (Nat.le_of_ble_eq_true rfl) (s_X4_commonDivisor X v0 v1 m)
set_option maxRecDepth 100000 in
set_option maxHeartbeats 4000000 in
theorem s_X4_partInLowestTerms_L15 (X : z_X) (v3 : Int32) (s0 : Int32) (m : z_M) : z_Sim X yX4_partInLowestTerms cX4_partInLowestTerms 5 (some .int) 1 15 [(3, .int v3)] [.int s0] m (f_X4_partInLowestTerms_L15 v3 s0 m) := by
  unfold f_X4_partInLowestTerms_L15
  refine z_istore (lv' := [(4, .int s0), (3, .int v3)]) dX4_partInLowestTerms_15 (by decide) rfl ?_
  refine z_iload_n dX4_partInLowestTerms_17 rfl 1 rfl ?_
  refine z_if_le (tg := 28) dX4_partInLowestTerms_18 (by decide) ?_ ?_
  · refine z_iload dX4_partInLowestTerms_28 0 rfl ?_
    exact z_iret dX4_partInLowestTerms_30
  · refine z_iload dX4_partInLowestTerms_21 0 rfl ?_
    refine z_iload_n dX4_partInLowestTerms_23 rfl 1 rfl ?_
    refine z_idivG dX4_partInLowestTerms_24 (fun x1 => ?_)
    refine z_goto (tg := 30) dX4_partInLowestTerms_25 (by decide) ?_
    exact z_iret dX4_partInLowestTerms_30
set_option maxRecDepth 100000 in
set_option maxHeartbeats 4000000 in
theorem s_X4_partInLowestTerms (X : z_X) (v0 : Int32) (v1 : Int32) (v2 : Int32) (m : z_M) : z_Sim X yX4_partInLowestTerms cX4_partInLowestTerms 5 (some .int) 1 0 [(0, .int v0), (1, .int v1), (2, .int v2)] [] m (f_X4_partInLowestTerms v0 v1 v2 m) := by
  unfold f_X4_partInLowestTerms
  refine z_iload_n dX4_partInLowestTerms_0 rfl 0 rfl ?_
  refine z_iload_n dX4_partInLowestTerms_1 rfl 1 rfl ?_
  refine z_cSi (As := [.int v0, .int v1]) (rest := []) (c_X4_commonDivisor X v0 v1 m) mw_X4_commonDivisor iw_X4_commonDivisor wm_X4_271 rfl rfl (by decide) (Nat.le_of_ble_eq_true rfl) dX4_partInLowestTerms_2 (fun x2 m3 => ?_)
  refine z_istore_n (lv' := [(3, .int x2), (0, .int v0), (1, .int v1), (2, .int v2)]) dX4_partInLowestTerms_5 rfl (by decide) rfl ?_
  refine z_iload_n dX4_partInLowestTerms_6 rfl 3 rfl ?_
  refine z_if_ne (tg := 14) dX4_partInLowestTerms_7 (by decide) ?_ ?_
  · refine z_iload_n dX4_partInLowestTerms_14 rfl 2 rfl ?_
    exact z_sub (lv' := [(3, .int x2)]) [0] rfl (s_X4_partInLowestTerms_L15 X x2 v1 m3)
  · refine z_iload_n dX4_partInLowestTerms_10 rfl 1 rfl ?_
    refine z_goto (tg := 15) dX4_partInLowestTerms_11 (by decide) ?_
    exact z_sub (lv' := [(3, .int x2)]) [0] rfl (s_X4_partInLowestTerms_L15 X x2 v0 m3)
set_option maxRecDepth 100000 in
set_option maxHeartbeats 4000000 in
theorem c_X4_partInLowestTerms (X : z_X) (v0 : Int32) (v1 : Int32) (v2 : Int32) (m : z_M) : z_Ct X yX4_partInLowestTerms cX4_partInLowestTerms 5 (some .int) 1 [.int v0, .int v1, .int v2] m (f_X4_partInLowestTerms v0 v1 v2 m) := z_Ct.of (by decide) (Nat.le_of_ble_eq_true rfl) (s_X4_partInLowestTerms X v0 v1 v2 m)
set_option maxRecDepth 100000 in
set_option maxHeartbeats 4000000 in
theorem s_X4_isChancy_L26 (X : z_X) (m : z_M) : z_Sim X yX4_isChancy cX4_isChancy 2 (some .boolean) 0 26 [] [] m (f_X4_isChancy_L26 m) := by
  unfold f_X4_isChancy_L26
  refine z_iconst (v := 1) dX4_isChancy_26 k_c1 ?_
  refine z_goto (tg := 31) dX4_isChancy_27 (by decide) ?_
  exact z_zret1 dX4_isChancy_31
set_option maxRecDepth 100000 in
set_option maxHeartbeats 4000000 in
theorem s_X4_isChancy (X : z_X) (v0 : Nat) (v1 : Int32) (m : z_M) : z_Sim X yX4_isChancy cX4_isChancy 2 (some .boolean) 0 0 [(0, .ref (z_ad X v0)), (1, .int v1)] [] m (f_X4_isChancy v0 v1 m) := by
  unfold f_X4_isChancy
  refine z_aload_n dX4_isChancy_0 rfl 0 rfl ?_
  refine z_getP z_X4 (j := 1) (by decide) rfl rfl wf_X4_19 dX4_isChancy_1 (fun a1 => ?_)
  refine z_getP z_X2 (j := 3) (by decide) rfl rfl wf_X4_95 dX4_isChancy_4 (fun a2 => ?_)
  refine z_iload_n dX4_isChancy_7 rfl 1 rfl ?_
  refine z_iald dX4_isChancy_8 (fun x3 => ?_)
  refine z_iconst (v := 1) dX4_isChancy_9 k_c1 ?_
  refine z_icmp_eq (tg := 26) dX4_isChancy_10 (by decide) ?_ ?_
  · exact z_sub (lv' := []) [] rfl (s_X4_isChancy_L26 X m)
  · refine z_aload_n dX4_isChancy_13 rfl 0 rfl ?_
    refine z_getP z_X4 (j := 1) (by decide) rfl rfl wf_X4_19 dX4_isChancy_14 (fun a4 => ?_)
    refine z_getP z_X2 (j := 3) (by decide) rfl rfl wf_X4_95 dX4_isChancy_17 (fun a5 => ?_)
    refine z_iload_n dX4_isChancy_20 rfl 1 rfl ?_
    refine z_iald dX4_isChancy_21 (fun x6 => ?_)
    refine z_iconst (v := 2) dX4_isChancy_22 k_c2 ?_
    refine z_icmp_ne (tg := 30) dX4_isChancy_23 (by decide) ?_ ?_
    · refine z_iconst (v := 0) dX4_isChancy_30 k_c0 ?_
      exact z_zret0 dX4_isChancy_31
    · exact z_sub (lv' := []) [] rfl (s_X4_isChancy_L26 X m)
set_option maxRecDepth 100000 in
set_option maxHeartbeats 4000000 in
theorem c_X4_isChancy (X : z_X) (v0 : Nat) (v1 : Int32) (m : z_M) : z_Ct X yX4_isChancy cX4_isChancy 2 (some .boolean) 0 [.ref (z_ad X v0), .int v1] m (f_X4_isChancy v0 v1 m) := z_Ct.of (by decide) (Nat.le_of_ble_eq_true rfl) (s_X4_isChancy X v0 v1 m)
set_option maxRecDepth 100000 in
set_option maxHeartbeats 4000000 in
theorem s_X4_mannerOf (X : z_X) (v0 : Nat) (v1 : Int32) (v2 : Int32) (m : z_M) : z_Sim X yX4_mannerOf cX4_mannerOf 3 (some .int) 1 0 [(0, .ref (z_ad X v0)), (1, .int v1), (2, .int v2)] [] m (f_X4_mannerOf v0 v1 v2 m) := by
  unfold f_X4_mannerOf
  refine z_aload_n dX4_mannerOf_0 rfl 0 rfl ?_
  refine z_getP z_X4 (j := 1) (by decide) rfl rfl wf_X4_19 dX4_mannerOf_1 (fun a1 => ?_)
  refine z_getP z_X2 (j := 3) (by decide) rfl rfl wf_X4_95 dX4_mannerOf_4 (fun a2 => ?_)
  refine z_iload_n dX4_mannerOf_7 rfl 1 rfl ?_
  refine z_iald dX4_mannerOf_8 (fun x3 => ?_)
  refine z_iconst (v := 3) dX4_mannerOf_9 k_c3 ?_
  refine z_icmp_ne (tg := 15) dX4_mannerOf_10 (by decide) ?_ ?_
  · refine z_aload_n dX4_mannerOf_15 rfl 0 rfl ?_
    refine z_iload_n dX4_mannerOf_16 rfl 1 rfl ?_
    refine z_cVi (As := [.int v1]) (rest := []) (c_X4_isChancy X v0 v1 m) mw_X4_isChancy iw_X4_isChancy z_X4 wm_X4_235 rfl rfl (by decide) (Nat.le_of_ble_eq_true rfl) dX4_mannerOf_17 (fun x4 m5 => ?_)
    refine z_if_eq (tg := 31) dX4_mannerOf_20 (by decide) ?_ ?_
    · refine z_iconst (v := 0) dX4_mannerOf_31 k_c0 ?_
      exact z_iret dX4_mannerOf_32
    · refine z_iload_n dX4_mannerOf_23 rfl 2 rfl ?_
      refine z_if_eq (tg := 31) dX4_mannerOf_24 (by decide) ?_ ?_
      · refine z_iconst (v := 0) dX4_mannerOf_31 k_c0 ?_
        exact z_iret dX4_mannerOf_32
      · refine z_iconst (v := 1) dX4_mannerOf_27 k_c1 ?_
        refine z_goto (tg := 32) dX4_mannerOf_28 (by decide) ?_
        exact z_iret dX4_mannerOf_32
  · refine z_iconst (v := 2) dX4_mannerOf_13 k_c2 ?_
    exact z_iret dX4_mannerOf_14
set_option maxRecDepth 100000 in
set_option maxHeartbeats 4000000 in
theorem c_X4_mannerOf (X : z_X) (v0 : Nat) (v1 : Int32) (v2 : Int32) (m : z_M) : z_Ct X yX4_mannerOf cX4_mannerOf 3 (some .int) 1 [.ref (z_ad X v0), .int v1, .int v2] m (f_X4_mannerOf v0 v1 v2 m) := z_Ct.of (by decide) (Nat.le_of_ble_eq_true rfl) (s_X4_mannerOf X v0 v1 v2 m)
set_option maxRecDepth 100000 in
set_option maxHeartbeats 4000000 in
theorem s_X4_waysOfManner (X : z_X) (v0 : Nat) (v1 : Int32) (v2 : Int32) (m : z_M) : z_Sim X yX4_waysOfManner cX4_waysOfManner 3 (some .int) 2 0 [(0, .ref (z_ad X v0)), (1, .int v1), (2, .int v2)] [] m (f_X4_waysOfManner v0 v1 v2 m) := by
  unfold f_X4_waysOfManner
  refine z_aload_n dX4_waysOfManner_0 rfl 0 rfl ?_
  refine z_iload_n dX4_waysOfManner_1 rfl 1 rfl ?_
  refine z_cVi (As := [.int v1]) (rest := []) (c_X4_isChancy X v0 v1 m) mw_X4_isChancy iw_X4_isChancy z_X4 wm_X4_235 rfl rfl (by decide) (Nat.le_of_ble_eq_true rfl) dX4_waysOfManner_2 (fun x1 m2 => ?_)
  refine z_if_ne (tg := 24) dX4_waysOfManner_5 (by decide) ?_ ?_
  · refine z_iload_n dX4_waysOfManner_24 rfl 2 rfl ?_
    refine z_iconst (v := 1) dX4_waysOfManner_25 k_c1 ?_
    refine z_icmp_ne (tg := 39) dX4_waysOfManner_26 (by decide) ?_ ?_
    · refine z_iload_n dX4_waysOfManner_39 rfl 2 rfl ?_
      refine z_if_ne (tg := 58) dX4_waysOfManner_40 (by decide) ?_ ?_
      · refine z_iconst (v := 0) dX4_waysOfManner_58 k_c0 ?_
        exact z_iret dX4_waysOfManner_59
      · refine z_bipush (v := 10) dX4_waysOfManner_43 k_bi10 ?_
        refine z_aload_n dX4_waysOfManner_45 rfl 0 rfl ?_
        refine z_getP z_X4 (j := 1) (by decide) rfl rfl wf_X4_19 dX4_waysOfManner_46 (fun a3 => ?_)
        refine z_getP z_X2 (j := 6) (by decide) rfl rfl wf_X4_104 dX4_waysOfManner_49 (fun a4 => ?_)
        refine z_iload_n dX4_waysOfManner_52 rfl 1 rfl ?_
        refine z_iald dX4_waysOfManner_53 (fun x5 => ?_)
        refine z_isub dX4_waysOfManner_54 ?_
        refine z_goto (tg := 59) dX4_waysOfManner_55 (by decide) ?_
        exact z_iret dX4_waysOfManner_59
    · refine z_aload_n dX4_waysOfManner_29 rfl 0 rfl ?_
      refine z_getP z_X4 (j := 1) (by decide) rfl rfl wf_X4_19 dX4_waysOfManner_30 (fun a6 => ?_)
      refine z_getP z_X2 (j := 6) (by decide) rfl rfl wf_X4_104 dX4_waysOfManner_33 (fun a7 => ?_)
      refine z_iload_n dX4_waysOfManner_36 rfl 1 rfl ?_
      refine z_iald dX4_waysOfManner_37 (fun x8 => ?_)
      exact z_iret dX4_waysOfManner_38
  · refine z_iload_n dX4_waysOfManner_8 rfl 2 rfl ?_
    refine z_aload_n dX4_waysOfManner_9 rfl 0 rfl ?_
    refine z_iload_n dX4_waysOfManner_10 rfl 1 rfl ?_
    refine z_iconst (v := 0) dX4_waysOfManner_11 k_c0 ?_
    refine z_cVi (As := [.int v1, .int 0]) (rest := [.int v2]) (c_X4_mannerOf X v0 v1 0 m2) mw_X4_mannerOf iw_X4_mannerOf z_X4 wm_X4_246 rfl rfl (by decide) (Nat.le_of_ble_eq_true rfl) dX4_waysOfManner_12 (fun x9 m10 => ?_)
    refine z_icmp_ne (tg := 22) dX4_waysOfManner_15 (by decide) ?_ ?_
    · refine z_iconst (v := 0) dX4_waysOfManner_22 k_c0 ?_
      exact z_iret dX4_waysOfManner_23
    · refine z_iconst (v := 1) dX4_waysOfManner_18 k_c1 ?_
      refine z_goto (tg := 23) dX4_waysOfManner_19 (by decide) ?_
      exact z_iret dX4_waysOfManner_23
set_option maxRecDepth 100000 in
set_option maxHeartbeats 4000000 in
theorem c_X4_waysOfManner (X : z_X) (v0 : Nat) (v1 : Int32) (v2 : Int32) (m : z_M) : z_Ct X yX4_waysOfManner cX4_waysOfManner 3 (some .int) 2 [.ref (z_ad X v0), .int v1, .int v2] m (f_X4_waysOfManner v0 v1 v2 m) := z_Ct.of (by decide) (Nat.le_of_ble_eq_true rfl) (s_X4_waysOfManner X v0 v1 v2 m)
set_option maxRecDepth 100000 in
set_option maxHeartbeats 4000000 in
theorem s_X4_facingBy (X : z_X) (v0 : Nat) (v1 : Int32) (v2 : Int32) (v3 : Int32) (m : z_M) : z_Sim X yX4_facingBy cX4_facingBy 4 (some .int) 1 0 [(0, .ref (z_ad X v0)), (1, .int v1), (2, .int v2), (3, .int v3)] [] m (f_X4_facingBy v0 v1 v2 v3 m) := by
  unfold f_X4_facingBy
  refine z_aload_n dX4_facingBy_0 rfl 0 rfl ?_
  refine z_getP z_X4 (j := 3) (by decide) rfl rfl wf_X4_29 dX4_facingBy_1 (fun a1 => ?_)
  refine z_getP z_X3 (j := 0) (by decide) rfl rfl wf_X4_98 dX4_facingBy_4 (fun a2 => ?_)
  refine z_iload_n dX4_facingBy_7 rfl 1 rfl ?_
  refine z_iald dX4_facingBy_8 (fun x3 => ?_)
  refine z_iload_n dX4_facingBy_9 rfl 2 rfl ?_
  refine z_iload_n dX4_facingBy_10 rfl 3 rfl ?_
  refine z_aload_n dX4_facingBy_11 rfl 0 rfl ?_
  refine z_getP z_X4 (j := 3) (by decide) rfl rfl wf_X4_29 dX4_facingBy_12 (fun a4 => ?_)
  refine z_getI z_X3 (j := 4) (by decide) rfl rfl wf_X4_250 dX4_facingBy_15 (fun x5 => ?_)
  refine z_cSi (As := [.int v2, .int v3, .int x5]) (rest := [.int x3]) (c_X4_turnBy X v2 v3 x5 m) mw_X4_turnBy iw_X4_turnBy wm_X4_253 rfl rfl (by decide) (Nat.le_of_ble_eq_true rfl) dX4_facingBy_18 (fun x6 m7 => ?_)
  refine z_iadd dX4_facingBy_21 ?_
  refine z_iconst (v := 4) dX4_facingBy_22 k_c4 ?_
  refine z_irem dX4_facingBy_23 (by decide) ?_
  exact z_iret dX4_facingBy_24
set_option maxRecDepth 100000 in
set_option maxHeartbeats 4000000 in
theorem c_X4_facingBy (X : z_X) (v0 : Nat) (v1 : Int32) (v2 : Int32) (v3 : Int32) (m : z_M) : z_Ct X yX4_facingBy cX4_facingBy 4 (some .int) 1 [.ref (z_ad X v0), .int v1, .int v2, .int v3] m (f_X4_facingBy v0 v1 v2 v3 m) := z_Ct.of (by decide) (Nat.le_of_ble_eq_true rfl) (s_X4_facingBy X v0 v1 v2 v3 m)
set_option maxRecDepth 100000 in
set_option maxHeartbeats 4000000 in
theorem s_X4_wouldLedFace_L41 (X : z_X) (h3 : Nat → Int32 → Int32 → Int32 → Int32 → Int32 → z_M → z_R) (H3 : ∀ (w0 : Nat) (w1 : Int32) (w2 : Int32) (w3 : Int32) (w4 : Int32) (w5 : Int32) (w : z_M), z_Sim X yX4_wouldLedFace cX4_wouldLedFace 6 (some .boolean) 2 3 [(0, .ref (z_ad X w0)), (1, .int w1), (2, .int w2), (3, .int w3), (4, .int w4), (5, .int w5)] [] w (h3 w0 w1 w2 w3 w4 w5 w)) (v0 : Nat) (v1 : Int32) (v2 : Int32) (v3 : Int32) (v4 : Int32) (v5 : Int32) (m : z_M) : z_Sim X yX4_wouldLedFace cX4_wouldLedFace 6 (some .boolean) 2 41 [(0, .ref (z_ad X v0)), (1, .int v1), (2, .int v2), (3, .int v3), (4, .int v4), (5, .int v5)] [] m (f_X4_wouldLedFace_L41 h3 v0 v1 v2 v3 v4 v5 m) := by
  unfold f_X4_wouldLedFace_L41
  refine z_iinc (k := 5) (lv' := [(5, .int (v5 + 1)), (0, .ref (z_ad X v0)), (1, .int v1), (2, .int v2), (3, .int v3), (4, .int v4)]) dX4_wouldLedFace_41 rfl (k_i1 _) (by decide) rfl ?_
  refine z_goto (tg := 3) dX4_wouldLedFace_44 (by decide) ?_
  exact z_sub (lv' := [(0, .ref (z_ad X v0)), (1, .int v1), (2, .int v2), (3, .int v3), (4, .int v4), (5, .int (v5 + 1))]) [1, 2, 3, 4, 5, 0] rfl (H3 v0 v1 v2 v3 v4 (v5 + 1) m)
set_option maxRecDepth 100000 in
set_option maxHeartbeats 4000000 in
theorem s_X4_wouldLedFace_L3 (X : z_X) : ∀ (n : Nat) (v0 : Nat) (v1 : Int32) (v2 : Int32) (v3 : Int32) (v4 : Int32) (v5 : Int32) (m : z_M), z_Sim X yX4_wouldLedFace cX4_wouldLedFace 6 (some .boolean) 2 3 [(0, .ref (z_ad X v0)), (1, .int v1), (2, .int v2), (3, .int v3), (4, .int v4), (5, .int v5)] [] m (f_X4_wouldLedFace_L3 n v0 v1 v2 v3 v4 v5 m) := by
  intro n
  induction n with
  | zero => intros; exact z_none
  | succ n ih =>
      intro v0 v1 v2 v3 v4 v5 m
      unfold f_X4_wouldLedFace_L3
      refine z_iload dX4_wouldLedFace_3 5 rfl ?_
      refine z_aload_n dX4_wouldLedFace_5 rfl 0 rfl ?_
      refine z_getP z_X4 (j := 1) (by decide) rfl rfl wf_X4_19 dX4_wouldLedFace_6 (fun a1 => ?_)
      refine z_getI z_X2 (j := 0) (by decide) rfl rfl wf_X4_88 dX4_wouldLedFace_9 (fun x2 => ?_)
      refine z_icmp_ge (tg := 47) dX4_wouldLedFace_12 (by decide) ?_ ?_
      · refine z_iconst (v := 1) dX4_wouldLedFace_47 k_c1 ?_
        exact z_zret1 dX4_wouldLedFace_48
      · refine z_aload_n dX4_wouldLedFace_15 rfl 0 rfl ?_
        refine z_getP z_X4 (j := 7) (by decide) rfl rfl wf_X4_48 dX4_wouldLedFace_16 (fun a3 => ?_)
        refine z_iload dX4_wouldLedFace_19 5 rfl ?_
        refine z_iald dX4_wouldLedFace_21 (fun x4 => ?_)
        refine z_iload_n dX4_wouldLedFace_22 rfl 1 rfl ?_
        refine z_icmp_ne (tg := 41) dX4_wouldLedFace_23 (by decide) ?_ ?_
        · exact z_sub (lv' := [(0, .ref (z_ad X v0)), (1, .int v1), (2, .int v2), (3, .int v3), (4, .int v4), (5, .int v5)]) [0, 1, 2, 3, 4, 5] rfl (s_X4_wouldLedFace_L41 X (f_X4_wouldLedFace_L3 n) ih v0 v1 v2 v3 v4 v5 m)
        · refine z_aload_n dX4_wouldLedFace_26 rfl 0 rfl ?_
          refine z_iload dX4_wouldLedFace_27 5 rfl ?_
          refine z_iload_n dX4_wouldLedFace_29 rfl 2 rfl ?_
          refine z_iload dX4_wouldLedFace_30 4 rfl ?_
          refine z_cVi (As := [.int v5, .int v2, .int v4]) (rest := []) (c_X4_facingBy X v0 v5 v2 v4 m) mw_X4_facingBy iw_X4_facingBy z_X4 wm_X4_198 rfl rfl (by decide) (Nat.le_of_ble_eq_true rfl) dX4_wouldLedFace_32 (fun x5 m6 => ?_)
          refine z_iload_n dX4_wouldLedFace_35 rfl 3 rfl ?_
          refine z_icmp_eq (tg := 41) dX4_wouldLedFace_36 (by decide) ?_ ?_
          · exact z_sub (lv' := [(0, .ref (z_ad X v0)), (1, .int v1), (2, .int v2), (3, .int v3), (4, .int v4), (5, .int v5)]) [0, 1, 2, 3, 4, 5] rfl (s_X4_wouldLedFace_L41 X (f_X4_wouldLedFace_L3 n) ih v0 v1 v2 v3 v4 v5 m6)
          · refine z_iconst (v := 0) dX4_wouldLedFace_39 k_c0 ?_
            exact z_zret0 dX4_wouldLedFace_40
set_option maxRecDepth 100000 in
set_option maxHeartbeats 4000000 in
theorem s_X4_wouldLedFace (X : z_X) (v0 : Nat) (v1 : Int32) (v2 : Int32) (v3 : Int32) (v4 : Int32) (m : z_M) : z_Sim X yX4_wouldLedFace cX4_wouldLedFace 6 (some .boolean) 2 0 [(0, .ref (z_ad X v0)), (1, .int v1), (2, .int v2), (3, .int v3), (4, .int v4)] [] m (f_X4_wouldLedFace v0 v1 v2 v3 v4 m) := by
  unfold f_X4_wouldLedFace
  refine z_iconst (v := 0) dX4_wouldLedFace_0 k_c0 ?_
  refine z_istore (lv' := [(5, .int 0), (0, .ref (z_ad X v0)), (1, .int v1), (2, .int v2), (3, .int v3), (4, .int v4)]) dX4_wouldLedFace_1 (by decide) rfl ?_
  exact z_sub (lv' := [(0, .ref (z_ad X v0)), (1, .int v1), (2, .int v2), (3, .int v3), (4, .int v4), (5, .int 0)]) [1, 2, 3, 4, 5, 0] rfl (s_X4_wouldLedFace_L3 X 400 v0 v1 v2 v3 v4 0 m)
set_option maxRecDepth 100000 in
set_option maxHeartbeats 4000000 in
theorem c_X4_wouldLedFace (X : z_X) (v0 : Nat) (v1 : Int32) (v2 : Int32) (v3 : Int32) (v4 : Int32) (m : z_M) : z_Ct X yX4_wouldLedFace cX4_wouldLedFace 6 (some .boolean) 2 [.ref (z_ad X v0), .int v1, .int v2, .int v3, .int v4] m (f_X4_wouldLedFace v0 v1 v2 v3 v4 m) := z_Ct.of (by decide) (Nat.le_of_ble_eq_true rfl) (s_X4_wouldLedFace X v0 v1 v2 v3 v4 m)
set_option maxRecDepth 100000 in
set_option maxHeartbeats 4000000 in
theorem s_X4_waysLedFace_L36 (X : z_X) (h6 : Nat → Int32 → Int32 → Int32 → Int32 → Int32 → z_M → z_R) (H6 : ∀ (w0 : Nat) (w1 : Int32) (w2 : Int32) (w3 : Int32) (w4 : Int32) (w5 : Int32) (w : z_M), z_Sim X yX4_waysLedFace cX4_waysLedFace 6 (some .int) 3 6 [(0, .ref (z_ad X w0)), (1, .int w1), (2, .int w2), (3, .int w3), (4, .int w4), (5, .int w5)] [] w (h6 w0 w1 w2 w3 w4 w5 w)) (v0 : Nat) (v1 : Int32) (v2 : Int32) (v3 : Int32) (v4 : Int32) (v5 : Int32) (m : z_M) : z_Sim X yX4_waysLedFace cX4_waysLedFace 6 (some .int) 3 36 [(0, .ref (z_ad X v0)), (1, .int v1), (2, .int v2), (3, .int v3), (4, .int v4), (5, .int v5)] [] m (f_X4_waysLedFace_L36 h6 v0 v1 v2 v3 v4 v5 m) := by
  unfold f_X4_waysLedFace_L36
  refine z_iinc (k := 5) (lv' := [(5, .int (v5 + 1)), (0, .ref (z_ad X v0)), (1, .int v1), (2, .int v2), (3, .int v3), (4, .int v4)]) dX4_waysLedFace_36 rfl (k_i1 _) (by decide) rfl ?_
  refine z_goto (tg := 6) dX4_waysLedFace_39 (by decide) ?_
  exact z_sub (lv' := [(0, .ref (z_ad X v0)), (1, .int v1), (2, .int v2), (3, .int v3), (4, .int v4), (5, .int (v5 + 1))]) [1, 2, 3, 4, 5, 0] rfl (H6 v0 v1 v2 v3 v4 (v5 + 1) m)
set_option maxRecDepth 100000 in
set_option maxHeartbeats 4000000 in
theorem s_X4_waysLedFace_L6 (X : z_X) : ∀ (n : Nat) (v0 : Nat) (v1 : Int32) (v2 : Int32) (v3 : Int32) (v4 : Int32) (v5 : Int32) (m : z_M), z_Sim X yX4_waysLedFace cX4_waysLedFace 6 (some .int) 3 6 [(0, .ref (z_ad X v0)), (1, .int v1), (2, .int v2), (3, .int v3), (4, .int v4), (5, .int v5)] [] m (f_X4_waysLedFace_L6 n v0 v1 v2 v3 v4 v5 m) := by
  intro n
  induction n with
  | zero => intros; exact z_none
  | succ n ih =>
      intro v0 v1 v2 v3 v4 v5 m
      unfold f_X4_waysLedFace_L6
      refine z_iload dX4_waysLedFace_6 5 rfl ?_
      refine z_iconst (v := 3) dX4_waysLedFace_8 k_c3 ?_
      refine z_icmp_ge (tg := 42) dX4_waysLedFace_9 (by decide) ?_ ?_
      · refine z_iload dX4_waysLedFace_42 4 rfl ?_
        exact z_iret dX4_waysLedFace_44
      · refine z_aload_n dX4_waysLedFace_12 rfl 0 rfl ?_
        refine z_iload_n dX4_waysLedFace_13 rfl 1 rfl ?_
        refine z_iload dX4_waysLedFace_14 5 rfl ?_
        refine z_iload_n dX4_waysLedFace_16 rfl 2 rfl ?_
        refine z_iload_n dX4_waysLedFace_17 rfl 3 rfl ?_
        refine z_cVi (As := [.int v1, .int v5, .int v2, .int v3]) (rest := []) (c_X4_wouldLedFace X v0 v1 v5 v2 v3 m) mw_X4_wouldLedFace iw_X4_wouldLedFace z_X4 wm_X4_267 rfl rfl (by decide) (Nat.le_of_ble_eq_true rfl) dX4_waysLedFace_18 (fun x1 m2 => ?_)
        refine z_if_eq (tg := 36) dX4_waysLedFace_21 (by decide) ?_ ?_
        · exact z_sub (lv' := [(0, .ref (z_ad X v0)), (1, .int v1), (2, .int v2), (3, .int v3), (4, .int v4), (5, .int v5)]) [0, 1, 2, 3, 4, 5] rfl (s_X4_waysLedFace_L36 X (f_X4_waysLedFace_L6 n) ih v0 v1 v2 v3 v4 v5 m2)
        · refine z_iload dX4_waysLedFace_24 4 rfl ?_
          refine z_aload_n dX4_waysLedFace_26 rfl 0 rfl ?_
          refine z_iload_n dX4_waysLedFace_27 rfl 1 rfl ?_
          refine z_iload dX4_waysLedFace_28 5 rfl ?_
          refine z_cVi (As := [.int v1, .int v5]) (rest := [.int v4]) (c_X4_waysOfManner X v0 v1 v5 m2) mw_X4_waysOfManner iw_X4_waysOfManner z_X4 wm_X4_201 rfl rfl (by decide) (Nat.le_of_ble_eq_true rfl) dX4_waysLedFace_30 (fun x3 m4 => ?_)
          refine z_iadd dX4_waysLedFace_33 ?_
          refine z_nm (fun x5 => ?_)
          refine z_istore (lv' := [(4, .int x5), (0, .ref (z_ad X v0)), (1, .int v1), (2, .int v2), (3, .int v3), (5, .int v5)]) dX4_waysLedFace_34 (by decide) rfl ?_
          exact z_sub (lv' := [(0, .ref (z_ad X v0)), (1, .int v1), (2, .int v2), (3, .int v3), (4, .int x5), (5, .int v5)]) [1, 2, 3, 4, 0, 5] rfl (s_X4_waysLedFace_L36 X (f_X4_waysLedFace_L6 n) ih v0 v1 v2 v3 x5 v5 m4)
set_option maxRecDepth 100000 in
set_option maxHeartbeats 4000000 in
theorem s_X4_waysLedFace (X : z_X) (v0 : Nat) (v1 : Int32) (v2 : Int32) (v3 : Int32) (m : z_M) : z_Sim X yX4_waysLedFace cX4_waysLedFace 6 (some .int) 3 0 [(0, .ref (z_ad X v0)), (1, .int v1), (2, .int v2), (3, .int v3)] [] m (f_X4_waysLedFace v0 v1 v2 v3 m) := by
  unfold f_X4_waysLedFace
  refine z_iconst (v := 0) dX4_waysLedFace_0 k_c0 ?_
  refine z_istore (lv' := [(4, .int 0), (0, .ref (z_ad X v0)), (1, .int v1), (2, .int v2), (3, .int v3)]) dX4_waysLedFace_1 (by decide) rfl ?_
  refine z_iconst (v := 0) dX4_waysLedFace_3 k_c0 ?_
  refine z_istore (lv' := [(5, .int 0), (4, .int 0), (0, .ref (z_ad X v0)), (1, .int v1), (2, .int v2), (3, .int v3)]) dX4_waysLedFace_4 (by decide) rfl ?_
  exact z_sub (lv' := [(0, .ref (z_ad X v0)), (1, .int v1), (2, .int v2), (3, .int v3), (4, .int 0), (5, .int 0)]) [2, 3, 4, 5, 1, 0] rfl (s_X4_waysLedFace_L6 X 400 v0 v1 v2 v3 0 0 m)
set_option maxRecDepth 100000 in
set_option maxHeartbeats 4000000 in
theorem c_X4_waysLedFace (X : z_X) (v0 : Nat) (v1 : Int32) (v2 : Int32) (v3 : Int32) (m : z_M) : z_Ct X yX4_waysLedFace cX4_waysLedFace 6 (some .int) 3 [.ref (z_ad X v0), .int v1, .int v2, .int v3] m (f_X4_waysLedFace v0 v1 v2 v3 m) := z_Ct.of (by decide) (Nat.le_of_ble_eq_true rfl) (s_X4_waysLedFace X v0 v1 v2 v3 m)
set_option maxRecDepth 100000 in
set_option maxHeartbeats 4000000 in
theorem s_X4_waysAllFace_L40 (X : z_X) (h5 : Nat → Int32 → Int32 → Int32 → Int32 → z_M → z_R) (H5 : ∀ (w0 : Nat) (w1 : Int32) (w2 : Int32) (w3 : Int32) (w4 : Int32) (w : z_M), z_Sim X yX4_waysAllFace cX4_waysAllFace 5 (some .int) 4 5 [(0, .ref (z_ad X w0)), (1, .int w1), (2, .int w2), (3, .int w3), (4, .int w4)] [] w (h5 w0 w1 w2 w3 w4 w)) (v0 : Nat) (v1 : Int32) (v2 : Int32) (v3 : Int32) (v4 : Int32) (m : z_M) : z_Sim X yX4_waysAllFace cX4_waysAllFace 5 (some .int) 4 40 [(0, .ref (z_ad X v0)), (1, .int v1), (2, .int v2), (3, .int v3), (4, .int v4)] [] m (f_X4_waysAllFace_L40 h5 v0 v1 v2 v3 v4 m) := by
  unfold f_X4_waysAllFace_L40
  refine z_iinc (k := 4) (lv' := [(4, .int (v4 + 1)), (0, .ref (z_ad X v0)), (1, .int v1), (2, .int v2), (3, .int v3)]) dX4_waysAllFace_40 rfl (k_i1 _) (by decide) rfl ?_
  refine z_goto (tg := 5) dX4_waysAllFace_43 (by decide) ?_
  exact z_sub (lv' := [(0, .ref (z_ad X v0)), (1, .int v1), (2, .int v2), (3, .int v3), (4, .int (v4 + 1))]) [1, 2, 3, 4, 0] rfl (H5 v0 v1 v2 v3 (v4 + 1) m)
set_option maxRecDepth 100000 in
set_option maxHeartbeats 4000000 in
theorem s_X4_waysAllFace_L5 (X : z_X) : ∀ (n : Nat) (v0 : Nat) (v1 : Int32) (v2 : Int32) (v3 : Int32) (v4 : Int32) (m : z_M), z_Sim X yX4_waysAllFace cX4_waysAllFace 5 (some .int) 4 5 [(0, .ref (z_ad X v0)), (1, .int v1), (2, .int v2), (3, .int v3), (4, .int v4)] [] m (f_X4_waysAllFace_L5 n v0 v1 v2 v3 v4 m) := by
  intro n
  induction n with
  | zero => intros; exact z_none
  | succ n ih =>
      intro v0 v1 v2 v3 v4 m
      unfold f_X4_waysAllFace_L5
      refine z_iload dX4_waysAllFace_5 4 rfl ?_
      refine z_aload_n dX4_waysAllFace_7 rfl 0 rfl ?_
      refine z_getP z_X4 (j := 1) (by decide) rfl rfl wf_X4_19 dX4_waysAllFace_8 (fun a1 => ?_)
      refine z_getI z_X2 (j := 0) (by decide) rfl rfl wf_X4_88 dX4_waysAllFace_11 (fun x2 => ?_)
      refine z_icmp_ge (tg := 46) dX4_waysAllFace_14 (by decide) ?_ ?_
      · refine z_iload_n dX4_waysAllFace_46 rfl 3 rfl ?_
        exact z_iret dX4_waysAllFace_47
      · refine z_aload_n dX4_waysAllFace_17 rfl 0 rfl ?_
        refine z_getP z_X4 (j := 7) (by decide) rfl rfl wf_X4_48 dX4_waysAllFace_18 (fun a3 => ?_)
        refine z_iload dX4_waysAllFace_21 4 rfl ?_
        refine z_iald dX4_waysAllFace_23 (fun x4 => ?_)
        refine z_iload dX4_waysAllFace_24 4 rfl ?_
        refine z_icmp_ne (tg := 40) dX4_waysAllFace_26 (by decide) ?_ ?_
        · exact z_sub (lv' := [(0, .ref (z_ad X v0)), (1, .int v1), (2, .int v2), (3, .int v3), (4, .int v4)]) [0, 1, 2, 3, 4] rfl (s_X4_waysAllFace_L40 X (f_X4_waysAllFace_L5 n) ih v0 v1 v2 v3 v4 m)
        · refine z_iload_n dX4_waysAllFace_29 rfl 3 rfl ?_
          refine z_aload_n dX4_waysAllFace_30 rfl 0 rfl ?_
          refine z_iload dX4_waysAllFace_31 4 rfl ?_
          refine z_iload_n dX4_waysAllFace_33 rfl 1 rfl ?_
          refine z_iload_n dX4_waysAllFace_34 rfl 2 rfl ?_
          refine z_cVi (As := [.int v4, .int v1, .int v2]) (rest := [.int v3]) (c_X4_waysLedFace X v0 v4 v1 v2 m) mw_X4_waysLedFace iw_X4_waysLedFace z_X4 wm_X4_264 rfl rfl (by decide) (Nat.le_of_ble_eq_true rfl) dX4_waysAllFace_35 (fun x5 m6 => ?_)
          refine z_imul dX4_waysAllFace_38 ?_
          refine z_nm (fun x7 => ?_)
          refine z_istore_n (lv' := [(3, .int x7), (0, .ref (z_ad X v0)), (1, .int v1), (2, .int v2), (4, .int v4)]) dX4_waysAllFace_39 rfl (by decide) rfl ?_
          exact z_sub (lv' := [(0, .ref (z_ad X v0)), (1, .int v1), (2, .int v2), (3, .int x7), (4, .int v4)]) [1, 2, 3, 0, 4] rfl (s_X4_waysAllFace_L40 X (f_X4_waysAllFace_L5 n) ih v0 v1 v2 x7 v4 m6)
set_option maxRecDepth 100000 in
set_option maxHeartbeats 4000000 in
theorem s_X4_waysAllFace (X : z_X) (v0 : Nat) (v1 : Int32) (v2 : Int32) (m : z_M) : z_Sim X yX4_waysAllFace cX4_waysAllFace 5 (some .int) 4 0 [(0, .ref (z_ad X v0)), (1, .int v1), (2, .int v2)] [] m (f_X4_waysAllFace v0 v1 v2 m) := by
  unfold f_X4_waysAllFace
  refine z_iconst (v := 1) dX4_waysAllFace_0 k_c1 ?_
  refine z_istore_n (lv' := [(3, .int 1), (0, .ref (z_ad X v0)), (1, .int v1), (2, .int v2)]) dX4_waysAllFace_1 rfl (by decide) rfl ?_
  refine z_iconst (v := 0) dX4_waysAllFace_2 k_c0 ?_
  refine z_istore (lv' := [(4, .int 0), (3, .int 1), (0, .ref (z_ad X v0)), (1, .int v1), (2, .int v2)]) dX4_waysAllFace_3 (by decide) rfl ?_
  exact z_sub (lv' := [(0, .ref (z_ad X v0)), (1, .int v1), (2, .int v2), (3, .int 1), (4, .int 0)]) [2, 3, 4, 1, 0] rfl (s_X4_waysAllFace_L5 X 400 v0 v1 v2 1 0 m)
set_option maxRecDepth 100000 in
set_option maxHeartbeats 4000000 in
theorem c_X4_waysAllFace (X : z_X) (v0 : Nat) (v1 : Int32) (v2 : Int32) (m : z_M) : z_Ct X yX4_waysAllFace cX4_waysAllFace 5 (some .int) 4 [.ref (z_ad X v0), .int v1, .int v2] m (f_X4_waysAllFace v0 v1 v2 m) := z_Ct.of (by decide) (Nat.le_of_ble_eq_true rfl) (s_X4_waysAllFace X v0 v1 v2 m)
set_option maxRecDepth 100000 in
set_option maxHeartbeats 4000000 in
theorem s_X4_waysToTurn (X : z_X) (v0 : Nat) (v1 : Int32) (m : z_M) : z_Sim X yX4_waysToTurn cX4_waysToTurn 2 (some .int) 1 0 [(0, .ref (z_ad X v0)), (1, .int v1)] [] m (f_X4_waysToTurn v0 v1 m) := by
  unfold f_X4_waysToTurn
  refine z_aload_n dX4_waysToTurn_0 rfl 0 rfl ?_
  refine z_iload_n dX4_waysToTurn_1 rfl 1 rfl ?_
  refine z_cVi (As := [.int v1]) (rest := []) (c_X4_isChancy X v0 v1 m) mw_X4_isChancy iw_X4_isChancy z_X4 wm_X4_235 rfl rfl (by decide) (Nat.le_of_ble_eq_true rfl) dX4_waysToTurn_2 (fun x1 m2 => ?_)
  refine z_if_eq (tg := 13) dX4_waysToTurn_5 (by decide) ?_ ?_
  · refine z_iconst (v := 1) dX4_waysToTurn_13 k_c1 ?_
    exact z_iret dX4_waysToTurn_14
  · refine z_bipush (v := 10) dX4_waysToTurn_8 k_bi10 ?_
    refine z_goto (tg := 14) dX4_waysToTurn_10 (by decide) ?_
    exact z_iret dX4_waysToTurn_14
set_option maxRecDepth 100000 in
set_option maxHeartbeats 4000000 in
theorem c_X4_waysToTurn (X : z_X) (v0 : Nat) (v1 : Int32) (m : z_M) : z_Ct X yX4_waysToTurn cX4_waysToTurn 2 (some .int) 1 [.ref (z_ad X v0), .int v1] m (f_X4_waysToTurn v0 v1 m) := z_Ct.of (by decide) (Nat.le_of_ble_eq_true rfl) (s_X4_waysToTurn X v0 v1 m)
set_option maxRecDepth 100000 in
set_option maxHeartbeats 4000000 in
theorem s_X4_alike_L92 (X : z_X) (h57 : Nat → Int32 → Int32 → Int32 → Int32 → z_M → z_R) (H57 : ∀ (w0 : Nat) (w2 : Int32) (w3 : Int32) (w4 : Int32) (w5 : Int32) (w : z_M), z_Sim X yX4_alike cX4_alike 6 (some .int) 5 57 [(0, .ref (z_ad X w0)), (2, .int w2), (3, .int w3), (4, .int w4), (5, .int w5)] [] w (h57 w0 w2 w3 w4 w5 w)) (v0 : Nat) (v2 : Int32) (v3 : Int32) (v4 : Int32) (v5 : Int32) (m : z_M) : z_Sim X yX4_alike cX4_alike 6 (some .int) 5 92 [(0, .ref (z_ad X v0)), (2, .int v2), (3, .int v3), (4, .int v4), (5, .int v5)] [] m (f_X4_alike_L92 h57 v0 v2 v3 v4 v5 m) := by
  unfold f_X4_alike_L92
  refine z_iinc (k := 4) (lv' := [(5, .int (v5 + 1)), (0, .ref (z_ad X v0)), (2, .int v2), (3, .int v3), (4, .int v4)]) dX4_alike_92 rfl (k_i1 _) (by decide) rfl ?_
  refine z_goto (tg := 57) dX4_alike_95 (by decide) ?_
  exact z_sub (lv' := [(0, .ref (z_ad X v0)), (2, .int v2), (3, .int v3), (4, .int v4), (5, .int (v5 + 1))]) [1, 2, 3, 4, 0] rfl (H57 v0 v2 v3 v4 (v5 + 1) m)
set_option maxRecDepth 100000 in
set_option maxHeartbeats 4000000 in
theorem s_X4_alike_L57 (X : z_X) : ∀ (n : Nat) (v0 : Nat) (v2 : Int32) (v3 : Int32) (v4 : Int32) (v5 : Int32) (m : z_M), z_Sim X yX4_alike cX4_alike 6 (some .int) 5 57 [(0, .ref (z_ad X v0)), (2, .int v2), (3, .int v3), (4, .int v4), (5, .int v5)] [] m (f_X4_alike_L57 n v0 v2 v3 v4 v5 m) := by
  intro n
  induction n with
  | zero => intros; exact z_none
  | succ n ih =>
      intro v0 v2 v3 v4 v5 m
      unfold f_X4_alike_L57
      refine z_iload dX4_alike_57 4 rfl ?_
      refine z_aload_n dX4_alike_59 rfl 0 rfl ?_
      refine z_getP z_X4 (j := 1) (by decide) rfl rfl wf_X4_19 dX4_alike_60 (fun a1 => ?_)
      refine z_getI z_X2 (j := 0) (by decide) rfl rfl wf_X4_88 dX4_alike_63 (fun x2 => ?_)
      refine z_icmp_ge (tg := 98) dX4_alike_66 (by decide) ?_ ?_
      · refine z_iload_n dX4_alike_98 rfl 2 rfl ?_
        refine z_iload dX4_alike_99 3 rfl ?_
        refine z_iload_n dX4_alike_101 rfl 1 rfl ?_
        refine z_cSi (As := [.int v3, .int v4, .int v2]) (rest := []) (c_X4_partInLowestTerms X v3 v4 v2 m) mw_X4_partInLowestTerms iw_X4_partInLowestTerms wm_X4_195 rfl rfl (by decide) (Nat.le_of_ble_eq_true rfl) dX4_alike_102 (fun x3 m4 => ?_)
        exact z_iret dX4_alike_105
      · refine z_aload_n dX4_alike_69 rfl 0 rfl ?_
        refine z_getP z_X4 (j := 7) (by decide) rfl rfl wf_X4_48 dX4_alike_70 (fun a5 => ?_)
        refine z_iload dX4_alike_73 4 rfl ?_
        refine z_iald dX4_alike_75 (fun x6 => ?_)
        refine z_iload dX4_alike_76 4 rfl ?_
        refine z_icmp_ne (tg := 92) dX4_alike_78 (by decide) ?_ ?_
        · exact z_sub (lv' := [(0, .ref (z_ad X v0)), (2, .int v2), (3, .int v3), (4, .int v4), (5, .int v5)]) [0, 1, 2, 3, 4] rfl (s_X4_alike_L92 X (f_X4_alike_L57 n) ih v0 v2 v3 v4 v5 m)
        · refine z_iload dX4_alike_81 3 rfl ?_
          refine z_aload_n dX4_alike_83 rfl 0 rfl ?_
          refine z_iload dX4_alike_84 4 rfl ?_
          refine z_cVi (As := [.int v5]) (rest := [.int v4]) (c_X4_waysToTurn X v0 v5 m) mw_X4_waysToTurn iw_X4_waysToTurn z_X4 wm_X4_192 rfl rfl (by decide) (Nat.le_of_ble_eq_true rfl) dX4_alike_86 (fun x7 m8 => ?_)
          refine z_imul dX4_alike_89 ?_
          refine z_nm (fun x9 => ?_)
          refine z_istore (lv' := [(4, .int x9), (0, .ref (z_ad X v0)), (2, .int v2), (3, .int v3), (5, .int v5)]) dX4_alike_90 (by decide) rfl ?_
          exact z_sub (lv' := [(0, .ref (z_ad X v0)), (2, .int v2), (3, .int v3), (4, .int x9), (5, .int v5)]) [1, 2, 3, 0, 4] rfl (s_X4_alike_L92 X (f_X4_alike_L57 n) ih v0 v2 v3 x9 v5 m8)
set_option maxRecDepth 100000 in
set_option maxHeartbeats 4000000 in
theorem s_X4_alike_L25 (X : z_X) : ∀ (n : Nat) (v0 : Nat) (v1 : Int32) (v2 : Int32) (v3 : Int32) (v4 : Int32) (m : z_M), z_Sim X yX4_alike cX4_alike 6 (some .int) 5 25 [(0, .ref (z_ad X v0)), (1, .int v1), (2, .int v2), (3, .int v3), (4, .int v4)] [] m (f_X4_alike_L25 n v0 v1 v2 v3 v4 m) := by
  intro n
  induction n with
  | zero => intros; exact z_none
  | succ n ih =>
      intro v0 v1 v2 v3 v4 m
      unfold f_X4_alike_L25
      refine z_iload dX4_alike_25 4 rfl ?_
      refine z_iconst (v := 4) dX4_alike_27 k_c4 ?_
      refine z_icmp_ge (tg := 51) dX4_alike_28 (by decide) ?_ ?_
      · refine z_iconst (v := 1) dX4_alike_51 k_c1 ?_
        refine z_istore (lv' := [(4, .int 1), (0, .ref (z_ad X v0)), (1, .int v1), (2, .int v2), (3, .int v3)]) dX4_alike_52 (by decide) rfl ?_
        refine z_iconst (v := 0) dX4_alike_54 k_c0 ?_
        refine z_istore (lv' := [(5, .int 0), (4, .int 1), (0, .ref (z_ad X v0)), (1, .int v1), (2, .int v2), (3, .int v3)]) dX4_alike_55 (by decide) rfl ?_
        exact z_sub (lv' := [(0, .ref (z_ad X v0)), (2, .int v2), (3, .int v3), (4, .int 1), (5, .int 0)]) [2, 4, 5, 1, 0] rfl (s_X4_alike_L57 X 400 v0 v2 v3 1 0 m)
      · refine z_iload_n dX4_alike_31 rfl 3 rfl ?_
        refine z_aload_n dX4_alike_32 rfl 0 rfl ?_
        refine z_iload dX4_alike_33 4 rfl ?_
        refine z_gets0 wf_X4_186 dX4_alike_35 ?_
        refine z_iload_n dX4_alike_38 rfl 1 rfl ?_
        refine z_tald (t := 0) (by decide) dX4_alike_39 (fun x10 => ?_)
        refine z_cVi (As := [.int v4, .int x10]) (rest := [.int v3]) (c_X4_waysAllFace X v0 v4 x10 m) mw_X4_waysAllFace iw_X4_waysAllFace z_X4 wm_X4_189 rfl rfl (by decide) (Nat.le_of_ble_eq_true rfl) dX4_alike_40 (fun x11 m12 => ?_)
        refine z_iadd dX4_alike_43 ?_
        refine z_nm (fun x13 => ?_)
        refine z_istore_n (lv' := [(3, .int x13), (0, .ref (z_ad X v0)), (1, .int v1), (2, .int v2), (4, .int v4)]) dX4_alike_44 rfl (by decide) rfl ?_
        refine z_iinc (k := 4) (lv' := [(4, .int (v4 + 1)), (3, .int x13), (0, .ref (z_ad X v0)), (1, .int v1), (2, .int v2)]) dX4_alike_45 rfl (k_i1 _) (by decide) rfl ?_
        refine z_goto (tg := 25) dX4_alike_48 (by decide) ?_
        exact z_sub (lv' := [(0, .ref (z_ad X v0)), (1, .int v1), (2, .int v2), (3, .int x13), (4, .int (v4 + 1))]) [2, 3, 4, 1, 0] rfl (ih v0 v1 v2 x13 (v4 + 1) m12)
set_option maxRecDepth 100000 in
set_option maxHeartbeats 4000000 in
theorem s_X4_alike (X : z_X) (v0 : Nat) (v1 : Int32) (v2 : Int32) (m : z_M) : z_Sim X yX4_alike cX4_alike 6 (some .int) 5 0 [(0, .ref (z_ad X v0)), (1, .int v1), (2, .int v2)] [] m (f_X4_alike v0 v1 v2 m) := by
  unfold f_X4_alike
  refine z_iload_n dX4_alike_0 rfl 1 rfl ?_
  refine z_cSi (As := [.int v1]) (rest := []) (c_X4_isWord X v1 m) mw_X4_isWord iw_X4_isWord wm_X4_111 rfl rfl (by decide) (Nat.le_of_ble_eq_true rfl) dX4_alike_1 (fun x14 m15 => ?_)
  refine z_if_eq (tg := 14) dX4_alike_4 (by decide) ?_ ?_
  · refine z_iconst (v := (-1)) dX4_alike_14 k_cm1 ?_
    exact z_iret dX4_alike_15
  · refine z_iload_n dX4_alike_7 rfl 2 rfl ?_
    refine z_cSi (As := [.int v2]) (rest := []) (c_X4_isEither X v2 m15) mw_X4_isEither iw_X4_isEither wm_X4_145 rfl rfl (by decide) (Nat.le_of_ble_eq_true rfl) dX4_alike_8 (fun x16 m17 => ?_)
    refine z_if_ne (tg := 16) dX4_alike_11 (by decide) ?_ ?_
    · refine z_aload_n dX4_alike_16 rfl 0 rfl ?_
      refine z_cVv (As := []) (rest := []) (c_X4_findLeaders X v0 m17) mw_X4_findLeaders iw_X4_findLeaders z_X4 wm_X4_121 rfl rfl (by decide) (Nat.le_of_ble_eq_true rfl) dX4_alike_17 (fun _ m18 => ?_)
      refine z_iconst (v := 0) dX4_alike_20 k_c0 ?_
      refine z_istore_n (lv' := [(3, .int 0), (0, .ref (z_ad X v0)), (1, .int v1), (2, .int v2)]) dX4_alike_21 rfl (by decide) rfl ?_
      refine z_iconst (v := 0) dX4_alike_22 k_c0 ?_
      refine z_istore (lv' := [(4, .int 0), (3, .int 0), (0, .ref (z_ad X v0)), (1, .int v1), (2, .int v2)]) dX4_alike_23 (by decide) rfl ?_
      exact z_sub (lv' := [(0, .ref (z_ad X v0)), (1, .int v1), (2, .int v2), (3, .int 0), (4, .int 0)]) [2, 3, 4, 1, 0] rfl (s_X4_alike_L25 X 400 v0 v1 v2 0 0 m18)
    · refine z_iconst (v := (-1)) dX4_alike_14 k_cm1 ?_
      exact z_iret dX4_alike_15
set_option maxRecDepth 100000 in
set_option maxHeartbeats 4000000 in
theorem c_X4_alike (X : z_X) (v0 : Nat) (v1 : Int32) (v2 : Int32) (m : z_M) : z_Ct X yX4_alike cX4_alike 6 (some .int) 5 [.ref (z_ad X v0), .int v1, .int v2] m (f_X4_alike v0 v1 v2 m) := z_Ct.of (by decide) (Nat.le_of_ble_eq_true rfl) (s_X4_alike X v0 v1 v2 m)
set_option maxRecDepth 100000 in
set_option maxHeartbeats 4000000 in
theorem s_X4_back (X : z_X) (v0 : Nat) (m : z_M) : z_Sim X yX4_back cX4_back 1 (some .int) 3 0 [(0, .ref (z_ad X v0))] [] m (f_X4_back v0 m) := by
  unfold f_X4_back
  refine z_aload_n dX4_back_0 rfl 0 rfl ?_
  refine z_getP z_X4 (j := 6) (by decide) rfl rfl wf_X4_45 dX4_back_1 (fun a1 => ?_)
  refine z_aload_n dX4_back_4 rfl 0 rfl ?_
  refine z_getP z_X4 (j := 3) (by decide) rfl rfl wf_X4_29 dX4_back_5 (fun a2 => ?_)
  refine z_cVi (As := [.ref (z_ad X a2)]) (rest := []) (c_X0_takeTop X a1 a2 m) mw_X0_takeTop iw_X0_takeTop z_X0 wm_X4_151 rfl rfl (by decide) (Nat.le_of_ble_eq_true rfl) dX4_back_8 (fun x3 m4 => ?_)
  refine z_if_ne (tg := 17) dX4_back_11 (by decide) ?_ ?_
  · refine z_aload_n dX4_back_17 rfl 0 rfl ?_
    refine z_getP z_X4 (j := 5) (by decide) rfl rfl wf_X4_41 dX4_back_18 (fun a5 => ?_)
    refine z_iconst (v := 0) dX4_back_21 k_c0 ?_
    refine z_setI z_X0 (by decide) rfl rfl wf_X4_155 dX4_back_22 ?_
    generalize z_wI m4 a5 1 0 = m6
    refine z_aload_n dX4_back_25 rfl 0 rfl ?_
    refine z_getP z_X4 (j := 6) (by decide) rfl rfl wf_X4_45 dX4_back_26 (fun a7 => ?_)
    refine z_getI z_X0 (j := 1) (by decide) rfl rfl wf_X4_155 dX4_back_29 (fun x8 => ?_)
    exact z_iret dX4_back_32
  · refine z_bipush (v := (-2)) dX4_back_14 k_bim2 ?_
    exact z_iret dX4_back_16
set_option maxRecDepth 100000 in
set_option maxHeartbeats 4000000 in
theorem c_X4_back (X : z_X) (v0 : Nat) (m : z_M) : z_Ct X yX4_back cX4_back 1 (some .int) 3 [.ref (z_ad X v0)] m (f_X4_back v0 m) := z_Ct.of (by decide) (Nat.le_of_ble_eq_true rfl) (s_X4_back X v0 m)
set_option maxRecDepth 100000 in
set_option maxHeartbeats 4000000 in
theorem s_X4_count (X : z_X) (v0 : Nat) (v1 : Int32) (m : z_M) : z_Sim X yX4_count cX4_count 2 (some .int) 0 0 [(0, .ref (z_ad X v0)), (1, .int v1)] [] m (f_X4_count v0 v1 m) := by
  unfold f_X4_count
  refine z_iload_n dX4_count_0 rfl 1 rfl ?_
  refine z_if (fun h0 => ?_) (fun h0 => ?_)
  · refine z_swIn (tg := 40) dX4_count_1 (by rw [h0]; decide) (by rw [h0]; decide) (by rw [h0]; rfl) (by decide) ?_
    refine z_aload_n dX4_count_40 rfl 0 rfl ?_
    refine z_getP z_X4 (j := 1) (by decide) rfl rfl wf_X4_19 dX4_count_41 (fun a1 => ?_)
    refine z_getI z_X2 (j := 0) (by decide) rfl rfl wf_X4_88 dX4_count_44 (fun x2 => ?_)
    exact z_iret dX4_count_47
  refine z_if (fun h1 => ?_) (fun h1 => ?_)
  · refine z_swIn (tg := 48) dX4_count_1 (by rw [h1]; decide) (by rw [h1]; decide) (by rw [h1]; rfl) (by decide) ?_
    refine z_aload_n dX4_count_48 rfl 0 rfl ?_
    refine z_getP z_X4 (j := 3) (by decide) rfl rfl wf_X4_29 dX4_count_49 (fun a3 => ?_)
    refine z_getI z_X3 (j := 3) (by decide) rfl rfl wf_X4_114 dX4_count_52 (fun x4 => ?_)
    exact z_iret dX4_count_55
  refine z_if (fun h2 => ?_) (fun h2 => ?_)
  · refine z_swIn (tg := 56) dX4_count_1 (by rw [h2]; decide) (by rw [h2]; decide) (by rw [h2]; rfl) (by decide) ?_
    refine z_aload_n dX4_count_56 rfl 0 rfl ?_
    refine z_getP z_X4 (j := 3) (by decide) rfl rfl wf_X4_29 dX4_count_57 (fun a5 => ?_)
    refine z_getI z_X3 (j := 2) (by decide) rfl rfl wf_X4_148 dX4_count_60 (fun x6 => ?_)
    exact z_iret dX4_count_63
  refine z_if (fun h3 => ?_) (fun h3 => ?_)
  · refine z_swIn (tg := 64) dX4_count_1 (by rw [h3]; decide) (by rw [h3]; decide) (by rw [h3]; rfl) (by decide) ?_
    refine z_aload_n dX4_count_64 rfl 0 rfl ?_
    refine z_getP z_X4 (j := 5) (by decide) rfl rfl wf_X4_41 dX4_count_65 (fun a7 => ?_)
    refine z_getI z_X0 (j := 1) (by decide) rfl rfl wf_X4_155 dX4_count_68 (fun x8 => ?_)
    exact z_iret dX4_count_71
  refine z_if (fun h4 => ?_) (fun h4 => ?_)
  · refine z_swIn (tg := 72) dX4_count_1 (by rw [h4]; decide) (by rw [h4]; decide) (by rw [h4]; rfl) (by decide) ?_
    refine z_aload_n dX4_count_72 rfl 0 rfl ?_
    refine z_getP z_X4 (j := 6) (by decide) rfl rfl wf_X4_45 dX4_count_73 (fun a9 => ?_)
    refine z_getI z_X0 (j := 1) (by decide) rfl rfl wf_X4_155 dX4_count_76 (fun x10 => ?_)
    exact z_iret dX4_count_79
  refine z_if (fun h5 => ?_) (fun h5 => ?_)
  · refine z_swIn (tg := 80) dX4_count_1 (by rw [h5]; decide) (by rw [h5]; decide) (by rw [h5]; rfl) (by decide) ?_
    refine z_aload_n dX4_count_80 rfl 0 rfl ?_
    refine z_getP z_X4 (j := 0) (by decide) rfl rfl wf_X4_10 dX4_count_81 (fun a11 => ?_)
    refine z_getI z_X1 (j := 1) (by decide) rfl rfl wf_X4_81 dX4_count_84 (fun x12 => ?_)
    exact z_iret dX4_count_87
  refine z_swOut (tg := 88) dX4_count_1 (z_sw5 h0 h1 h2 h3 h4 h5) (by decide) ?_
  refine z_iconst (v := (-1)) dX4_count_88 k_cm1 ?_
  exact z_iret dX4_count_89
set_option maxRecDepth 100000 in
set_option maxHeartbeats 4000000 in
theorem c_X4_count (X : z_X) (v0 : Nat) (v1 : Int32) (m : z_M) : z_Ct X yX4_count cX4_count 2 (some .int) 0 [.ref (z_ad X v0), .int v1] m (f_X4_count v0 v1 m) := z_Ct.of (by decide) (Nat.le_of_ble_eq_true rfl) (s_X4_count X v0 v1 m)
set_option maxRecDepth 100000 in
set_option maxHeartbeats 4000000 in
theorem s_X4_drawOf (X : z_X) (v0 : Int64) (m : z_M) : z_Sim X yX4_drawOf cX4_drawOf 2 (some .int) 0 0 [(0, .long v0)] [] m (f_X4_drawOf v0 m) := by
  unfold f_X4_drawOf
  refine z_lload_n dX4_drawOf_0 rfl 0 rfl ?_
  refine z_lload_n dX4_drawOf_1 rfl 0 rfl ?_
  refine z_lmul dX4_drawOf_2 ?_
  refine z_ldc2 dX4_drawOf_3 wk_X4_231 ?_
  refine z_lrem dX4_drawOf_6 (by decide) ?_
  refine z_ldc2 dX4_drawOf_7 wk_X4_233 ?_
  refine z_ldiv dX4_drawOf_10 (by decide) ?_
  refine z_l2i dX4_drawOf_11 ?_
  exact z_iret dX4_drawOf_12
set_option maxRecDepth 100000 in
set_option maxHeartbeats 4000000 in
theorem c_X4_drawOf (X : z_X) (v0 : Int64) (m : z_M) : z_Ct X yX4_drawOf cX4_drawOf 2 (some .int) 0 [.long v0] m (f_X4_drawOf v0 m) := z_Ct.of (by decide) (Nat.le_of_ble_eq_true rfl) (s_X4_drawOf X v0 m)
set_option maxRecDepth 100000 in
set_option maxHeartbeats 4000000 in
theorem s_X4_isAlike_L2 (X : z_X) : ∀ (n : Nat) (v0 : Nat) (v1 : Nat) (v2 : Int32) (m : z_M), z_Sim X yX4_isAlike cX4_isAlike 3 (some .boolean) 0 2 [(0, .ref (z_ad X v0)), (1, .ref (z_ad X v1)), (2, .int v2)] [] m (f_X4_isAlike_L2 n v0 v1 v2 m) := by
  intro n
  induction n with
  | zero => intros; exact z_none
  | succ n ih =>
      intro v0 v1 v2 m
      unfold f_X4_isAlike_L2
      refine z_iload_n dX4_isAlike_2 rfl 2 rfl ?_
      refine z_aload_n dX4_isAlike_3 rfl 0 rfl ?_
      refine z_getP z_X4 (j := 1) (by decide) rfl rfl wf_X4_19 dX4_isAlike_4 (fun a1 => ?_)
      refine z_getI z_X2 (j := 0) (by decide) rfl rfl wf_X4_88 dX4_isAlike_7 (fun x2 => ?_)
      refine z_icmp_ge (tg := 36) dX4_isAlike_10 (by decide) ?_ ?_
      · refine z_iconst (v := 1) dX4_isAlike_36 k_c1 ?_
        exact z_zret1 dX4_isAlike_37
      · refine z_aload_n dX4_isAlike_13 rfl 1 rfl ?_
        refine z_getP z_X3 (j := 0) (by decide) rfl rfl wf_X4_98 dX4_isAlike_14 (fun a3 => ?_)
        refine z_iload_n dX4_isAlike_17 rfl 2 rfl ?_
        refine z_iald dX4_isAlike_18 (fun x4 => ?_)
        refine z_aload_n dX4_isAlike_19 rfl 1 rfl ?_
        refine z_getP z_X3 (j := 0) (by decide) rfl rfl wf_X4_98 dX4_isAlike_20 (fun a5 => ?_)
        refine z_iconst (v := 0) dX4_isAlike_23 k_c0 ?_
        refine z_iald dX4_isAlike_24 (fun x6 => ?_)
        refine z_icmp_eq (tg := 30) dX4_isAlike_25 (by decide) ?_ ?_
        · refine z_iinc (k := 2) (lv' := [(2, .int (v2 + 1)), (0, .ref (z_ad X v0)), (1, .ref (z_ad X v1))]) dX4_isAlike_30 rfl (k_i1 _) (by decide) rfl ?_
          refine z_goto (tg := 2) dX4_isAlike_33 (by decide) ?_
          exact z_sub (lv' := [(0, .ref (z_ad X v0)), (1, .ref (z_ad X v1)), (2, .int (v2 + 1))]) [1, 2, 0] rfl (ih v0 v1 (v2 + 1) m)
        · refine z_iconst (v := 0) dX4_isAlike_28 k_c0 ?_
          exact z_zret0 dX4_isAlike_29
set_option maxRecDepth 100000 in
set_option maxHeartbeats 4000000 in
theorem s_X4_isAlike (X : z_X) (v0 : Nat) (v1 : Nat) (m : z_M) : z_Sim X yX4_isAlike cX4_isAlike 3 (some .boolean) 0 0 [(0, .ref (z_ad X v0)), (1, .ref (z_ad X v1))] [] m (f_X4_isAlike v0 v1 m) := by
  unfold f_X4_isAlike
  refine z_iconst (v := 1) dX4_isAlike_0 k_c1 ?_
  refine z_istore_n (lv' := [(2, .int 1), (0, .ref (z_ad X v0)), (1, .ref (z_ad X v1))]) dX4_isAlike_1 rfl (by decide) rfl ?_
  exact z_sub (lv' := [(0, .ref (z_ad X v0)), (1, .ref (z_ad X v1)), (2, .int 1)]) [1, 2, 0] rfl (s_X4_isAlike_L2 X 400 v0 v1 1 m)
set_option maxRecDepth 100000 in
set_option maxHeartbeats 4000000 in
theorem c_X4_isAlike (X : z_X) (v0 : Nat) (v1 : Nat) (m : z_M) : z_Ct X yX4_isAlike cX4_isAlike 3 (some .boolean) 0 [.ref (z_ad X v0), .ref (z_ad X v1)] m (f_X4_isAlike v0 v1 m) := z_Ct.of (by decide) (Nat.le_of_ble_eq_true rfl) (s_X4_isAlike X v0 v1 m)
set_option maxRecDepth 100000 in
set_option maxHeartbeats 4000000 in
theorem s_X4_errsByDraw (X : z_X) (v0 : Nat) (v1 : Int32) (v2 : Int32) (m : z_M) : z_Sim X yX4_errsByDraw cX4_errsByDraw 5 (some .boolean) 1 0 [(0, .ref (z_ad X v0)), (1, .int v1), (2, .int v2)] [] m (f_X4_errsByDraw v0 v1 v2 m) := by
  unfold f_X4_errsByDraw
  refine z_ldc2 dX4_errsByDraw_0 wk_X4_213 ?_
  refine z_aload_n dX4_errsByDraw_3 rfl 0 rfl ?_
  refine z_getP z_X4 (j := 1) (by decide) rfl rfl wf_X4_19 dX4_errsByDraw_4 (fun a1 => ?_)
  refine z_getI z_X2 (j := 1) (by decide) rfl rfl wf_X4_238 dX4_errsByDraw_7 (fun x2 => ?_)
  refine z_i2l dX4_errsByDraw_10 ?_
  refine z_lmul dX4_errsByDraw_11 ?_
  refine z_ldc2 dX4_errsByDraw_12 wk_X4_215 ?_
  refine z_iload_n dX4_errsByDraw_15 rfl 2 rfl ?_
  refine z_i2l dX4_errsByDraw_16 ?_
  refine z_lmul dX4_errsByDraw_17 ?_
  refine z_ladd dX4_errsByDraw_18 ?_
  refine z_ldc2 dX4_errsByDraw_19 wk_X4_241 ?_
  refine z_iload_n dX4_errsByDraw_22 rfl 1 rfl ?_
  refine z_i2l dX4_errsByDraw_23 ?_
  refine z_lmul dX4_errsByDraw_24 ?_
  refine z_ladd dX4_errsByDraw_25 ?_
  refine z_lconst (v := 1) dX4_errsByDraw_26 k_l1 ?_
  refine z_ladd dX4_errsByDraw_27 ?_
  refine z_nmL (fun l3 => ?_)
  refine z_lstore_n (lv' := [(3, .long l3), (0, .ref (z_ad X v0)), (1, .int v1), (2, .int v2)]) dX4_errsByDraw_28 rfl (by decide) rfl ?_
  refine z_lload_n dX4_errsByDraw_29 rfl 0 rfl ?_
  refine z_cSi (As := [.long l3]) (rest := []) (c_X4_drawOf X l3 m) mw_X4_drawOf iw_X4_drawOf wm_X4_217 rfl rfl (by decide) (Nat.le_of_ble_eq_true rfl) dX4_errsByDraw_30 (fun x4 m5 => ?_)
  refine z_bipush (v := 10) dX4_errsByDraw_33 k_bi10 ?_
  refine z_irem dX4_errsByDraw_35 (by decide) ?_
  refine z_aload_n dX4_errsByDraw_36 rfl 1 rfl ?_
  refine z_getP z_X4 (j := 1) (by decide) rfl rfl wf_X4_19 dX4_errsByDraw_37 (fun a6 => ?_)
  refine z_getP z_X2 (j := 6) (by decide) rfl rfl wf_X4_104 dX4_errsByDraw_40 (fun a7 => ?_)
  refine z_iload_n dX4_errsByDraw_43 rfl 2 rfl ?_
  refine z_iald dX4_errsByDraw_44 (fun x8 => ?_)
  refine z_icmp_ge (tg := 52) dX4_errsByDraw_45 (by decide) ?_ ?_
  · refine z_iconst (v := 0) dX4_errsByDraw_52 k_c0 ?_
    exact z_zret0 dX4_errsByDraw_53
  · refine z_iconst (v := 1) dX4_errsByDraw_48 k_c1 ?_
    refine z_goto (tg := 53) dX4_errsByDraw_49 (by decide) ?_
    exact z_zret1 dX4_errsByDraw_53
set_option maxRecDepth 100000 in
set_option maxHeartbeats 4000000 in
theorem c_X4_errsByDraw (X : z_X) (v0 : Nat) (v1 : Int32) (v2 : Int32) (m : z_M) : z_Ct X yX4_errsByDraw cX4_errsByDraw 5 (some .boolean) 1 [.ref (z_ad X v0), .int v1, .int v2] m (f_X4_errsByDraw v0 v1 v2 m) := z_Ct.of (by decide) (Nat.le_of_ble_eq_true rfl) (s_X4_errsByDraw X v0 v1 v2 m)
set_option maxRecDepth 100000 in
set_option maxHeartbeats 4000000 in
theorem s_X4_say_L99 (X : z_X) (h9 : Nat → Nat → Int32 → Int32 → z_M → z_R) (H9 : ∀ (w0 : Nat) (w1 : Nat) (w3 : Int32) (w4 : Int32) (w : z_M), z_Sim X yX4_say cX4_say 7 none 2 9 [(0, .ref (z_ad X w0)), (1, .ref (z_ad X w1)), (3, .int w3), (4, .int w4)] [] w (h9 w0 w1 w3 w4 w)) (v0 : Nat) (v1 : Nat) (v3 : Int32) (v4 : Int32) (m : z_M) : z_Sim X yX4_say cX4_say 7 none 2 99 [(0, .ref (z_ad X v0)), (1, .ref (z_ad X v1)), (3, .int v3), (4, .int v4)] [] m (f_X4_say_L99 h9 v0 v1 v3 v4 m) := by
  unfold f_X4_say_L99
  refine z_iinc (k := 3) (lv' := [(4, .int (v4 + 1)), (0, .ref (z_ad X v0)), (1, .ref (z_ad X v1)), (3, .int v3)]) dX4_say_99 rfl (k_i1 _) (by decide) rfl ?_
  refine z_goto (tg := 9) dX4_say_102 (by decide) ?_
  exact z_sub (lv' := [(0, .ref (z_ad X v0)), (1, .ref (z_ad X v1)), (3, .int v3), (4, .int (v4 + 1))]) [1, 2, 3, 0] rfl (H9 v0 v1 v3 (v4 + 1) m)
set_option maxRecDepth 100000 in
set_option maxHeartbeats 4000000 in
theorem s_X4_say_L9 (X : z_X) : ∀ (n : Nat) (v0 : Nat) (v1 : Nat) (v3 : Int32) (v4 : Int32) (m : z_M), z_Sim X yX4_say cX4_say 7 none 2 9 [(0, .ref (z_ad X v0)), (1, .ref (z_ad X v1)), (3, .int v3), (4, .int v4)] [] m (f_X4_say_L9 n v0 v1 v3 v4 m) := by
  intro n
  induction n with
  | zero => intros; exact z_none
  | succ n ih =>
      intro v0 v1 v3 v4 m
      unfold f_X4_say_L9
      refine z_iload dX4_say_9 3 rfl ?_
      refine z_aload_n dX4_say_11 rfl 0 rfl ?_
      refine z_getP z_X4 (j := 1) (by decide) rfl rfl wf_X4_19 dX4_say_12 (fun a1 => ?_)
      refine z_getI z_X2 (j := 0) (by decide) rfl rfl wf_X4_88 dX4_say_15 (fun x2 => ?_)
      refine z_icmp_ge (tg := 105) dX4_say_18 (by decide) ?_ ?_
      · refine z_aload_n dX4_say_105 rfl 1 rfl ?_
        refine z_dup dX4_say_106 rfl ?_
        refine z_getI z_X3 (j := 3) (by decide) rfl rfl wf_X4_114 dX4_say_107 (fun x3 => ?_)
        refine z_iconst (v := 1) dX4_say_110 k_c1 ?_
        refine z_iadd dX4_say_111 ?_
        refine z_nm (fun x4 => ?_)
        refine z_setI z_X3 (by decide) rfl rfl wf_X4_114 dX4_say_112 ?_
        generalize z_wI m v1 3 x4 = m5
        refine z_aload_n dX4_say_115 rfl 1 rfl ?_
        refine z_iload_n dX4_say_116 rfl 2 rfl ?_
        refine z_setI z_X3 (by decide) rfl rfl wf_X4_250 dX4_say_117 ?_
        generalize z_wI m5 v1 4 v3 = m6
        refine z_aload_n dX4_say_120 rfl 1 rfl ?_
        refine z_aload_n dX4_say_121 rfl 1 rfl ?_
        refine z_getI z_X3 (j := 5) (by decide) rfl rfl wf_X4_256 dX4_say_122 (fun x7 => ?_)
        refine z_iload_n dX4_say_125 rfl 2 rfl ?_
        refine z_iadd dX4_say_126 ?_
        refine z_iconst (v := 4) dX4_say_127 k_c4 ?_
        refine z_irem dX4_say_128 (by decide) ?_
        refine z_nm (fun x8 => ?_)
        refine z_setI z_X3 (by decide) rfl rfl wf_X4_256 dX4_say_129 ?_
        generalize z_wI m6 v1 5 x8 = m9
        exact z_vret dX4_say_132
      · refine z_aload_n dX4_say_21 rfl 0 rfl ?_
        refine z_aload_n dX4_say_22 rfl 0 rfl ?_
        refine z_getP z_X4 (j := 7) (by decide) rfl rfl wf_X4_48 dX4_say_23 (fun a10 => ?_)
        refine z_iload dX4_say_26 3 rfl ?_
        refine z_iald dX4_say_28 (fun x11 => ?_)
        refine z_aload_n dX4_say_29 rfl 1 rfl ?_
        refine z_getI z_X3 (j := 3) (by decide) rfl rfl wf_X4_114 dX4_say_30 (fun x12 => ?_)
        refine z_cVi (As := [.int x11, .int x12]) (rest := []) (c_X4_errsByDraw X v0 x11 x12 m) mw_X4_errsByDraw iw_X4_errsByDraw z_X4 wm_X4_243 rfl rfl (by decide) (Nat.le_of_ble_eq_true rfl) dX4_say_33 (fun x13 m14 => ?_)
        refine z_istore (lv' := [(5, .int x13), (0, .ref (z_ad X v0)), (1, .ref (z_ad X v1)), (3, .int v3), (4, .int v4)]) dX4_say_36 (by decide) rfl ?_
        refine z_aload_n dX4_say_38 rfl 1 rfl ?_
        refine z_aload_n dX4_say_39 rfl 1 rfl ?_
        refine z_getP z_X4 (j := 7) (by decide) rfl rfl wf_X4_48 dX4_say_40 (fun a15 => ?_)
        refine z_iload dX4_say_43 4 rfl ?_
        refine z_iald dX4_say_45 (fun x16 => ?_)
        refine z_iload dX4_say_46 0 rfl ?_
        refine z_cVi (As := [.int x16, .int x13]) (rest := []) (c_X4_mannerOf X v0 x16 x13 m14) mw_X4_mannerOf iw_X4_mannerOf z_X4 wm_X4_246 rfl rfl (by decide) (Nat.le_of_ble_eq_true rfl) dX4_say_48 (fun x17 m18 => ?_)
        refine z_iload_n dX4_say_51 rfl 3 rfl ?_
        refine z_aload_n dX4_say_52 rfl 2 rfl ?_
        refine z_getI z_X3 (j := 4) (by decide) rfl rfl wf_X4_250 dX4_say_53 (fun x19 => ?_)
        refine z_cSi (As := [.int x17, .int v3, .int x19]) (rest := []) (c_X4_turnBy X x17 v3 x19 m18) mw_X4_turnBy iw_X4_turnBy wm_X4_253 rfl rfl (by decide) (Nat.le_of_ble_eq_true rfl) dX4_say_56 (fun x20 m21 => ?_)
        refine z_istore (lv' := [(6, .int x20), (5, .int x13), (0, .ref (z_ad X v0)), (1, .ref (z_ad X v1)), (3, .int v3), (4, .int v4)]) dX4_say_59 (by decide) rfl ?_
        refine z_aload_n dX4_say_61 rfl 3 rfl ?_
        refine z_getP z_X3 (j := 0) (by decide) rfl rfl wf_X4_98 dX4_say_62 (fun a22 => ?_)
        refine z_iload dX4_say_65 5 rfl ?_
        refine z_aload_n dX4_say_67 rfl 3 rfl ?_
        refine z_getP z_X3 (j := 0) (by decide) rfl rfl wf_X4_98 dX4_say_68 (fun a23 => ?_)
        refine z_iload dX4_say_71 5 rfl ?_
        refine z_iald dX4_say_73 (fun x24 => ?_)
        refine z_iload dX4_say_74 0 rfl ?_
        refine z_iadd dX4_say_76 ?_
        refine z_iconst (v := 4) dX4_say_77 k_c4 ?_
        refine z_irem dX4_say_78 (by decide) ?_
        refine z_nm (fun x25 => ?_)
        refine z_iast dX4_say_79 ?_
        generalize z_wI m21 a22 (Int32.toNatClampNeg v4) x25 = m26
        refine z_iload dX4_say_80 0 rfl ?_
        refine z_iload_n dX4_say_82 rfl 4 rfl ?_
        refine z_icmp_eq (tg := 99) dX4_say_83 (by decide) ?_ ?_
        · exact z_sub (lv' := [(0, .ref (z_ad X v0)), (1, .ref (z_ad X v1)), (3, .int v3), (4, .int v4)]) [2, 3, 4, 5] rfl (s_X4_say_L99 X (f_X4_say_L9 n) ih v0 v1 v3 v4 m26)
        · refine z_aload_n dX4_say_86 rfl 3 rfl ?_
          refine z_dup dX4_say_87 rfl ?_
          refine z_getI z_X3 (j := 6) (by decide) rfl rfl wf_X4_158 dX4_say_88 (fun x27 => ?_)
          refine z_iconst (v := 1) dX4_say_91 k_c1 ?_
          refine z_iload dX4_say_92 5 rfl ?_
          refine z_ishl dX4_say_94 ?_
          refine z_ior dX4_say_95 ?_
          refine z_nm (fun x28 => ?_)
          refine z_setI z_X3 (by decide) rfl rfl wf_X4_158 dX4_say_96 ?_
          generalize z_wI m26 v1 6 x28 = m29
          exact z_sub (lv' := [(0, .ref (z_ad X v0)), (1, .ref (z_ad X v1)), (3, .int v3), (4, .int v4)]) [2, 3, 4, 5] rfl (s_X4_say_L99 X (f_X4_say_L9 n) ih v0 v1 v3 v4 m29)
set_option maxRecDepth 100000 in
set_option maxHeartbeats 4000000 in
theorem s_X4_say (X : z_X) (v0 : Nat) (v1 : Nat) (v2 : Int32) (m : z_M) : z_Sim X yX4_say cX4_say 7 none 2 0 [(0, .ref (z_ad X v0)), (1, .ref (z_ad X v1)), (2, .int v2)] [] m (f_X4_say v0 v1 v2 m) := by
  unfold f_X4_say
  refine z_gets0 wf_X4_186 dX4_say_0 ?_
  refine z_iload_n dX4_say_3 rfl 2 rfl ?_
  refine z_tald (t := 0) (by decide) dX4_say_4 (fun x30 => ?_)
  refine z_istore_n (lv' := [(3, .int x30), (0, .ref (z_ad X v0)), (1, .ref (z_ad X v1)), (2, .int v2)]) dX4_say_5 rfl (by decide) rfl ?_
  refine z_iconst (v := 0) dX4_say_6 k_c0 ?_
  refine z_istore (lv' := [(4, .int 0), (3, .int x30), (0, .ref (z_ad X v0)), (1, .ref (z_ad X v1)), (2, .int v2)]) dX4_say_7 (by decide) rfl ?_
  exact z_sub (lv' := [(0, .ref (z_ad X v0)), (1, .ref (z_ad X v1)), (3, .int x30), (4, .int 0)]) [2, 3, 1, 0] rfl (s_X4_say_L9 X 400 v0 v1 x30 0 m)
set_option maxRecDepth 100000 in
set_option maxHeartbeats 4000000 in
theorem c_X4_say (X : z_X) (v0 : Nat) (v1 : Nat) (v2 : Int32) (m : z_M) : z_Ct X yX4_say cX4_say 7 none 2 [.ref (z_ad X v0), .ref (z_ad X v1), .int v2] m (f_X4_say v0 v1 v2 m) := z_Ct.of (by decide) (Nat.le_of_ble_eq_true rfl) (s_X4_say X v0 v1 v2 m)
set_option maxRecDepth 100000 in
set_option maxHeartbeats 4000000 in
theorem s_X4_dueFacing (X : z_X) (v0 : Nat) (v1 : Nat) (v2 : Int32) (m : z_M) : z_Sim X yX4_dueFacing cX4_dueFacing 3 (some .int) 0 0 [(0, .ref (z_ad X v0)), (1, .ref (z_ad X v1)), (2, .int v2)] [] m (f_X4_dueFacing v0 v1 v2 m) := by
  unfold f_X4_dueFacing
  refine z_aload_n dX4_dueFacing_0 rfl 0 rfl ?_
  refine z_getP z_X4 (j := 1) (by decide) rfl rfl wf_X4_19 dX4_dueFacing_1 (fun a1 => ?_)
  refine z_getP z_X2 (j := 4) (by decide) rfl rfl wf_X4_259 dX4_dueFacing_4 (fun a2 => ?_)
  refine z_iload_n dX4_dueFacing_7 rfl 2 rfl ?_
  refine z_iald dX4_dueFacing_8 (fun x3 => ?_)
  refine z_aload_n dX4_dueFacing_9 rfl 1 rfl ?_
  refine z_getI z_X3 (j := 5) (by decide) rfl rfl wf_X4_256 dX4_dueFacing_10 (fun x4 => ?_)
  refine z_iadd dX4_dueFacing_13 ?_
  refine z_iconst (v := 4) dX4_dueFacing_14 k_c4 ?_
  refine z_irem dX4_dueFacing_15 (by decide) ?_
  exact z_iret dX4_dueFacing_16
set_option maxRecDepth 100000 in
set_option maxHeartbeats 4000000 in
theorem c_X4_dueFacing (X : z_X) (v0 : Nat) (v1 : Nat) (v2 : Int32) (m : z_M) : z_Ct X yX4_dueFacing cX4_dueFacing 3 (some .int) 0 [.ref (z_ad X v0), .ref (z_ad X v1), .int v2] m (f_X4_dueFacing v0 v1 v2 m) := z_Ct.of (by decide) (Nat.le_of_ble_eq_true rfl) (s_X4_dueFacing X v0 v1 v2 m)
set_option maxRecDepth 100000 in
set_option maxHeartbeats 4000000 in
theorem s_X4_wrongMen_L36 (X : z_X) (h4 : Nat → Nat → Int32 → Int32 → z_M → z_R) (H4 : ∀ (w0 : Nat) (w1 : Nat) (w2 : Int32) (w3 : Int32) (w : z_M), z_Sim X yX4_wrongMen cX4_wrongMen 4 (some .int) 1 4 [(0, .ref (z_ad X w0)), (1, .ref (z_ad X w1)), (2, .int w2), (3, .int w3)] [] w (h4 w0 w1 w2 w3 w)) (v0 : Nat) (v1 : Nat) (v2 : Int32) (v3 : Int32) (m : z_M) : z_Sim X yX4_wrongMen cX4_wrongMen 4 (some .int) 1 36 [(0, .ref (z_ad X v0)), (1, .ref (z_ad X v1)), (2, .int v2), (3, .int v3)] [] m (f_X4_wrongMen_L36 h4 v0 v1 v2 v3 m) := by
  unfold f_X4_wrongMen_L36
  refine z_iinc (k := 3) (lv' := [(3, .int (v3 + 1)), (0, .ref (z_ad X v0)), (1, .ref (z_ad X v1)), (2, .int v2)]) dX4_wrongMen_36 rfl (k_i1 _) (by decide) rfl ?_
  refine z_goto (tg := 4) dX4_wrongMen_39 (by decide) ?_
  exact z_sub (lv' := [(0, .ref (z_ad X v0)), (1, .ref (z_ad X v1)), (2, .int v2), (3, .int (v3 + 1))]) [1, 2, 3, 0] rfl (H4 v0 v1 v2 (v3 + 1) m)
set_option maxRecDepth 100000 in
set_option maxHeartbeats 4000000 in
theorem s_X4_wrongMen_L4 (X : z_X) : ∀ (n : Nat) (v0 : Nat) (v1 : Nat) (v2 : Int32) (v3 : Int32) (m : z_M), z_Sim X yX4_wrongMen cX4_wrongMen 4 (some .int) 1 4 [(0, .ref (z_ad X v0)), (1, .ref (z_ad X v1)), (2, .int v2), (3, .int v3)] [] m (f_X4_wrongMen_L4 n v0 v1 v2 v3 m) := by
  intro n
  induction n with
  | zero => intros; exact z_none
  | succ n ih =>
      intro v0 v1 v2 v3 m
      unfold f_X4_wrongMen_L4
      refine z_iload_n dX4_wrongMen_4 rfl 3 rfl ?_
      refine z_aload_n dX4_wrongMen_5 rfl 0 rfl ?_
      refine z_getP z_X4 (j := 1) (by decide) rfl rfl wf_X4_19 dX4_wrongMen_6 (fun a1 => ?_)
      refine z_getI z_X2 (j := 0) (by decide) rfl rfl wf_X4_88 dX4_wrongMen_9 (fun x2 => ?_)
      refine z_icmp_ge (tg := 42) dX4_wrongMen_12 (by decide) ?_ ?_
      · refine z_iload_n dX4_wrongMen_42 rfl 2 rfl ?_
        exact z_iret dX4_wrongMen_43
      · refine z_aload_n dX4_wrongMen_15 rfl 1 rfl ?_
        refine z_getP z_X3 (j := 0) (by decide) rfl rfl wf_X4_98 dX4_wrongMen_16 (fun a3 => ?_)
        refine z_iload_n dX4_wrongMen_19 rfl 3 rfl ?_
        refine z_iald dX4_wrongMen_20 (fun x4 => ?_)
        refine z_aload_n dX4_wrongMen_21 rfl 0 rfl ?_
        refine z_aload_n dX4_wrongMen_22 rfl 1 rfl ?_
        refine z_iload_n dX4_wrongMen_23 rfl 3 rfl ?_
        refine z_cVi (As := [.ref (z_ad X v1), .int v3]) (rest := [.int x4]) (c_X4_dueFacing X v0 v1 v3 m) mw_X4_dueFacing iw_X4_dueFacing z_X4 wm_X4_107 rfl rfl (by decide) (Nat.le_of_ble_eq_true rfl) dX4_wrongMen_24 (fun x5 m6 => ?_)
        refine z_icmp_eq (tg := 36) dX4_wrongMen_27 (by decide) ?_ ?_
        · exact z_sub (lv' := [(0, .ref (z_ad X v0)), (1, .ref (z_ad X v1)), (2, .int v2), (3, .int v3)]) [0, 1, 2, 3] rfl (s_X4_wrongMen_L36 X (f_X4_wrongMen_L4 n) ih v0 v1 v2 v3 m6)
        · refine z_iload_n dX4_wrongMen_30 rfl 2 rfl ?_
          refine z_iconst (v := 1) dX4_wrongMen_31 k_c1 ?_
          refine z_iload_n dX4_wrongMen_32 rfl 3 rfl ?_
          refine z_ishl dX4_wrongMen_33 ?_
          refine z_ior dX4_wrongMen_34 ?_
          refine z_nm (fun x7 => ?_)
          refine z_istore_n (lv' := [(2, .int x7), (0, .ref (z_ad X v0)), (1, .ref (z_ad X v1)), (3, .int v3)]) dX4_wrongMen_35 rfl (by decide) rfl ?_
          exact z_sub (lv' := [(0, .ref (z_ad X v0)), (1, .ref (z_ad X v1)), (2, .int x7), (3, .int v3)]) [1, 2, 0, 3] rfl (s_X4_wrongMen_L36 X (f_X4_wrongMen_L4 n) ih v0 v1 x7 v3 m6)
set_option maxRecDepth 100000 in
set_option maxHeartbeats 4000000 in
theorem s_X4_wrongMen (X : z_X) (v0 : Nat) (v1 : Nat) (m : z_M) : z_Sim X yX4_wrongMen cX4_wrongMen 4 (some .int) 1 0 [(0, .ref (z_ad X v0)), (1, .ref (z_ad X v1))] [] m (f_X4_wrongMen v0 v1 m) := by
  unfold f_X4_wrongMen
  refine z_iconst (v := 0) dX4_wrongMen_0 k_c0 ?_
  refine z_istore_n (lv' := [(2, .int 0), (0, .ref (z_ad X v0)), (1, .ref (z_ad X v1))]) dX4_wrongMen_1 rfl (by decide) rfl ?_
  refine z_iconst (v := 0) dX4_wrongMen_2 k_c0 ?_
  refine z_istore_n (lv' := [(3, .int 0), (2, .int 0), (0, .ref (z_ad X v0)), (1, .ref (z_ad X v1))]) dX4_wrongMen_3 rfl (by decide) rfl ?_
  exact z_sub (lv' := [(0, .ref (z_ad X v0)), (1, .ref (z_ad X v1)), (2, .int 0), (3, .int 0)]) [2, 3, 1, 0] rfl (s_X4_wrongMen_L4 X 400 v0 v1 0 0 m)
set_option maxRecDepth 100000 in
set_option maxHeartbeats 4000000 in
theorem c_X4_wrongMen (X : z_X) (v0 : Nat) (v1 : Nat) (m : z_M) : z_Ct X yX4_wrongMen cX4_wrongMen 4 (some .int) 1 [.ref (z_ad X v0), .ref (z_ad X v1)] m (f_X4_wrongMen v0 v1 m) := z_Ct.of (by decide) (Nat.le_of_ble_eq_true rfl) (s_X4_wrongMen X v0 v1 m)
set_option maxRecDepth 100000 in
set_option maxHeartbeats 4000000 in
theorem s_X4_drill_L101 (X : z_X) (h52 : Nat → Int32 → Int32 → Int32 → Int32 → Int32 → z_M → z_R) (H52 : ∀ (w0 : Nat) (w1 : Int32) (w2 : Int32) (w3 : Int32) (w4 : Int32) (w5 : Int32) (w : z_M), z_Sim X yX4_drill cX4_drill 6 (some .int) 3 52 [(0, .ref (z_ad X w0)), (1, .int w1), (2, .int w2), (3, .int w3), (4, .int w4), (5, .int w5)] [] w (h52 w0 w1 w2 w3 w4 w5 w)) (v0 : Nat) (v1 : Int32) (v2 : Int32) (v3 : Int32) (v4 : Int32) (v5 : Int32) (m : z_M) : z_Sim X yX4_drill cX4_drill 6 (some .int) 3 101 [(0, .ref (z_ad X v0)), (1, .int v1), (2, .int v2), (3, .int v3), (4, .int v4), (5, .int v5)] [] m (f_X4_drill_L101 h52 v0 v1 v2 v3 v4 v5 m) := by
  unfold f_X4_drill_L101
  refine z_iinc (k := 5) (lv' := [(5, .int (v5 + 1)), (0, .ref (z_ad X v0)), (1, .int v1), (2, .int v2), (3, .int v3), (4, .int v4)]) dX4_drill_101 rfl (k_i1 _) (by decide) rfl ?_
  refine z_goto (tg := 52) dX4_drill_104 (by decide) ?_
  exact z_sub (lv' := [(0, .ref (z_ad X v0)), (1, .int v1), (2, .int v2), (3, .int v3), (4, .int v4), (5, .int (v5 + 1))]) [1, 2, 3, 4, 5, 0] rfl (H52 v0 v1 v2 v3 v4 (v5 + 1) m)
set_option maxRecDepth 100000 in
set_option maxHeartbeats 4000000 in
theorem s_X4_drill_L52 (X : z_X) : ∀ (n : Nat) (v0 : Nat) (v1 : Int32) (v2 : Int32) (v3 : Int32) (v4 : Int32) (v5 : Int32) (m : z_M), z_Sim X yX4_drill cX4_drill 6 (some .int) 3 52 [(0, .ref (z_ad X v0)), (1, .int v1), (2, .int v2), (3, .int v3), (4, .int v4), (5, .int v5)] [] m (f_X4_drill_L52 n v0 v1 v2 v3 v4 v5 m) := by
  intro n
  induction n with
  | zero => intros; exact z_none
  | succ n ih =>
      intro v0 v1 v2 v3 v4 v5 m
      unfold f_X4_drill_L52
      refine z_iload dX4_drill_52 5 rfl ?_
      refine z_iload_n dX4_drill_54 rfl 2 rfl ?_
      refine z_icmp_ge (tg := 107) dX4_drill_55 (by decide) ?_ ?_
      · refine z_iload_n dX4_drill_107 rfl 3 rfl ?_
        refine z_if_ne (tg := 125) dX4_drill_108 (by decide) ?_ ?_
        · refine z_iload dX4_drill_125 4 rfl ?_
          exact z_iret dX4_drill_127
        · refine z_aload_n dX4_drill_111 rfl 0 rfl ?_
          refine z_aload_n dX4_drill_112 rfl 0 rfl ?_
          refine z_getP z_X4 (j := 4) (by decide) rfl rfl wf_X4_33 dX4_drill_113 (fun a1 => ?_)
          refine z_cVi (As := [.ref (z_ad X a1)]) (rest := []) (c_X4_wrongMen X v0 a1 m) mw_X4_wrongMen iw_X4_wrongMen z_X4 wm_X4_128 rfl rfl (by decide) (Nat.le_of_ble_eq_true rfl) dX4_drill_116 (fun x2 m3 => ?_)
          refine z_cSi (As := [.int x2]) (rest := []) (c_J6_bitCount_0f7a4 X x2 m3) mw_J6_bitCount_0f7a4 iw_J6_bitCount_0f7a4 wm_X4_132 rfl rfl (by decide) (Nat.le_of_ble_eq_true rfl) dX4_drill_119 (fun x4 m5 => ?_)
          refine z_goto (tg := 127) dX4_drill_122 (by decide) ?_
          exact z_iret dX4_drill_127
      · refine z_aload_n dX4_drill_58 rfl 0 rfl ?_
        refine z_aload_n dX4_drill_59 rfl 0 rfl ?_
        refine z_getP z_X4 (j := 4) (by decide) rfl rfl wf_X4_33 dX4_drill_60 (fun a6 => ?_)
        refine z_ldc2 dX4_drill_63 wk_X4_213 ?_
        refine z_iload_n dX4_drill_66 rfl 1 rfl ?_
        refine z_i2l dX4_drill_67 ?_
        refine z_lmul dX4_drill_68 ?_
        refine z_ldc2 dX4_drill_69 wk_X4_215 ?_
        refine z_iload dX4_drill_72 5 rfl ?_
        refine z_i2l dX4_drill_74 ?_
        refine z_lmul dX4_drill_75 ?_
        refine z_ladd dX4_drill_76 ?_
        refine z_lconst (v := 1) dX4_drill_77 k_l1 ?_
        refine z_ladd dX4_drill_78 ?_
        refine z_cSi (As := [.long (((7919 * (Int32.toInt64 v1)) + (6151 * (Int32.toInt64 v5))) + 1)]) (rest := [.ref (z_ad X a6), .ref (z_ad X v0)]) (c_X4_drawOf X (((7919 * (Int32.toInt64 v1)) + (6151 * (Int32.toInt64 v5))) + 1) m) mw_X4_drawOf iw_X4_drawOf wm_X4_217 rfl rfl (by decide) (Nat.le_of_ble_eq_true rfl) dX4_drill_79 (fun x7 m8 => ?_)
        refine z_iconst (v := 3) dX4_drill_82 k_c3 ?_
        refine z_irem dX4_drill_83 (by decide) ?_
        refine z_cVv (As := [.ref (z_ad X a6), .int (z_mI x7 3)]) (rest := []) (c_X4_say X v0 a6 (z_mI x7 3) m8) mw_X4_say iw_X4_say z_X4 wm_X4_124 rfl rfl (by decide) (Nat.le_of_ble_eq_true rfl) dX4_drill_84 (fun _ m9 => ?_)
        refine z_aload_n dX4_drill_87 rfl 0 rfl ?_
        refine z_aload_n dX4_drill_88 rfl 0 rfl ?_
        refine z_getP z_X4 (j := 4) (by decide) rfl rfl wf_X4_33 dX4_drill_89 (fun a10 => ?_)
        refine z_cVi (As := [.ref (z_ad X a10)]) (rest := []) (c_X4_isAlike X v0 a10 m9) mw_X4_isAlike iw_X4_isAlike z_X4 wm_X4_221 rfl rfl (by decide) (Nat.le_of_ble_eq_true rfl) dX4_drill_92 (fun x11 m12 => ?_)
        refine z_if_eq (tg := 101) dX4_drill_95 (by decide) ?_ ?_
        · exact z_sub (lv' := [(0, .ref (z_ad X v0)), (1, .int v1), (2, .int v2), (3, .int v3), (4, .int v4), (5, .int v5)]) [0, 1, 2, 3, 4, 5] rfl (s_X4_drill_L101 X (f_X4_drill_L52 n) ih v0 v1 v2 v3 v4 v5 m12)
        · refine z_iinc (k := 4) (lv' := [(4, .int (v4 + 1)), (0, .ref (z_ad X v0)), (1, .int v1), (2, .int v2), (3, .int v3), (5, .int v5)]) dX4_drill_98 rfl (k_i1 _) (by decide) rfl ?_
          exact z_sub (lv' := [(0, .ref (z_ad X v0)), (1, .int v1), (2, .int v2), (3, .int v3), (4, .int (v4 + 1)), (5, .int v5)]) [1, 2, 3, 4, 0, 5] rfl (s_X4_drill_L101 X (f_X4_drill_L52 n) ih v0 v1 v2 v3 (v4 + 1) v5 m12)
set_option maxRecDepth 100000 in
set_option maxHeartbeats 4000000 in
theorem s_X4_drill (X : z_X) (v0 : Nat) (v1 : Int32) (v2 : Int32) (v3 : Int32) (m : z_M) : z_Sim X yX4_drill cX4_drill 6 (some .int) 3 0 [(0, .ref (z_ad X v0)), (1, .int v1), (2, .int v2), (3, .int v3)] [] m (f_X4_drill v0 v1 v2 v3 m) := by
  unfold f_X4_drill
  refine z_iload_n dX4_drill_0 rfl 1 rfl ?_
  refine z_if_lt (tg := 29) dX4_drill_1 (by decide) ?_ ?_
  · refine z_iconst (v := (-1)) dX4_drill_29 k_cm1 ?_
    exact z_iret dX4_drill_30
  · refine z_iload_n dX4_drill_4 rfl 1 rfl ?_
    refine z_sipush (v := 9999) dX4_drill_5 k_si9999 ?_
    refine z_icmp_gt (tg := 29) dX4_drill_8 (by decide) ?_ ?_
    · refine z_iconst (v := (-1)) dX4_drill_29 k_cm1 ?_
      exact z_iret dX4_drill_30
    · refine z_iload_n dX4_drill_11 rfl 2 rfl ?_
      refine z_iconst (v := 1) dX4_drill_12 k_c1 ?_
      refine z_icmp_lt (tg := 29) dX4_drill_13 (by decide) ?_ ?_
      · refine z_iconst (v := (-1)) dX4_drill_29 k_cm1 ?_
        exact z_iret dX4_drill_30
      · refine z_iload_n dX4_drill_16 rfl 2 rfl ?_
        refine z_bipush (v := 60) dX4_drill_17 k_bi60 ?_
        refine z_icmp_gt (tg := 29) dX4_drill_19 (by decide) ?_ ?_
        · refine z_iconst (v := (-1)) dX4_drill_29 k_cm1 ?_
          exact z_iret dX4_drill_30
        · refine z_iload_n dX4_drill_22 rfl 3 rfl ?_
          refine z_cSi (As := [.int v3]) (rest := []) (c_X4_isEither X v3 m) mw_X4_isEither iw_X4_isEither wm_X4_145 rfl rfl (by decide) (Nat.le_of_ble_eq_true rfl) dX4_drill_23 (fun x13 m14 => ?_)
          refine z_if_ne (tg := 31) dX4_drill_26 (by decide) ?_ ?_
          · refine z_aload_n dX4_drill_31 rfl 0 rfl ?_
            refine z_cVv (As := []) (rest := []) (c_X4_findLeaders X v0 m14) mw_X4_findLeaders iw_X4_findLeaders z_X4 wm_X4_121 rfl rfl (by decide) (Nat.le_of_ble_eq_true rfl) dX4_drill_32 (fun _ m15 => ?_)
            refine z_aload_n dX4_drill_35 rfl 0 rfl ?_
            refine z_getP z_X4 (j := 4) (by decide) rfl rfl wf_X4_33 dX4_drill_36 (fun a16 => ?_)
            refine z_aload_n dX4_drill_39 rfl 0 rfl ?_
            refine z_getP z_X4 (j := 3) (by decide) rfl rfl wf_X4_29 dX4_drill_40 (fun a17 => ?_)
            refine z_cVv (As := [.ref (z_ad X a17)]) (rest := []) (c_X3_copy X a16 a17 m15) mw_X3_copy iw_X3_copy z_X3 wm_X4_210 rfl rfl (by decide) (Nat.le_of_ble_eq_true rfl) dX4_drill_43 (fun _ m18 => ?_)
            refine z_iconst (v := 0) dX4_drill_46 k_c0 ?_
            refine z_istore (lv' := [(4, .int 0), (0, .ref (z_ad X v0)), (1, .int v1), (2, .int v2), (3, .int v3)]) dX4_drill_47 (by decide) rfl ?_
            refine z_iconst (v := 0) dX4_drill_49 k_c0 ?_
            refine z_istore (lv' := [(5, .int 0), (4, .int 0), (0, .ref (z_ad X v0)), (1, .int v1), (2, .int v2), (3, .int v3)]) dX4_drill_50 (by decide) rfl ?_
            exact z_sub (lv' := [(0, .ref (z_ad X v0)), (1, .int v1), (2, .int v2), (3, .int v3), (4, .int 0), (5, .int 0)]) [2, 3, 4, 5, 1, 0] rfl (s_X4_drill_L52 X 400 v0 v1 v2 v3 0 0 m18)
          · refine z_iconst (v := (-1)) dX4_drill_29 k_cm1 ?_
            exact z_iret dX4_drill_30
set_option maxRecDepth 100000 in
set_option maxHeartbeats 4000000 in
theorem c_X4_drill (X : z_X) (v0 : Nat) (v1 : Int32) (v2 : Int32) (v3 : Int32) (m : z_M) : z_Ct X yX4_drill cX4_drill 6 (some .int) 3 [.ref (z_ad X v0), .int v1, .int v2, .int v3] m (f_X4_drill v0 v1 v2 v3 m) := z_Ct.of (by decide) (Nat.le_of_ble_eq_true rfl) (s_X4_drill X v0 v1 v2 v3 m)
set_option maxRecDepth 100000 in
set_option maxHeartbeats 4000000 in
theorem s_X4_eyes (X : z_X) (v0 : Nat) (v1 : Int32) (m : z_M) : z_Sim X yX4_eyes cX4_eyes 3 (some .int) 3 0 [(0, .ref (z_ad X v0)), (1, .int v1)] [] m (f_X4_eyes v0 v1 m) := by
  unfold f_X4_eyes
  refine z_iload_n dX4_eyes_0 rfl 1 rfl ?_
  refine z_cSi (As := [.int v1]) (rest := []) (c_X4_isEither X v1 m) mw_X4_isEither iw_X4_isEither wm_X4_145 rfl rfl (by decide) (Nat.le_of_ble_eq_true rfl) dX4_eyes_1 (fun x1 m2 => ?_)
  refine z_if_ne (tg := 9) dX4_eyes_4 (by decide) ?_ ?_
  · refine z_aload_n dX4_eyes_9 rfl 0 rfl ?_
    refine z_getP z_X4 (j := 5) (by decide) rfl rfl wf_X4_41 dX4_eyes_10 (fun a3 => ?_)
    refine z_aload_n dX4_eyes_13 rfl 0 rfl ?_
    refine z_getP z_X4 (j := 3) (by decide) rfl rfl wf_X4_29 dX4_eyes_14 (fun a4 => ?_)
    refine z_cVv (As := [.ref (z_ad X a4)]) (rest := []) (c_X0_put X a3 a4 m2) mw_X0_put iw_X0_put z_X0 wm_X4_117 rfl rfl (by decide) (Nat.le_of_ble_eq_true rfl) dX4_eyes_17 (fun _ m5 => ?_)
    refine z_aload_n dX4_eyes_20 rfl 0 rfl ?_
    refine z_getP z_X4 (j := 3) (by decide) rfl rfl wf_X4_29 dX4_eyes_21 (fun a6 => ?_)
    refine z_getI z_X3 (j := 2) (by decide) rfl rfl wf_X4_148 dX4_eyes_24 (fun x7 => ?_)
    refine z_istore_n (lv' := [(2, .int x7), (0, .ref (z_ad X v0)), (1, .int v1)]) dX4_eyes_27 rfl (by decide) rfl ?_
    refine z_aload_n dX4_eyes_28 rfl 1 rfl ?_
    refine z_getP z_X4 (j := 3) (by decide) rfl rfl wf_X4_29 dX4_eyes_29 (fun a8 => ?_)
    refine z_iload_n dX4_eyes_32 rfl 2 rfl ?_
    refine z_setI z_X3 (by decide) rfl rfl wf_X4_148 dX4_eyes_33 ?_
    generalize z_wI m5 a8 2 v1 = m9
    refine z_iload_n dX4_eyes_36 rfl 0 rfl ?_
    exact z_iret dX4_eyes_37
  · refine z_iconst (v := (-1)) dX4_eyes_7 k_cm1 ?_
    exact z_iret dX4_eyes_8
set_option maxRecDepth 100000 in
set_option maxHeartbeats 4000000 in
theorem c_X4_eyes (X : z_X) (v0 : Nat) (v1 : Int32) (m : z_M) : z_Ct X yX4_eyes cX4_eyes 3 (some .int) 3 [.ref (z_ad X v0), .int v1] m (f_X4_eyes v0 v1 m) := z_Ct.of (by decide) (Nat.le_of_ble_eq_true rfl) (s_X4_eyes X v0 v1 m)
set_option maxRecDepth 100000 in
set_option maxHeartbeats 4000000 in
theorem s_X4_facingForeseen (X : z_X) (v0 : Nat) (v1 : Int32) (v2 : Int32) (m : z_M) : z_Sim X yX4_facingForeseen cX4_facingForeseen 3 (some .int) 2 0 [(0, .ref (z_ad X v0)), (1, .int v1), (2, .int v2)] [] m (f_X4_facingForeseen v0 v1 v2 m) := by
  unfold f_X4_facingForeseen
  refine z_aload_n dX4_facingForeseen_0 rfl 0 rfl ?_
  refine z_iload_n dX4_facingForeseen_1 rfl 1 rfl ?_
  refine z_aload_n dX4_facingForeseen_2 rfl 0 rfl ?_
  refine z_getP z_X4 (j := 8) (by decide) rfl rfl wf_X4_52 dX4_facingForeseen_3 (fun a1 => ?_)
  refine z_iload_n dX4_facingForeseen_6 rfl 1 rfl ?_
  refine z_iald dX4_facingForeseen_7 (fun x2 => ?_)
  refine z_gets0 wf_X4_186 dX4_facingForeseen_8 ?_
  refine z_iload_n dX4_facingForeseen_11 rfl 2 rfl ?_
  refine z_tald (t := 0) (by decide) dX4_facingForeseen_12 (fun x3 => ?_)
  refine z_cVi (As := [.int v1, .int x2, .int x3]) (rest := []) (c_X4_facingBy X v0 v1 x2 x3 m) mw_X4_facingBy iw_X4_facingBy z_X4 wm_X4_198 rfl rfl (by decide) (Nat.le_of_ble_eq_true rfl) dX4_facingForeseen_13 (fun x4 m5 => ?_)
  exact z_iret dX4_facingForeseen_16
set_option maxRecDepth 100000 in
set_option maxHeartbeats 4000000 in
theorem c_X4_facingForeseen (X : z_X) (v0 : Nat) (v1 : Int32) (v2 : Int32) (m : z_M) : z_Ct X yX4_facingForeseen cX4_facingForeseen 3 (some .int) 2 [.ref (z_ad X v0), .int v1, .int v2] m (f_X4_facingForeseen v0 v1 v2 m) := z_Ct.of (by decide) (Nat.le_of_ble_eq_true rfl) (s_X4_facingForeseen X v0 v1 v2 m)
set_option maxRecDepth 100000 in
set_option maxHeartbeats 4000000 in
theorem s_X4_fault (X : z_X) (v0 : Nat) (m : z_M) : z_Sim X yX4_fault cX4_fault 1 (some .int) 4 0 [(0, .ref (z_ad X v0))] [] m (f_X4_fault v0 m) := by
  unfold f_X4_fault
  refine z_aload_n dX4_fault_0 rfl 0 rfl ?_
  refine z_getP z_X4 (j := 0) (by decide) rfl rfl wf_X4_10 dX4_fault_1 (fun a1 => ?_)
  refine z_aload_n dX4_fault_4 rfl 0 rfl ?_
  refine z_getP z_X4 (j := 2) (by decide) rfl rfl wf_X4_23 dX4_fault_5 (fun a2 => ?_)
  refine z_cVi (As := [.ref (z_ad X a2)]) (rest := []) (c_X1_readInto X a1 a2 m) mw_X1_readInto iw_X1_readInto z_X1 wm_X4_84 rfl rfl (by decide) (Nat.le_of_ble_eq_true rfl) dX4_fault_8 (fun x3 m4 => ?_)
  exact z_iret dX4_fault_11
set_option maxRecDepth 100000 in
set_option maxHeartbeats 4000000 in
theorem c_X4_fault (X : z_X) (v0 : Nat) (m : z_M) : z_Ct X yX4_fault cX4_fault 1 (some .int) 4 [.ref (z_ad X v0)] m (f_X4_fault v0 m) := z_Ct.of (by decide) (Nat.le_of_ble_eq_true rfl) (s_X4_fault X v0 m)
