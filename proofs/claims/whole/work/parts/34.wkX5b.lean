set_option maxRecDepth 100000 in
set_option maxHeartbeats 4000000 in
theorem s_X5_letterAt (X : z_X) (v0 : Nat) (v1 : Int32) (m : z_M) : z_Sim X yX5_letterAt cX5_letterAt 2 (some .int) 0 0 [(0, .ref (z_ad X v0)), (1, .int v1)] [] m (f_X5_letterAt v0 v1 m) := by
  unfold f_X5_letterAt
  refine z_iload_n dX5_letterAt_0 rfl 1 rfl ?_
  refine z_aload_n dX5_letterAt_1 rfl 0 rfl ?_
  refine z_getI z_X5 (j := 1) (by decide) rfl rfl wf_X5_49 dX5_letterAt_2 (fun x1 => ?_)
  refine z_icmp_ge (tg := 17) dX5_letterAt_5 (by decide) ?_ ?_
  · refine z_iconst (v := (-1)) dX5_letterAt_17 k_cm1 ?_
    exact z_iret dX5_letterAt_18
  · refine z_aload_n dX5_letterAt_8 rfl 0 rfl ?_
    refine z_getP z_X5 (j := 0) (by decide) rfl rfl wf_X5_7 dX5_letterAt_9 (fun a2 => ?_)
    refine z_iload_n dX5_letterAt_12 rfl 1 rfl ?_
    refine z_iald dX5_letterAt_13 (fun x3 => ?_)
    refine z_goto (tg := 18) dX5_letterAt_14 (by decide) ?_
    exact z_iret dX5_letterAt_18
set_option maxRecDepth 100000 in
set_option maxHeartbeats 4000000 in
theorem c_X5_letterAt (X : z_X) (v0 : Nat) (v1 : Int32) (m : z_M) : z_Ct X yX5_letterAt cX5_letterAt 2 (some .int) 0 [.ref (z_ad X v0), .int v1] m (f_X5_letterAt v0 v1 m) := z_Ct.of (by decide) (Nat.le_of_ble_eq_true rfl) (s_X5_letterAt X v0 v1 m)
set_option maxRecDepth 100000 in
set_option maxHeartbeats 4000000 in
theorem s_X5_number (X : z_X) (v0 : Nat) (m : z_M) : z_Sim X yX5_number cX5_number 2 (some .int) 2 0 [(0, .ref (z_ad X v0))] [] m (f_X5_number v0 m) := by
  unfold f_X5_number
  refine z_aload_n dX5_number_0 rfl 0 rfl ?_
  refine z_aload_n dX5_number_1 rfl 0 rfl ?_
  refine z_getI z_X5 (j := 9) (by decide) rfl rfl wf_X5_52 dX5_number_2 (fun x1 => ?_)
  refine z_cVi (As := [.int x1]) (rest := []) (c_X5_letterAt X v0 x1 m) mw_X5_letterAt iw_X5_letterAt z_X5 wm_X5_55 rfl rfl (by decide) (Nat.le_of_ble_eq_true rfl) dX5_number_5 (fun x2 m3 => ?_)
  refine z_cSi (As := [.int x2]) (rest := []) (c_X5_isFigure X x2 m3) mw_X5_isFigure iw_X5_isFigure wm_X5_59 rfl rfl (by decide) (Nat.le_of_ble_eq_true rfl) dX5_number_8 (fun x4 m5 => ?_)
  refine z_if_ne (tg := 16) dX5_number_11 (by decide) ?_ ?_
  · refine z_aload_n dX5_number_16 rfl 0 rfl ?_
    refine z_aload_n dX5_number_17 rfl 0 rfl ?_
    refine z_getI z_X5 (j := 9) (by decide) rfl rfl wf_X5_52 dX5_number_18 (fun x6 => ?_)
    refine z_cVi (As := [.int x6]) (rest := []) (c_X5_letterAt X v0 x6 m5) mw_X5_letterAt iw_X5_letterAt z_X5 wm_X5_55 rfl rfl (by decide) (Nat.le_of_ble_eq_true rfl) dX5_number_21 (fun x7 m8 => ?_)
    refine z_bipush (v := 48) dX5_number_24 k_bi48 ?_
    refine z_isub dX5_number_26 ?_
    refine z_nm (fun x9 => ?_)
    refine z_istore_n (lv' := [(1, .int x9), (0, .ref (z_ad X v0))]) dX5_number_27 rfl (by decide) rfl ?_
    refine z_aload_n dX5_number_28 rfl 1 rfl ?_
    refine z_dup dX5_number_29 rfl ?_
    refine z_getI z_X5 (j := 9) (by decide) rfl rfl wf_X5_52 dX5_number_30 (fun x10 => ?_)
    refine z_iconst (v := 1) dX5_number_33 k_c1 ?_
    refine z_iadd dX5_number_34 ?_
    refine z_nm (fun x11 => ?_)
    refine z_setI z_X5 (by decide) rfl rfl wf_X5_52 dX5_number_35 ?_
    generalize z_wI m8 v0 9 x11 = m12
    refine z_aload_n dX5_number_38 rfl 1 rfl ?_
    refine z_aload_n dX5_number_39 rfl 1 rfl ?_
    refine z_getI z_X5 (j := 9) (by decide) rfl rfl wf_X5_52 dX5_number_40 (fun x13 => ?_)
    refine z_cVi (As := [.int x13]) (rest := []) (c_X5_letterAt X v0 x13 m12) mw_X5_letterAt iw_X5_letterAt z_X5 wm_X5_55 rfl rfl (by decide) (Nat.le_of_ble_eq_true rfl) dX5_number_43 (fun x14 m15 => ?_)
    refine z_cSi (As := [.int x14]) (rest := []) (c_X5_isFigure X x14 m15) mw_X5_isFigure iw_X5_isFigure wm_X5_59 rfl rfl (by decide) (Nat.le_of_ble_eq_true rfl) dX5_number_46 (fun x16 m17 => ?_)
    refine z_if_eq (tg := 79) dX5_number_49 (by decide) ?_ ?_
    · refine z_iload_n dX5_number_79 rfl 0 rfl ?_
      exact z_iret dX5_number_80
    · refine z_bipush (v := 10) dX5_number_52 k_bi10 ?_
      refine z_iload_n dX5_number_54 rfl 0 rfl ?_
      refine z_imul dX5_number_55 ?_
      refine z_aload_n dX5_number_56 rfl 1 rfl ?_
      refine z_aload_n dX5_number_57 rfl 1 rfl ?_
      refine z_getI z_X5 (j := 9) (by decide) rfl rfl wf_X5_52 dX5_number_58 (fun x18 => ?_)
      refine z_cVi (As := [.int x18]) (rest := [.int (10 * x9)]) (c_X5_letterAt X v0 x18 m17) mw_X5_letterAt iw_X5_letterAt z_X5 wm_X5_55 rfl rfl (by decide) (Nat.le_of_ble_eq_true rfl) dX5_number_61 (fun x19 m20 => ?_)
      refine z_iadd dX5_number_64 ?_
      refine z_bipush (v := 48) dX5_number_65 k_bi48 ?_
      refine z_isub dX5_number_67 ?_
      refine z_nm (fun x21 => ?_)
      refine z_istore_n (lv' := [(1, .int x21), (0, .ref (z_ad X v0))]) dX5_number_68 rfl (by decide) rfl ?_
      refine z_aload_n dX5_number_69 rfl 1 rfl ?_
      refine z_dup dX5_number_70 rfl ?_
      refine z_getI z_X5 (j := 9) (by decide) rfl rfl wf_X5_52 dX5_number_71 (fun x22 => ?_)
      refine z_iconst (v := 1) dX5_number_74 k_c1 ?_
      refine z_iadd dX5_number_75 ?_
      refine z_nm (fun x23 => ?_)
      refine z_setI z_X5 (by decide) rfl rfl wf_X5_52 dX5_number_76 ?_
      generalize z_wI m20 v0 9 x23 = m24
      refine z_iload_n dX5_number_79 rfl 0 rfl ?_
      exact z_iret dX5_number_80
  · refine z_iconst (v := (-1)) dX5_number_14 k_cm1 ?_
    exact z_iret dX5_number_15
set_option maxRecDepth 100000 in
set_option maxHeartbeats 4000000 in
theorem c_X5_number (X : z_X) (v0 : Nat) (m : z_M) : z_Ct X yX5_number cX5_number 2 (some .int) 2 [.ref (z_ad X v0)] m (f_X5_number v0 m) := z_Ct.of (by decide) (Nat.le_of_ble_eq_true rfl) (s_X5_number X v0 m)
set_option maxRecDepth 100000 in
set_option maxHeartbeats 4000000 in
theorem s_X5_sign_L32 (X : z_X) (v2 : Int32) (s0 : Int32) (s1 : Int32) (s2 : Nat) (m : z_M) : z_Sim X yX5_sign cX5_sign 3 (some .boolean) 1 32 [(2, .int v2)] [.int s0, .int s1, .ref (z_ad X s2)] m (f_X5_sign_L32 v2 s0 s1 s2 m) := by
  unfold f_X5_sign_L32
  refine z_iadd dX5_sign_32 ?_
  refine z_nm (fun x1 => ?_)
  refine z_setI z_X5 (by decide) rfl rfl wf_X5_52 dX5_sign_33 ?_
  generalize z_wI m s2 9 x1 = m2
  refine z_iload_n dX5_sign_36 rfl 0 rfl ?_
  exact z_zret dX5_sign_37
set_option maxRecDepth 100000 in
set_option maxHeartbeats 4000000 in
theorem s_X5_sign_L17 (X : z_X) (v0 : Nat) (s0 : Int32) (m : z_M) : z_Sim X yX5_sign cX5_sign 3 (some .boolean) 1 17 [(0, .ref (z_ad X v0))] [.int s0] m (f_X5_sign_L17 v0 s0 m) := by
  unfold f_X5_sign_L17
  refine z_istore_n (lv' := [(2, .int s0), (0, .ref (z_ad X v0))]) dX5_sign_17 rfl (by decide) rfl ?_
  refine z_aload_n dX5_sign_18 rfl 1 rfl ?_
  refine z_dup dX5_sign_19 rfl ?_
  refine z_getI z_X5 (j := 9) (by decide) rfl rfl wf_X5_52 dX5_sign_20 (fun x3 => ?_)
  refine z_iload_n dX5_sign_23 rfl 0 rfl ?_
  refine z_if_eq (tg := 31) dX5_sign_24 (by decide) ?_ ?_
  · refine z_iconst (v := 0) dX5_sign_31 k_c0 ?_
    exact z_sub (lv' := [(2, .int s0)]) [0] rfl (s_X5_sign_L32 X s0 0 x3 v0 m)
  · refine z_iconst (v := 1) dX5_sign_27 k_c1 ?_
    refine z_goto (tg := 32) dX5_sign_28 (by decide) ?_
    exact z_sub (lv' := [(2, .int s0)]) [0] rfl (s_X5_sign_L32 X s0 1 x3 v0 m)
set_option maxRecDepth 100000 in
set_option maxHeartbeats 4000000 in
theorem s_X5_sign (X : z_X) (v0 : Nat) (v1 : Int32) (m : z_M) : z_Sim X yX5_sign cX5_sign 3 (some .boolean) 1 0 [(0, .ref (z_ad X v0)), (1, .int v1)] [] m (f_X5_sign v0 v1 m) := by
  unfold f_X5_sign
  refine z_aload_n dX5_sign_0 rfl 0 rfl ?_
  refine z_aload_n dX5_sign_1 rfl 0 rfl ?_
  refine z_getI z_X5 (j := 9) (by decide) rfl rfl wf_X5_52 dX5_sign_2 (fun x4 => ?_)
  refine z_cVi (As := [.int x4]) (rest := []) (c_X5_letterAt X v0 x4 m) mw_X5_letterAt iw_X5_letterAt z_X5 wm_X5_55 rfl rfl (by decide) (Nat.le_of_ble_eq_true rfl) dX5_sign_5 (fun x5 m6 => ?_)
  refine z_iload_n dX5_sign_8 rfl 1 rfl ?_
  refine z_icmp_ne (tg := 16) dX5_sign_9 (by decide) ?_ ?_
  · refine z_iconst (v := 0) dX5_sign_16 k_c0 ?_
    exact z_sub (lv' := [(0, .ref (z_ad X v0))]) [0] rfl (s_X5_sign_L17 X v0 0 m6)
  · refine z_iconst (v := 1) dX5_sign_12 k_c1 ?_
    refine z_goto (tg := 17) dX5_sign_13 (by decide) ?_
    exact z_sub (lv' := [(0, .ref (z_ad X v0))]) [0] rfl (s_X5_sign_L17 X v0 1 m6)
set_option maxRecDepth 100000 in
set_option maxHeartbeats 4000000 in
theorem c_X5_sign (X : z_X) (v0 : Nat) (v1 : Int32) (m : z_M) : z_Ct X yX5_sign cX5_sign 3 (some .boolean) 1 [.ref (z_ad X v0), .int v1] m (f_X5_sign v0 v1 m) := z_Ct.of (by decide) (Nat.le_of_ble_eq_true rfl) (s_X5_sign X v0 v1 m)
set_option maxRecDepth 100000 in
set_option maxHeartbeats 4000000 in
theorem s_X5_readsMan (X : z_X) (v0 : Nat) (m : z_M) : z_Sim X yX5_readsMan cX5_readsMan 5 (some .boolean) 3 0 [(0, .ref (z_ad X v0))] [] m (f_X5_readsMan v0 m) := by
  unfold f_X5_readsMan
  refine z_aload_n dX5_readsMan_0 rfl 0 rfl ?_
  refine z_cVi (As := []) (rest := []) (c_X5_number X v0 m) mw_X5_number iw_X5_number z_X5 wm_X5_63 rfl rfl (by decide) (Nat.le_of_ble_eq_true rfl) dX5_readsMan_1 (fun x1 m2 => ?_)
  refine z_istore_n (lv' := [(1, .int x1), (0, .ref (z_ad X v0))]) dX5_readsMan_4 rfl (by decide) rfl ?_
  refine z_iload_n dX5_readsMan_5 rfl 0 rfl ?_
  refine z_iconst (v := 0) dX5_readsMan_6 k_c0 ?_
  refine z_iconst (v := 3) dX5_readsMan_7 k_c3 ?_
  refine z_cSi (As := [.int x1, .int 0, .int 3]) (rest := []) (c_X5_in X x1 0 3 m2) mw_X5_in iw_X5_in wm_X5_45 rfl rfl (by decide) (Nat.le_of_ble_eq_true rfl) dX5_readsMan_8 (fun x3 m4 => ?_)
  refine z_if_eq (tg := 23) dX5_readsMan_11 (by decide) ?_ ?_
  · refine z_iconst (v := 0) dX5_readsMan_23 k_c0 ?_
    exact z_zret0 dX5_readsMan_24
  · refine z_aload_n dX5_readsMan_14 rfl 1 rfl ?_
    refine z_bipush (v := 44) dX5_readsMan_15 k_bi44 ?_
    refine z_cVi (As := [.int 44]) (rest := []) (c_X5_sign X v0 44 m4) mw_X5_sign iw_X5_sign z_X5 wm_X5_67 rfl rfl (by decide) (Nat.le_of_ble_eq_true rfl) dX5_readsMan_17 (fun x5 m6 => ?_)
    refine z_if_ne (tg := 25) dX5_readsMan_20 (by decide) ?_ ?_
    · refine z_aload_n dX5_readsMan_25 rfl 1 rfl ?_
      refine z_cVi (As := []) (rest := []) (c_X5_number X v0 m6) mw_X5_number iw_X5_number z_X5 wm_X5_63 rfl rfl (by decide) (Nat.le_of_ble_eq_true rfl) dX5_readsMan_26 (fun x7 m8 => ?_)
      refine z_istore_n (lv' := [(2, .int x7), (1, .int x1), (0, .ref (z_ad X v0))]) dX5_readsMan_29 rfl (by decide) rfl ?_
      refine z_iload_n dX5_readsMan_30 rfl 0 rfl ?_
      refine z_iconst (v := 0) dX5_readsMan_31 k_c0 ?_
      refine z_iconst (v := 3) dX5_readsMan_32 k_c3 ?_
      refine z_cSi (As := [.int x7, .int 0, .int 3]) (rest := []) (c_X5_in X x7 0 3 m8) mw_X5_in iw_X5_in wm_X5_45 rfl rfl (by decide) (Nat.le_of_ble_eq_true rfl) dX5_readsMan_33 (fun x9 m10 => ?_)
      refine z_if_eq (tg := 48) dX5_readsMan_36 (by decide) ?_ ?_
      · refine z_iconst (v := 0) dX5_readsMan_48 k_c0 ?_
        exact z_zret0 dX5_readsMan_49
      · refine z_aload_n dX5_readsMan_39 rfl 2 rfl ?_
        refine z_bipush (v := 44) dX5_readsMan_40 k_bi44 ?_
        refine z_cVi (As := [.int 44]) (rest := []) (c_X5_sign X v0 44 m10) mw_X5_sign iw_X5_sign z_X5 wm_X5_67 rfl rfl (by decide) (Nat.le_of_ble_eq_true rfl) dX5_readsMan_42 (fun x11 m12 => ?_)
        refine z_if_ne (tg := 50) dX5_readsMan_45 (by decide) ?_ ?_
        · refine z_aload_n dX5_readsMan_50 rfl 2 rfl ?_
          refine z_cVi (As := []) (rest := []) (c_X5_number X v0 m12) mw_X5_number iw_X5_number z_X5 wm_X5_63 rfl rfl (by decide) (Nat.le_of_ble_eq_true rfl) dX5_readsMan_51 (fun x13 m14 => ?_)
          refine z_istore_n (lv' := [(3, .int x13), (2, .int x7), (1, .int x1), (0, .ref (z_ad X v0))]) dX5_readsMan_54 rfl (by decide) rfl ?_
          refine z_iload_n dX5_readsMan_55 rfl 0 rfl ?_
          refine z_iconst (v := 0) dX5_readsMan_56 k_c0 ?_
          refine z_bipush (v := 7) dX5_readsMan_57 k_bi7 ?_
          refine z_cSi (As := [.int x13, .int 0, .int 7]) (rest := []) (c_X5_in X x13 0 7 m14) mw_X5_in iw_X5_in wm_X5_45 rfl rfl (by decide) (Nat.le_of_ble_eq_true rfl) dX5_readsMan_59 (fun x15 m16 => ?_)
          refine z_if_eq (tg := 74) dX5_readsMan_62 (by decide) ?_ ?_
          · refine z_iconst (v := 0) dX5_readsMan_74 k_c0 ?_
            exact z_zret0 dX5_readsMan_75
          · refine z_aload_n dX5_readsMan_65 rfl 3 rfl ?_
            refine z_bipush (v := 44) dX5_readsMan_66 k_bi44 ?_
            refine z_cVi (As := [.int 44]) (rest := []) (c_X5_sign X v0 44 m16) mw_X5_sign iw_X5_sign z_X5 wm_X5_67 rfl rfl (by decide) (Nat.le_of_ble_eq_true rfl) dX5_readsMan_68 (fun x17 m18 => ?_)
            refine z_if_ne (tg := 76) dX5_readsMan_71 (by decide) ?_ ?_
            · refine z_aload_n dX5_readsMan_76 rfl 3 rfl ?_
              refine z_cVi (As := []) (rest := []) (c_X5_number X v0 m18) mw_X5_number iw_X5_number z_X5 wm_X5_63 rfl rfl (by decide) (Nat.le_of_ble_eq_true rfl) dX5_readsMan_77 (fun x19 m20 => ?_)
              refine z_istore (lv' := [(4, .int x19), (3, .int x13), (2, .int x7), (1, .int x1), (0, .ref (z_ad X v0))]) dX5_readsMan_80 (by decide) rfl ?_
              refine z_iload dX5_readsMan_82 0 rfl ?_
              refine z_iconst (v := 0) dX5_readsMan_84 k_c0 ?_
              refine z_bipush (v := 10) dX5_readsMan_85 k_bi10 ?_
              refine z_cSi (As := [.int x19, .int 0, .int 10]) (rest := []) (c_X5_in X x19 0 10 m20) mw_X5_in iw_X5_in wm_X5_45 rfl rfl (by decide) (Nat.le_of_ble_eq_true rfl) dX5_readsMan_87 (fun x21 m22 => ?_)
              refine z_if_eq (tg := 113) dX5_readsMan_90 (by decide) ?_ ?_
              · refine z_iconst (v := 0) dX5_readsMan_113 k_c0 ?_
                exact z_zret0 dX5_readsMan_114
              · refine z_aload_n dX5_readsMan_93 rfl 4 rfl ?_
                refine z_bipush (v := 59) dX5_readsMan_94 k_bi59 ?_
                refine z_cVi (As := [.int 59]) (rest := []) (c_X5_sign X v0 59 m22) mw_X5_sign iw_X5_sign z_X5 wm_X5_67 rfl rfl (by decide) (Nat.le_of_ble_eq_true rfl) dX5_readsMan_96 (fun x23 m24 => ?_)
                refine z_if_eq (tg := 113) dX5_readsMan_99 (by decide) ?_ ?_
                · refine z_iconst (v := 0) dX5_readsMan_113 k_c0 ?_
                  exact z_zret0 dX5_readsMan_114
                · refine z_aload_n dX5_readsMan_102 rfl 4 rfl ?_
                  refine z_getP z_X5 (j := 3) (by decide) rfl rfl wf_X5_16 dX5_readsMan_103 (fun a25 => ?_)
                  refine z_iconst (v := 0) dX5_readsMan_106 k_c0 ?_
                  refine z_iald dX5_readsMan_107 (fun x26 => ?_)
                  refine z_bipush (v := 8) dX5_readsMan_108 k_bi8 ?_
                  refine z_icmp_ne (tg := 115) dX5_readsMan_110 (by decide) ?_ ?_
                  · refine z_aload_n dX5_readsMan_115 rfl 4 rfl ?_
                    refine z_iload_n dX5_readsMan_116 rfl 3 rfl ?_
                    refine z_iload_n dX5_readsMan_117 rfl 2 rfl ?_
                    refine z_iload_n dX5_readsMan_118 rfl 1 rfl ?_
                    refine z_iload dX5_readsMan_119 0 rfl ?_
                    refine z_cVv (As := [.int x1, .int x7, .int x13, .int x19]) (rest := []) (c_X5_adds X v0 x1 x7 x13 x19 m24) mw_X5_adds iw_X5_adds z_X5 wm_X5_38 rfl rfl (by decide) (Nat.le_of_ble_eq_true rfl) dX5_readsMan_121 (fun _ m27 => ?_)
                    refine z_iconst (v := 1) dX5_readsMan_124 k_c1 ?_
                    exact z_zret1 dX5_readsMan_125
                  · refine z_iconst (v := 0) dX5_readsMan_113 k_c0 ?_
                    exact z_zret0 dX5_readsMan_114
            · refine z_iconst (v := 0) dX5_readsMan_74 k_c0 ?_
              exact z_zret0 dX5_readsMan_75
        · refine z_iconst (v := 0) dX5_readsMan_48 k_c0 ?_
          exact z_zret0 dX5_readsMan_49
    · refine z_iconst (v := 0) dX5_readsMan_23 k_c0 ?_
      exact z_zret0 dX5_readsMan_24
set_option maxRecDepth 100000 in
set_option maxHeartbeats 4000000 in
theorem c_X5_readsMan (X : z_X) (v0 : Nat) (m : z_M) : z_Ct X yX5_readsMan cX5_readsMan 5 (some .boolean) 3 [.ref (z_ad X v0)] m (f_X5_readsMan v0 m) := z_Ct.of (by decide) (Nat.le_of_ble_eq_true rfl) (s_X5_readsMan X v0 m)
set_option maxRecDepth 100000 in
set_option maxHeartbeats 4000000 in
theorem s_X5_readsOne (X : z_X) (v0 : Nat) (v1 : Int32) (v2 : Int32) (m : z_M) : z_Sim X yX5_readsOne cX5_readsOne 3 (some .boolean) 3 0 [(0, .ref (z_ad X v0)), (1, .int v1), (2, .int v2)] [] m (f_X5_readsOne v0 v1 v2 m) := by
  unfold f_X5_readsOne
  refine z_aload_n dX5_readsOne_0 rfl 0 rfl ?_
  refine z_getP z_X5 (j := 3) (by decide) rfl rfl wf_X5_16 dX5_readsOne_1 (fun a1 => ?_)
  refine z_iload_n dX5_readsOne_4 rfl 1 rfl ?_
  refine z_aload_n dX5_readsOne_5 rfl 0 rfl ?_
  refine z_cVi (As := []) (rest := [.int v1, .ref (z_ad X a1)]) (c_X5_number X v0 m) mw_X5_number iw_X5_number z_X5 wm_X5_63 rfl rfl (by decide) (Nat.le_of_ble_eq_true rfl) dX5_readsOne_6 (fun x2 m3 => ?_)
  refine z_iast dX5_readsOne_9 ?_
  generalize z_wI m3 a1 (Int32.toNatClampNeg v1) x2 = m4
  refine z_aload_n dX5_readsOne_10 rfl 0 rfl ?_
  refine z_getP z_X5 (j := 3) (by decide) rfl rfl wf_X5_16 dX5_readsOne_11 (fun a5 => ?_)
  refine z_iload_n dX5_readsOne_14 rfl 1 rfl ?_
  refine z_iald dX5_readsOne_15 (fun x6 => ?_)
  refine z_iconst (v := 0) dX5_readsOne_16 k_c0 ?_
  refine z_iload_n dX5_readsOne_17 rfl 2 rfl ?_
  refine z_cSi (As := [.int x6, .int 0, .int v2]) (rest := []) (c_X5_in X x6 0 v2 m4) mw_X5_in iw_X5_in wm_X5_45 rfl rfl (by decide) (Nat.le_of_ble_eq_true rfl) dX5_readsOne_18 (fun x7 m8 => ?_)
  refine z_if_eq (tg := 37) dX5_readsOne_21 (by decide) ?_ ?_
  · refine z_iconst (v := 0) dX5_readsOne_37 k_c0 ?_
    exact z_zret0 dX5_readsOne_38
  · refine z_aload_n dX5_readsOne_24 rfl 0 rfl ?_
    refine z_bipush (v := 59) dX5_readsOne_25 k_bi59 ?_
    refine z_cVi (As := [.int 59]) (rest := []) (c_X5_sign X v0 59 m8) mw_X5_sign iw_X5_sign z_X5 wm_X5_67 rfl rfl (by decide) (Nat.le_of_ble_eq_true rfl) dX5_readsOne_27 (fun x9 m10 => ?_)
    refine z_if_eq (tg := 37) dX5_readsOne_30 (by decide) ?_ ?_
    · refine z_iconst (v := 0) dX5_readsOne_37 k_c0 ?_
      exact z_zret0 dX5_readsOne_38
    · refine z_iconst (v := 1) dX5_readsOne_33 k_c1 ?_
      refine z_goto (tg := 38) dX5_readsOne_34 (by decide) ?_
      exact z_zret1 dX5_readsOne_38
set_option maxRecDepth 100000 in
set_option maxHeartbeats 4000000 in
theorem c_X5_readsOne (X : z_X) (v0 : Nat) (v1 : Int32) (v2 : Int32) (m : z_M) : z_Ct X yX5_readsOne cX5_readsOne 3 (some .boolean) 3 [.ref (z_ad X v0), .int v1, .int v2] m (f_X5_readsOne v0 v1 v2 m) := z_Ct.of (by decide) (Nat.le_of_ble_eq_true rfl) (s_X5_readsOne X v0 v1 v2 m)
set_option maxRecDepth 100000 in
set_option maxHeartbeats 4000000 in
theorem s_X5_reads_L94 (X : z_X) (h9 : Nat → z_M → z_R) (H9 : ∀ (w0 : Nat) (w : z_M), z_Sim X yX5_reads cX5_reads 4 (some .int) 4 9 [(0, .ref (z_ad X w0))] [] w (h9 w0 w)) (v0 : Nat) (v1 : Int32) (s0 : Int32) (m : z_M) : z_Sim X yX5_reads cX5_reads 4 (some .int) 4 94 [(0, .ref (z_ad X v0)), (1, .int v1)] [.int s0] m (f_X5_reads_L94 h9 v0 v1 s0 m) := by
  unfold f_X5_reads_L94
  refine z_istore_n (lv' := [(3, .int s0), (0, .ref (z_ad X v0)), (1, .int v1)]) dX5_reads_94 rfl (by decide) rfl ?_
  refine z_iload_n dX5_reads_95 rfl 0 rfl ?_
  refine z_if_ne (tg := 101) dX5_reads_96 (by decide) ?_ ?_
  · refine z_goto (tg := 9) dX5_reads_101 (by decide) ?_
    exact z_sub (lv' := [(0, .ref (z_ad X v0))]) [1] rfl (H9 v0 m)
  · refine z_iload_n dX5_reads_99 rfl 2 rfl ?_
    exact z_iret dX5_reads_100
set_option maxRecDepth 100000 in
set_option maxHeartbeats 4000000 in
theorem s_X5_reads_L93 (X : z_X) (h9 : Nat → z_M → z_R) (H9 : ∀ (w0 : Nat) (w : z_M), z_Sim X yX5_reads cX5_reads 4 (some .int) 4 9 [(0, .ref (z_ad X w0))] [] w (h9 w0 w)) (v0 : Nat) (v1 : Int32) (m : z_M) : z_Sim X yX5_reads cX5_reads 4 (some .int) 4 93 [(0, .ref (z_ad X v0)), (1, .int v1)] [] m (f_X5_reads_L93 h9 v0 v1 m) := by
  unfold f_X5_reads_L93
  refine z_iconst (v := 0) dX5_reads_93 k_c0 ?_
  exact z_sub (lv' := [(0, .ref (z_ad X v0)), (1, .int v1)]) [0, 1] rfl (s_X5_reads_L94 X h9 H9 v0 v1 0 m)
set_option maxRecDepth 100000 in
set_option maxHeartbeats 4000000 in
theorem s_X5_reads_L9 (X : z_X) : ∀ (n : Nat) (v0 : Nat) (m : z_M), z_Sim X yX5_reads cX5_reads 4 (some .int) 4 9 [(0, .ref (z_ad X v0))] [] m (f_X5_reads_L9 n v0 m) := by
  intro n
  induction n with
  | zero => intros; exact z_none
  | succ n ih =>
      intro v0 m
      unfold f_X5_reads_L9
      refine z_aload_n dX5_reads_9 rfl 0 rfl ?_
      refine z_getI z_X5 (j := 9) (by decide) rfl rfl wf_X5_52 dX5_reads_10 (fun x1 => ?_)
      refine z_aload_n dX5_reads_13 rfl 0 rfl ?_
      refine z_getI z_X5 (j := 1) (by decide) rfl rfl wf_X5_49 dX5_reads_14 (fun x2 => ?_)
      refine z_icmp_ge (tg := 104) dX5_reads_17 (by decide) ?_ ?_
      · refine z_bipush (v := (-4)) dX5_reads_104 k_bim4 ?_
        exact z_iret dX5_reads_106
      · refine z_aload_n dX5_reads_20 rfl 0 rfl ?_
        refine z_getI z_X5 (j := 9) (by decide) rfl rfl wf_X5_52 dX5_reads_21 (fun x3 => ?_)
        refine z_istore_n (lv' := [(1, .int x3), (0, .ref (z_ad X v0))]) dX5_reads_24 rfl (by decide) rfl ?_
        refine z_aload_n dX5_reads_25 rfl 1 rfl ?_
        refine z_getP z_X5 (j := 0) (by decide) rfl rfl wf_X5_7 dX5_reads_26 (fun a4 => ?_)
        refine z_aload_n dX5_reads_29 rfl 1 rfl ?_
        refine z_getI z_X5 (j := 9) (by decide) rfl rfl wf_X5_52 dX5_reads_30 (fun x5 => ?_)
        refine z_iald dX5_reads_33 (fun x6 => ?_)
        refine z_istore_n (lv' := [(2, .int x6), (1, .int x3), (0, .ref (z_ad X v0))]) dX5_reads_34 rfl (by decide) rfl ?_
        refine z_aload_n dX5_reads_35 rfl 2 rfl ?_
        refine z_dup dX5_reads_36 rfl ?_
        refine z_getI z_X5 (j := 9) (by decide) rfl rfl wf_X5_52 dX5_reads_37 (fun x7 => ?_)
        refine z_iconst (v := 1) dX5_reads_40 k_c1 ?_
        refine z_iadd dX5_reads_41 ?_
        refine z_nm (fun x8 => ?_)
        refine z_setI z_X5 (by decide) rfl rfl wf_X5_52 dX5_reads_42 ?_
        generalize z_wI m v0 9 x8 = m9
        refine z_iload_n dX5_reads_45 rfl 0 rfl ?_
        refine z_bipush (v := 109) dX5_reads_46 k_bi109 ?_
        refine z_icmp_ne (tg := 58) dX5_reads_48 (by decide) ?_ ?_
        · refine z_iload_n dX5_reads_58 rfl 0 rfl ?_
          refine z_bipush (v := 122) dX5_reads_59 k_bi122 ?_
          refine z_icmp_ne (tg := 74) dX5_reads_61 (by decide) ?_ ?_
          · refine z_iload_n dX5_reads_74 rfl 0 rfl ?_
            refine z_bipush (v := 101) dX5_reads_75 k_bi101 ?_
            refine z_icmp_ne (tg := 93) dX5_reads_77 (by decide) ?_ ?_
            · exact z_sub (lv' := [(0, .ref (z_ad X v0)), (1, .int x3)]) [2, 1] rfl (s_X5_reads_L93 X (f_X5_reads_L9 n) ih v0 x3 m9)
            · refine z_aload_n dX5_reads_80 rfl 2 rfl ?_
              refine z_iconst (v := 2) dX5_reads_81 k_c2 ?_
              refine z_iconst (v := 1) dX5_reads_82 k_c1 ?_
              refine z_cVi (As := [.int 2, .int 1]) (rest := []) (c_X5_readsOne X v0 2 1 m9) mw_X5_readsOne iw_X5_readsOne z_X5 wm_X5_74 rfl rfl (by decide) (Nat.le_of_ble_eq_true rfl) dX5_reads_83 (fun x10 m11 => ?_)
              refine z_if_eq (tg := 93) dX5_reads_86 (by decide) ?_ ?_
              · exact z_sub (lv' := [(0, .ref (z_ad X v0)), (1, .int x3)]) [2, 1] rfl (s_X5_reads_L93 X (f_X5_reads_L9 n) ih v0 x3 m11)
              · refine z_iconst (v := 1) dX5_reads_89 k_c1 ?_
                refine z_goto (tg := 94) dX5_reads_90 (by decide) ?_
                exact z_sub (lv' := [(0, .ref (z_ad X v0)), (1, .int x3)]) [2, 1] rfl (s_X5_reads_L94 X (f_X5_reads_L9 n) ih v0 x3 1 m11)
          · refine z_aload_n dX5_reads_64 rfl 2 rfl ?_
            refine z_iconst (v := 1) dX5_reads_65 k_c1 ?_
            refine z_bipush (v := 99) dX5_reads_66 k_bi99 ?_
            refine z_cVi (As := [.int 1, .int 99]) (rest := []) (c_X5_readsOne X v0 1 99 m9) mw_X5_readsOne iw_X5_readsOne z_X5 wm_X5_74 rfl rfl (by decide) (Nat.le_of_ble_eq_true rfl) dX5_reads_68 (fun x12 m13 => ?_)
            refine z_goto (tg := 94) dX5_reads_71 (by decide) ?_
            exact z_sub (lv' := [(0, .ref (z_ad X v0)), (1, .int x3)]) [2, 1] rfl (s_X5_reads_L94 X (f_X5_reads_L9 n) ih v0 x3 x12 m13)
        · refine z_aload_n dX5_reads_51 rfl 2 rfl ?_
          refine z_cVi (As := []) (rest := []) (c_X5_readsMan X v0 m9) mw_X5_readsMan iw_X5_readsMan z_X5 wm_X5_70 rfl rfl (by decide) (Nat.le_of_ble_eq_true rfl) dX5_reads_52 (fun x14 m15 => ?_)
          refine z_goto (tg := 94) dX5_reads_55 (by decide) ?_
          exact z_sub (lv' := [(0, .ref (z_ad X v0)), (1, .int x3)]) [2, 1] rfl (s_X5_reads_L94 X (f_X5_reads_L9 n) ih v0 x3 x14 m15)
set_option maxRecDepth 100000 in
set_option maxHeartbeats 4000000 in
theorem s_X5_reads (X : z_X) (v0 : Nat) (m : z_M) : z_Sim X yX5_reads cX5_reads 4 (some .int) 4 0 [(0, .ref (z_ad X v0))] [] m (f_X5_reads v0 m) := by
  unfold f_X5_reads
  refine z_aload_n dX5_reads_0 rfl 0 rfl ?_
  refine z_cVv (As := []) (rest := []) (c_X5_begins X v0 m) mw_X5_begins iw_X5_begins z_X5 wm_X5_35 rfl rfl (by decide) (Nat.le_of_ble_eq_true rfl) dX5_reads_1 (fun _ m16 => ?_)
  refine z_aload_n dX5_reads_4 rfl 0 rfl ?_
  refine z_iconst (v := 0) dX5_reads_5 k_c0 ?_
  refine z_setI z_X5 (by decide) rfl rfl wf_X5_52 dX5_reads_6 ?_
  generalize z_wI m16 v0 9 0 = m17
  exact z_sub (lv' := [(0, .ref (z_ad X v0))]) [0] rfl (s_X5_reads_L9 X 400 v0 m17)
set_option maxRecDepth 100000 in
set_option maxHeartbeats 4000000 in
theorem c_X5_reads (X : z_X) (v0 : Nat) (m : z_M) : z_Ct X yX5_reads cX5_reads 4 (some .int) 4 [.ref (z_ad X v0)] m (f_X5_reads v0 m) := z_Ct.of (by decide) (Nat.le_of_ble_eq_true rfl) (s_X5_reads X v0 m)
set_option maxRecDepth 100000 in
set_option maxHeartbeats 4000000 in
theorem s_X5_fault (X : z_X) (v0 : Nat) (m : z_M) : z_Sim X yX5_fault cX5_fault 1 (some .int) 5 0 [(0, .ref (z_ad X v0))] [] m (f_X5_fault v0 m) := by
  unfold f_X5_fault
  refine z_aload_n dX5_fault_0 rfl 0 rfl ?_
  refine z_cVi (As := []) (rest := []) (c_X5_reads X v0 m) mw_X5_reads iw_X5_reads z_X5 wm_X5_78 rfl rfl (by decide) (Nat.le_of_ble_eq_true rfl) dX5_fault_1 (fun x1 m2 => ?_)
  exact z_iret dX5_fault_4
set_option maxRecDepth 100000 in
set_option maxHeartbeats 4000000 in
theorem c_X5_fault (X : z_X) (v0 : Nat) (m : z_M) : z_Ct X yX5_fault cX5_fault 1 (some .int) 5 [.ref (z_ad X v0)] m (f_X5_fault v0 m) := z_Ct.of (by decide) (Nat.le_of_ble_eq_true rfl) (s_X5_fault X v0 m)
set_option maxRecDepth 100000 in
set_option maxHeartbeats 4000000 in
theorem s_X5_isMan (X : z_X) (v0 : Nat) (v1 : Int32) (m : z_M) : z_Sim X yX5_isMan cX5_isMan 2 (some .boolean) 1 0 [(0, .ref (z_ad X v0)), (1, .int v1)] [] m (f_X5_isMan v0 v1 m) := by
  unfold f_X5_isMan
  refine z_iload_n dX5_isMan_0 rfl 1 rfl ?_
  refine z_iconst (v := 0) dX5_isMan_1 k_c0 ?_
  refine z_aload_n dX5_isMan_2 rfl 0 rfl ?_
  refine z_getP z_X5 (j := 2) (by decide) rfl rfl wf_X5_13 dX5_isMan_3 (fun a1 => ?_)
  refine z_iconst (v := 0) dX5_isMan_6 k_c0 ?_
  refine z_iald dX5_isMan_7 (fun x2 => ?_)
  refine z_iconst (v := 1) dX5_isMan_8 k_c1 ?_
  refine z_isub dX5_isMan_9 ?_
  refine z_cSi (As := [.int v1, .int 0, .int (x2 - 1)]) (rest := []) (c_X5_in X v1 0 (x2 - 1) m) mw_X5_in iw_X5_in wm_X5_45 rfl rfl (by decide) (Nat.le_of_ble_eq_true rfl) dX5_isMan_10 (fun x3 m4 => ?_)
  exact z_zret dX5_isMan_13
set_option maxRecDepth 100000 in
set_option maxHeartbeats 4000000 in
theorem c_X5_isMan (X : z_X) (v0 : Nat) (v1 : Int32) (m : z_M) : z_Ct X yX5_isMan cX5_isMan 2 (some .boolean) 1 [.ref (z_ad X v0), .int v1] m (f_X5_isMan v0 v1 m) := z_Ct.of (by decide) (Nat.le_of_ble_eq_true rfl) (s_X5_isMan X v0 v1 m)
set_option maxRecDepth 100000 in
set_option maxHeartbeats 4000000 in
theorem s_X5_follows (X : z_X) (v0 : Nat) (v1 : Int32) (m : z_M) : z_Sim X yX5_follows cX5_follows 2 (some .int) 2 0 [(0, .ref (z_ad X v0)), (1, .int v1)] [] m (f_X5_follows v0 v1 m) := by
  unfold f_X5_follows
  refine z_aload_n dX5_follows_0 rfl 0 rfl ?_
  refine z_iload_n dX5_follows_1 rfl 1 rfl ?_
  refine z_cVi (As := [.int v1]) (rest := []) (c_X5_isMan X v0 v1 m) mw_X5_isMan iw_X5_isMan z_X5 wm_X5_87 rfl rfl (by decide) (Nat.le_of_ble_eq_true rfl) dX5_follows_2 (fun x1 m2 => ?_)
  refine z_if_ne (tg := 12) dX5_follows_5 (by decide) ?_ ?_
  · refine z_aload_n dX5_follows_12 rfl 0 rfl ?_
    refine z_getP z_X5 (j := 4) (by decide) rfl rfl wf_X5_19 dX5_follows_13 (fun a3 => ?_)
    refine z_bipush (v := 16) dX5_follows_16 k_bi16 ?_
    refine z_iald dX5_follows_18 (fun x4 => ?_)
    refine z_iconst (v := 1) dX5_follows_19 k_c1 ?_
    refine z_icmp_ne (tg := 27) dX5_follows_20 (by decide) ?_ ?_
    · refine z_aload_n dX5_follows_27 rfl 0 rfl ?_
      refine z_iload_n dX5_follows_28 rfl 1 rfl ?_
      refine z_cVi (As := [.int v1]) (rest := []) (c_X5_leader X v0 v1 m2) mw_X5_leader iw_X5_leader z_X5 wm_X5_99 rfl rfl (by decide) (Nat.le_of_ble_eq_true rfl) dX5_follows_29 (fun x5 m6 => ?_)
      exact z_iret dX5_follows_32
    · refine z_iload_n dX5_follows_23 rfl 1 rfl ?_
      refine z_goto (tg := 32) dX5_follows_24 (by decide) ?_
      exact z_iret dX5_follows_32
  · refine z_iconst (v := (-1)) dX5_follows_8 k_cm1 ?_
    refine z_goto (tg := 32) dX5_follows_9 (by decide) ?_
    exact z_iret dX5_follows_32
set_option maxRecDepth 100000 in
set_option maxHeartbeats 4000000 in
theorem c_X5_follows (X : z_X) (v0 : Nat) (v1 : Int32) (m : z_M) : z_Ct X yX5_follows cX5_follows 2 (some .int) 2 [.ref (z_ad X v0), .int v1] m (f_X5_follows v0 v1 m) := z_Ct.of (by decide) (Nat.le_of_ble_eq_true rfl) (s_X5_follows X v0 v1 m)
set_option maxRecDepth 100000 in
set_option maxHeartbeats 4000000 in
theorem s_X5_groups_L92 (X : z_X) (h21 : Nat → Int32 → Int32 → Int32 → Int32 → Int32 → z_M → z_R) (H21 : ∀ (w0 : Nat) (w1 : Int32) (w2 : Int32) (w3 : Int32) (w4 : Int32) (w5 : Int32) (w : z_M), z_Sim X yX5_groups cX5_groups 6 (some .int) 1 21 [(0, .ref (z_ad X w0)), (1, .int w1), (2, .int w2), (3, .int w3), (4, .int w4), (5, .int w5)] [] w (h21 w0 w1 w2 w3 w4 w5 w)) (v0 : Nat) (v1 : Int32) (v2 : Int32) (v4 : Int32) (v5 : Int32) (s0 : Int32) (m : z_M) : z_Sim X yX5_groups cX5_groups 6 (some .int) 1 92 [(0, .ref (z_ad X v0)), (1, .int v1), (2, .int v2), (4, .int v4), (5, .int v5)] [.int s0] m (f_X5_groups_L92 h21 v0 v1 v2 v4 v5 s0 m) := by
  unfold f_X5_groups_L92
  refine z_istore_n (lv' := [(3, .int s0), (0, .ref (z_ad X v0)), (1, .int v1), (2, .int v2), (4, .int v4), (5, .int v5)]) dX5_groups_92 rfl (by decide) rfl ?_
  refine z_iinc (k := 5) (lv' := [(5, .int (v5 + 1)), (3, .int s0), (0, .ref (z_ad X v0)), (1, .int v1), (2, .int v2), (4, .int v4)]) dX5_groups_93 rfl (k_i1 _) (by decide) rfl ?_
  refine z_goto (tg := 21) dX5_groups_96 (by decide) ?_
  exact z_sub (lv' := [(0, .ref (z_ad X v0)), (1, .int v1), (2, .int v2), (3, .int s0), (4, .int v4), (5, .int (v5 + 1))]) [2, 3, 4, 1, 5, 0] rfl (H21 v0 v1 v2 s0 v4 (v5 + 1) m)
set_option maxRecDepth 100000 in
set_option maxHeartbeats 4000000 in
theorem s_X5_groups_L78 (X : z_X) (h21 : Nat → Int32 → Int32 → Int32 → Int32 → Int32 → z_M → z_R) (H21 : ∀ (w0 : Nat) (w1 : Int32) (w2 : Int32) (w3 : Int32) (w4 : Int32) (w5 : Int32) (w : z_M), z_Sim X yX5_groups cX5_groups 6 (some .int) 1 21 [(0, .ref (z_ad X w0)), (1, .int w1), (2, .int w2), (3, .int w3), (4, .int w4), (5, .int w5)] [] w (h21 w0 w1 w2 w3 w4 w5 w)) (v0 : Nat) (v1 : Int32) (v3 : Int32) (v4 : Int32) (v5 : Int32) (s0 : Int32) (s1 : Int32) (m : z_M) : z_Sim X yX5_groups cX5_groups 6 (some .int) 1 78 [(0, .ref (z_ad X v0)), (1, .int v1), (3, .int v3), (4, .int v4), (5, .int v5)] [.int s0, .int s1] m (f_X5_groups_L78 h21 v0 v1 v3 v4 v5 s0 s1 m) := by
  unfold f_X5_groups_L78
  refine z_iadd dX5_groups_78 ?_
  refine z_nm (fun x1 => ?_)
  refine z_istore_n (lv' := [(2, .int x1), (0, .ref (z_ad X v0)), (1, .int v1), (3, .int v3), (4, .int v4), (5, .int v5)]) dX5_groups_79 rfl (by decide) rfl ?_
  refine z_iload dX5_groups_80 4 rfl ?_
  refine z_iload_n dX5_groups_82 rfl 3 rfl ?_
  refine z_icmp_le (tg := 91) dX5_groups_83 (by decide) ?_ ?_
  · refine z_iload_n dX5_groups_91 rfl 3 rfl ?_
    exact z_sub (lv' := [(0, .ref (z_ad X v0)), (1, .int v1), (2, .int x1), (4, .int v4), (5, .int v5)]) [1, 2, 0, 4, 5] rfl (s_X5_groups_L92 X h21 H21 v0 v1 x1 v4 v5 v3 m)
  · refine z_iload dX5_groups_86 4 rfl ?_
    refine z_goto (tg := 92) dX5_groups_88 (by decide) ?_
    exact z_sub (lv' := [(0, .ref (z_ad X v0)), (1, .int v1), (2, .int x1), (4, .int v4), (5, .int v5)]) [1, 2, 0, 4, 5] rfl (s_X5_groups_L92 X h21 H21 v0 v1 x1 v4 v5 v4 m)
set_option maxRecDepth 100000 in
set_option maxHeartbeats 4000000 in
theorem s_X5_groups_L64 (X : z_X) (h21 : Nat → Int32 → Int32 → Int32 → Int32 → Int32 → z_M → z_R) (H21 : ∀ (w0 : Nat) (w1 : Int32) (w2 : Int32) (w3 : Int32) (w4 : Int32) (w5 : Int32) (w : z_M), z_Sim X yX5_groups cX5_groups 6 (some .int) 1 21 [(0, .ref (z_ad X w0)), (1, .int w1), (2, .int w2), (3, .int w3), (4, .int w4), (5, .int w5)] [] w (h21 w0 w1 w2 w3 w4 w5 w)) (v0 : Nat) (v1 : Int32) (v2 : Int32) (v3 : Int32) (v5 : Int32) (s0 : Int32) (m : z_M) : z_Sim X yX5_groups cX5_groups 6 (some .int) 1 64 [(0, .ref (z_ad X v0)), (1, .int v1), (2, .int v2), (3, .int v3), (5, .int v5)] [.int s0] m (f_X5_groups_L64 h21 v0 v1 v2 v3 v5 s0 m) := by
  unfold f_X5_groups_L64
  refine z_istore (lv' := [(4, .int s0), (0, .ref (z_ad X v0)), (1, .int v1), (2, .int v2), (3, .int v3), (5, .int v5)]) dX5_groups_64 (by decide) rfl ?_
  refine z_iload_n dX5_groups_66 rfl 3 rfl ?_
  refine z_iload dX5_groups_67 0 rfl ?_
  refine z_iconst (v := 1) dX5_groups_69 k_c1 ?_
  refine z_icmp_ne (tg := 77) dX5_groups_70 (by decide) ?_ ?_
  · refine z_iconst (v := 0) dX5_groups_77 k_c0 ?_
    exact z_sub (lv' := [(0, .ref (z_ad X v0)), (1, .int v1), (3, .int v3), (4, .int s0), (5, .int v5)]) [1, 2, 4, 0, 5] rfl (s_X5_groups_L78 X h21 H21 v0 v1 v3 s0 v5 0 v2 m)
  · refine z_iconst (v := 1) dX5_groups_73 k_c1 ?_
    refine z_goto (tg := 78) dX5_groups_74 (by decide) ?_
    exact z_sub (lv' := [(0, .ref (z_ad X v0)), (1, .int v1), (3, .int v3), (4, .int s0), (5, .int v5)]) [1, 2, 4, 0, 5] rfl (s_X5_groups_L78 X h21 H21 v0 v1 v3 s0 v5 1 v2 m)
set_option maxRecDepth 100000 in
set_option maxHeartbeats 4000000 in
theorem s_X5_groups_L63 (X : z_X) (h21 : Nat → Int32 → Int32 → Int32 → Int32 → Int32 → z_M → z_R) (H21 : ∀ (w0 : Nat) (w1 : Int32) (w2 : Int32) (w3 : Int32) (w4 : Int32) (w5 : Int32) (w : z_M), z_Sim X yX5_groups cX5_groups 6 (some .int) 1 21 [(0, .ref (z_ad X w0)), (1, .int w1), (2, .int w2), (3, .int w3), (4, .int w4), (5, .int w5)] [] w (h21 w0 w1 w2 w3 w4 w5 w)) (v0 : Nat) (v1 : Int32) (v2 : Int32) (v3 : Int32) (v5 : Int32) (m : z_M) : z_Sim X yX5_groups cX5_groups 6 (some .int) 1 63 [(0, .ref (z_ad X v0)), (1, .int v1), (2, .int v2), (3, .int v3), (5, .int v5)] [] m (f_X5_groups_L63 h21 v0 v1 v2 v3 v5 m) := by
  unfold f_X5_groups_L63
  refine z_iconst (v := 1) dX5_groups_63 k_c1 ?_
  exact z_sub (lv' := [(0, .ref (z_ad X v0)), (1, .int v1), (2, .int v2), (3, .int v3), (5, .int v5)]) [0, 1, 2, 3, 4] rfl (s_X5_groups_L64 X h21 H21 v0 v1 v2 v3 v5 1 m)
set_option maxRecDepth 100000 in
set_option maxHeartbeats 4000000 in
theorem s_X5_groups_L21 (X : z_X) : ∀ (n : Nat) (v0 : Nat) (v1 : Int32) (v2 : Int32) (v3 : Int32) (v4 : Int32) (v5 : Int32) (m : z_M), z_Sim X yX5_groups cX5_groups 6 (some .int) 1 21 [(0, .ref (z_ad X v0)), (1, .int v1), (2, .int v2), (3, .int v3), (4, .int v4), (5, .int v5)] [] m (f_X5_groups_L21 n v0 v1 v2 v3 v4 v5 m) := by
  intro n
  induction n with
  | zero => intros; exact z_none
  | succ n ih =>
      intro v0 v1 v2 v3 v4 v5 m
      unfold f_X5_groups_L21
      refine z_iload dX5_groups_21 5 rfl ?_
      refine z_aload_n dX5_groups_23 rfl 0 rfl ?_
      refine z_getP z_X5 (j := 2) (by decide) rfl rfl wf_X5_13 dX5_groups_24 (fun a2 => ?_)
      refine z_iconst (v := 0) dX5_groups_27 k_c0 ?_
      refine z_iald dX5_groups_28 (fun x3 => ?_)
      refine z_icmp_ge (tg := 99) dX5_groups_29 (by decide) ?_ ?_
      · refine z_iload_n dX5_groups_99 rfl 1 rfl ?_
        refine z_if_ne (tg := 107) dX5_groups_100 (by decide) ?_ ?_
        · refine z_iload_n dX5_groups_107 rfl 3 rfl ?_
          exact z_iret dX5_groups_108
        · refine z_iload_n dX5_groups_103 rfl 2 rfl ?_
          refine z_goto (tg := 108) dX5_groups_104 (by decide) ?_
          exact z_iret dX5_groups_108
      · refine z_iload dX5_groups_32 5 rfl ?_
        refine z_if_le (tg := 63) dX5_groups_34 (by decide) ?_ ?_
        · exact z_sub (lv' := [(0, .ref (z_ad X v0)), (1, .int v1), (2, .int v2), (3, .int v3), (5, .int v5)]) [0, 1, 2, 3, 5] rfl (s_X5_groups_L63 X (f_X5_groups_L21 n) ih v0 v1 v2 v3 v5 m)
        · refine z_aload_n dX5_groups_37 rfl 0 rfl ?_
          refine z_getP z_X5 (j := 4) (by decide) rfl rfl wf_X5_19 dX5_groups_38 (fun a4 => ?_)
          refine z_iload dX5_groups_41 5 rfl ?_
          refine z_iald dX5_groups_43 (fun x5 => ?_)
          refine z_aload_n dX5_groups_44 rfl 0 rfl ?_
          refine z_getP z_X5 (j := 4) (by decide) rfl rfl wf_X5_19 dX5_groups_45 (fun a6 => ?_)
          refine z_iload dX5_groups_48 5 rfl ?_
          refine z_iconst (v := 1) dX5_groups_50 k_c1 ?_
          refine z_isub dX5_groups_51 ?_
          refine z_iald dX5_groups_52 (fun x7 => ?_)
          refine z_icmp_ne (tg := 63) dX5_groups_53 (by decide) ?_ ?_
          · exact z_sub (lv' := [(0, .ref (z_ad X v0)), (1, .int v1), (2, .int v2), (3, .int v3), (5, .int v5)]) [0, 1, 2, 3, 5] rfl (s_X5_groups_L63 X (f_X5_groups_L21 n) ih v0 v1 v2 v3 v5 m)
          · refine z_iload dX5_groups_56 4 rfl ?_
            refine z_iconst (v := 1) dX5_groups_58 k_c1 ?_
            refine z_iadd dX5_groups_59 ?_
            refine z_goto (tg := 64) dX5_groups_60 (by decide) ?_
            exact z_sub (lv' := [(0, .ref (z_ad X v0)), (1, .int v1), (2, .int v2), (3, .int v3), (5, .int v5)]) [0, 1, 2, 3, 5] rfl (s_X5_groups_L64 X (f_X5_groups_L21 n) ih v0 v1 v2 v3 v5 (v4 + 1) m)
set_option maxRecDepth 100000 in
set_option maxHeartbeats 4000000 in
theorem s_X5_groups (X : z_X) (v0 : Nat) (v1 : Int32) (m : z_M) : z_Sim X yX5_groups cX5_groups 6 (some .int) 1 0 [(0, .ref (z_ad X v0)), (1, .int v1)] [] m (f_X5_groups v0 v1 m) := by
  unfold f_X5_groups
  refine z_iload_n dX5_groups_0 rfl 1 rfl ?_
  refine z_iconst (v := 0) dX5_groups_1 k_c0 ?_
  refine z_iconst (v := 1) dX5_groups_2 k_c1 ?_
  refine z_cSi (As := [.int v1, .int 0, .int 1]) (rest := []) (c_X5_in X v1 0 1 m) mw_X5_in iw_X5_in wm_X5_45 rfl rfl (by decide) (Nat.le_of_ble_eq_true rfl) dX5_groups_3 (fun x8 m9 => ?_)
  refine z_if_ne (tg := 11) dX5_groups_6 (by decide) ?_ ?_
  · refine z_iconst (v := 0) dX5_groups_11 k_c0 ?_
    refine z_istore_n (lv' := [(2, .int 0), (0, .ref (z_ad X v0)), (1, .int v1)]) dX5_groups_12 rfl (by decide) rfl ?_
    refine z_iconst (v := 0) dX5_groups_13 k_c0 ?_
    refine z_istore_n (lv' := [(3, .int 0), (2, .int 0), (0, .ref (z_ad X v0)), (1, .int v1)]) dX5_groups_14 rfl (by decide) rfl ?_
    refine z_iconst (v := 0) dX5_groups_15 k_c0 ?_
    refine z_istore (lv' := [(4, .int 0), (3, .int 0), (2, .int 0), (0, .ref (z_ad X v0)), (1, .int v1)]) dX5_groups_16 (by decide) rfl ?_
    refine z_iconst (v := 0) dX5_groups_18 k_c0 ?_
    refine z_istore (lv' := [(5, .int 0), (4, .int 0), (3, .int 0), (2, .int 0), (0, .ref (z_ad X v0)), (1, .int v1)]) dX5_groups_19 (by decide) rfl ?_
    exact z_sub (lv' := [(0, .ref (z_ad X v0)), (1, .int v1), (2, .int 0), (3, .int 0), (4, .int 0), (5, .int 0)]) [4, 5, 3, 2, 1, 0] rfl (s_X5_groups_L21 X 400 v0 v1 0 0 0 0 m9)
  · refine z_iconst (v := (-1)) dX5_groups_9 k_cm1 ?_
    exact z_iret dX5_groups_10
set_option maxRecDepth 100000 in
set_option maxHeartbeats 4000000 in
theorem c_X5_groups (X : z_X) (v0 : Nat) (v1 : Int32) (m : z_M) : z_Ct X yX5_groups cX5_groups 6 (some .int) 1 [.ref (z_ad X v0), .int v1] m (f_X5_groups v0 v1 m) := z_Ct.of (by decide) (Nat.le_of_ble_eq_true rfl) (s_X5_groups X v0 v1 m)
set_option maxRecDepth 100000 in
set_option maxHeartbeats 4000000 in
theorem s_X5_lays_L79 (X : z_X) (h28 : Nat → Int32 → z_M → z_R) (H28 : ∀ (w0 : Nat) (w1 : Int32) (w : z_M), z_Sim X yX5_lays cX5_lays 2 none 0 28 [(0, .ref (z_ad X w0)), (1, .int w1)] [] w (h28 w0 w1 w)) (v0 : Nat) (v1 : Int32) (s0 : Int32) (s1 : Int32) (s2 : Nat) (m : z_M) : z_Sim X yX5_lays cX5_lays 2 none 0 79 [(0, .ref (z_ad X v0)), (1, .int v1)] [.int s0, .int s1, .ref (z_ad X s2)] m (f_X5_lays_L79 h28 v0 v1 s0 s1 s2 m) := by
  unfold f_X5_lays_L79
  refine z_iast dX5_lays_79 ?_
  generalize z_wI m s2 (Int32.toNatClampNeg s1) s0 = m1
  refine z_iinc (k := 1) (lv' := [(1, .int (v1 + 1)), (0, .ref (z_ad X v0))]) dX5_lays_80 rfl (k_i1 _) (by decide) rfl ?_
  refine z_goto (tg := 28) dX5_lays_83 (by decide) ?_
  exact z_sub (lv' := [(0, .ref (z_ad X v0)), (1, .int (v1 + 1))]) [1, 0] rfl (H28 v0 (v1 + 1) m1)
set_option maxRecDepth 100000 in
set_option maxHeartbeats 4000000 in
theorem s_X5_lays_L28 (X : z_X) : ∀ (n : Nat) (v0 : Nat) (v1 : Int32) (m : z_M), z_Sim X yX5_lays cX5_lays 2 none 0 28 [(0, .ref (z_ad X v0)), (1, .int v1)] [] m (f_X5_lays_L28 n v0 v1 m) := by
  intro n
  induction n with
  | zero => intros; exact z_none
  | succ n ih =>
      intro v0 v1 m
      unfold f_X5_lays_L28
      refine z_iload_n dX5_lays_28 rfl 1 rfl ?_
      refine z_bipush (v := 22) dX5_lays_29 k_bi22 ?_
      refine z_icmp_ge (tg := 86) dX5_lays_31 (by decide) ?_ ?_
      · refine z_aload_n dX5_lays_86 rfl 0 rfl ?_
        refine z_getP z_X5 (j := 4) (by decide) rfl rfl wf_X5_19 dX5_lays_87 (fun a2 => ?_)
        refine z_bipush (v := 16) dX5_lays_90 k_bi16 ?_
        refine z_aload_n dX5_lays_92 rfl 0 rfl ?_
        refine z_getP z_X5 (j := 2) (by decide) rfl rfl wf_X5_13 dX5_lays_93 (fun a3 => ?_)
        refine z_iconst (v := 2) dX5_lays_96 k_c2 ?_
        refine z_iald dX5_lays_97 (fun x4 => ?_)
        refine z_iast dX5_lays_98 ?_
        generalize z_wI m a2 (Int32.toNatClampNeg 16) x4 = m5
        refine z_aload_n dX5_lays_99 rfl 0 rfl ?_
        refine z_getP z_X5 (j := 4) (by decide) rfl rfl wf_X5_19 dX5_lays_100 (fun a6 => ?_)
        refine z_bipush (v := 18) dX5_lays_103 k_bi18 ?_
        refine z_iconst (v := (-1)) dX5_lays_105 k_cm1 ?_
        refine z_iast dX5_lays_106 ?_
        generalize z_wI m5 a6 (Int32.toNatClampNeg 18) (-1) = m7
        refine z_aload_n dX5_lays_107 rfl 0 rfl ?_
        refine z_iconst (v := 0) dX5_lays_108 k_c0 ?_
        refine z_setI z_X5 (by decide) rfl rfl wf_X5_81 dX5_lays_109 ?_
        generalize z_wI m7 v0 6 0 = m8
        refine z_aload_n dX5_lays_112 rfl 0 rfl ?_
        refine z_iconst (v := 0) dX5_lays_113 k_c0 ?_
        refine z_setI z_X5 (by decide) rfl rfl wf_X5_84 dX5_lays_114 ?_
        generalize z_wI m8 v0 8 0 = m9
        exact z_vret dX5_lays_117
      · refine z_aload_n dX5_lays_34 rfl 0 rfl ?_
        refine z_getP z_X5 (j := 4) (by decide) rfl rfl wf_X5_19 dX5_lays_35 (fun a10 => ?_)
        refine z_iload_n dX5_lays_38 rfl 1 rfl ?_
        refine z_iload_n dX5_lays_39 rfl 1 rfl ?_
        refine z_bipush (v := 8) dX5_lays_40 k_bi8 ?_
        refine z_icmp_ge (tg := 57) dX5_lays_42 (by decide) ?_ ?_
        · refine z_iload_n dX5_lays_57 rfl 1 rfl ?_
          refine z_bipush (v := 16) dX5_lays_58 k_bi16 ?_
          refine z_icmp_ge (tg := 78) dX5_lays_60 (by decide) ?_ ?_
          · refine z_iconst (v := 0) dX5_lays_78 k_c0 ?_
            exact z_sub (lv' := [(0, .ref (z_ad X v0)), (1, .int v1)]) [0, 1] rfl (s_X5_lays_L79 X (f_X5_lays_L28 n) ih v0 v1 0 v1 a10 m)
          · refine z_aload_n dX5_lays_63 rfl 0 rfl ?_
            refine z_getP z_X5 (j := 2) (by decide) rfl rfl wf_X5_13 dX5_lays_64 (fun a11 => ?_)
            refine z_bipush (v := 19) dX5_lays_67 k_bi19 ?_
            refine z_iload_n dX5_lays_69 rfl 1 rfl ?_
            refine z_iadd dX5_lays_70 ?_
            refine z_bipush (v := 8) dX5_lays_71 k_bi8 ?_
            refine z_isub dX5_lays_73 ?_
            refine z_iald dX5_lays_74 (fun x12 => ?_)
            refine z_goto (tg := 79) dX5_lays_75 (by decide) ?_
            exact z_sub (lv' := [(0, .ref (z_ad X v0)), (1, .int v1)]) [0, 1] rfl (s_X5_lays_L79 X (f_X5_lays_L28 n) ih v0 v1 x12 v1 a10 m)
        · refine z_aload_n dX5_lays_45 rfl 0 rfl ?_
          refine z_getP z_X5 (j := 2) (by decide) rfl rfl wf_X5_13 dX5_lays_46 (fun a13 => ?_)
          refine z_bipush (v := 11) dX5_lays_49 k_bi11 ?_
          refine z_iload_n dX5_lays_51 rfl 1 rfl ?_
          refine z_iadd dX5_lays_52 ?_
          refine z_iald dX5_lays_53 (fun x14 => ?_)
          refine z_goto (tg := 79) dX5_lays_54 (by decide) ?_
          exact z_sub (lv' := [(0, .ref (z_ad X v0)), (1, .int v1)]) [0, 1] rfl (s_X5_lays_L79 X (f_X5_lays_L28 n) ih v0 v1 x14 v1 a10 m)
set_option maxRecDepth 100000 in
set_option maxHeartbeats 4000000 in
theorem s_X5_lays_L2 (X : z_X) : ∀ (n : Nat) (v0 : Nat) (v1 : Int32) (m : z_M), z_Sim X yX5_lays cX5_lays 2 none 0 2 [(0, .ref (z_ad X v0)), (1, .int v1)] [] m (f_X5_lays_L2 n v0 v1 m) := by
  intro n
  induction n with
  | zero => intros; exact z_none
  | succ n ih =>
      intro v0 v1 m
      unfold f_X5_lays_L2
      refine z_iload_n dX5_lays_2 rfl 1 rfl ?_
      refine z_bipush (v := 35) dX5_lays_3 k_bi35 ?_
      refine z_icmp_ge (tg := 26) dX5_lays_5 (by decide) ?_ ?_
      · refine z_iconst (v := 0) dX5_lays_26 k_c0 ?_
        refine z_istore_n (lv' := [(1, .int 0), (0, .ref (z_ad X v0))]) dX5_lays_27 rfl (by decide) rfl ?_
        exact z_sub (lv' := [(0, .ref (z_ad X v0)), (1, .int 0)]) [1, 0] rfl (s_X5_lays_L28 X 400 v0 0 m)
      · refine z_aload_n dX5_lays_8 rfl 0 rfl ?_
        refine z_getP z_X5 (j := 2) (by decide) rfl rfl wf_X5_13 dX5_lays_9 (fun a15 => ?_)
        refine z_iload_n dX5_lays_12 rfl 1 rfl ?_
        refine z_aload_n dX5_lays_13 rfl 0 rfl ?_
        refine z_getP z_X5 (j := 3) (by decide) rfl rfl wf_X5_16 dX5_lays_14 (fun a16 => ?_)
        refine z_iload_n dX5_lays_17 rfl 1 rfl ?_
        refine z_iald dX5_lays_18 (fun x17 => ?_)
        refine z_iast dX5_lays_19 ?_
        generalize z_wI m a15 (Int32.toNatClampNeg v1) x17 = m18
        refine z_iinc (k := 1) (lv' := [(1, .int (v1 + 1)), (0, .ref (z_ad X v0))]) dX5_lays_20 rfl (k_i1 _) (by decide) rfl ?_
        refine z_goto (tg := 2) dX5_lays_23 (by decide) ?_
        exact z_sub (lv' := [(0, .ref (z_ad X v0)), (1, .int (v1 + 1))]) [1, 0] rfl (ih v0 (v1 + 1) m18)
set_option maxRecDepth 100000 in
set_option maxHeartbeats 4000000 in
theorem s_X5_lays (X : z_X) (v0 : Nat) (m : z_M) : z_Sim X yX5_lays cX5_lays 2 none 0 0 [(0, .ref (z_ad X v0))] [] m (f_X5_lays v0 m) := by
  unfold f_X5_lays
  refine z_iconst (v := 0) dX5_lays_0 k_c0 ?_
  refine z_istore_n (lv' := [(1, .int 0), (0, .ref (z_ad X v0))]) dX5_lays_1 rfl (by decide) rfl ?_
  exact z_sub (lv' := [(0, .ref (z_ad X v0)), (1, .int 0)]) [1, 0] rfl (s_X5_lays_L2 X 400 v0 0 m)
set_option maxRecDepth 100000 in
set_option maxHeartbeats 4000000 in
theorem c_X5_lays (X : z_X) (v0 : Nat) (m : z_M) : z_Ct X yX5_lays cX5_lays 2 none 0 [.ref (z_ad X v0)] m (f_X5_lays v0 m) := z_Ct.of (by decide) (Nat.le_of_ble_eq_true rfl) (s_X5_lays X v0 m)
set_option maxRecDepth 100000 in
set_option maxHeartbeats 4000000 in
theorem s_X5_init (X : z_X) (v0 : Nat) (m : z_M) : z_Sim X yX5_init cX5_init 1 none 1 0 [(0, .ref (z_ad X v0))] [] m (f_X5_init v0 m) := by
  unfold f_X5_init
  refine z_aload_n dX5_init_0 rfl 0 rfl ?_
  refine z_oinit (by decide) (Nat.le_of_ble_eq_true rfl) wm_X5_1 dX5_init_1 ?_
  refine z_aload_n dX5_init_4 rfl 0 rfl ?_
  refine z_sipush (v := 200) dX5_init_5 k_si200 ?_
  refine z_newI dX5_init_8 (fun a1 m2 => ?_)
  refine z_setF (t0 := (.array .int)) z_X5 (by decide) rfl rfl rfl rfl wf_X5_7 (by decide +kernel) (fun _ => rfl) (fun _ => rfl) dX5_init_10 ?_
  generalize z_wP m2 v0 0 a1 = m3
  refine z_aload_n dX5_init_13 rfl 0 rfl ?_
  refine z_bipush (v := 35) dX5_init_14 k_bi35 ?_
  refine z_newI dX5_init_16 (fun a4 m5 => ?_)
  refine z_setF (t0 := (.array .int)) z_X5 (by decide) rfl rfl rfl rfl wf_X5_13 (by decide +kernel) (fun _ => rfl) (fun _ => rfl) dX5_init_18 ?_
  generalize z_wP m5 v0 2 a4 = m6
  refine z_aload_n dX5_init_21 rfl 0 rfl ?_
  refine z_bipush (v := 35) dX5_init_22 k_bi35 ?_
  refine z_newI dX5_init_24 (fun a7 m8 => ?_)
  refine z_setF (t0 := (.array .int)) z_X5 (by decide) rfl rfl rfl rfl wf_X5_16 (by decide +kernel) (fun _ => rfl) (fun _ => rfl) dX5_init_26 ?_
  generalize z_wP m8 v0 3 a7 = m9
  refine z_aload_n dX5_init_29 rfl 0 rfl ?_
  refine z_bipush (v := 22) dX5_init_30 k_bi22 ?_
  refine z_newI dX5_init_32 (fun a10 m11 => ?_)
  refine z_setF (t0 := (.array .int)) z_X5 (by decide) rfl rfl rfl rfl wf_X5_19 (by decide +kernel) (fun _ => rfl) (fun _ => rfl) dX5_init_34 ?_
  generalize z_wP m11 v0 4 a10 = m12
  refine z_aload_n dX5_init_37 rfl 0 rfl ?_
  refine z_sipush (v := 176) dX5_init_38 k_si176 ?_
  refine z_newI dX5_init_41 (fun a13 m14 => ?_)
  refine z_setF (t0 := (.array .int)) z_X5 (by decide) rfl rfl rfl rfl wf_X5_22 (by decide +kernel) (fun _ => rfl) (fun _ => rfl) dX5_init_43 ?_
  generalize z_wP m14 v0 5 a13 = m15
  refine z_aload_n dX5_init_46 rfl 0 rfl ?_
  refine z_bipush (v := 44) dX5_init_47 k_bi44 ?_
  refine z_newI dX5_init_49 (fun a16 m17 => ?_)
  refine z_setF (t0 := (.array .int)) z_X5 (by decide) rfl rfl rfl rfl wf_X5_25 (by decide +kernel) (fun _ => rfl) (fun _ => rfl) dX5_init_51 ?_
  generalize z_wP m17 v0 7 a16 = m18
  refine z_aload_n dX5_init_54 rfl 0 rfl ?_
  refine z_iconst (v := (-1)) dX5_init_55 k_cm1 ?_
  refine z_setI z_X5 (by decide) rfl rfl wf_X5_28 dX5_init_56 ?_
  generalize z_wI m18 v0 10 (-1) = m19
  refine z_aload_n dX5_init_59 rfl 0 rfl ?_
  refine z_bipush (v := 22) dX5_init_60 k_bi22 ?_
  refine z_newI dX5_init_62 (fun a20 m21 => ?_)
  refine z_setF (t0 := (.array .int)) z_X5 (by decide) rfl rfl rfl rfl wf_X5_32 (by decide +kernel) (fun _ => rfl) (fun _ => rfl) dX5_init_64 ?_
  generalize z_wP m21 v0 12 a20 = m22
  refine z_aload_n dX5_init_67 rfl 0 rfl ?_
  refine z_cVv (As := []) (rest := []) (c_X5_begins X v0 m22) mw_X5_begins iw_X5_begins z_X5 wm_X5_35 rfl rfl (by decide) (Nat.le_of_ble_eq_true rfl) dX5_init_68 (fun _ m23 => ?_)
  refine z_aload_n dX5_init_71 rfl 0 rfl ?_
  refine z_iconst (v := 0) dX5_init_72 k_c0 ?_
  refine z_iconst (v := 0) dX5_init_73 k_c0 ?_
  refine z_iconst (v := 0) dX5_init_74 k_c0 ?_
  refine z_iconst (v := 0) dX5_init_75 k_c0 ?_
  refine z_cVv (As := [.int 0, .int 0, .int 0, .int 0]) (rest := []) (c_X5_adds X v0 0 0 0 0 m23) mw_X5_adds iw_X5_adds z_X5 wm_X5_38 rfl rfl (by decide) (Nat.le_of_ble_eq_true rfl) dX5_init_76 (fun _ m24 => ?_)
  refine z_aload_n dX5_init_79 rfl 0 rfl ?_
  refine z_iconst (v := 1) dX5_init_80 k_c1 ?_
  refine z_iconst (v := 0) dX5_init_81 k_c0 ?_
  refine z_iconst (v := 0) dX5_init_82 k_c0 ?_
  refine z_bipush (v := 10) dX5_init_83 k_bi10 ?_
  refine z_cVv (As := [.int 1, .int 0, .int 0, .int 10]) (rest := []) (c_X5_adds X v0 1 0 0 10 m24) mw_X5_adds iw_X5_adds z_X5 wm_X5_38 rfl rfl (by decide) (Nat.le_of_ble_eq_true rfl) dX5_init_85 (fun _ m25 => ?_)
  refine z_aload_n dX5_init_88 rfl 0 rfl ?_
  refine z_iconst (v := 2) dX5_init_89 k_c2 ?_
  refine z_iconst (v := 0) dX5_init_90 k_c0 ?_
  refine z_iconst (v := 1) dX5_init_91 k_c1 ?_
  refine z_iconst (v := 0) dX5_init_92 k_c0 ?_
  refine z_cVv (As := [.int 2, .int 0, .int 1, .int 0]) (rest := []) (c_X5_adds X v0 2 0 1 0 m25) mw_X5_adds iw_X5_adds z_X5 wm_X5_38 rfl rfl (by decide) (Nat.le_of_ble_eq_true rfl) dX5_init_93 (fun _ m26 => ?_)
  refine z_aload_n dX5_init_96 rfl 0 rfl ?_
  refine z_iconst (v := 2) dX5_init_97 k_c2 ?_
  refine z_iconst (v := 0) dX5_init_98 k_c0 ?_
  refine z_iconst (v := 2) dX5_init_99 k_c2 ?_
  refine z_iconst (v := 3) dX5_init_100 k_c3 ?_
  refine z_cVv (As := [.int 2, .int 0, .int 2, .int 3]) (rest := []) (c_X5_adds X v0 2 0 2 3 m26) mw_X5_adds iw_X5_adds z_X5 wm_X5_38 rfl rfl (by decide) (Nat.le_of_ble_eq_true rfl) dX5_init_101 (fun _ m27 => ?_)
  refine z_aload_n dX5_init_104 rfl 0 rfl ?_
  refine z_iconst (v := 3) dX5_init_105 k_c3 ?_
  refine z_iconst (v := 0) dX5_init_106 k_c0 ?_
  refine z_iconst (v := 0) dX5_init_107 k_c0 ?_
  refine z_iconst (v := 0) dX5_init_108 k_c0 ?_
  refine z_cVv (As := [.int 3, .int 0, .int 0, .int 0]) (rest := []) (c_X5_adds X v0 3 0 0 0 m27) mw_X5_adds iw_X5_adds z_X5 wm_X5_38 rfl rfl (by decide) (Nat.le_of_ble_eq_true rfl) dX5_init_109 (fun _ m28 => ?_)
  refine z_aload_n dX5_init_112 rfl 0 rfl ?_
  refine z_iconst (v := 1) dX5_init_113 k_c1 ?_
  refine z_iconst (v := 0) dX5_init_114 k_c0 ?_
  refine z_iconst (v := 5) dX5_init_115 k_c5 ?_
  refine z_iconst (v := 5) dX5_init_116 k_c5 ?_
  refine z_cVv (As := [.int 1, .int 0, .int 5, .int 5]) (rest := []) (c_X5_adds X v0 1 0 5 5 m28) mw_X5_adds iw_X5_adds z_X5 wm_X5_38 rfl rfl (by decide) (Nat.le_of_ble_eq_true rfl) dX5_init_117 (fun _ m29 => ?_)
  refine z_aload_n dX5_init_120 rfl 0 rfl ?_
  refine z_iconst (v := 2) dX5_init_121 k_c2 ?_
  refine z_iconst (v := 0) dX5_init_122 k_c0 ?_
  refine z_iconst (v := 3) dX5_init_123 k_c3 ?_
  refine z_bipush (v := 6) dX5_init_124 k_bi6 ?_
  refine z_cVv (As := [.int 2, .int 0, .int 3, .int 6]) (rest := []) (c_X5_adds X v0 2 0 3 6 m29) mw_X5_adds iw_X5_adds z_X5 wm_X5_38 rfl rfl (by decide) (Nat.le_of_ble_eq_true rfl) dX5_init_126 (fun _ m30 => ?_)
  refine z_aload_n dX5_init_129 rfl 0 rfl ?_
  refine z_getP z_X5 (j := 3) (by decide) rfl rfl wf_X5_16 dX5_init_130 (fun a31 => ?_)
  refine z_iconst (v := 1) dX5_init_133 k_c1 ?_
  refine z_iconst (v := 4) dX5_init_134 k_c4 ?_
  refine z_iast dX5_init_135 ?_
  generalize z_wI m30 a31 (Int32.toNatClampNeg 1) 4 = m32
  refine z_aload_n dX5_init_136 rfl 0 rfl ?_
  refine z_cVv (As := []) (rest := []) (c_X5_lays X v0 m32) mw_X5_lays iw_X5_lays z_X5 wm_X5_42 rfl rfl (by decide) (Nat.le_of_ble_eq_true rfl) dX5_init_137 (fun _ m33 => ?_)
  exact z_vret dX5_init_140
set_option maxRecDepth 100000 in
set_option maxHeartbeats 4000000 in
theorem c_X5_init (X : z_X) (v0 : Nat) (m : z_M) : z_Ct X yX5_init cX5_init 1 none 1 [.ref (z_ad X v0)] m (f_X5_init v0 m) := z_Ct.of (by decide) (Nat.le_of_ble_eq_true rfl) (s_X5_init X v0 m)
set_option maxRecDepth 100000 in
set_option maxHeartbeats 4000000 in
theorem s_X5_keep_L13 (X : z_X) : ∀ (n : Nat) (v0 : Nat) (v1 : Int32) (m : z_M), z_Sim X yX5_keep cX5_keep 2 (some .int) 0 13 [(0, .ref (z_ad X v0)), (1, .int v1)] [] m (f_X5_keep_L13 n v0 v1 m) := by
  intro n
  induction n with
  | zero => intros; exact z_none
  | succ n ih =>
      intro v0 v1 m
      unfold f_X5_keep_L13
      refine z_iload_n dX5_keep_13 rfl 1 rfl ?_
      refine z_bipush (v := 22) dX5_keep_14 k_bi22 ?_
      refine z_icmp_ge (tg := 45) dX5_keep_16 (by decide) ?_ ?_
      · refine z_aload_n dX5_keep_45 rfl 0 rfl ?_
        refine z_dup dX5_keep_46 rfl ?_
        refine z_getI z_X5 (j := 8) (by decide) rfl rfl wf_X5_84 dX5_keep_47 (fun x1 => ?_)
        refine z_iconst (v := 1) dX5_keep_50 k_c1 ?_
        refine z_iadd dX5_keep_51 ?_
        refine z_nm (fun x2 => ?_)
        refine z_setI z_X5 (by decide) rfl rfl wf_X5_84 dX5_keep_52 ?_
        generalize z_wI m v0 8 x2 = m3
        refine z_aload_n dX5_keep_55 rfl 0 rfl ?_
        refine z_getI z_X5 (j := 8) (by decide) rfl rfl wf_X5_84 dX5_keep_56 (fun x4 => ?_)
        exact z_iret dX5_keep_59
      · refine z_aload_n dX5_keep_19 rfl 0 rfl ?_
        refine z_getP z_X5 (j := 7) (by decide) rfl rfl wf_X5_25 dX5_keep_20 (fun a5 => ?_)
        refine z_bipush (v := 22) dX5_keep_23 k_bi22 ?_
        refine z_aload_n dX5_keep_25 rfl 0 rfl ?_
        refine z_getI z_X5 (j := 8) (by decide) rfl rfl wf_X5_84 dX5_keep_26 (fun x6 => ?_)
        refine z_imul dX5_keep_29 ?_
        refine z_iload_n dX5_keep_30 rfl 1 rfl ?_
        refine z_iadd dX5_keep_31 ?_
        refine z_aload_n dX5_keep_32 rfl 0 rfl ?_
        refine z_getP z_X5 (j := 4) (by decide) rfl rfl wf_X5_19 dX5_keep_33 (fun a7 => ?_)
        refine z_iload_n dX5_keep_36 rfl 1 rfl ?_
        refine z_iald dX5_keep_37 (fun x8 => ?_)
        refine z_iast dX5_keep_38 ?_
        generalize z_wI m a5 (Int32.toNatClampNeg ((22 * x6) + v1)) x8 = m9
        refine z_iinc (k := 1) (lv' := [(1, .int (v1 + 1)), (0, .ref (z_ad X v0))]) dX5_keep_39 rfl (k_i1 _) (by decide) rfl ?_
        refine z_goto (tg := 13) dX5_keep_42 (by decide) ?_
        exact z_sub (lv' := [(0, .ref (z_ad X v0)), (1, .int (v1 + 1))]) [1, 0] rfl (ih v0 (v1 + 1) m9)
set_option maxRecDepth 100000 in
set_option maxHeartbeats 4000000 in
theorem s_X5_keep (X : z_X) (v0 : Nat) (m : z_M) : z_Sim X yX5_keep cX5_keep 2 (some .int) 0 0 [(0, .ref (z_ad X v0))] [] m (f_X5_keep v0 m) := by
  unfold f_X5_keep
  refine z_aload_n dX5_keep_0 rfl 0 rfl ?_
  refine z_getI z_X5 (j := 8) (by decide) rfl rfl wf_X5_84 dX5_keep_1 (fun x10 => ?_)
  refine z_iconst (v := 2) dX5_keep_4 k_c2 ?_
  refine z_icmp_ne (tg := 11) dX5_keep_5 (by decide) ?_ ?_
  · refine z_iconst (v := 0) dX5_keep_11 k_c0 ?_
    refine z_istore_n (lv' := [(1, .int 0), (0, .ref (z_ad X v0))]) dX5_keep_12 rfl (by decide) rfl ?_
    exact z_sub (lv' := [(0, .ref (z_ad X v0)), (1, .int 0)]) [1, 0] rfl (s_X5_keep_L13 X 400 v0 0 m)
  · refine z_bipush (v := (-3)) dX5_keep_8 k_bim3 ?_
    exact z_iret dX5_keep_10
set_option maxRecDepth 100000 in
set_option maxHeartbeats 4000000 in
theorem c_X5_keep (X : z_X) (v0 : Nat) (m : z_M) : z_Ct X yX5_keep cX5_keep 2 (some .int) 0 [.ref (z_ad X v0)] m (f_X5_keep v0 m) := z_Ct.of (by decide) (Nat.le_of_ble_eq_true rfl) (s_X5_keep X v0 m)
set_option maxRecDepth 100000 in
set_option maxHeartbeats 4000000 in
theorem s_X5_lay_L70 (X : z_X) (v0 : Nat) (v1 : Int32) (m : z_M) : z_Sim X yX5_lay cX5_lay 3 (some .int) 5 70 [(0, .ref (z_ad X v0)), (1, .int v1)] [] m (f_X5_lay_L70 v0 v1 m) := by
  unfold f_X5_lay_L70
  refine z_iload_n dX5_lay_70 rfl 1 rfl ?_
  refine z_if_ne (tg := 77) dX5_lay_71 (by decide) ?_ ?_
  · refine z_aload_n dX5_lay_77 rfl 0 rfl ?_
    refine z_cVv (As := []) (rest := []) (c_X5_lays X v0 m) mw_X5_lays iw_X5_lays z_X5 wm_X5_42 rfl rfl (by decide) (Nat.le_of_ble_eq_true rfl) dX5_lay_78 (fun _ m1 => ?_)
    refine z_aload_n dX5_lay_81 rfl 0 rfl ?_
    refine z_getP z_X5 (j := 2) (by decide) rfl rfl wf_X5_13 dX5_lay_82 (fun a2 => ?_)
    refine z_iconst (v := 0) dX5_lay_85 k_c0 ?_
    refine z_iald dX5_lay_86 (fun x3 => ?_)
    exact z_iret dX5_lay_87
  · refine z_bipush (v := (-2)) dX5_lay_74 k_bim2 ?_
    exact z_iret dX5_lay_76
set_option maxRecDepth 100000 in
set_option maxHeartbeats 4000000 in
theorem s_X5_lay_L63 (X : z_X) (h26 : Nat → Int32 → Int32 → z_M → z_R) (H26 : ∀ (w0 : Nat) (w1 : Int32) (w2 : Int32) (w : z_M), z_Sim X yX5_lay cX5_lay 3 (some .int) 5 26 [(0, .ref (z_ad X w0)), (1, .int w1), (2, .int w2)] [] w (h26 w0 w1 w2 w)) (v0 : Nat) (v2 : Int32) (s0 : Int32) (m : z_M) : z_Sim X yX5_lay cX5_lay 3 (some .int) 5 63 [(0, .ref (z_ad X v0)), (2, .int v2)] [.int s0] m (f_X5_lay_L63 h26 v0 v2 s0 m) := by
  unfold f_X5_lay_L63
  refine z_istore_n (lv' := [(1, .int s0), (0, .ref (z_ad X v0)), (2, .int v2)]) dX5_lay_63 rfl (by decide) rfl ?_
  refine z_iinc (k := 2) (lv' := [(2, .int (v2 + 1)), (1, .int s0), (0, .ref (z_ad X v0))]) dX5_lay_64 rfl (k_i1 _) (by decide) rfl ?_
  refine z_goto (tg := 26) dX5_lay_67 (by decide) ?_
  exact z_sub (lv' := [(0, .ref (z_ad X v0)), (1, .int s0), (2, .int (v2 + 1))]) [2, 1, 0] rfl (H26 v0 s0 (v2 + 1) m)
set_option maxRecDepth 100000 in
set_option maxHeartbeats 4000000 in
theorem s_X5_lay_L26 (X : z_X) : ∀ (n : Nat) (v0 : Nat) (v1 : Int32) (v2 : Int32) (m : z_M), z_Sim X yX5_lay cX5_lay 3 (some .int) 5 26 [(0, .ref (z_ad X v0)), (1, .int v1), (2, .int v2)] [] m (f_X5_lay_L26 n v0 v1 v2 m) := by
  intro n
  induction n with
  | zero => intros; exact z_none
  | succ n ih =>
      intro v0 v1 v2 m
      unfold f_X5_lay_L26
      refine z_iload_n dX5_lay_26 rfl 2 rfl ?_
      refine z_aload_n dX5_lay_27 rfl 0 rfl ?_
      refine z_getP z_X5 (j := 3) (by decide) rfl rfl wf_X5_16 dX5_lay_28 (fun a4 => ?_)
      refine z_iconst (v := 0) dX5_lay_31 k_c0 ?_
      refine z_iald dX5_lay_32 (fun x5 => ?_)
      refine z_icmp_ge (tg := 70) dX5_lay_33 (by decide) ?_ ?_
      · exact z_sub (lv' := [(0, .ref (z_ad X v0)), (1, .int v1)]) [0, 1] rfl (s_X5_lay_L70 X v0 v1 m)
      · refine z_iload_n dX5_lay_36 rfl 1 rfl ?_
        refine z_if_eq (tg := 70) dX5_lay_37 (by decide) ?_ ?_
        · exact z_sub (lv' := [(0, .ref (z_ad X v0)), (1, .int v1)]) [0, 1] rfl (s_X5_lay_L70 X v0 v1 m)
        · refine z_aload_n dX5_lay_40 rfl 0 rfl ?_
          refine z_getP z_X5 (j := 3) (by decide) rfl rfl wf_X5_16 dX5_lay_41 (fun a6 => ?_)
          refine z_bipush (v := 19) dX5_lay_44 k_bi19 ?_
          refine z_iload_n dX5_lay_46 rfl 2 rfl ?_
          refine z_iadd dX5_lay_47 ?_
          refine z_iald dX5_lay_48 (fun x7 => ?_)
          refine z_aload_n dX5_lay_49 rfl 0 rfl ?_
          refine z_getP z_X5 (j := 3) (by decide) rfl rfl wf_X5_16 dX5_lay_50 (fun a8 => ?_)
          refine z_iconst (v := 0) dX5_lay_53 k_c0 ?_
          refine z_iald dX5_lay_54 (fun x9 => ?_)
          refine z_icmp_ge (tg := 62) dX5_lay_55 (by decide) ?_ ?_
          · refine z_iconst (v := 0) dX5_lay_62 k_c0 ?_
            exact z_sub (lv' := [(0, .ref (z_ad X v0)), (2, .int v2)]) [0, 2] rfl (s_X5_lay_L63 X (f_X5_lay_L26 n) ih v0 v2 0 m)
          · refine z_iconst (v := 1) dX5_lay_58 k_c1 ?_
            refine z_goto (tg := 63) dX5_lay_59 (by decide) ?_
            exact z_sub (lv' := [(0, .ref (z_ad X v0)), (2, .int v2)]) [0, 2] rfl (s_X5_lay_L63 X (f_X5_lay_L26 n) ih v0 v2 1 m)
set_option maxRecDepth 100000 in
set_option maxHeartbeats 4000000 in
theorem s_X5_lay_L23 (X : z_X) (v0 : Nat) (s0 : Int32) (m : z_M) : z_Sim X yX5_lay cX5_lay 3 (some .int) 5 23 [(0, .ref (z_ad X v0))] [.int s0] m (f_X5_lay_L23 v0 s0 m) := by
  unfold f_X5_lay_L23
  refine z_istore_n (lv' := [(1, .int s0), (0, .ref (z_ad X v0))]) dX5_lay_23 rfl (by decide) rfl ?_
  refine z_iconst (v := 0) dX5_lay_24 k_c0 ?_
  refine z_istore_n (lv' := [(2, .int 0), (1, .int s0), (0, .ref (z_ad X v0))]) dX5_lay_25 rfl (by decide) rfl ?_
  exact z_sub (lv' := [(0, .ref (z_ad X v0)), (1, .int s0), (2, .int 0)]) [2, 1, 0] rfl (s_X5_lay_L26 X 400 v0 s0 0 m)
set_option maxRecDepth 100000 in
set_option maxHeartbeats 4000000 in
theorem s_X5_lay_L22 (X : z_X) (v0 : Nat) (m : z_M) : z_Sim X yX5_lay cX5_lay 3 (some .int) 5 22 [(0, .ref (z_ad X v0))] [] m (f_X5_lay_L22 v0 m) := by
  unfold f_X5_lay_L22
  refine z_iconst (v := 0) dX5_lay_22 k_c0 ?_
  exact z_sub (lv' := [(0, .ref (z_ad X v0))]) [0] rfl (s_X5_lay_L23 X v0 0 m)
set_option maxRecDepth 100000 in
set_option maxHeartbeats 4000000 in
theorem s_X5_lay (X : z_X) (v0 : Nat) (m : z_M) : z_Sim X yX5_lay cX5_lay 3 (some .int) 5 0 [(0, .ref (z_ad X v0))] [] m (f_X5_lay v0 m) := by
  unfold f_X5_lay
  refine z_aload_n dX5_lay_0 rfl 0 rfl ?_
  refine z_cVi (As := []) (rest := []) (c_X5_reads X v0 m) mw_X5_reads iw_X5_reads z_X5 wm_X5_78 rfl rfl (by decide) (Nat.le_of_ble_eq_true rfl) dX5_lay_1 (fun x10 m11 => ?_)
  refine z_bipush (v := (-4)) dX5_lay_4 k_bim4 ?_
  refine z_icmp_ne (tg := 22) dX5_lay_6 (by decide) ?_ ?_
  · exact z_sub (lv' := [(0, .ref (z_ad X v0))]) [0] rfl (s_X5_lay_L22 X v0 m11)
  · refine z_aload_n dX5_lay_9 rfl 0 rfl ?_
    refine z_getP z_X5 (j := 3) (by decide) rfl rfl wf_X5_16 dX5_lay_10 (fun a12 => ?_)
    refine z_iconst (v := 0) dX5_lay_13 k_c0 ?_
    refine z_iald dX5_lay_14 (fun x13 => ?_)
    refine z_if_le (tg := 22) dX5_lay_15 (by decide) ?_ ?_
    · exact z_sub (lv' := [(0, .ref (z_ad X v0))]) [0] rfl (s_X5_lay_L22 X v0 m11)
    · refine z_iconst (v := 1) dX5_lay_18 k_c1 ?_
      refine z_goto (tg := 23) dX5_lay_19 (by decide) ?_
      exact z_sub (lv' := [(0, .ref (z_ad X v0))]) [0] rfl (s_X5_lay_L23 X v0 1 m11)
set_option maxRecDepth 100000 in
set_option maxHeartbeats 4000000 in
theorem c_X5_lay (X : z_X) (v0 : Nat) (m : z_M) : z_Ct X yX5_lay cX5_lay 3 (some .int) 5 [.ref (z_ad X v0)] m (f_X5_lay v0 m) := z_Ct.of (by decide) (Nat.le_of_ble_eq_true rfl) (s_X5_lay X v0 m)
set_option maxRecDepth 100000 in
set_option maxHeartbeats 4000000 in
theorem s_X5_look (X : z_X) (v0 : Nat) (v1 : Int32) (v2 : Int32) (m : z_M) : z_Sim X yX5_look cX5_look 4 (some .int) 2 0 [(0, .ref (z_ad X v0)), (1, .int v1), (2, .int v2)] [] m (f_X5_look v0 v1 v2 m) := by
  unfold f_X5_look
  refine z_aload_n dX5_look_0 rfl 0 rfl ?_
  refine z_iload_n dX5_look_1 rfl 1 rfl ?_
  refine z_cVi (As := [.int v1]) (rest := []) (c_X5_isMan X v0 v1 m) mw_X5_isMan iw_X5_isMan z_X5 wm_X5_87 rfl rfl (by decide) (Nat.le_of_ble_eq_true rfl) dX5_look_2 (fun x1 m2 => ?_)
  refine z_if_eq (tg := 16) dX5_look_5 (by decide) ?_ ?_
  · refine z_iconst (v := (-1)) dX5_look_16 k_cm1 ?_
    exact z_iret dX5_look_17
  · refine z_aload_n dX5_look_8 rfl 0 rfl ?_
    refine z_iload_n dX5_look_9 rfl 2 rfl ?_
    refine z_cVi (As := [.int v2]) (rest := []) (c_X5_isMan X v0 v2 m2) mw_X5_isMan iw_X5_isMan z_X5 wm_X5_87 rfl rfl (by decide) (Nat.le_of_ble_eq_true rfl) dX5_look_10 (fun x3 m4 => ?_)
    refine z_if_ne (tg := 18) dX5_look_13 (by decide) ?_ ?_
    · refine z_aload_n dX5_look_18 rfl 0 rfl ?_
      refine z_cVv (As := []) (rest := []) (c_X5_keeps X v0 m4) mw_X5_keeps iw_X5_keeps z_X5 wm_X5_133 rfl rfl (by decide) (Nat.le_of_ble_eq_true rfl) dX5_look_19 (fun _ m5 => ?_)
      refine z_aload_n dX5_look_22 rfl 0 rfl ?_
      refine z_getP z_X5 (j := 4) (by decide) rfl rfl wf_X5_19 dX5_look_23 (fun a6 => ?_)
      refine z_bipush (v := 8) dX5_look_26 k_bi8 ?_
      refine z_iload_n dX5_look_28 rfl 1 rfl ?_
      refine z_iadd dX5_look_29 ?_
      refine z_iald dX5_look_30 (fun x7 => ?_)
      refine z_istore_n (lv' := [(3, .int x7), (0, .ref (z_ad X v0)), (1, .int v1), (2, .int v2)]) dX5_look_31 rfl (by decide) rfl ?_
      refine z_aload_n dX5_look_32 rfl 1 rfl ?_
      refine z_getP z_X5 (j := 4) (by decide) rfl rfl wf_X5_19 dX5_look_33 (fun a8 => ?_)
      refine z_bipush (v := 8) dX5_look_36 k_bi8 ?_
      refine z_iload_n dX5_look_38 rfl 2 rfl ?_
      refine z_iadd dX5_look_39 ?_
      refine z_iload_n dX5_look_40 rfl 3 rfl ?_
      refine z_iast dX5_look_41 ?_
      generalize z_wI m5 a8 (Int32.toNatClampNeg (8 + v1)) v2 = m9
      refine z_iload_n dX5_look_42 rfl 0 rfl ?_
      exact z_iret dX5_look_43
    · refine z_iconst (v := (-1)) dX5_look_16 k_cm1 ?_
      exact z_iret dX5_look_17
set_option maxRecDepth 100000 in
set_option maxHeartbeats 4000000 in
theorem c_X5_look (X : z_X) (v0 : Nat) (v1 : Int32) (v2 : Int32) (m : z_M) : z_Ct X yX5_look cX5_look 4 (some .int) 2 [.ref (z_ad X v0), .int v1, .int v2] m (f_X5_look v0 v1 v2 m) := z_Ct.of (by decide) (Nat.le_of_ble_eq_true rfl) (s_X5_look X v0 v1 v2 m)
set_option maxRecDepth 100000 in
set_option maxHeartbeats 4000000 in
theorem s_X5_man (X : z_X) (v0 : Nat) (v1 : Int32) (v2 : Int32) (m : z_M) : z_Sim X yX5_man cX5_man 3 (some .int) 2 0 [(0, .ref (z_ad X v0)), (1, .int v1), (2, .int v2)] [] m (f_X5_man v0 v1 v2 m) := by
  unfold f_X5_man
  refine z_aload_n dX5_man_0 rfl 0 rfl ?_
  refine z_iload_n dX5_man_1 rfl 1 rfl ?_
  refine z_cVi (As := [.int v1]) (rest := []) (c_X5_isMan X v0 v1 m) mw_X5_isMan iw_X5_isMan z_X5 wm_X5_87 rfl rfl (by decide) (Nat.le_of_ble_eq_true rfl) dX5_man_2 (fun x1 m2 => ?_)
  refine z_if_ne (tg := 10) dX5_man_5 (by decide) ?_ ?_
  · refine z_iload_n dX5_man_10 rfl 2 rfl ?_
    refine z_if (fun h0 => ?_) (fun h0 => ?_)
    · refine z_swIn (tg := 44) dX5_man_11 (by rw [h0]; decide) (by rw [h0]; decide) (by rw [h0]; rfl) (by decide) ?_
      refine z_aload_n dX5_man_44 rfl 0 rfl ?_
      refine z_getP z_X5 (j := 2) (by decide) rfl rfl wf_X5_13 dX5_man_45 (fun a3 => ?_)
      refine z_iconst (v := 3) dX5_man_48 k_c3 ?_
      refine z_iload_n dX5_man_49 rfl 1 rfl ?_
      refine z_iadd dX5_man_50 ?_
      refine z_iald dX5_man_51 (fun x4 => ?_)
      exact z_iret dX5_man_52
    refine z_if (fun h1 => ?_) (fun h1 => ?_)
    · refine z_swIn (tg := 53) dX5_man_11 (by rw [h1]; decide) (by rw [h1]; decide) (by rw [h1]; rfl) (by decide) ?_
      refine z_aload_n dX5_man_53 rfl 0 rfl ?_
      refine z_getP z_X5 (j := 4) (by decide) rfl rfl wf_X5_19 dX5_man_54 (fun a5 => ?_)
      refine z_iload_n dX5_man_57 rfl 1 rfl ?_
      refine z_iald dX5_man_58 (fun x6 => ?_)
      exact z_iret dX5_man_59
    refine z_if (fun h2 => ?_) (fun h2 => ?_)
    · refine z_swIn (tg := 60) dX5_man_11 (by rw [h2]; decide) (by rw [h2]; decide) (by rw [h2]; rfl) (by decide) ?_
      refine z_aload_n dX5_man_60 rfl 0 rfl ?_
      refine z_getP z_X5 (j := 4) (by decide) rfl rfl wf_X5_19 dX5_man_61 (fun a7 => ?_)
      refine z_bipush (v := 8) dX5_man_64 k_bi8 ?_
      refine z_iload_n dX5_man_66 rfl 1 rfl ?_
      refine z_iadd dX5_man_67 ?_
      refine z_iald dX5_man_68 (fun x8 => ?_)
      exact z_iret dX5_man_69
    refine z_if (fun h3 => ?_) (fun h3 => ?_)
    · refine z_swIn (tg := 70) dX5_man_11 (by rw [h3]; decide) (by rw [h3]; decide) (by rw [h3]; rfl) (by decide) ?_
      refine z_aload_n dX5_man_70 rfl 0 rfl ?_
      refine z_getP z_X5 (j := 2) (by decide) rfl rfl wf_X5_13 dX5_man_71 (fun a9 => ?_)
      refine z_bipush (v := 27) dX5_man_74 k_bi27 ?_
      refine z_iload_n dX5_man_76 rfl 1 rfl ?_
      refine z_iadd dX5_man_77 ?_
      refine z_iald dX5_man_78 (fun x10 => ?_)
      exact z_iret dX5_man_79
    refine z_if (fun h4 => ?_) (fun h4 => ?_)
    · refine z_swIn (tg := 80) dX5_man_11 (by rw [h4]; decide) (by rw [h4]; decide) (by rw [h4]; rfl) (by decide) ?_
      refine z_aload_n dX5_man_80 rfl 0 rfl ?_
      refine z_iload_n dX5_man_81 rfl 1 rfl ?_
      refine z_cVi (As := [.int v1]) (rest := []) (c_X5_dueOf X v0 v1 m2) mw_X5_dueOf iw_X5_dueOf z_X5 wm_X5_90 rfl rfl (by decide) (Nat.le_of_ble_eq_true rfl) dX5_man_82 (fun x11 m12 => ?_)
      exact z_iret dX5_man_85
    refine z_swOut (tg := 86) dX5_man_11 (z_sw4 h0 h1 h2 h3 h4) (by decide) ?_
    refine z_iconst (v := (-1)) dX5_man_86 k_cm1 ?_
    exact z_iret dX5_man_87
  · refine z_iconst (v := (-1)) dX5_man_8 k_cm1 ?_
    exact z_iret dX5_man_9
set_option maxRecDepth 100000 in
set_option maxHeartbeats 4000000 in
theorem c_X5_man (X : z_X) (v0 : Nat) (v1 : Int32) (v2 : Int32) (m : z_M) : z_Ct X yX5_man cX5_man 3 (some .int) 2 [.ref (z_ad X v0), .int v1, .int v2] m (f_X5_man v0 v1 v2 m) := z_Ct.of (by decide) (Nat.le_of_ble_eq_true rfl) (s_X5_man X v0 v1 v2 m)
set_option maxRecDepth 100000 in
set_option maxHeartbeats 4000000 in
theorem s_X5_most_L94 (X : z_X) (h18 : Nat → Int32 → Int32 → Int32 → Int32 → z_M → z_R) (H18 : ∀ (w0 : Nat) (w1 : Int32) (w2 : Int32) (w3 : Int32) (w4 : Int32) (w : z_M), z_Sim X yX5_most cX5_most 7 (some .int) 1 18 [(0, .ref (z_ad X w0)), (1, .int w1), (2, .int w2), (3, .int w3), (4, .int w4)] [] w (h18 w0 w1 w2 w3 w4 w)) (v0 : Nat) (v1 : Int32) (v2 : Int32) (v4 : Int32) (s0 : Int32) (m : z_M) : z_Sim X yX5_most cX5_most 7 (some .int) 1 94 [(0, .ref (z_ad X v0)), (1, .int v1), (2, .int v2), (4, .int v4)] [.int s0] m (f_X5_most_L94 h18 v0 v1 v2 v4 s0 m) := by
  unfold f_X5_most_L94
  refine z_istore_n (lv' := [(3, .int s0), (0, .ref (z_ad X v0)), (1, .int v1), (2, .int v2), (4, .int v4)]) dX5_most_94 rfl (by decide) rfl ?_
  refine z_iinc (k := 4) (lv' := [(4, .int (v4 + 1)), (3, .int s0), (0, .ref (z_ad X v0)), (1, .int v1), (2, .int v2)]) dX5_most_95 rfl (k_i1 _) (by decide) rfl ?_
  refine z_goto (tg := 18) dX5_most_98 (by decide) ?_
  exact z_sub (lv' := [(0, .ref (z_ad X v0)), (1, .int v1), (2, .int v2), (3, .int s0), (4, .int (v4 + 1))]) [2, 3, 4, 1, 0] rfl (H18 v0 v1 v2 s0 (v4 + 1) m)
set_option maxRecDepth 100000 in
set_option maxHeartbeats 4000000 in
theorem s_X5_most_L81 (X : z_X) (h18 : Nat → Int32 → Int32 → Int32 → Int32 → z_M → z_R) (H18 : ∀ (w0 : Nat) (w1 : Int32) (w2 : Int32) (w3 : Int32) (w4 : Int32) (w : z_M), z_Sim X yX5_most cX5_most 7 (some .int) 1 18 [(0, .ref (z_ad X w0)), (1, .int w1), (2, .int w2), (3, .int w3), (4, .int w4)] [] w (h18 w0 w1 w2 w3 w4 w)) (v0 : Nat) (v1 : Int32) (v3 : Int32) (v4 : Int32) (v5 : Int32) (s0 : Int32) (m : z_M) : z_Sim X yX5_most cX5_most 7 (some .int) 1 81 [(0, .ref (z_ad X v0)), (1, .int v1), (3, .int v3), (4, .int v4), (5, .int v5)] [.int s0] m (f_X5_most_L81 h18 v0 v1 v3 v4 v5 s0 m) := by
  unfold f_X5_most_L81
  refine z_istore_n (lv' := [(2, .int s0), (0, .ref (z_ad X v0)), (1, .int v1), (3, .int v3), (4, .int v4), (5, .int v5)]) dX5_most_81 rfl (by decide) rfl ?_
  refine z_iload dX5_most_82 5 rfl ?_
  refine z_iload_n dX5_most_84 rfl 3 rfl ?_
  refine z_icmp_le (tg := 93) dX5_most_85 (by decide) ?_ ?_
  · refine z_iload_n dX5_most_93 rfl 3 rfl ?_
    exact z_sub (lv' := [(0, .ref (z_ad X v0)), (1, .int v1), (2, .int s0), (4, .int v4)]) [1, 2, 0, 4] rfl (s_X5_most_L94 X h18 H18 v0 v1 s0 v4 v3 m)
  · refine z_iload dX5_most_88 5 rfl ?_
    refine z_goto (tg := 94) dX5_most_90 (by decide) ?_
    exact z_sub (lv' := [(0, .ref (z_ad X v0)), (1, .int v1), (2, .int s0), (4, .int v4)]) [1, 2, 0, 4] rfl (s_X5_most_L94 X h18 H18 v0 v1 s0 v4 v5 m)
set_option maxRecDepth 100000 in
set_option maxHeartbeats 4000000 in
theorem s_X5_most_L60 (X : z_X) (h30 : Nat → Int32 → Int32 → Int32 → Int32 → Int32 → Int32 → z_M → z_R) (H30 : ∀ (w0 : Nat) (w1 : Int32) (w2 : Int32) (w3 : Int32) (w4 : Int32) (w5 : Int32) (w6 : Int32) (w : z_M), z_Sim X yX5_most cX5_most 7 (some .int) 1 30 [(0, .ref (z_ad X w0)), (1, .int w1), (2, .int w2), (3, .int w3), (4, .int w4), (5, .int w5), (6, .int w6)] [] w (h30 w0 w1 w2 w3 w4 w5 w6 w)) (v0 : Nat) (v1 : Int32) (v2 : Int32) (v3 : Int32) (v4 : Int32) (v6 : Int32) (s0 : Int32) (s1 : Int32) (m : z_M) : z_Sim X yX5_most cX5_most 7 (some .int) 1 60 [(0, .ref (z_ad X v0)), (1, .int v1), (2, .int v2), (3, .int v3), (4, .int v4), (6, .int v6)] [.int s0, .int s1] m (f_X5_most_L60 h30 v0 v1 v2 v3 v4 v6 s0 s1 m) := by
  unfold f_X5_most_L60
  refine z_iadd dX5_most_60 ?_
  refine z_nm (fun x1 => ?_)
  refine z_istore (lv' := [(5, .int x1), (0, .ref (z_ad X v0)), (1, .int v1), (2, .int v2), (3, .int v3), (4, .int v4), (6, .int v6)]) dX5_most_61 (by decide) rfl ?_
  refine z_iinc (k := 6) (lv' := [(6, .int (v6 + 1)), (5, .int x1), (0, .ref (z_ad X v0)), (1, .int v1), (2, .int v2), (3, .int v3), (4, .int v4)]) dX5_most_63 rfl (k_i1 _) (by decide) rfl ?_
  refine z_goto (tg := 30) dX5_most_66 (by decide) ?_
  exact z_sub (lv' := [(0, .ref (z_ad X v0)), (1, .int v1), (2, .int v2), (3, .int v3), (4, .int v4), (5, .int x1), (6, .int (v6 + 1))]) [2, 3, 4, 5, 6, 1, 0] rfl (H30 v0 v1 v2 v3 v4 x1 (v6 + 1) m)
set_option maxRecDepth 100000 in
set_option maxHeartbeats 4000000 in
theorem s_X5_most_L30 (X : z_X) (h18 : Nat → Int32 → Int32 → Int32 → Int32 → z_M → z_R) (H18 : ∀ (w0 : Nat) (w1 : Int32) (w2 : Int32) (w3 : Int32) (w4 : Int32) (w : z_M), z_Sim X yX5_most cX5_most 7 (some .int) 1 18 [(0, .ref (z_ad X w0)), (1, .int w1), (2, .int w2), (3, .int w3), (4, .int w4)] [] w (h18 w0 w1 w2 w3 w4 w)) : ∀ (n : Nat) (v0 : Nat) (v1 : Int32) (v2 : Int32) (v3 : Int32) (v4 : Int32) (v5 : Int32) (v6 : Int32) (m : z_M), z_Sim X yX5_most cX5_most 7 (some .int) 1 30 [(0, .ref (z_ad X v0)), (1, .int v1), (2, .int v2), (3, .int v3), (4, .int v4), (5, .int v5), (6, .int v6)] [] m (f_X5_most_L30 h18 n v0 v1 v2 v3 v4 v5 v6 m) := by
  intro n
  induction n with
  | zero => intros; exact z_none
  | succ n ih =>
      intro v0 v1 v2 v3 v4 v5 v6 m
      unfold f_X5_most_L30
      refine z_iload dX5_most_30 6 rfl ?_
      refine z_aload_n dX5_most_32 rfl 0 rfl ?_
      refine z_getP z_X5 (j := 2) (by decide) rfl rfl wf_X5_13 dX5_most_33 (fun a2 => ?_)
      refine z_iconst (v := 0) dX5_most_36 k_c0 ?_
      refine z_iald dX5_most_37 (fun x3 => ?_)
      refine z_icmp_ge (tg := 69) dX5_most_38 (by decide) ?_ ?_
      · refine z_iload dX5_most_69 5 rfl ?_
        refine z_iload_n dX5_most_71 rfl 3 rfl ?_
        refine z_icmp_le (tg := 80) dX5_most_72 (by decide) ?_ ?_
        · refine z_iload_n dX5_most_80 rfl 2 rfl ?_
          exact z_sub (lv' := [(0, .ref (z_ad X v0)), (1, .int v1), (3, .int v3), (4, .int v4), (5, .int v5)]) [0, 1, 3, 4, 5] rfl (s_X5_most_L81 X h18 H18 v0 v1 v3 v4 v5 v2 m)
        · refine z_iload dX5_most_75 4 rfl ?_
          refine z_goto (tg := 81) dX5_most_77 (by decide) ?_
          exact z_sub (lv' := [(0, .ref (z_ad X v0)), (1, .int v1), (3, .int v3), (4, .int v4), (5, .int v5)]) [0, 1, 3, 4, 5] rfl (s_X5_most_L81 X h18 H18 v0 v1 v3 v4 v5 v4 m)
      · refine z_iload dX5_most_41 5 rfl ?_
        refine z_aload_n dX5_most_43 rfl 0 rfl ?_
        refine z_getP z_X5 (j := 4) (by decide) rfl rfl wf_X5_19 dX5_most_44 (fun a4 => ?_)
        refine z_iload dX5_most_47 6 rfl ?_
        refine z_iald dX5_most_49 (fun x5 => ?_)
        refine z_iload dX5_most_50 4 rfl ?_
        refine z_icmp_ne (tg := 59) dX5_most_52 (by decide) ?_ ?_
        · refine z_iconst (v := 0) dX5_most_59 k_c0 ?_
          exact z_sub (lv' := [(0, .ref (z_ad X v0)), (1, .int v1), (2, .int v2), (3, .int v3), (4, .int v4), (6, .int v6)]) [0, 1, 2, 3, 4, 6] rfl (s_X5_most_L60 X (f_X5_most_L30 h18 n) ih v0 v1 v2 v3 v4 v6 0 v5 m)
        · refine z_iconst (v := 1) dX5_most_55 k_c1 ?_
          refine z_goto (tg := 60) dX5_most_56 (by decide) ?_
          exact z_sub (lv' := [(0, .ref (z_ad X v0)), (1, .int v1), (2, .int v2), (3, .int v3), (4, .int v4), (6, .int v6)]) [0, 1, 2, 3, 4, 6] rfl (s_X5_most_L60 X (f_X5_most_L30 h18 n) ih v0 v1 v2 v3 v4 v6 1 v5 m)
set_option maxRecDepth 100000 in
set_option maxHeartbeats 4000000 in
theorem s_X5_most_L18 (X : z_X) : ∀ (n : Nat) (v0 : Nat) (v1 : Int32) (v2 : Int32) (v3 : Int32) (v4 : Int32) (m : z_M), z_Sim X yX5_most cX5_most 7 (some .int) 1 18 [(0, .ref (z_ad X v0)), (1, .int v1), (2, .int v2), (3, .int v3), (4, .int v4)] [] m (f_X5_most_L18 n v0 v1 v2 v3 v4 m) := by
  intro n
  induction n with
  | zero => intros; exact z_none
  | succ n ih =>
      intro v0 v1 v2 v3 v4 m
      unfold f_X5_most_L18
      refine z_iload dX5_most_18 4 rfl ?_
      refine z_iconst (v := 4) dX5_most_20 k_c4 ?_
      refine z_icmp_ge (tg := 101) dX5_most_21 (by decide) ?_ ?_
      · refine z_iload_n dX5_most_101 rfl 1 rfl ?_
        refine z_if_ne (tg := 109) dX5_most_102 (by decide) ?_ ?_
        · refine z_iload_n dX5_most_109 rfl 3 rfl ?_
          exact z_iret dX5_most_110
        · refine z_iload_n dX5_most_105 rfl 2 rfl ?_
          refine z_goto (tg := 110) dX5_most_106 (by decide) ?_
          exact z_iret dX5_most_110
      · refine z_iconst (v := 0) dX5_most_24 k_c0 ?_
        refine z_istore (lv' := [(5, .int 0), (0, .ref (z_ad X v0)), (1, .int v1), (2, .int v2), (3, .int v3), (4, .int v4)]) dX5_most_25 (by decide) rfl ?_
        refine z_iconst (v := 0) dX5_most_27 k_c0 ?_
        refine z_istore (lv' := [(6, .int 0), (5, .int 0), (0, .ref (z_ad X v0)), (1, .int v1), (2, .int v2), (3, .int v3), (4, .int v4)]) dX5_most_28 (by decide) rfl ?_
        exact z_sub (lv' := [(0, .ref (z_ad X v0)), (1, .int v1), (2, .int v2), (3, .int v3), (4, .int v4), (5, .int 0), (6, .int 0)]) [2, 3, 4, 5, 6, 1, 0] rfl (s_X5_most_L30 X (f_X5_most_L18 n) ih 400 v0 v1 v2 v3 v4 0 0 m)
set_option maxRecDepth 100000 in
set_option maxHeartbeats 4000000 in
theorem s_X5_most (X : z_X) (v0 : Nat) (v1 : Int32) (m : z_M) : z_Sim X yX5_most cX5_most 7 (some .int) 1 0 [(0, .ref (z_ad X v0)), (1, .int v1)] [] m (f_X5_most v0 v1 m) := by
  unfold f_X5_most
  refine z_iload_n dX5_most_0 rfl 1 rfl ?_
  refine z_iconst (v := 0) dX5_most_1 k_c0 ?_
  refine z_iconst (v := 1) dX5_most_2 k_c1 ?_
  refine z_cSi (As := [.int v1, .int 0, .int 1]) (rest := []) (c_X5_in X v1 0 1 m) mw_X5_in iw_X5_in wm_X5_45 rfl rfl (by decide) (Nat.le_of_ble_eq_true rfl) dX5_most_3 (fun x6 m7 => ?_)
  refine z_if_ne (tg := 11) dX5_most_6 (by decide) ?_ ?_
  · refine z_iconst (v := 0) dX5_most_11 k_c0 ?_
    refine z_istore_n (lv' := [(2, .int 0), (0, .ref (z_ad X v0)), (1, .int v1)]) dX5_most_12 rfl (by decide) rfl ?_
    refine z_iconst (v := (-1)) dX5_most_13 k_cm1 ?_
    refine z_istore_n (lv' := [(3, .int (-1)), (2, .int 0), (0, .ref (z_ad X v0)), (1, .int v1)]) dX5_most_14 rfl (by decide) rfl ?_
    refine z_iconst (v := 0) dX5_most_15 k_c0 ?_
    refine z_istore (lv' := [(4, .int 0), (3, .int (-1)), (2, .int 0), (0, .ref (z_ad X v0)), (1, .int v1)]) dX5_most_16 (by decide) rfl ?_
    exact z_sub (lv' := [(0, .ref (z_ad X v0)), (1, .int v1), (2, .int 0), (3, .int (-1)), (4, .int 0)]) [3, 4, 2, 1, 0] rfl (s_X5_most_L18 X 400 v0 v1 0 (-1) 0 m7)
  · refine z_iconst (v := (-1)) dX5_most_9 k_cm1 ?_
    exact z_iret dX5_most_10
set_option maxRecDepth 100000 in
set_option maxHeartbeats 4000000 in
theorem c_X5_most (X : z_X) (v0 : Nat) (v1 : Int32) (m : z_M) : z_Ct X yX5_most cX5_most 7 (some .int) 1 [.ref (z_ad X v0), .int v1] m (f_X5_most v0 v1 m) := z_Ct.of (by decide) (Nat.le_of_ble_eq_true rfl) (s_X5_most X v0 v1 m)
set_option maxRecDepth 100000 in
set_option maxHeartbeats 4000000 in
theorem s_X5_rows_L115 (X : z_X) (h30 : Nat → Int32 → Int32 → Int32 → Int32 → z_M → z_R) (H30 : ∀ (w0 : Nat) (w1 : Int32) (w2 : Int32) (w3 : Int32) (w4 : Int32) (w : z_M), z_Sim X yX5_rows cX5_rows 7 (some .int) 5 30 [(0, .ref (z_ad X w0)), (1, .int w1), (2, .int w2), (3, .int w3), (4, .int w4)] [] w (h30 w0 w1 w2 w3 w4 w)) (v0 : Nat) (v1 : Int32) (v3 : Int32) (v4 : Int32) (s0 : Int32) (s1 : Int32) (m : z_M) : z_Sim X yX5_rows cX5_rows 7 (some .int) 5 115 [(0, .ref (z_ad X v0)), (1, .int v1), (3, .int v3), (4, .int v4)] [.int s0, .int s1] m (f_X5_rows_L115 h30 v0 v1 v3 v4 s0 s1 m) := by
  unfold f_X5_rows_L115
  refine z_iadd dX5_rows_115 ?_
  refine z_nm (fun x1 => ?_)
  refine z_istore_n (lv' := [(2, .int x1), (0, .ref (z_ad X v0)), (1, .int v1), (3, .int v3), (4, .int v4)]) dX5_rows_116 rfl (by decide) rfl ?_
  refine z_aload_n dX5_rows_117 rfl 1 rfl ?_
  refine z_cVv (As := []) (rest := []) (c_X5_lets X v0 m) mw_X5_lets iw_X5_lets z_X5 wm_X5_162 rfl rfl (by decide) (Nat.le_of_ble_eq_true rfl) dX5_rows_118 (fun _ m2 => ?_)
  refine z_iinc (k := 4) (lv' := [(4, .int (v4 + 1)), (2, .int x1), (0, .ref (z_ad X v0)), (1, .int v1), (3, .int v3)]) dX5_rows_121 rfl (k_i1 _) (by decide) rfl ?_
  refine z_goto (tg := 30) dX5_rows_124 (by decide) ?_
  exact z_sub (lv' := [(0, .ref (z_ad X v0)), (1, .int v1), (2, .int x1), (3, .int v3), (4, .int (v4 + 1))]) [2, 3, 1, 4, 0] rfl (H30 v0 v1 x1 v3 (v4 + 1) m2)
set_option maxRecDepth 100000 in
set_option maxHeartbeats 4000000 in
theorem s_X5_rows_L101 (X : z_X) (h30 : Nat → Int32 → Int32 → Int32 → Int32 → z_M → z_R) (H30 : ∀ (w0 : Nat) (w1 : Int32) (w2 : Int32) (w3 : Int32) (w4 : Int32) (w : z_M), z_Sim X yX5_rows cX5_rows 7 (some .int) 5 30 [(0, .ref (z_ad X w0)), (1, .int w1), (2, .int w2), (3, .int w3), (4, .int w4)] [] w (h30 w0 w1 w2 w3 w4 w)) (v0 : Nat) (v1 : Int32) (v2 : Int32) (v3 : Int32) (v4 : Int32) (v6 : Int32) (s0 : Int32) (s1 : Nat) (m : z_M) : z_Sim X yX5_rows cX5_rows 7 (some .int) 5 101 [(0, .ref (z_ad X v0)), (1, .int v1), (2, .int v2), (3, .int v3), (4, .int v4), (6, .int v6)] [.int s0, .ref (z_ad X s1)] m (f_X5_rows_L101 h30 v0 v1 v2 v3 v4 v6 s0 s1 m) := by
  unfold f_X5_rows_L101
  refine z_setI z_X5 (by decide) rfl rfl wf_X5_159 dX5_rows_101 ?_
  generalize z_wI m s1 13 s0 = m3
  refine z_iload_n dX5_rows_104 rfl 2 rfl ?_
  refine z_iload dX5_rows_105 5 rfl ?_
  refine z_if_eq (tg := 114) dX5_rows_107 (by decide) ?_ ?_
  · refine z_iconst (v := 0) dX5_rows_114 k_c0 ?_
    exact z_sub (lv' := [(0, .ref (z_ad X v0)), (1, .int v1), (3, .int v3), (4, .int v4)]) [0, 1, 3, 4] rfl (s_X5_rows_L115 X h30 H30 v0 v1 v3 v4 0 v2 m3)
  · refine z_iconst (v := 1) dX5_rows_110 k_c1 ?_
    refine z_goto (tg := 115) dX5_rows_111 (by decide) ?_
    exact z_sub (lv' := [(0, .ref (z_ad X v0)), (1, .int v1), (3, .int v3), (4, .int v4)]) [0, 1, 3, 4] rfl (s_X5_rows_L115 X h30 H30 v0 v1 v3 v4 1 v2 m3)
set_option maxRecDepth 100000 in
set_option maxHeartbeats 4000000 in
theorem s_X5_rows_L97 (X : z_X) (h30 : Nat → Int32 → Int32 → Int32 → Int32 → z_M → z_R) (H30 : ∀ (w0 : Nat) (w1 : Int32) (w2 : Int32) (w3 : Int32) (w4 : Int32) (w : z_M), z_Sim X yX5_rows cX5_rows 7 (some .int) 5 30 [(0, .ref (z_ad X w0)), (1, .int w1), (2, .int w2), (3, .int w3), (4, .int w4)] [] w (h30 w0 w1 w2 w3 w4 w)) (v0 : Nat) (v1 : Int32) (v2 : Int32) (v3 : Int32) (v4 : Int32) (v6 : Int32) (s0 : Nat) (m : z_M) : z_Sim X yX5_rows cX5_rows 7 (some .int) 5 97 [(0, .ref (z_ad X v0)), (1, .int v1), (2, .int v2), (3, .int v3), (4, .int v4), (6, .int v6)] [.ref (z_ad X s0)] m (f_X5_rows_L97 h30 v0 v1 v2 v3 v4 v6 s0 m) := by
  unfold f_X5_rows_L97
  refine z_aload_n dX5_rows_97 rfl 0 rfl ?_
  refine z_getI z_X5 (j := 13) (by decide) rfl rfl wf_X5_159 dX5_rows_98 (fun x4 => ?_)
  exact z_sub (lv' := [(0, .ref (z_ad X v0)), (1, .int v1), (2, .int v2), (3, .int v3), (4, .int v4), (6, .int v6)]) [0, 1, 2, 3, 4, 5] rfl (s_X5_rows_L101 X h30 H30 v0 v1 v2 v3 v4 v6 x4 s0 m)
set_option maxRecDepth 100000 in
set_option maxHeartbeats 4000000 in
theorem s_X5_rows_L42 (X : z_X) (h30 : Nat → Int32 → Int32 → Int32 → Int32 → z_M → z_R) (H30 : ∀ (w0 : Nat) (w1 : Int32) (w2 : Int32) (w3 : Int32) (w4 : Int32) (w : z_M), z_Sim X yX5_rows cX5_rows 7 (some .int) 5 30 [(0, .ref (z_ad X w0)), (1, .int w1), (2, .int w2), (3, .int w3), (4, .int w4)] [] w (h30 w0 w1 w2 w3 w4 w)) : ∀ (n : Nat) (v0 : Nat) (v1 : Int32) (v2 : Int32) (v3 : Int32) (v4 : Int32) (v5 : Int32) (v6 : Int32) (m : z_M), z_Sim X yX5_rows cX5_rows 7 (some .int) 5 42 [(0, .ref (z_ad X v0)), (1, .int v1), (2, .int v2), (3, .int v3), (4, .int v4), (5, .int v5), (6, .int v6)] [] m (f_X5_rows_L42 h30 n v0 v1 v2 v3 v4 v5 v6 m) := by
  intro n
  induction n with
  | zero => intros; exact z_none
  | succ n ih =>
      intro v0 v1 v2 v3 v4 v5 v6 m
      unfold f_X5_rows_L42
      refine z_iload dX5_rows_42 6 rfl ?_
      refine z_iload_n dX5_rows_44 rfl 1 rfl ?_
      refine z_icmp_ge (tg := 76) dX5_rows_45 (by decide) ?_ ?_
      · refine z_aload_n dX5_rows_76 rfl 0 rfl ?_
        refine z_cVi (As := []) (rest := []) (c_X5_isOneWay X v0 m) mw_X5_isOneWay iw_X5_isOneWay z_X5 wm_X5_156 rfl rfl (by decide) (Nat.le_of_ble_eq_true rfl) dX5_rows_77 (fun x5 m6 => ?_)
        refine z_istore (lv' := [(6, .int x5), (0, .ref (z_ad X v0)), (1, .int v1), (2, .int v2), (3, .int v3), (4, .int v4), (5, .int v5)]) dX5_rows_80 (by decide) rfl ?_
        refine z_aload_n dX5_rows_82 rfl 1 rfl ?_
        refine z_iload dX5_rows_83 0 rfl ?_
        refine z_if_eq (tg := 97) dX5_rows_85 (by decide) ?_ ?_
        · exact z_sub (lv' := [(0, .ref (z_ad X v0)), (1, .int v1), (2, .int v2), (3, .int v3), (4, .int v4), (6, .int x5)]) [1, 2, 3, 4, 5, 0] rfl (s_X5_rows_L97 X h30 H30 v0 v1 v2 v3 v4 x5 v0 m6)
        · refine z_iload_n dX5_rows_88 rfl 3 rfl ?_
          refine z_if_ne (tg := 97) dX5_rows_89 (by decide) ?_ ?_
          · exact z_sub (lv' := [(0, .ref (z_ad X v0)), (1, .int v1), (2, .int v2), (3, .int v3), (4, .int v4), (6, .int x5)]) [1, 2, 3, 4, 5, 0] rfl (s_X5_rows_L97 X h30 H30 v0 v1 v2 v3 v4 x5 v0 m6)
          · refine z_iload dX5_rows_92 5 rfl ?_
            refine z_goto (tg := 101) dX5_rows_94 (by decide) ?_
            exact z_sub (lv' := [(0, .ref (z_ad X v0)), (1, .int v1), (2, .int v2), (3, .int v3), (4, .int v4), (6, .int x5)]) [1, 2, 3, 4, 5, 0] rfl (s_X5_rows_L101 X h30 H30 v0 v1 v2 v3 v4 x5 v4 v0 m6)
      · refine z_iload dX5_rows_48 5 rfl ?_
        refine z_iconst (v := 3) dX5_rows_50 k_c3 ?_
        refine z_idiv dX5_rows_51 (by decide) ?_
        refine z_nm (fun x7 => ?_)
        refine z_istore (lv' := [(5, .int x7), (0, .ref (z_ad X v0)), (1, .int v1), (2, .int v2), (3, .int v3), (4, .int v4), (6, .int v6)]) dX5_rows_52 (by decide) rfl ?_
        refine z_aload_n dX5_rows_54 rfl 1 rfl ?_
        refine z_iload dX5_rows_55 5 rfl ?_
        refine z_iload dX5_rows_57 0 rfl ?_
        refine z_idivG dX5_rows_59 (fun x8 => ?_)
        refine z_iconst (v := 3) dX5_rows_60 k_c3 ?_
        refine z_irem dX5_rows_61 (by decide) ?_
        refine z_aload_n dX5_rows_62 rfl 1 rfl ?_
        refine z_iconst (v := 1) dX5_rows_63 k_c1 ?_
        refine z_cVi (As := [.int 1]) (rest := [.int (z_mI x8 3), .ref (z_ad X v0)]) (c_X5_errors X v0 1 m) mw_X5_errors iw_X5_errors z_X5 wm_X5_136 rfl rfl (by decide) (Nat.le_of_ble_eq_true rfl) dX5_rows_64 (fun x9 m10 => ?_)
        refine z_cVv (As := [.int (z_mI x8 3), .int x9]) (rest := []) (c_X5_says X v0 (z_mI x8 3) x9 m10) mw_X5_says iw_X5_says z_X5 wm_X5_140 rfl rfl (by decide) (Nat.le_of_ble_eq_true rfl) dX5_rows_67 (fun _ m11 => ?_)
        refine z_iinc (k := 6) (lv' := [(6, .int (v6 + 1)), (5, .int x7), (0, .ref (z_ad X v0)), (1, .int v1), (2, .int v2), (3, .int v3), (4, .int v4)]) dX5_rows_70 rfl (k_i1 _) (by decide) rfl ?_
        refine z_goto (tg := 42) dX5_rows_73 (by decide) ?_
        exact z_sub (lv' := [(0, .ref (z_ad X v0)), (1, .int v1), (2, .int v2), (3, .int v3), (4, .int v4), (5, .int x7), (6, .int (v6 + 1))]) [2, 3, 4, 5, 6, 1, 0] rfl (ih v0 v1 v2 v3 v4 x7 (v6 + 1) m11)
set_option maxRecDepth 100000 in
set_option maxHeartbeats 4000000 in
theorem s_X5_rows_L30 (X : z_X) : ∀ (n : Nat) (v0 : Nat) (v1 : Int32) (v2 : Int32) (v3 : Int32) (v4 : Int32) (m : z_M), z_Sim X yX5_rows cX5_rows 7 (some .int) 5 30 [(0, .ref (z_ad X v0)), (1, .int v1), (2, .int v2), (3, .int v3), (4, .int v4)] [] m (f_X5_rows_L30 n v0 v1 v2 v3 v4 m) := by
  intro n
  induction n with
  | zero => intros; exact z_none
  | succ n ih =>
      intro v0 v1 v2 v3 v4 m
      unfold f_X5_rows_L30
      refine z_iload dX5_rows_30 4 rfl ?_
      refine z_iload_n dX5_rows_32 rfl 3 rfl ?_
      refine z_icmp_ge (tg := 127) dX5_rows_33 (by decide) ?_ ?_
      · refine z_iload_n dX5_rows_127 rfl 2 rfl ?_
        exact z_iret dX5_rows_128
      · refine z_iload_n dX5_rows_36 rfl 3 rfl ?_
        refine z_istore (lv' := [(5, .int v3), (0, .ref (z_ad X v0)), (1, .int v1), (2, .int v2), (3, .int v3), (4, .int v4)]) dX5_rows_37 (by decide) rfl ?_
        refine z_iconst (v := 0) dX5_rows_39 k_c0 ?_
        refine z_istore (lv' := [(6, .int 0), (5, .int v3), (0, .ref (z_ad X v0)), (1, .int v1), (2, .int v2), (3, .int v3), (4, .int v4)]) dX5_rows_40 (by decide) rfl ?_
        exact z_sub (lv' := [(0, .ref (z_ad X v0)), (1, .int v1), (2, .int v2), (3, .int v3), (4, .int v4), (5, .int v3), (6, .int 0)]) [2, 3, 4, 5, 6, 1, 0] rfl (s_X5_rows_L42 X (f_X5_rows_L30 n) ih 400 v0 v1 v2 v3 v4 v3 0 m)
set_option maxRecDepth 100000 in
set_option maxHeartbeats 4000000 in
theorem s_X5_rows_L11 (X : z_X) : ∀ (n : Nat) (v0 : Nat) (v1 : Int32) (v2 : Int32) (v3 : Int32) (v4 : Int32) (m : z_M), z_Sim X yX5_rows cX5_rows 7 (some .int) 5 11 [(0, .ref (z_ad X v0)), (1, .int v1), (2, .int v2), (3, .int v3), (4, .int v4)] [] m (f_X5_rows_L11 n v0 v1 v2 v3 v4 m) := by
  intro n
  induction n with
  | zero => intros; exact z_none
  | succ n ih =>
      intro v0 v1 v2 v3 v4 m
      unfold f_X5_rows_L11
      refine z_iload dX5_rows_11 4 rfl ?_
      refine z_iload_n dX5_rows_13 rfl 1 rfl ?_
      refine z_icmp_ge (tg := 27) dX5_rows_14 (by decide) ?_ ?_
      · refine z_iconst (v := 0) dX5_rows_27 k_c0 ?_
        refine z_istore (lv' := [(4, .int 0), (0, .ref (z_ad X v0)), (1, .int v1), (2, .int v2), (3, .int v3)]) dX5_rows_28 (by decide) rfl ?_
        exact z_sub (lv' := [(0, .ref (z_ad X v0)), (1, .int v1), (2, .int v2), (3, .int v3), (4, .int 0)]) [1, 2, 3, 4, 0] rfl (s_X5_rows_L30 X 400 v0 v1 v2 v3 0 m)
      · refine z_iload_n dX5_rows_17 rfl 3 rfl ?_
        refine z_iconst (v := 3) dX5_rows_18 k_c3 ?_
        refine z_imul dX5_rows_19 ?_
        refine z_nm (fun x12 => ?_)
        refine z_istore_n (lv' := [(3, .int x12), (0, .ref (z_ad X v0)), (1, .int v1), (2, .int v2), (4, .int v4)]) dX5_rows_20 rfl (by decide) rfl ?_
        refine z_iinc (k := 4) (lv' := [(4, .int (v4 + 1)), (3, .int x12), (0, .ref (z_ad X v0)), (1, .int v1), (2, .int v2)]) dX5_rows_21 rfl (k_i1 _) (by decide) rfl ?_
        refine z_goto (tg := 11) dX5_rows_24 (by decide) ?_
        exact z_sub (lv' := [(0, .ref (z_ad X v0)), (1, .int v1), (2, .int v2), (3, .int x12), (4, .int (v4 + 1))]) [2, 3, 4, 1, 0] rfl (ih v0 v1 v2 x12 (v4 + 1) m)
set_option maxRecDepth 100000 in
set_option maxHeartbeats 4000000 in
theorem s_X5_rows (X : z_X) (v0 : Nat) (v1 : Int32) (m : z_M) : z_Sim X yX5_rows cX5_rows 7 (some .int) 5 0 [(0, .ref (z_ad X v0)), (1, .int v1)] [] m (f_X5_rows v0 v1 m) := by
  unfold f_X5_rows
  refine z_aload_n dX5_rows_0 rfl 0 rfl ?_
  refine z_cVv (As := []) (rest := []) (c_X5_holds X v0 m) mw_X5_holds iw_X5_holds z_X5 wm_X5_153 rfl rfl (by decide) (Nat.le_of_ble_eq_true rfl) dX5_rows_1 (fun _ m13 => ?_)
  refine z_iconst (v := 0) dX5_rows_4 k_c0 ?_
  refine z_istore_n (lv' := [(2, .int 0), (0, .ref (z_ad X v0)), (1, .int v1)]) dX5_rows_5 rfl (by decide) rfl ?_
  refine z_iconst (v := 1) dX5_rows_6 k_c1 ?_
  refine z_istore_n (lv' := [(3, .int 1), (2, .int 0), (0, .ref (z_ad X v0)), (1, .int v1)]) dX5_rows_7 rfl (by decide) rfl ?_
  refine z_iconst (v := 0) dX5_rows_8 k_c0 ?_
  refine z_istore (lv' := [(4, .int 0), (3, .int 1), (2, .int 0), (0, .ref (z_ad X v0)), (1, .int v1)]) dX5_rows_9 (by decide) rfl ?_
  exact z_sub (lv' := [(0, .ref (z_ad X v0)), (1, .int v1), (2, .int 0), (3, .int 1), (4, .int 0)]) [3, 4, 2, 1, 0] rfl (s_X5_rows_L11 X 400 v0 v1 0 1 0 m13)
set_option maxRecDepth 100000 in
set_option maxHeartbeats 4000000 in
theorem c_X5_rows (X : z_X) (v0 : Nat) (v1 : Int32) (m : z_M) : z_Ct X yX5_rows cX5_rows 7 (some .int) 5 [.ref (z_ad X v0), .int v1] m (f_X5_rows v0 v1 m) := z_Ct.of (by decide) (Nat.le_of_ble_eq_true rfl) (s_X5_rows X v0 v1 m)
set_option maxRecDepth 100000 in
set_option maxHeartbeats 4000000 in
theorem s_X5_numbers (X : z_X) (v0 : Nat) (v1 : Int32) (m : z_M) : z_Sim X yX5_numbers cX5_numbers 2 (some .int) 6 0 [(0, .ref (z_ad X v0)), (1, .int v1)] [] m (f_X5_numbers v0 v1 m) := by
  unfold f_X5_numbers
  refine z_iload_n dX5_numbers_0 rfl 1 rfl ?_
  refine z_iconst (v := 1) dX5_numbers_1 k_c1 ?_
  refine z_iconst (v := 5) dX5_numbers_2 k_c5 ?_
  refine z_cSi (As := [.int v1, .int 1, .int 5]) (rest := []) (c_X5_in X v1 1 5 m) mw_X5_in iw_X5_in wm_X5_45 rfl rfl (by decide) (Nat.le_of_ble_eq_true rfl) dX5_numbers_3 (fun x1 m2 => ?_)
  refine z_if_eq (tg := 17) dX5_numbers_6 (by decide) ?_ ?_
  · refine z_iconst (v := (-1)) dX5_numbers_17 k_cm1 ?_
    exact z_iret dX5_numbers_18
  · refine z_aload_n dX5_numbers_9 rfl 0 rfl ?_
    refine z_iload_n dX5_numbers_10 rfl 1 rfl ?_
    refine z_cVi (As := [.int v1]) (rest := []) (c_X5_rows X v0 v1 m2) mw_X5_rows iw_X5_rows z_X5 wm_X5_165 rfl rfl (by decide) (Nat.le_of_ble_eq_true rfl) dX5_numbers_11 (fun x3 m4 => ?_)
    refine z_goto (tg := 18) dX5_numbers_14 (by decide) ?_
    exact z_iret dX5_numbers_18
set_option maxRecDepth 100000 in
set_option maxHeartbeats 4000000 in
theorem c_X5_numbers (X : z_X) (v0 : Nat) (v1 : Int32) (m : z_M) : z_Ct X yX5_numbers cX5_numbers 2 (some .int) 6 [.ref (z_ad X v0), .int v1] m (f_X5_numbers v0 v1 m) := z_Ct.of (by decide) (Nat.le_of_ble_eq_true rfl) (s_X5_numbers X v0 v1 m)
set_option maxRecDepth 100000 in
set_option maxHeartbeats 4000000 in
theorem s_X5_plan_L36 (X : z_X) : ∀ (n : Nat) (v1 : Int32) (v2 : Int32) (v3 : Int32) (v4 : Int32) (m : z_M), z_Sim X yX5_plan cX5_plan 5 (some .int) 6 36 [(1, .int v1), (2, .int v2), (3, .int v3), (4, .int v4)] [] m (f_X5_plan_L36 n v1 v2 v3 v4 m) := by
  intro n
  induction n with
  | zero => intros; exact z_none
  | succ n ih =>
      intro v1 v2 v3 v4 m
      unfold f_X5_plan_L36
      refine z_iload dX5_plan_36 3 rfl ?_
      refine z_iload_n dX5_plan_38 rfl 0 rfl ?_
      refine z_icmp_le (tg := 52) dX5_plan_39 (by decide) ?_ ?_
      · refine z_iload_n dX5_plan_52 rfl 0 rfl ?_
        refine z_iconst (v := (-1)) dX5_plan_53 k_cm1 ?_
        refine z_icmp_ne (tg := 61) dX5_plan_54 (by decide) ?_ ?_
        · refine z_iload_n dX5_plan_61 rfl 0 rfl ?_
          refine z_iload_n dX5_plan_62 rfl 1 rfl ?_
          refine z_icmp_ge (tg := 72) dX5_plan_63 (by decide) ?_ ?_
          · refine z_bipush (v := (-4)) dX5_plan_72 k_bim4 ?_
            exact z_iret dX5_plan_74
          · refine z_iload_n dX5_plan_66 rfl 2 rfl ?_
            refine z_iconst (v := 3) dX5_plan_67 k_c3 ?_
            refine z_irem dX5_plan_68 (by decide) ?_
            refine z_goto (tg := 74) dX5_plan_69 (by decide) ?_
            exact z_iret dX5_plan_74
        · refine z_iload_n dX5_plan_57 rfl 1 rfl ?_
          refine z_goto (tg := 74) dX5_plan_58 (by decide) ?_
          exact z_iret dX5_plan_74
      · refine z_iload_n dX5_plan_42 rfl 2 rfl ?_
        refine z_iconst (v := 3) dX5_plan_43 k_c3 ?_
        refine z_idiv dX5_plan_44 (by decide) ?_
        refine z_nm (fun x1 => ?_)
        refine z_istore_n (lv' := [(3, .int x1), (1, .int v1), (2, .int v2), (4, .int v4)]) dX5_plan_45 rfl (by decide) rfl ?_
        refine z_iinc (k := 3) (lv' := [(4, .int (v4 + (-1))), (3, .int x1), (1, .int v1), (2, .int v2)]) dX5_plan_46 rfl (k_im1 _) (by decide) rfl ?_
        refine z_goto (tg := 36) dX5_plan_49 (by decide) ?_
        exact z_sub (lv' := [(1, .int v1), (2, .int v2), (3, .int x1), (4, .int (v4 + (-1)))]) [2, 3, 1, 0] rfl (ih v1 v2 x1 (v4 + (-1)) m)
set_option maxRecDepth 100000 in
set_option maxHeartbeats 4000000 in
theorem s_X5_plan_L13 (X : z_X) : ∀ (n : Nat) (v0 : Nat) (v1 : Int32) (v2 : Int32) (m : z_M), z_Sim X yX5_plan cX5_plan 5 (some .int) 6 13 [(0, .ref (z_ad X v0)), (1, .int v1), (2, .int v2)] [] m (f_X5_plan_L13 n v0 v1 v2 m) := by
  intro n
  induction n with
  | zero => intros; exact z_none
  | succ n ih =>
      intro v0 v1 v2 m
      unfold f_X5_plan_L13
      refine z_iload_n dX5_plan_13 rfl 2 rfl ?_
      refine z_iconst (v := 5) dX5_plan_14 k_c5 ?_
      refine z_icmp_gt (tg := 81) dX5_plan_15 (by decide) ?_ ?_
      · refine z_bipush (v := (-4)) dX5_plan_81 k_bim4 ?_
        exact z_iret dX5_plan_83
      · refine z_aload_n dX5_plan_18 rfl 0 rfl ?_
        refine z_iload_n dX5_plan_19 rfl 2 rfl ?_
        refine z_cVi (As := [.int v2]) (rest := []) (c_X5_rows X v0 v2 m) mw_X5_rows iw_X5_rows z_X5 wm_X5_165 rfl rfl (by decide) (Nat.le_of_ble_eq_true rfl) dX5_plan_20 (fun x2 m3 => ?_)
        refine z_if_le (tg := 75) dX5_plan_23 (by decide) ?_ ?_
        · refine z_iinc (k := 2) (lv' := [(2, .int (v2 + 1)), (0, .ref (z_ad X v0)), (1, .int v1)]) dX5_plan_75 rfl (k_i1 _) (by decide) rfl ?_
          refine z_goto (tg := 13) dX5_plan_78 (by decide) ?_
          exact z_sub (lv' := [(0, .ref (z_ad X v0)), (1, .int v1), (2, .int (v2 + 1))]) [1, 2, 0] rfl (ih v0 v1 (v2 + 1) m3)
        · refine z_aload_n dX5_plan_26 rfl 0 rfl ?_
          refine z_getI z_X5 (j := 13) (by decide) rfl rfl wf_X5_159 dX5_plan_27 (fun x4 => ?_)
          refine z_istore_n (lv' := [(3, .int x4), (0, .ref (z_ad X v0)), (1, .int v1), (2, .int v2)]) dX5_plan_30 rfl (by decide) rfl ?_
          refine z_iload_n dX5_plan_31 rfl 3 rfl ?_
          refine z_iconst (v := 1) dX5_plan_32 k_c1 ?_
          refine z_isub dX5_plan_33 ?_
          refine z_nm (fun x5 => ?_)
          refine z_istore (lv' := [(4, .int x5), (3, .int x4), (0, .ref (z_ad X v0)), (1, .int v1), (2, .int v2)]) dX5_plan_34 (by decide) rfl ?_
          exact z_sub (lv' := [(1, .int v1), (2, .int v2), (3, .int x4), (4, .int x5)]) [3, 4, 1, 0] rfl (s_X5_plan_L36 X 400 v1 v2 x4 x5 m3)
set_option maxRecDepth 100000 in
set_option maxHeartbeats 4000000 in
theorem s_X5_plan (X : z_X) (v0 : Nat) (v1 : Int32) (m : z_M) : z_Sim X yX5_plan cX5_plan 5 (some .int) 6 0 [(0, .ref (z_ad X v0)), (1, .int v1)] [] m (f_X5_plan v0 v1 m) := by
  unfold f_X5_plan
  refine z_iload_n dX5_plan_0 rfl 1 rfl ?_
  refine z_iconst (v := (-1)) dX5_plan_1 k_cm1 ?_
  refine z_iconst (v := 4) dX5_plan_2 k_c4 ?_
  refine z_cSi (As := [.int v1, .int (-1), .int 4]) (rest := []) (c_X5_in X v1 (-1) 4 m) mw_X5_in iw_X5_in wm_X5_45 rfl rfl (by decide) (Nat.le_of_ble_eq_true rfl) dX5_plan_3 (fun x6 m7 => ?_)
  refine z_if_ne (tg := 11) dX5_plan_6 (by decide) ?_ ?_
  · refine z_iconst (v := 0) dX5_plan_11 k_c0 ?_
    refine z_istore_n (lv' := [(2, .int 0), (0, .ref (z_ad X v0)), (1, .int v1)]) dX5_plan_12 rfl (by decide) rfl ?_
    exact z_sub (lv' := [(0, .ref (z_ad X v0)), (1, .int v1), (2, .int 0)]) [1, 2, 0] rfl (s_X5_plan_L13 X 400 v0 v1 0 m7)
  · refine z_iconst (v := (-1)) dX5_plan_9 k_cm1 ?_
    exact z_iret dX5_plan_10
set_option maxRecDepth 100000 in
set_option maxHeartbeats 4000000 in
theorem c_X5_plan (X : z_X) (v0 : Nat) (v1 : Int32) (m : z_M) : z_Ct X yX5_plan cX5_plan 5 (some .int) 6 [.ref (z_ad X v0), .int v1] m (f_X5_plan v0 v1 m) := z_Ct.of (by decide) (Nat.le_of_ble_eq_true rfl) (s_X5_plan X v0 v1 m)
set_option maxRecDepth 100000 in
set_option maxHeartbeats 4000000 in
theorem s_X5_right_L135 (X : z_X) (v3 : Int32) (s0 : Int32) (s1 : Int32) (m : z_M) : z_Sim X yX5_right cX5_right 9 (some .int) 4 135 [(3, .int v3)] [.int s0, .int s1] m (f_X5_right_L135 v3 s0 s1 m) := by
  unfold f_X5_right_L135
  refine z_iadd dX5_right_135 ?_
  refine z_nm (fun x1 => ?_)
  refine z_istore (lv' := [(7, .int x1), (3, .int v3)]) dX5_right_136 (by decide) rfl ?_
  refine z_iload dX5_right_138 0 rfl ?_
  refine z_bipush (v := 10) dX5_right_140 k_bi10 ?_
  refine z_cSi (As := [.int x1, .int 10]) (rest := []) (c_X5_common X x1 10 m) mw_X5_common iw_X5_common wm_X5_171 rfl rfl (by decide) (Nat.le_of_ble_eq_true rfl) dX5_right_142 (fun x2 m3 => ?_)
  refine z_istore (lv' := [(8, .int x2), (7, .int x1), (3, .int v3)]) dX5_right_145 (by decide) rfl ?_
  refine z_iload_n dX5_right_147 rfl 2 rfl ?_
  refine z_if_ne (tg := 159) dX5_right_148 (by decide) ?_ ?_
  · refine z_bipush (v := 10) dX5_right_159 k_bi10 ?_
    refine z_iload dX5_right_161 0 rfl ?_
    refine z_idivG dX5_right_163 (fun x4 => ?_)
    exact z_iret dX5_right_164
  · refine z_iload dX5_right_151 1 rfl ?_
    refine z_iload dX5_right_153 0 rfl ?_
    refine z_idivG dX5_right_155 (fun x5 => ?_)
    refine z_goto (tg := 164) dX5_right_156 (by decide) ?_
    exact z_iret dX5_right_164
set_option maxRecDepth 100000 in
set_option maxHeartbeats 4000000 in
theorem s_X5_right_L102 (X : z_X) (v0 : Nat) (v1 : Int32) (v2 : Int32) (v3 : Int32) (v5 : Int32) (v6 : Int32) (s0 : Int32) (m : z_M) : z_Sim X yX5_right cX5_right 9 (some .int) 4 102 [(0, .ref (z_ad X v0)), (1, .int v1), (2, .int v2), (3, .int v3), (5, .int v5), (6, .int v6)] [.int s0] m (f_X5_right_L102 v0 v1 v2 v3 v5 v6 s0 m) := by
  unfold f_X5_right_L102
  refine z_istore (lv' := [(7, .int s0), (0, .ref (z_ad X v0)), (1, .int v1), (2, .int v2), (3, .int v3), (5, .int v5), (6, .int v6)]) dX5_right_102 (by decide) rfl ?_
  refine z_iload dX5_right_104 0 rfl ?_
  refine z_aload_n dX5_right_106 rfl 1 rfl ?_
  refine z_getP z_X5 (j := 4) (by decide) rfl rfl wf_X5_19 dX5_right_107 (fun a6 => ?_)
  refine z_iload_n dX5_right_110 rfl 2 rfl ?_
  refine z_iald dX5_right_111 (fun x7 => ?_)
  refine z_aload_n dX5_right_112 rfl 1 rfl ?_
  refine z_iload_n dX5_right_113 rfl 2 rfl ?_
  refine z_iload_n dX5_right_114 rfl 3 rfl ?_
  refine z_sipush (v := 255) dX5_right_115 k_si255 ?_
  refine z_cVi (As := [.int v1, .int v2, .int 255]) (rest := [.int x7, .int s0]) (c_X5_turnBy X v0 v1 v2 255 m) mw_X5_turnBy iw_X5_turnBy z_X5 wm_X5_126 rfl rfl (by decide) (Nat.le_of_ble_eq_true rfl) dX5_right_118 (fun x8 m9 => ?_)
  refine z_iadd dX5_right_121 ?_
  refine z_iconst (v := 4) dX5_right_122 k_c4 ?_
  refine z_irem dX5_right_123 (by decide) ?_
  refine z_iload dX5_right_124 5 rfl ?_
  refine z_icmp_ne (tg := 134) dX5_right_126 (by decide) ?_ ?_
  · refine z_iconst (v := 0) dX5_right_134 k_c0 ?_
    exact z_sub (lv' := [(3, .int v3)]) [4] rfl (s_X5_right_L135 X v3 0 s0 m9)
  · refine z_iload dX5_right_129 6 rfl ?_
    refine z_goto (tg := 135) dX5_right_131 (by decide) ?_
    exact z_sub (lv' := [(3, .int v3)]) [4] rfl (s_X5_right_L135 X v3 v6 s0 m9)
set_option maxRecDepth 100000 in
set_option maxHeartbeats 4000000 in
theorem s_X5_right_L70 (X : z_X) (v0 : Nat) (v1 : Int32) (v2 : Int32) (v3 : Int32) (v5 : Int32) (s0 : Int32) (m : z_M) : z_Sim X yX5_right cX5_right 9 (some .int) 4 70 [(0, .ref (z_ad X v0)), (1, .int v1), (2, .int v2), (3, .int v3), (5, .int v5)] [.int s0] m (f_X5_right_L70 v0 v1 v2 v3 v5 s0 m) := by
  unfold f_X5_right_L70
  refine z_istore (lv' := [(6, .int s0), (0, .ref (z_ad X v0)), (1, .int v1), (2, .int v2), (3, .int v3), (5, .int v5)]) dX5_right_70 (by decide) rfl ?_
  refine z_aload_n dX5_right_72 rfl 1 rfl ?_
  refine z_getP z_X5 (j := 4) (by decide) rfl rfl wf_X5_19 dX5_right_73 (fun a10 => ?_)
  refine z_iload_n dX5_right_76 rfl 2 rfl ?_
  refine z_iald dX5_right_77 (fun x11 => ?_)
  refine z_aload_n dX5_right_78 rfl 1 rfl ?_
  refine z_iload_n dX5_right_79 rfl 2 rfl ?_
  refine z_iload_n dX5_right_80 rfl 3 rfl ?_
  refine z_iconst (v := 0) dX5_right_81 k_c0 ?_
  refine z_cVi (As := [.int v1, .int v2, .int 0]) (rest := [.int x11]) (c_X5_turnBy X v0 v1 v2 0 m) mw_X5_turnBy iw_X5_turnBy z_X5 wm_X5_126 rfl rfl (by decide) (Nat.le_of_ble_eq_true rfl) dX5_right_82 (fun x12 m13 => ?_)
  refine z_iadd dX5_right_85 ?_
  refine z_iconst (v := 4) dX5_right_86 k_c4 ?_
  refine z_irem dX5_right_87 (by decide) ?_
  refine z_iload dX5_right_88 5 rfl ?_
  refine z_icmp_ne (tg := 101) dX5_right_90 (by decide) ?_ ?_
  · refine z_iconst (v := 0) dX5_right_101 k_c0 ?_
    exact z_sub (lv' := [(0, .ref (z_ad X v0)), (1, .int v1), (2, .int v2), (3, .int v3), (5, .int v5), (6, .int s0)]) [1, 2, 3, 4, 5, 0] rfl (s_X5_right_L102 X v0 v1 v2 v3 v5 s0 0 m13)
  · refine z_bipush (v := 10) dX5_right_93 k_bi10 ?_
    refine z_iload dX5_right_95 0 rfl ?_
    refine z_isub dX5_right_97 ?_
    refine z_goto (tg := 102) dX5_right_98 (by decide) ?_
    exact z_sub (lv' := [(0, .ref (z_ad X v0)), (1, .int v1), (2, .int v2), (3, .int v3), (5, .int v5), (6, .int s0)]) [1, 2, 3, 4, 5, 0] rfl (s_X5_right_L102 X v0 v1 v2 v3 v5 s0 (10 - s0) m13)
set_option maxRecDepth 100000 in
set_option maxHeartbeats 4000000 in
theorem s_X5_right (X : z_X) (v0 : Nat) (v1 : Int32) (v2 : Int32) (v3 : Int32) (m : z_M) : z_Sim X yX5_right cX5_right 9 (some .int) 4 0 [(0, .ref (z_ad X v0)), (1, .int v1), (2, .int v2), (3, .int v3)] [] m (f_X5_right v0 v1 v2 v3 m) := by
  unfold f_X5_right
  refine z_aload_n dX5_right_0 rfl 0 rfl ?_
  refine z_iload_n dX5_right_1 rfl 1 rfl ?_
  refine z_cVi (As := [.int v1]) (rest := []) (c_X5_isMan X v0 v1 m) mw_X5_isMan iw_X5_isMan z_X5 wm_X5_87 rfl rfl (by decide) (Nat.le_of_ble_eq_true rfl) dX5_right_2 (fun x14 m15 => ?_)
  refine z_if_eq (tg := 24) dX5_right_5 (by decide) ?_ ?_
  · refine z_iconst (v := (-1)) dX5_right_24 k_cm1 ?_
    exact z_iret dX5_right_25
  · refine z_iload_n dX5_right_8 rfl 2 rfl ?_
    refine z_cSi (As := [.int v2]) (rest := []) (c_X5_isWord X v2 m15) mw_X5_isWord iw_X5_isWord wm_X5_130 rfl rfl (by decide) (Nat.le_of_ble_eq_true rfl) dX5_right_9 (fun x16 m17 => ?_)
    refine z_if_eq (tg := 24) dX5_right_12 (by decide) ?_ ?_
    · refine z_iconst (v := (-1)) dX5_right_24 k_cm1 ?_
      exact z_iret dX5_right_25
    · refine z_iload_n dX5_right_15 rfl 3 rfl ?_
      refine z_iconst (v := 0) dX5_right_16 k_c0 ?_
      refine z_iconst (v := 1) dX5_right_17 k_c1 ?_
      refine z_cSi (As := [.int v3, .int 0, .int 1]) (rest := []) (c_X5_in X v3 0 1 m17) mw_X5_in iw_X5_in wm_X5_45 rfl rfl (by decide) (Nat.le_of_ble_eq_true rfl) dX5_right_18 (fun x18 m19 => ?_)
      refine z_if_ne (tg := 26) dX5_right_21 (by decide) ?_ ?_
      · refine z_aload_n dX5_right_26 rfl 0 rfl ?_
        refine z_iload_n dX5_right_27 rfl 1 rfl ?_
        refine z_cVi (As := [.int v1]) (rest := []) (c_X5_turnsAs X v0 v1 m19) mw_X5_turnsAs iw_X5_turnsAs z_X5 wm_X5_114 rfl rfl (by decide) (Nat.le_of_ble_eq_true rfl) dX5_right_28 (fun x20 m21 => ?_)
        refine z_istore (lv' := [(4, .int x20), (0, .ref (z_ad X v0)), (1, .int v1), (2, .int v2), (3, .int v3)]) dX5_right_31 (by decide) rfl ?_
        refine z_aload_n dX5_right_33 rfl 1 rfl ?_
        refine z_iload_n dX5_right_34 rfl 2 rfl ?_
        refine z_cVi (As := [.int v1]) (rest := []) (c_X5_dueOf X v0 v1 m21) mw_X5_dueOf iw_X5_dueOf z_X5 wm_X5_90 rfl rfl (by decide) (Nat.le_of_ble_eq_true rfl) dX5_right_35 (fun x22 m23 => ?_)
        refine z_iload_n dX5_right_38 rfl 3 rfl ?_
        refine z_cSi (As := [.int v2]) (rest := [.int x22]) (c_X5_turnOf X v2 m23) mw_X5_turnOf iw_X5_turnOf wm_X5_117 rfl rfl (by decide) (Nat.le_of_ble_eq_true rfl) dX5_right_39 (fun x24 m25 => ?_)
        refine z_iadd dX5_right_42 ?_
        refine z_iconst (v := 4) dX5_right_43 k_c4 ?_
        refine z_irem dX5_right_44 (by decide) ?_
        refine z_nm (fun x26 => ?_)
        refine z_istore (lv' := [(5, .int x26), (4, .int x20), (0, .ref (z_ad X v0)), (1, .int v1), (2, .int v2), (3, .int v3)]) dX5_right_45 (by decide) rfl ?_
        refine z_aload_n dX5_right_47 rfl 2 rfl ?_
        refine z_iload dX5_right_48 1 rfl ?_
        refine z_cVi (As := [.int x20]) (rest := []) (c_X5_mayErr X v0 x20 m25) mw_X5_mayErr iw_X5_mayErr z_X5 wm_X5_120 rfl rfl (by decide) (Nat.le_of_ble_eq_true rfl) dX5_right_50 (fun x27 m28 => ?_)
        refine z_if_eq (tg := 69) dX5_right_53 (by decide) ?_ ?_
        · refine z_iconst (v := 0) dX5_right_69 k_c0 ?_
          exact z_sub (lv' := [(0, .ref (z_ad X v0)), (1, .int v1), (2, .int v2), (3, .int v3), (5, .int x26)]) [2, 3, 4, 5, 0] rfl (s_X5_right_L70 X v0 v1 v2 v3 x26 0 m28)
        · refine z_aload_n dX5_right_56 rfl 2 rfl ?_
          refine z_getP z_X5 (j := 2) (by decide) rfl rfl wf_X5_13 dX5_right_57 (fun a29 => ?_)
          refine z_bipush (v := 27) dX5_right_60 k_bi27 ?_
          refine z_iload dX5_right_62 1 rfl ?_
          refine z_iadd dX5_right_64 ?_
          refine z_iald dX5_right_65 (fun x30 => ?_)
          refine z_goto (tg := 70) dX5_right_66 (by decide) ?_
          exact z_sub (lv' := [(0, .ref (z_ad X v0)), (1, .int v1), (2, .int v2), (3, .int v3), (5, .int x26)]) [2, 3, 4, 5, 0] rfl (s_X5_right_L70 X v0 v1 v2 v3 x26 x30 m28)
      · refine z_iconst (v := (-1)) dX5_right_24 k_cm1 ?_
        exact z_iret dX5_right_25
set_option maxRecDepth 100000 in
set_option maxHeartbeats 4000000 in
theorem c_X5_right (X : z_X) (v0 : Nat) (v1 : Int32) (v2 : Int32) (v3 : Int32) (m : z_M) : z_Ct X yX5_right cX5_right 9 (some .int) 4 [.ref (z_ad X v0), .int v1, .int v2, .int v3] m (f_X5_right v0 v1 v2 v3 m) := z_Ct.of (by decide) (Nat.le_of_ble_eq_true rfl) (s_X5_right X v0 v1 v2 v3 m)
set_option maxRecDepth 100000 in
set_option maxHeartbeats 4000000 in
theorem s_X5_runs_L44 (X : z_X) (h14 : Nat → Int32 → Int32 → Int32 → z_M → z_R) (H14 : ∀ (w0 : Nat) (w1 : Int32) (w2 : Int32) (w3 : Int32) (w : z_M), z_Sim X yX5_runs cX5_runs 4 (some .int) 2 14 [(0, .ref (z_ad X w0)), (1, .int w1), (2, .int w2), (3, .int w3)] [] w (h14 w0 w1 w2 w3 w)) (v0 : Nat) (v1 : Int32) (v3 : Int32) (s0 : Int32) (s1 : Int32) (m : z_M) : z_Sim X yX5_runs cX5_runs 4 (some .int) 2 44 [(0, .ref (z_ad X v0)), (1, .int v1), (3, .int v3)] [.int s0, .int s1] m (f_X5_runs_L44 h14 v0 v1 v3 s0 s1 m) := by
  unfold f_X5_runs_L44
  refine z_iadd dX5_runs_44 ?_
  refine z_nm (fun x1 => ?_)
  refine z_istore_n (lv' := [(2, .int x1), (0, .ref (z_ad X v0)), (1, .int v1), (3, .int v3)]) dX5_runs_45 rfl (by decide) rfl ?_
  refine z_iinc (k := 3) (lv' := [(3, .int (v3 + 1)), (2, .int x1), (0, .ref (z_ad X v0)), (1, .int v1)]) dX5_runs_46 rfl (k_i1 _) (by decide) rfl ?_
  refine z_goto (tg := 14) dX5_runs_49 (by decide) ?_
  exact z_sub (lv' := [(0, .ref (z_ad X v0)), (1, .int v1), (2, .int x1), (3, .int (v3 + 1))]) [2, 3, 1, 0] rfl (H14 v0 v1 x1 (v3 + 1) m)
set_option maxRecDepth 100000 in
set_option maxHeartbeats 4000000 in
theorem s_X5_runs_L43 (X : z_X) (h14 : Nat → Int32 → Int32 → Int32 → z_M → z_R) (H14 : ∀ (w0 : Nat) (w1 : Int32) (w2 : Int32) (w3 : Int32) (w : z_M), z_Sim X yX5_runs cX5_runs 4 (some .int) 2 14 [(0, .ref (z_ad X w0)), (1, .int w1), (2, .int w2), (3, .int w3)] [] w (h14 w0 w1 w2 w3 w)) (v0 : Nat) (v1 : Int32) (v3 : Int32) (s0 : Int32) (m : z_M) : z_Sim X yX5_runs cX5_runs 4 (some .int) 2 43 [(0, .ref (z_ad X v0)), (1, .int v1), (3, .int v3)] [.int s0] m (f_X5_runs_L43 h14 v0 v1 v3 s0 m) := by
  unfold f_X5_runs_L43
  refine z_iconst (v := 0) dX5_runs_43 k_c0 ?_
  exact z_sub (lv' := [(0, .ref (z_ad X v0)), (1, .int v1), (3, .int v3)]) [0, 1, 2] rfl (s_X5_runs_L44 X h14 H14 v0 v1 v3 0 s0 m)
set_option maxRecDepth 100000 in
set_option maxHeartbeats 4000000 in
theorem s_X5_runs_L14 (X : z_X) : ∀ (n : Nat) (v0 : Nat) (v1 : Int32) (v2 : Int32) (v3 : Int32) (m : z_M), z_Sim X yX5_runs cX5_runs 4 (some .int) 2 14 [(0, .ref (z_ad X v0)), (1, .int v1), (2, .int v2), (3, .int v3)] [] m (f_X5_runs_L14 n v0 v1 v2 v3 m) := by
  intro n
  induction n with
  | zero => intros; exact z_none
  | succ n ih =>
      intro v0 v1 v2 v3 m
      unfold f_X5_runs_L14
      refine z_iload_n dX5_runs_14 rfl 3 rfl ?_
      refine z_aload_n dX5_runs_15 rfl 0 rfl ?_
      refine z_getP z_X5 (j := 2) (by decide) rfl rfl wf_X5_13 dX5_runs_16 (fun a2 => ?_)
      refine z_iconst (v := 0) dX5_runs_19 k_c0 ?_
      refine z_iald dX5_runs_20 (fun x3 => ?_)
      refine z_icmp_ge (tg := 52) dX5_runs_21 (by decide) ?_ ?_
      · refine z_iload_n dX5_runs_52 rfl 2 rfl ?_
        exact z_iret dX5_runs_53
      · refine z_iload_n dX5_runs_24 rfl 2 rfl ?_
        refine z_iload_n dX5_runs_25 rfl 3 rfl ?_
        refine z_iload_n dX5_runs_26 rfl 1 rfl ?_
        refine z_icmp_eq (tg := 43) dX5_runs_27 (by decide) ?_ ?_
        · exact z_sub (lv' := [(0, .ref (z_ad X v0)), (1, .int v1), (3, .int v3)]) [0, 1, 3] rfl (s_X5_runs_L43 X (f_X5_runs_L14 n) ih v0 v1 v3 v2 m)
        · refine z_aload_n dX5_runs_30 rfl 0 rfl ?_
          refine z_iload_n dX5_runs_31 rfl 3 rfl ?_
          refine z_cVi (As := [.int v3]) (rest := [.int v2]) (c_X5_leader X v0 v3 m) mw_X5_leader iw_X5_leader z_X5 wm_X5_99 rfl rfl (by decide) (Nat.le_of_ble_eq_true rfl) dX5_runs_32 (fun x4 m5 => ?_)
          refine z_iload_n dX5_runs_35 rfl 1 rfl ?_
          refine z_icmp_ne (tg := 43) dX5_runs_36 (by decide) ?_ ?_
          · exact z_sub (lv' := [(0, .ref (z_ad X v0)), (1, .int v1), (3, .int v3)]) [0, 1, 3] rfl (s_X5_runs_L43 X (f_X5_runs_L14 n) ih v0 v1 v3 v2 m5)
          · refine z_iconst (v := 1) dX5_runs_39 k_c1 ?_
            refine z_goto (tg := 44) dX5_runs_40 (by decide) ?_
            exact z_sub (lv' := [(0, .ref (z_ad X v0)), (1, .int v1), (3, .int v3)]) [0, 1, 3] rfl (s_X5_runs_L44 X (f_X5_runs_L14 n) ih v0 v1 v3 1 v2 m5)
set_option maxRecDepth 100000 in
set_option maxHeartbeats 4000000 in
theorem s_X5_runs (X : z_X) (v0 : Nat) (v1 : Int32) (m : z_M) : z_Sim X yX5_runs cX5_runs 4 (some .int) 2 0 [(0, .ref (z_ad X v0)), (1, .int v1)] [] m (f_X5_runs v0 v1 m) := by
  unfold f_X5_runs
  refine z_aload_n dX5_runs_0 rfl 0 rfl ?_
  refine z_iload_n dX5_runs_1 rfl 1 rfl ?_
  refine z_cVi (As := [.int v1]) (rest := []) (c_X5_isMan X v0 v1 m) mw_X5_isMan iw_X5_isMan z_X5 wm_X5_87 rfl rfl (by decide) (Nat.le_of_ble_eq_true rfl) dX5_runs_2 (fun x6 m7 => ?_)
  refine z_if_ne (tg := 10) dX5_runs_5 (by decide) ?_ ?_
  · refine z_iconst (v := 0) dX5_runs_10 k_c0 ?_
    refine z_istore_n (lv' := [(2, .int 0), (0, .ref (z_ad X v0)), (1, .int v1)]) dX5_runs_11 rfl (by decide) rfl ?_
    refine z_iconst (v := 0) dX5_runs_12 k_c0 ?_
    refine z_istore_n (lv' := [(3, .int 0), (2, .int 0), (0, .ref (z_ad X v0)), (1, .int v1)]) dX5_runs_13 rfl (by decide) rfl ?_
    exact z_sub (lv' := [(0, .ref (z_ad X v0)), (1, .int v1), (2, .int 0), (3, .int 0)]) [2, 3, 1, 0] rfl (s_X5_runs_L14 X 400 v0 v1 0 0 m7)
  · refine z_iconst (v := (-1)) dX5_runs_8 k_cm1 ?_
    exact z_iret dX5_runs_9
set_option maxRecDepth 100000 in
set_option maxHeartbeats 4000000 in
theorem c_X5_runs (X : z_X) (v0 : Nat) (v1 : Int32) (m : z_M) : z_Ct X yX5_runs cX5_runs 4 (some .int) 2 [.ref (z_ad X v0), .int v1] m (f_X5_runs v0 v1 m) := z_Ct.of (by decide) (Nat.le_of_ble_eq_true rfl) (s_X5_runs X v0 v1 m)
set_option maxRecDepth 100000 in
set_option maxHeartbeats 4000000 in
theorem s_X5_safe_L83 (X : z_X) (h27 : Nat → Int32 → Int32 → Int32 → z_M → z_R) (H27 : ∀ (w0 : Nat) (w1 : Int32) (w2 : Int32) (w3 : Int32) (w : z_M), z_Sim X yX5_safe cX5_safe 5 (some .int) 2 27 [(0, .ref (z_ad X w0)), (1, .int w1), (2, .int w2), (3, .int w3)] [] w (h27 w0 w1 w2 w3 w)) (v0 : Nat) (v1 : Int32) (v3 : Int32) (s0 : Int32) (m : z_M) : z_Sim X yX5_safe cX5_safe 5 (some .int) 2 83 [(0, .ref (z_ad X v0)), (1, .int v1), (3, .int v3)] [.int s0] m (f_X5_safe_L83 h27 v0 v1 v3 s0 m) := by
  unfold f_X5_safe_L83
  refine z_istore_n (lv' := [(2, .int s0), (0, .ref (z_ad X v0)), (1, .int v1), (3, .int v3)]) dX5_safe_83 rfl (by decide) rfl ?_
  refine z_iinc (k := 3) (lv' := [(3, .int (v3 + (-1))), (2, .int s0), (0, .ref (z_ad X v0)), (1, .int v1)]) dX5_safe_84 rfl (k_im1 _) (by decide) rfl ?_
  refine z_goto (tg := 27) dX5_safe_87 (by decide) ?_
  exact z_sub (lv' := [(0, .ref (z_ad X v0)), (1, .int v1), (2, .int s0), (3, .int (v3 + (-1)))]) [2, 3, 1, 0] rfl (H27 v0 v1 s0 (v3 + (-1)) m)
set_option maxRecDepth 100000 in
set_option maxHeartbeats 4000000 in
theorem s_X5_safe_L82 (X : z_X) (h27 : Nat → Int32 → Int32 → Int32 → z_M → z_R) (H27 : ∀ (w0 : Nat) (w1 : Int32) (w2 : Int32) (w3 : Int32) (w : z_M), z_Sim X yX5_safe cX5_safe 5 (some .int) 2 27 [(0, .ref (z_ad X w0)), (1, .int w1), (2, .int w2), (3, .int w3)] [] w (h27 w0 w1 w2 w3 w)) (v0 : Nat) (v1 : Int32) (v2 : Int32) (v3 : Int32) (m : z_M) : z_Sim X yX5_safe cX5_safe 5 (some .int) 2 82 [(0, .ref (z_ad X v0)), (1, .int v1), (2, .int v2), (3, .int v3)] [] m (f_X5_safe_L82 h27 v0 v1 v2 v3 m) := by
  unfold f_X5_safe_L82
  refine z_iload_n dX5_safe_82 rfl 2 rfl ?_
  exact z_sub (lv' := [(0, .ref (z_ad X v0)), (1, .int v1), (3, .int v3)]) [0, 1, 3] rfl (s_X5_safe_L83 X h27 H27 v0 v1 v3 v2 m)
set_option maxRecDepth 100000 in
set_option maxHeartbeats 4000000 in
theorem s_X5_safe_L51 (X : z_X) (h27 : Nat → Int32 → Int32 → Int32 → z_M → z_R) (H27 : ∀ (w0 : Nat) (w1 : Int32) (w2 : Int32) (w3 : Int32) (w : z_M), z_Sim X yX5_safe cX5_safe 5 (some .int) 2 27 [(0, .ref (z_ad X w0)), (1, .int w1), (2, .int w2), (3, .int w3)] [] w (h27 w0 w1 w2 w3 w)) (v0 : Nat) (v1 : Int32) (v2 : Int32) (v3 : Int32) (s0 : Int32) (m : z_M) : z_Sim X yX5_safe cX5_safe 5 (some .int) 2 51 [(0, .ref (z_ad X v0)), (1, .int v1), (2, .int v2), (3, .int v3)] [.int s0] m (f_X5_safe_L51 h27 v0 v1 v2 v3 s0 m) := by
  unfold f_X5_safe_L51
  refine z_istore (lv' := [(4, .int s0), (0, .ref (z_ad X v0)), (1, .int v1), (2, .int v2), (3, .int v3)]) dX5_safe_51 (by decide) rfl ?_
  refine z_iload dX5_safe_53 0 rfl ?_
  refine z_bipush (v := (-4)) dX5_safe_55 k_bim4 ?_
  refine z_icmp_eq (tg := 82) dX5_safe_57 (by decide) ?_ ?_
  · exact z_sub (lv' := [(0, .ref (z_ad X v0)), (1, .int v1), (2, .int v2), (3, .int v3)]) [1, 2, 3, 4] rfl (s_X5_safe_L82 X h27 H27 v0 v1 v2 v3 m)
  · refine z_iload dX5_safe_60 0 rfl ?_
    refine z_iload_n dX5_safe_62 rfl 2 rfl ?_
    refine z_icmp_eq (tg := 82) dX5_safe_63 (by decide) ?_ ?_
    · exact z_sub (lv' := [(0, .ref (z_ad X v0)), (1, .int v1), (2, .int v2), (3, .int v3)]) [1, 2, 3, 4] rfl (s_X5_safe_L82 X h27 H27 v0 v1 v2 v3 m)
    · refine z_aload_n dX5_safe_66 rfl 1 rfl ?_
      refine z_getP z_X5 (j := 2) (by decide) rfl rfl wf_X5_13 dX5_safe_67 (fun a1 => ?_)
      refine z_iconst (v := 3) dX5_safe_70 k_c3 ?_
      refine z_iload dX5_safe_71 0 rfl ?_
      refine z_iadd dX5_safe_73 ?_
      refine z_iald dX5_safe_74 (fun x2 => ?_)
      refine z_if_ne (tg := 82) dX5_safe_75 (by decide) ?_ ?_
      · exact z_sub (lv' := [(0, .ref (z_ad X v0)), (1, .int v1), (2, .int v2), (3, .int v3)]) [1, 2, 3, 4] rfl (s_X5_safe_L82 X h27 H27 v0 v1 v2 v3 m)
      · refine z_iload_n dX5_safe_78 rfl 4 rfl ?_
        refine z_goto (tg := 83) dX5_safe_79 (by decide) ?_
        exact z_sub (lv' := [(0, .ref (z_ad X v0)), (1, .int v1), (3, .int v3)]) [1, 2, 4] rfl (s_X5_safe_L83 X h27 H27 v0 v1 v3 v3 m)
set_option maxRecDepth 100000 in
set_option maxHeartbeats 4000000 in
theorem s_X5_safe_L27 (X : z_X) : ∀ (n : Nat) (v0 : Nat) (v1 : Int32) (v2 : Int32) (v3 : Int32) (m : z_M), z_Sim X yX5_safe cX5_safe 5 (some .int) 2 27 [(0, .ref (z_ad X v0)), (1, .int v1), (2, .int v2), (3, .int v3)] [] m (f_X5_safe_L27 n v0 v1 v2 v3 m) := by
  intro n
  induction n with
  | zero => intros; exact z_none
  | succ n ih =>
      intro v0 v1 v2 v3 m
      unfold f_X5_safe_L27
      refine z_iload_n dX5_safe_27 rfl 3 rfl ?_
      refine z_if_lt (tg := 90) dX5_safe_28 (by decide) ?_ ?_
      · refine z_aload_n dX5_safe_90 rfl 0 rfl ?_
        refine z_iconst (v := (-1)) dX5_safe_91 k_cm1 ?_
        refine z_setI z_X5 (by decide) rfl rfl wf_X5_28 dX5_safe_92 ?_
        generalize z_wI m v0 10 (-1) = m3
        refine z_iload_n dX5_safe_95 rfl 2 rfl ?_
        exact z_iret dX5_safe_96
      · refine z_aload_n dX5_safe_31 rfl 0 rfl ?_
        refine z_iload_n dX5_safe_32 rfl 3 rfl ?_
        refine z_setI z_X5 (by decide) rfl rfl wf_X5_96 dX5_safe_33 ?_
        generalize z_wI m v0 11 v3 = m4
        refine z_iload_n dX5_safe_36 rfl 3 rfl ?_
        refine z_iload_n dX5_safe_37 rfl 1 rfl ?_
        refine z_icmp_ne (tg := 46) dX5_safe_38 (by decide) ?_ ?_
        · refine z_aload_n dX5_safe_46 rfl 0 rfl ?_
          refine z_iload_n dX5_safe_47 rfl 1 rfl ?_
          refine z_cVi (As := [.int v1]) (rest := []) (c_X5_leader X v0 v1 m4) mw_X5_leader iw_X5_leader z_X5 wm_X5_99 rfl rfl (by decide) (Nat.le_of_ble_eq_true rfl) dX5_safe_48 (fun x5 m6 => ?_)
          exact z_sub (lv' := [(0, .ref (z_ad X v0)), (1, .int v1), (2, .int v2), (3, .int v3)]) [0, 1, 2, 3] rfl (s_X5_safe_L51 X (f_X5_safe_L27 n) ih v0 v1 v2 v3 x5 m6)
        · refine z_bipush (v := (-4)) dX5_safe_41 k_bim4 ?_
          refine z_goto (tg := 51) dX5_safe_43 (by decide) ?_
          exact z_sub (lv' := [(0, .ref (z_ad X v0)), (1, .int v1), (2, .int v2), (3, .int v3)]) [0, 1, 2, 3] rfl (s_X5_safe_L51 X (f_X5_safe_L27 n) ih v0 v1 v2 v3 (-4) m4)
set_option maxRecDepth 100000 in
set_option maxHeartbeats 4000000 in
theorem s_X5_safe (X : z_X) (v0 : Nat) (v1 : Int32) (m : z_M) : z_Sim X yX5_safe cX5_safe 5 (some .int) 2 0 [(0, .ref (z_ad X v0)), (1, .int v1)] [] m (f_X5_safe v0 v1 m) := by
  unfold f_X5_safe
  refine z_aload_n dX5_safe_0 rfl 0 rfl ?_
  refine z_iload_n dX5_safe_1 rfl 1 rfl ?_
  refine z_cVi (As := [.int v1]) (rest := []) (c_X5_isMan X v0 v1 m) mw_X5_isMan iw_X5_isMan z_X5 wm_X5_87 rfl rfl (by decide) (Nat.le_of_ble_eq_true rfl) dX5_safe_2 (fun x7 m8 => ?_)
  refine z_if_ne (tg := 10) dX5_safe_5 (by decide) ?_ ?_
  · refine z_bipush (v := (-4)) dX5_safe_10 k_bim4 ?_
    refine z_istore_n (lv' := [(2, .int (-4)), (0, .ref (z_ad X v0)), (1, .int v1)]) dX5_safe_12 rfl (by decide) rfl ?_
    refine z_aload_n dX5_safe_13 rfl 1 rfl ?_
    refine z_iload_n dX5_safe_14 rfl 2 rfl ?_
    refine z_setI z_X5 (by decide) rfl rfl wf_X5_28 dX5_safe_15 ?_
    generalize z_wI m8 v0 10 v1 = m9
    refine z_aload_n dX5_safe_18 rfl 1 rfl ?_
    refine z_getP z_X5 (j := 2) (by decide) rfl rfl wf_X5_13 dX5_safe_19 (fun a10 => ?_)
    refine z_iconst (v := 0) dX5_safe_22 k_c0 ?_
    refine z_iald dX5_safe_23 (fun x11 => ?_)
    refine z_iconst (v := 1) dX5_safe_24 k_c1 ?_
    refine z_isub dX5_safe_25 ?_
    refine z_nm (fun x12 => ?_)
    refine z_istore_n (lv' := [(3, .int x12), (2, .int (-4)), (0, .ref (z_ad X v0)), (1, .int v1)]) dX5_safe_26 rfl (by decide) rfl ?_
    exact z_sub (lv' := [(0, .ref (z_ad X v0)), (1, .int v1), (2, .int (-4)), (3, .int x12)]) [2, 3, 1, 0] rfl (s_X5_safe_L27 X 400 v0 v1 (-4) x12 m9)
  · refine z_iconst (v := (-1)) dX5_safe_8 k_cm1 ?_
    exact z_iret dX5_safe_9
set_option maxRecDepth 100000 in
set_option maxHeartbeats 4000000 in
theorem c_X5_safe (X : z_X) (v0 : Nat) (v1 : Int32) (m : z_M) : z_Ct X yX5_safe cX5_safe 5 (some .int) 2 [.ref (z_ad X v0), .int v1] m (f_X5_safe v0 v1 m) := z_Ct.of (by decide) (Nat.le_of_ble_eq_true rfl) (s_X5_safe X v0 v1 m)
set_option maxRecDepth 100000 in
set_option maxHeartbeats 4000000 in
theorem s_X5_shout_L94 (X : z_X) (h18 : Nat → Int32 → Int32 → Int32 → z_M → z_R) (H18 : ∀ (w0 : Nat) (w1 : Int32) (w2 : Int32) (w3 : Int32) (w : z_M), z_Sim X yX5_shout cX5_shout 4 (some .int) 2 18 [(0, .ref (z_ad X w0)), (1, .int w1), (2, .int w2), (3, .int w3)] [] w (h18 w0 w1 w2 w3 w)) (v0 : Nat) (v1 : Int32) (v2 : Int32) (v3 : Int32) (m : z_M) : z_Sim X yX5_shout cX5_shout 4 (some .int) 2 94 [(0, .ref (z_ad X v0)), (1, .int v1), (2, .int v2), (3, .int v3)] [] m (f_X5_shout_L94 h18 v0 v1 v2 v3 m) := by
  unfold f_X5_shout_L94
  refine z_iinc (k := 3) (lv' := [(3, .int (v3 + 1)), (0, .ref (z_ad X v0)), (1, .int v1), (2, .int v2)]) dX5_shout_94 rfl (k_i1 _) (by decide) rfl ?_
  refine z_goto (tg := 18) dX5_shout_97 (by decide) ?_
  exact z_sub (lv' := [(0, .ref (z_ad X v0)), (1, .int v1), (2, .int v2), (3, .int (v3 + 1))]) [1, 2, 3, 0] rfl (H18 v0 v1 v2 (v3 + 1) m)
set_option maxRecDepth 100000 in
set_option maxHeartbeats 4000000 in
theorem s_X5_shout_L62 (X : z_X) (h18 : Nat → Int32 → Int32 → Int32 → z_M → z_R) (H18 : ∀ (w0 : Nat) (w1 : Int32) (w2 : Int32) (w3 : Int32) (w : z_M), z_Sim X yX5_shout cX5_shout 4 (some .int) 2 18 [(0, .ref (z_ad X w0)), (1, .int w1), (2, .int w2), (3, .int w3)] [] w (h18 w0 w1 w2 w3 w)) (v0 : Nat) (v1 : Int32) (v2 : Int32) (v3 : Int32) (m : z_M) : z_Sim X yX5_shout cX5_shout 4 (some .int) 2 62 [(0, .ref (z_ad X v0)), (1, .int v1), (2, .int v2), (3, .int v3)] [] m (f_X5_shout_L62 h18 v0 v1 v2 v3 m) := by
  unfold f_X5_shout_L62
  refine z_aload_n dX5_shout_62 rfl 0 rfl ?_
  refine z_getP z_X5 (j := 4) (by decide) rfl rfl wf_X5_19 dX5_shout_63 (fun a1 => ?_)
  refine z_iload_n dX5_shout_66 rfl 3 rfl ?_
  refine z_aload_n dX5_shout_67 rfl 0 rfl ?_
  refine z_getP z_X5 (j := 4) (by decide) rfl rfl wf_X5_19 dX5_shout_68 (fun a2 => ?_)
  refine z_iload_n dX5_shout_71 rfl 3 rfl ?_
  refine z_iald dX5_shout_72 (fun x3 => ?_)
  refine z_iconst (v := 2) dX5_shout_73 k_c2 ?_
  refine z_iadd dX5_shout_74 ?_
  refine z_iconst (v := 4) dX5_shout_75 k_c4 ?_
  refine z_irem dX5_shout_76 (by decide) ?_
  refine z_nm (fun x4 => ?_)
  refine z_iast dX5_shout_77 ?_
  generalize z_wI m a1 (Int32.toNatClampNeg v3) x4 = m5
  refine z_aload_n dX5_shout_78 rfl 0 rfl ?_
  refine z_getP z_X5 (j := 4) (by decide) rfl rfl wf_X5_19 dX5_shout_79 (fun a6 => ?_)
  refine z_bipush (v := 21) dX5_shout_82 k_bi21 ?_
  refine z_dup2 dX5_shout_84 rfl rfl ?_
  refine z_iald dX5_shout_85 (fun x7 => ?_)
  refine z_iconst (v := 1) dX5_shout_86 k_c1 ?_
  refine z_iload_n dX5_shout_87 rfl 3 rfl ?_
  refine z_ishl dX5_shout_88 ?_
  refine z_ior dX5_shout_89 ?_
  refine z_nm (fun x8 => ?_)
  refine z_iast dX5_shout_90 ?_
  generalize z_wI m5 a6 (Int32.toNatClampNeg 21) x8 = m9
  refine z_iinc (k := 2) (lv' := [(2, .int (v2 + 1)), (0, .ref (z_ad X v0)), (1, .int v1), (3, .int v3)]) dX5_shout_91 rfl (k_i1 _) (by decide) rfl ?_
  exact z_sub (lv' := [(0, .ref (z_ad X v0)), (1, .int v1), (2, .int (v2 + 1)), (3, .int v3)]) [1, 2, 0, 3] rfl (s_X5_shout_L94 X h18 H18 v0 v1 (v2 + 1) v3 m9)
set_option maxRecDepth 100000 in
set_option maxHeartbeats 4000000 in
theorem s_X5_shout_L18 (X : z_X) : ∀ (n : Nat) (v0 : Nat) (v1 : Int32) (v2 : Int32) (v3 : Int32) (m : z_M), z_Sim X yX5_shout cX5_shout 4 (some .int) 2 18 [(0, .ref (z_ad X v0)), (1, .int v1), (2, .int v2), (3, .int v3)] [] m (f_X5_shout_L18 n v0 v1 v2 v3 m) := by
  intro n
  induction n with
  | zero => intros; exact z_none
  | succ n ih =>
      intro v0 v1 v2 v3 m
      unfold f_X5_shout_L18
      refine z_iload_n dX5_shout_18 rfl 3 rfl ?_
      refine z_aload_n dX5_shout_19 rfl 0 rfl ?_
      refine z_getP z_X5 (j := 2) (by decide) rfl rfl wf_X5_13 dX5_shout_20 (fun a10 => ?_)
      refine z_iconst (v := 0) dX5_shout_23 k_c0 ?_
      refine z_iald dX5_shout_24 (fun x11 => ?_)
      refine z_icmp_ge (tg := 100) dX5_shout_25 (by decide) ?_ ?_
      · refine z_iload_n dX5_shout_100 rfl 2 rfl ?_
        exact z_iret dX5_shout_101
      · refine z_iload_n dX5_shout_28 rfl 3 rfl ?_
        refine z_iload_n dX5_shout_29 rfl 1 rfl ?_
        refine z_icmp_eq (tg := 62) dX5_shout_30 (by decide) ?_ ?_
        · exact z_sub (lv' := [(0, .ref (z_ad X v0)), (1, .int v1), (2, .int v2), (3, .int v3)]) [0, 1, 2, 3] rfl (s_X5_shout_L62 X (f_X5_shout_L18 n) ih v0 v1 v2 v3 m)
        · refine z_aload_n dX5_shout_33 rfl 0 rfl ?_
          refine z_getP z_X5 (j := 4) (by decide) rfl rfl wf_X5_19 dX5_shout_34 (fun a12 => ?_)
          refine z_bipush (v := 16) dX5_shout_37 k_bi16 ?_
          refine z_iald dX5_shout_39 (fun x13 => ?_)
          refine z_if_ne (tg := 94) dX5_shout_40 (by decide) ?_ ?_
          · exact z_sub (lv' := [(0, .ref (z_ad X v0)), (1, .int v1), (2, .int v2), (3, .int v3)]) [0, 1, 2, 3] rfl (s_X5_shout_L94 X (f_X5_shout_L18 n) ih v0 v1 v2 v3 m)
          · refine z_aload_n dX5_shout_43 rfl 0 rfl ?_
            refine z_iload_n dX5_shout_44 rfl 3 rfl ?_
            refine z_cVi (As := [.int v3]) (rest := []) (c_X5_leader X v0 v3 m) mw_X5_leader iw_X5_leader z_X5 wm_X5_99 rfl rfl (by decide) (Nat.le_of_ble_eq_true rfl) dX5_shout_45 (fun x14 m15 => ?_)
            refine z_bipush (v := (-4)) dX5_shout_48 k_bim4 ?_
            refine z_icmp_eq (tg := 94) dX5_shout_50 (by decide) ?_ ?_
            · exact z_sub (lv' := [(0, .ref (z_ad X v0)), (1, .int v1), (2, .int v2), (3, .int v3)]) [0, 1, 2, 3] rfl (s_X5_shout_L94 X (f_X5_shout_L18 n) ih v0 v1 v2 v3 m15)
            · refine z_aload_n dX5_shout_53 rfl 0 rfl ?_
              refine z_iload_n dX5_shout_54 rfl 3 rfl ?_
              refine z_iload_n dX5_shout_55 rfl 1 rfl ?_
              refine z_cVi (As := [.int v3, .int v1]) (rest := []) (c_X5_comesBy X v0 v3 v1 m15) mw_X5_comesBy iw_X5_comesBy z_X5 wm_X5_150 rfl rfl (by decide) (Nat.le_of_ble_eq_true rfl) dX5_shout_56 (fun x16 m17 => ?_)
              refine z_if_eq (tg := 94) dX5_shout_59 (by decide) ?_ ?_
              · exact z_sub (lv' := [(0, .ref (z_ad X v0)), (1, .int v1), (2, .int v2), (3, .int v3)]) [0, 1, 2, 3] rfl (s_X5_shout_L94 X (f_X5_shout_L18 n) ih v0 v1 v2 v3 m17)
              · exact z_sub (lv' := [(0, .ref (z_ad X v0)), (1, .int v1), (2, .int v2), (3, .int v3)]) [0, 1, 2, 3] rfl (s_X5_shout_L62 X (f_X5_shout_L18 n) ih v0 v1 v2 v3 m17)
set_option maxRecDepth 100000 in
set_option maxHeartbeats 4000000 in
theorem s_X5_shout (X : z_X) (v0 : Nat) (v1 : Int32) (m : z_M) : z_Sim X yX5_shout cX5_shout 4 (some .int) 2 0 [(0, .ref (z_ad X v0)), (1, .int v1)] [] m (f_X5_shout v0 v1 m) := by
  unfold f_X5_shout
  refine z_aload_n dX5_shout_0 rfl 0 rfl ?_
  refine z_iload_n dX5_shout_1 rfl 1 rfl ?_
  refine z_cVi (As := [.int v1]) (rest := []) (c_X5_isMan X v0 v1 m) mw_X5_isMan iw_X5_isMan z_X5 wm_X5_87 rfl rfl (by decide) (Nat.le_of_ble_eq_true rfl) dX5_shout_2 (fun x18 m19 => ?_)
  refine z_if_ne (tg := 10) dX5_shout_5 (by decide) ?_ ?_
  · refine z_aload_n dX5_shout_10 rfl 0 rfl ?_
    refine z_cVv (As := []) (rest := []) (c_X5_keeps X v0 m19) mw_X5_keeps iw_X5_keeps z_X5 wm_X5_133 rfl rfl (by decide) (Nat.le_of_ble_eq_true rfl) dX5_shout_11 (fun _ m20 => ?_)
    refine z_iconst (v := 0) dX5_shout_14 k_c0 ?_
    refine z_istore_n (lv' := [(2, .int 0), (0, .ref (z_ad X v0)), (1, .int v1)]) dX5_shout_15 rfl (by decide) rfl ?_
    refine z_iconst (v := 0) dX5_shout_16 k_c0 ?_
    refine z_istore_n (lv' := [(3, .int 0), (2, .int 0), (0, .ref (z_ad X v0)), (1, .int v1)]) dX5_shout_17 rfl (by decide) rfl ?_
    exact z_sub (lv' := [(0, .ref (z_ad X v0)), (1, .int v1), (2, .int 0), (3, .int 0)]) [2, 3, 1, 0] rfl (s_X5_shout_L18 X 400 v0 v1 0 0 m20)
  · refine z_iconst (v := (-1)) dX5_shout_8 k_cm1 ?_
    exact z_iret dX5_shout_9
set_option maxRecDepth 100000 in
set_option maxHeartbeats 4000000 in
theorem c_X5_shout (X : z_X) (v0 : Nat) (v1 : Int32) (m : z_M) : z_Ct X yX5_shout cX5_shout 4 (some .int) 2 [.ref (z_ad X v0), .int v1] m (f_X5_shout v0 v1 m) := z_Ct.of (by decide) (Nat.le_of_ble_eq_true rfl) (s_X5_shout X v0 v1 m)
set_option maxRecDepth 100000 in
set_option maxHeartbeats 4000000 in
theorem s_X5_turn (X : z_X) (v0 : Nat) (v1 : Int32) (v2 : Int32) (m : z_M) : z_Sim X yX5_turn cX5_turn 3 (some .int) 4 0 [(0, .ref (z_ad X v0)), (1, .int v1), (2, .int v2)] [] m (f_X5_turn v0 v1 v2 m) := by
  unfold f_X5_turn
  refine z_aload_n dX5_turn_0 rfl 0 rfl ?_
  refine z_iload_n dX5_turn_1 rfl 1 rfl ?_
  refine z_cVi (As := [.int v1]) (rest := []) (c_X5_isMan X v0 v1 m) mw_X5_isMan iw_X5_isMan z_X5 wm_X5_87 rfl rfl (by decide) (Nat.le_of_ble_eq_true rfl) dX5_turn_2 (fun x1 m2 => ?_)
  refine z_if_eq (tg := 38) dX5_turn_5 (by decide) ?_ ?_
  · refine z_iconst (v := (-1)) dX5_turn_38 k_cm1 ?_
    exact z_iret dX5_turn_39
  · refine z_iload_n dX5_turn_8 rfl 2 rfl ?_
    refine z_cSi (As := [.int v2]) (rest := []) (c_X5_isWord X v2 m2) mw_X5_isWord iw_X5_isWord wm_X5_130 rfl rfl (by decide) (Nat.le_of_ble_eq_true rfl) dX5_turn_9 (fun x3 m4 => ?_)
    refine z_if_eq (tg := 38) dX5_turn_12 (by decide) ?_ ?_
    · refine z_iconst (v := (-1)) dX5_turn_38 k_cm1 ?_
      exact z_iret dX5_turn_39
    · refine z_aload_n dX5_turn_15 rfl 0 rfl ?_
      refine z_getP z_X5 (j := 4) (by decide) rfl rfl wf_X5_19 dX5_turn_16 (fun a5 => ?_)
      refine z_iload_n dX5_turn_19 rfl 1 rfl ?_
      refine z_iald dX5_turn_20 (fun x6 => ?_)
      refine z_aload_n dX5_turn_21 rfl 0 rfl ?_
      refine z_iload_n dX5_turn_22 rfl 1 rfl ?_
      refine z_iload_n dX5_turn_23 rfl 2 rfl ?_
      refine z_aload_n dX5_turn_24 rfl 0 rfl ?_
      refine z_iconst (v := 1) dX5_turn_25 k_c1 ?_
      refine z_cVi (As := [.int 1]) (rest := [.int v2, .int v1, .ref (z_ad X v0), .int x6]) (c_X5_errors X v0 1 m4) mw_X5_errors iw_X5_errors z_X5 wm_X5_136 rfl rfl (by decide) (Nat.le_of_ble_eq_true rfl) dX5_turn_26 (fun x7 m8 => ?_)
      refine z_cVi (As := [.int v1, .int v2, .int x7]) (rest := [.int x6]) (c_X5_turnBy X v0 v1 v2 x7 m8) mw_X5_turnBy iw_X5_turnBy z_X5 wm_X5_126 rfl rfl (by decide) (Nat.le_of_ble_eq_true rfl) dX5_turn_29 (fun x9 m10 => ?_)
      refine z_iadd dX5_turn_32 ?_
      refine z_iconst (v := 4) dX5_turn_33 k_c4 ?_
      refine z_irem dX5_turn_34 (by decide) ?_
      refine z_goto (tg := 39) dX5_turn_35 (by decide) ?_
      exact z_iret dX5_turn_39
set_option maxRecDepth 100000 in
set_option maxHeartbeats 4000000 in
theorem c_X5_turn (X : z_X) (v0 : Nat) (v1 : Int32) (v2 : Int32) (m : z_M) : z_Ct X yX5_turn cX5_turn 3 (some .int) 4 [.ref (z_ad X v0), .int v1, .int v2] m (f_X5_turn v0 v1 v2 m) := z_Ct.of (by decide) (Nat.le_of_ble_eq_true rfl) (s_X5_turn X v0 v1 v2 m)
set_option maxRecDepth 100000 in
set_option maxHeartbeats 4000000 in
theorem s_X5_undo_L22 (X : z_X) : ∀ (n : Nat) (v0 : Nat) (v1 : Int32) (m : z_M), z_Sim X yX5_undo cX5_undo 2 (some .int) 0 22 [(0, .ref (z_ad X v0)), (1, .int v1)] [] m (f_X5_undo_L22 n v0 v1 m) := by
  intro n
  induction n with
  | zero => intros; exact z_none
  | succ n ih =>
      intro v0 v1 m
      unfold f_X5_undo_L22
      refine z_iload_n dX5_undo_22 rfl 1 rfl ?_
      refine z_bipush (v := 22) dX5_undo_23 k_bi22 ?_
      refine z_icmp_ge (tg := 54) dX5_undo_25 (by decide) ?_ ?_
      · refine z_aload_n dX5_undo_54 rfl 0 rfl ?_
        refine z_getI z_X5 (j := 6) (by decide) rfl rfl wf_X5_81 dX5_undo_55 (fun x1 => ?_)
        exact z_iret dX5_undo_58
      · refine z_aload_n dX5_undo_28 rfl 0 rfl ?_
        refine z_getP z_X5 (j := 4) (by decide) rfl rfl wf_X5_19 dX5_undo_29 (fun a2 => ?_)
        refine z_iload_n dX5_undo_32 rfl 1 rfl ?_
        refine z_aload_n dX5_undo_33 rfl 0 rfl ?_
        refine z_getP z_X5 (j := 5) (by decide) rfl rfl wf_X5_22 dX5_undo_34 (fun a3 => ?_)
        refine z_bipush (v := 22) dX5_undo_37 k_bi22 ?_
        refine z_aload_n dX5_undo_39 rfl 0 rfl ?_
        refine z_getI z_X5 (j := 6) (by decide) rfl rfl wf_X5_81 dX5_undo_40 (fun x4 => ?_)
        refine z_imul dX5_undo_43 ?_
        refine z_iload_n dX5_undo_44 rfl 1 rfl ?_
        refine z_iadd dX5_undo_45 ?_
        refine z_iald dX5_undo_46 (fun x5 => ?_)
        refine z_iast dX5_undo_47 ?_
        generalize z_wI m a2 (Int32.toNatClampNeg v1) x5 = m6
        refine z_iinc (k := 1) (lv' := [(1, .int (v1 + 1)), (0, .ref (z_ad X v0))]) dX5_undo_48 rfl (k_i1 _) (by decide) rfl ?_
        refine z_goto (tg := 22) dX5_undo_51 (by decide) ?_
        exact z_sub (lv' := [(0, .ref (z_ad X v0)), (1, .int (v1 + 1))]) [1, 0] rfl (ih v0 (v1 + 1) m6)
set_option maxRecDepth 100000 in
set_option maxHeartbeats 4000000 in
theorem s_X5_undo (X : z_X) (v0 : Nat) (m : z_M) : z_Sim X yX5_undo cX5_undo 2 (some .int) 0 0 [(0, .ref (z_ad X v0))] [] m (f_X5_undo v0 m) := by
  unfold f_X5_undo
  refine z_aload_n dX5_undo_0 rfl 0 rfl ?_
  refine z_getI z_X5 (j := 6) (by decide) rfl rfl wf_X5_81 dX5_undo_1 (fun x7 => ?_)
  refine z_if_ne (tg := 10) dX5_undo_4 (by decide) ?_ ?_
  · refine z_aload_n dX5_undo_10 rfl 0 rfl ?_
    refine z_dup dX5_undo_11 rfl ?_
    refine z_getI z_X5 (j := 6) (by decide) rfl rfl wf_X5_81 dX5_undo_12 (fun x8 => ?_)
    refine z_iconst (v := 1) dX5_undo_15 k_c1 ?_
    refine z_isub dX5_undo_16 ?_
    refine z_nm (fun x9 => ?_)
    refine z_setI z_X5 (by decide) rfl rfl wf_X5_81 dX5_undo_17 ?_
    generalize z_wI m v0 6 x9 = m10
    refine z_iconst (v := 0) dX5_undo_20 k_c0 ?_
    refine z_istore_n (lv' := [(1, .int 0), (0, .ref (z_ad X v0))]) dX5_undo_21 rfl (by decide) rfl ?_
    exact z_sub (lv' := [(0, .ref (z_ad X v0)), (1, .int 0)]) [1, 0] rfl (s_X5_undo_L22 X 400 v0 0 m10)
  · refine z_bipush (v := (-2)) dX5_undo_7 k_bim2 ?_
    exact z_iret dX5_undo_9
set_option maxRecDepth 100000 in
set_option maxHeartbeats 4000000 in
theorem c_X5_undo (X : z_X) (v0 : Nat) (m : z_M) : z_Ct X yX5_undo cX5_undo 2 (some .int) 0 [.ref (z_ad X v0)] m (f_X5_undo v0 m) := z_Ct.of (by decide) (Nat.le_of_ble_eq_true rfl) (s_X5_undo X v0 m)
set_option maxRecDepth 100000 in
set_option maxHeartbeats 4000000 in
theorem s_X5_which_L50 (X : z_X) (h24 : Nat → Int32 → Int32 → Int32 → Int32 → z_M → z_R) (H24 : ∀ (w0 : Nat) (w1 : Int32) (w2 : Int32) (w3 : Int32) (w4 : Int32) (w : z_M), z_Sim X yX5_which cX5_which 5 (some .int) 5 24 [(0, .ref (z_ad X w0)), (1, .int w1), (2, .int w2), (3, .int w3), (4, .int w4)] [] w (h24 w0 w1 w2 w3 w4 w)) (v0 : Nat) (v1 : Int32) (v2 : Int32) (v4 : Int32) (s0 : Int32) (s1 : Int32) (m : z_M) : z_Sim X yX5_which cX5_which 5 (some .int) 5 50 [(0, .ref (z_ad X v0)), (1, .int v1), (2, .int v2), (4, .int v4)] [.int s0, .int s1] m (f_X5_which_L50 h24 v0 v1 v2 v4 s0 s1 m) := by
  unfold f_X5_which_L50
  refine z_ior dX5_which_50 ?_
  refine z_nm (fun x1 => ?_)
  refine z_istore_n (lv' := [(3, .int x1), (0, .ref (z_ad X v0)), (1, .int v1), (2, .int v2), (4, .int v4)]) dX5_which_51 rfl (by decide) rfl ?_
  refine z_iinc (k := 4) (lv' := [(4, .int (v4 + 1)), (3, .int x1), (0, .ref (z_ad X v0)), (1, .int v1), (2, .int v2)]) dX5_which_52 rfl (k_i1 _) (by decide) rfl ?_
  refine z_goto (tg := 24) dX5_which_55 (by decide) ?_
  exact z_sub (lv' := [(0, .ref (z_ad X v0)), (1, .int v1), (2, .int v2), (3, .int x1), (4, .int (v4 + 1))]) [2, 3, 4, 1, 0] rfl (H24 v0 v1 v2 x1 (v4 + 1) m)
set_option maxRecDepth 100000 in
set_option maxHeartbeats 4000000 in
theorem s_X5_which_L24 (X : z_X) : ∀ (n : Nat) (v0 : Nat) (v1 : Int32) (v2 : Int32) (v3 : Int32) (v4 : Int32) (m : z_M), z_Sim X yX5_which cX5_which 5 (some .int) 5 24 [(0, .ref (z_ad X v0)), (1, .int v1), (2, .int v2), (3, .int v3), (4, .int v4)] [] m (f_X5_which_L24 n v0 v1 v2 v3 v4 m) := by
  intro n
  induction n with
  | zero => intros; exact z_none
  | succ n ih =>
      intro v0 v1 v2 v3 v4 m
      unfold f_X5_which_L24
      refine z_iload dX5_which_24 4 rfl ?_
      refine z_iconst (v := 3) dX5_which_26 k_c3 ?_
      refine z_icmp_ge (tg := 58) dX5_which_27 (by decide) ?_ ?_
      · refine z_iload_n dX5_which_58 rfl 3 rfl ?_
        exact z_iret dX5_which_59
      · refine z_iload_n dX5_which_30 rfl 3 rfl ?_
        refine z_aload_n dX5_which_31 rfl 0 rfl ?_
        refine z_iload_n dX5_which_32 rfl 1 rfl ?_
        refine z_iload dX5_which_33 4 rfl ?_
        refine z_cVi (As := [.int v1, .int v4]) (rest := [.int v3]) (c_X5_turn X v0 v1 v4 m) mw_X5_turn iw_X5_turn z_X5 wm_X5_175 rfl rfl (by decide) (Nat.le_of_ble_eq_true rfl) dX5_which_35 (fun x2 m3 => ?_)
        refine z_iload_n dX5_which_38 rfl 2 rfl ?_
        refine z_icmp_ne (tg := 49) dX5_which_39 (by decide) ?_ ?_
        · refine z_iconst (v := 0) dX5_which_49 k_c0 ?_
          exact z_sub (lv' := [(0, .ref (z_ad X v0)), (1, .int v1), (2, .int v2), (4, .int v4)]) [0, 1, 2, 4] rfl (s_X5_which_L50 X (f_X5_which_L24 n) ih v0 v1 v2 v4 0 v3 m3)
        · refine z_iconst (v := 1) dX5_which_42 k_c1 ?_
          refine z_iload dX5_which_43 4 rfl ?_
          refine z_ishl dX5_which_45 ?_
          refine z_goto (tg := 50) dX5_which_46 (by decide) ?_
          exact z_sub (lv' := [(0, .ref (z_ad X v0)), (1, .int v1), (2, .int v2), (4, .int v4)]) [0, 1, 2, 4] rfl (s_X5_which_L50 X (f_X5_which_L24 n) ih v0 v1 v2 v4 (1 <<< (v4 &&& 31)) v3 m3)
set_option maxRecDepth 100000 in
set_option maxHeartbeats 4000000 in
theorem s_X5_which (X : z_X) (v0 : Nat) (v1 : Int32) (v2 : Int32) (m : z_M) : z_Sim X yX5_which cX5_which 5 (some .int) 5 0 [(0, .ref (z_ad X v0)), (1, .int v1), (2, .int v2)] [] m (f_X5_which v0 v1 v2 m) := by
  unfold f_X5_which
  refine z_aload_n dX5_which_0 rfl 0 rfl ?_
  refine z_iload_n dX5_which_1 rfl 1 rfl ?_
  refine z_cVi (As := [.int v1]) (rest := []) (c_X5_isMan X v0 v1 m) mw_X5_isMan iw_X5_isMan z_X5 wm_X5_87 rfl rfl (by decide) (Nat.le_of_ble_eq_true rfl) dX5_which_2 (fun x4 m5 => ?_)
  refine z_if_eq (tg := 17) dX5_which_5 (by decide) ?_ ?_
  · refine z_iconst (v := (-1)) dX5_which_17 k_cm1 ?_
    exact z_iret dX5_which_18
  · refine z_iload_n dX5_which_8 rfl 2 rfl ?_
    refine z_iconst (v := 0) dX5_which_9 k_c0 ?_
    refine z_iconst (v := 3) dX5_which_10 k_c3 ?_
    refine z_cSi (As := [.int v2, .int 0, .int 3]) (rest := []) (c_X5_in X v2 0 3 m5) mw_X5_in iw_X5_in wm_X5_45 rfl rfl (by decide) (Nat.le_of_ble_eq_true rfl) dX5_which_11 (fun x6 m7 => ?_)
    refine z_if_ne (tg := 19) dX5_which_14 (by decide) ?_ ?_
    · refine z_iconst (v := 0) dX5_which_19 k_c0 ?_
      refine z_istore_n (lv' := [(3, .int 0), (0, .ref (z_ad X v0)), (1, .int v1), (2, .int v2)]) dX5_which_20 rfl (by decide) rfl ?_
      refine z_iconst (v := 0) dX5_which_21 k_c0 ?_
      refine z_istore (lv' := [(4, .int 0), (3, .int 0), (0, .ref (z_ad X v0)), (1, .int v1), (2, .int v2)]) dX5_which_22 (by decide) rfl ?_
      exact z_sub (lv' := [(0, .ref (z_ad X v0)), (1, .int v1), (2, .int v2), (3, .int 0), (4, .int 0)]) [2, 3, 4, 1, 0] rfl (s_X5_which_L24 X 400 v0 v1 v2 0 0 m7)
    · refine z_iconst (v := (-1)) dX5_which_17 k_cm1 ?_
      exact z_iret dX5_which_18
set_option maxRecDepth 100000 in
set_option maxHeartbeats 4000000 in
theorem c_X5_which (X : z_X) (v0 : Nat) (v1 : Int32) (v2 : Int32) (m : z_M) : z_Ct X yX5_which cX5_which 5 (some .int) 5 [.ref (z_ad X v0), .int v1, .int v2] m (f_X5_which v0 v1 v2 m) := z_Ct.of (by decide) (Nat.le_of_ble_eq_true rfl) (s_X5_which X v0 v1 v2 m)
set_option maxRecDepth 100000 in
set_option maxHeartbeats 4000000 in
theorem s_X5_who (X : z_X) (v0 : Nat) (v1 : Int32) (m : z_M) : z_Sim X yX5_who cX5_who 3 (some .int) 2 0 [(0, .ref (z_ad X v0)), (1, .int v1)] [] m (f_X5_who v0 v1 m) := by
  unfold f_X5_who
  refine z_iload_n dX5_who_0 rfl 1 rfl ?_
  refine z_iconst (v := 0) dX5_who_1 k_c0 ?_
  refine z_iconst (v := 2) dX5_who_2 k_c2 ?_
  refine z_cSi (As := [.int v1, .int 0, .int 2]) (rest := []) (c_X5_in X v1 0 2 m) mw_X5_in iw_X5_in wm_X5_45 rfl rfl (by decide) (Nat.le_of_ble_eq_true rfl) dX5_who_3 (fun x1 m2 => ?_)
  refine z_if_ne (tg := 11) dX5_who_6 (by decide) ?_ ?_
  · refine z_iconst (v := 1) dX5_who_11 k_c1 ?_
    refine z_aload_n dX5_who_12 rfl 0 rfl ?_
    refine z_getP z_X5 (j := 2) (by decide) rfl rfl wf_X5_13 dX5_who_13 (fun a3 => ?_)
    refine z_iconst (v := 0) dX5_who_16 k_c0 ?_
    refine z_iald dX5_who_17 (fun x4 => ?_)
    refine z_ishl dX5_who_18 ?_
    refine z_iconst (v := 1) dX5_who_19 k_c1 ?_
    refine z_isub dX5_who_20 ?_
    refine z_nm (fun x5 => ?_)
    refine z_istore_n (lv' := [(2, .int x5), (0, .ref (z_ad X v0)), (1, .int v1)]) dX5_who_21 rfl (by decide) rfl ?_
    refine z_iload_n dX5_who_22 rfl 2 rfl ?_
    refine z_if_ne (tg := 33) dX5_who_23 (by decide) ?_ ?_
    · refine z_iload_n dX5_who_33 rfl 2 rfl ?_
      refine z_iconst (v := 1) dX5_who_34 k_c1 ?_
      refine z_icmp_ne (tg := 65) dX5_who_35 (by decide) ?_ ?_
      · refine z_aload_n dX5_who_65 rfl 1 rfl ?_
        refine z_getP z_X5 (j := 4) (by decide) rfl rfl wf_X5_19 dX5_who_66 (fun a6 => ?_)
        refine z_bipush (v := 20) dX5_who_69 k_bi20 ?_
        refine z_iald dX5_who_71 (fun x7 => ?_)
        exact z_iret dX5_who_72
      · refine z_aload_n dX5_who_38 rfl 1 rfl ?_
        refine z_getP z_X5 (j := 4) (by decide) rfl rfl wf_X5_19 dX5_who_39 (fun a8 => ?_)
        refine z_bipush (v := 20) dX5_who_42 k_bi20 ?_
        refine z_iald dX5_who_44 (fun x9 => ?_)
        refine z_aload_n dX5_who_45 rfl 1 rfl ?_
        refine z_getP z_X5 (j := 4) (by decide) rfl rfl wf_X5_19 dX5_who_46 (fun a10 => ?_)
        refine z_bipush (v := 21) dX5_who_49 k_bi21 ?_
        refine z_iald dX5_who_51 (fun x11 => ?_)
        refine z_ior dX5_who_52 ?_
        refine z_iload_n dX5_who_53 rfl 0 rfl ?_
        refine z_iand dX5_who_54 ?_
        refine z_aload_n dX5_who_55 rfl 1 rfl ?_
        refine z_cVi (As := []) (rest := [.int ((x9 ||| x11) &&& x5)]) (c_X5_wrong X v0 m2) mw_X5_wrong iw_X5_wrong z_X5 wm_X5_144 rfl rfl (by decide) (Nat.le_of_ble_eq_true rfl) dX5_who_56 (fun x12 m13 => ?_)
        refine z_iconst (v := (-1)) dX5_who_59 k_cm1 ?_
        refine z_ixor dX5_who_60 ?_
        refine z_iand dX5_who_61 ?_
        refine z_goto (tg := 72) dX5_who_62 (by decide) ?_
        exact z_iret dX5_who_72
    · refine z_aload_n dX5_who_26 rfl 1 rfl ?_
      refine z_cVi (As := []) (rest := []) (c_X5_wrong X v0 m2) mw_X5_wrong iw_X5_wrong z_X5 wm_X5_144 rfl rfl (by decide) (Nat.le_of_ble_eq_true rfl) dX5_who_27 (fun x14 m15 => ?_)
      refine z_goto (tg := 72) dX5_who_30 (by decide) ?_
      exact z_iret dX5_who_72
  · refine z_iconst (v := (-1)) dX5_who_9 k_cm1 ?_
    exact z_iret dX5_who_10
set_option maxRecDepth 100000 in
set_option maxHeartbeats 4000000 in
theorem c_X5_who (X : z_X) (v0 : Nat) (v1 : Int32) (m : z_M) : z_Ct X yX5_who cX5_who 3 (some .int) 2 [.ref (z_ad X v0), .int v1] m (f_X5_who v0 v1 m) := z_Ct.of (by decide) (Nat.le_of_ble_eq_true rfl) (s_X5_who X v0 v1 m)
set_option maxRecDepth 100000 in
set_option maxHeartbeats 4000000 in
theorem s_X5_wipe (X : z_X) (v0 : Nat) (m : z_M) : z_Sim X yX5_wipe cX5_wipe 2 (some .int) 0 0 [(0, .ref (z_ad X v0))] [] m (f_X5_wipe v0 m) := by
  unfold f_X5_wipe
  refine z_aload_n dX5_wipe_0 rfl 0 rfl ?_
  refine z_getI z_X5 (j := 1) (by decide) rfl rfl wf_X5_49 dX5_wipe_1 (fun x1 => ?_)
  refine z_istore_n (lv' := [(1, .int x1), (0, .ref (z_ad X v0))]) dX5_wipe_4 rfl (by decide) rfl ?_
  refine z_aload_n dX5_wipe_5 rfl 1 rfl ?_
  refine z_iconst (v := 0) dX5_wipe_6 k_c0 ?_
  refine z_setI z_X5 (by decide) rfl rfl wf_X5_49 dX5_wipe_7 ?_
  generalize z_wI m v0 1 0 = m2
  refine z_iload_n dX5_wipe_10 rfl 0 rfl ?_
  exact z_iret dX5_wipe_11
set_option maxRecDepth 100000 in
set_option maxHeartbeats 4000000 in
theorem c_X5_wipe (X : z_X) (v0 : Nat) (m : z_M) : z_Ct X yX5_wipe cX5_wipe 2 (some .int) 0 [.ref (z_ad X v0)] m (f_X5_wipe v0 m) := z_Ct.of (by decide) (Nat.le_of_ble_eq_true rfl) (s_X5_wipe X v0 m)
set_option maxRecDepth 100000 in
set_option maxHeartbeats 4000000 in
theorem s_X5_word (X : z_X) (v0 : Nat) (v1 : Int32) (m : z_M) : z_Sim X yX5_word cX5_word 2 (some .int) 5 0 [(0, .ref (z_ad X v0)), (1, .int v1)] [] m (f_X5_word v0 v1 m) := by
  unfold f_X5_word
  refine z_iload_n dX5_word_0 rfl 1 rfl ?_
  refine z_cSi (As := [.int v1]) (rest := []) (c_X5_isWord X v1 m) mw_X5_isWord iw_X5_isWord wm_X5_130 rfl rfl (by decide) (Nat.le_of_ble_eq_true rfl) dX5_word_1 (fun x1 m2 => ?_)
  refine z_if_ne (tg := 9) dX5_word_4 (by decide) ?_ ?_
  · refine z_aload_n dX5_word_9 rfl 0 rfl ?_
    refine z_getP z_X5 (j := 4) (by decide) rfl rfl wf_X5_19 dX5_word_10 (fun a3 => ?_)
    refine z_bipush (v := 17) dX5_word_13 k_bi17 ?_
    refine z_iald dX5_word_15 (fun x4 => ?_)
    refine z_sipush (v := 999) dX5_word_16 k_si999 ?_
    refine z_icmp_ne (tg := 25) dX5_word_19 (by decide) ?_ ?_
    · refine z_aload_n dX5_word_25 rfl 0 rfl ?_
      refine z_cVv (As := []) (rest := []) (c_X5_keeps X v0 m2) mw_X5_keeps iw_X5_keeps z_X5 wm_X5_133 rfl rfl (by decide) (Nat.le_of_ble_eq_true rfl) dX5_word_26 (fun _ m5 => ?_)
      refine z_aload_n dX5_word_29 rfl 0 rfl ?_
      refine z_iload_n dX5_word_30 rfl 1 rfl ?_
      refine z_aload_n dX5_word_31 rfl 0 rfl ?_
      refine z_iconst (v := 0) dX5_word_32 k_c0 ?_
      refine z_cVi (As := [.int 0]) (rest := [.int v1, .ref (z_ad X v0)]) (c_X5_errors X v0 0 m5) mw_X5_errors iw_X5_errors z_X5 wm_X5_136 rfl rfl (by decide) (Nat.le_of_ble_eq_true rfl) dX5_word_33 (fun x6 m7 => ?_)
      refine z_cVv (As := [.int v1, .int x6]) (rest := []) (c_X5_says X v0 v1 x6 m7) mw_X5_says iw_X5_says z_X5 wm_X5_140 rfl rfl (by decide) (Nat.le_of_ble_eq_true rfl) dX5_word_36 (fun _ m8 => ?_)
      refine z_aload_n dX5_word_39 rfl 0 rfl ?_
      refine z_cVi (As := []) (rest := []) (c_X5_wrong X v0 m8) mw_X5_wrong iw_X5_wrong z_X5 wm_X5_144 rfl rfl (by decide) (Nat.le_of_ble_eq_true rfl) dX5_word_40 (fun x9 m10 => ?_)
      refine z_cSi (As := [.int x9]) (rest := []) (c_X5_ones X x9 m10) mw_X5_ones iw_X5_ones wm_X5_147 rfl rfl (by decide) (Nat.le_of_ble_eq_true rfl) dX5_word_43 (fun x11 m12 => ?_)
      exact z_iret dX5_word_46
    · refine z_bipush (v := (-2)) dX5_word_22 k_bim2 ?_
      exact z_iret dX5_word_24
  · refine z_iconst (v := (-1)) dX5_word_7 k_cm1 ?_
    exact z_iret dX5_word_8
set_option maxRecDepth 100000 in
set_option maxHeartbeats 4000000 in
theorem c_X5_word (X : z_X) (v0 : Nat) (v1 : Int32) (m : z_M) : z_Ct X yX5_word cX5_word 2 (some .int) 5 [.ref (z_ad X v0), .int v1] m (f_X5_word v0 v1 m) := z_Ct.of (by decide) (Nat.le_of_ble_eq_true rfl) (s_X5_word X v0 v1 m)
set_option maxRecDepth 100000 in
set_option maxHeartbeats 4000000 in
theorem s_X5_write (X : z_X) (v0 : Nat) (v1 : Int32) (m : z_M) : z_Sim X yX5_write cX5_write 2 (some .int) 1 0 [(0, .ref (z_ad X v0)), (1, .int v1)] [] m (f_X5_write v0 v1 m) := by
  unfold f_X5_write
  refine z_iload_n dX5_write_0 rfl 1 rfl ?_
  refine z_bipush (v := 32) dX5_write_1 k_bi32 ?_
  refine z_bipush (v := 126) dX5_write_3 k_bi126 ?_
  refine z_cSi (As := [.int v1, .int 32, .int 126]) (rest := []) (c_X5_in X v1 32 126 m) mw_X5_in iw_X5_in wm_X5_45 rfl rfl (by decide) (Nat.le_of_ble_eq_true rfl) dX5_write_5 (fun x1 m2 => ?_)
  refine z_if_ne (tg := 13) dX5_write_8 (by decide) ?_ ?_
  · refine z_aload_n dX5_write_13 rfl 0 rfl ?_
    refine z_getI z_X5 (j := 1) (by decide) rfl rfl wf_X5_49 dX5_write_14 (fun x3 => ?_)
    refine z_sipush (v := 200) dX5_write_17 k_si200 ?_
    refine z_icmp_ne (tg := 26) dX5_write_20 (by decide) ?_ ?_
    · refine z_aload_n dX5_write_26 rfl 0 rfl ?_
      refine z_getP z_X5 (j := 0) (by decide) rfl rfl wf_X5_7 dX5_write_27 (fun a4 => ?_)
      refine z_aload_n dX5_write_30 rfl 0 rfl ?_
      refine z_getI z_X5 (j := 1) (by decide) rfl rfl wf_X5_49 dX5_write_31 (fun x5 => ?_)
      refine z_iload_n dX5_write_34 rfl 1 rfl ?_
      refine z_iast dX5_write_35 ?_
      generalize z_wI m2 a4 (Int32.toNatClampNeg x5) v1 = m6
      refine z_aload_n dX5_write_36 rfl 0 rfl ?_
      refine z_dup dX5_write_37 rfl ?_
      refine z_getI z_X5 (j := 1) (by decide) rfl rfl wf_X5_49 dX5_write_38 (fun x7 => ?_)
      refine z_iconst (v := 1) dX5_write_41 k_c1 ?_
      refine z_iadd dX5_write_42 ?_
      refine z_nm (fun x8 => ?_)
      refine z_setI z_X5 (by decide) rfl rfl wf_X5_49 dX5_write_43 ?_
      generalize z_wI m6 v0 1 x8 = m9
      refine z_aload_n dX5_write_46 rfl 0 rfl ?_
      refine z_getI z_X5 (j := 1) (by decide) rfl rfl wf_X5_49 dX5_write_47 (fun x10 => ?_)
      exact z_iret dX5_write_50
    · refine z_bipush (v := (-3)) dX5_write_23 k_bim3 ?_
      exact z_iret dX5_write_25
  · refine z_iconst (v := (-1)) dX5_write_11 k_cm1 ?_
    exact z_iret dX5_write_12
set_option maxRecDepth 100000 in
set_option maxHeartbeats 4000000 in
theorem c_X5_write (X : z_X) (v0 : Nat) (v1 : Int32) (m : z_M) : z_Ct X yX5_write cX5_write 2 (some .int) 1 [.ref (z_ad X v0), .int v1] m (f_X5_write v0 v1 m) := z_Ct.of (by decide) (Nat.le_of_ble_eq_true rfl) (s_X5_write X v0 v1 m)
