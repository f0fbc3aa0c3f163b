set_option maxRecDepth 100000 in
set_option maxHeartbeats 4000000 in
theorem s_J6_bitCount_0f7a4 (X : z_X) (v0 : Int32) (m : z_M) : z_Sim X yJ6_bitCount_0f7a4 cJ6_bitCount_0f7a4 1 (some .int) 0 0 [(0, .int v0)] [] m (f_J6_bitCount_0f7a4 v0 m) := by
  unfold f_J6_bitCount_0f7a4
  refine z_iload_n dJ6_bitCount_0f7a4_0 rfl 0 rfl ?_
  refine z_iload_n dJ6_bitCount_0f7a4_1 rfl 0 rfl ?_
  refine z_iconst (v := 1) dJ6_bitCount_0f7a4_2 k_c1 ?_
  refine z_iushr dJ6_bitCount_0f7a4_3 ?_
  refine z_ldcw dJ6_bitCount_0f7a4_4 wk_J6_265 ?_
  refine z_iand dJ6_bitCount_0f7a4_7 ?_
  refine z_isub dJ6_bitCount_0f7a4_8 ?_
  refine z_nm (fun x1 => ?_)
  refine z_istore_n (lv' := [(0, .int x1)]) dJ6_bitCount_0f7a4_9 rfl (by decide) rfl ?_
  refine z_iload_n dJ6_bitCount_0f7a4_10 rfl 0 rfl ?_
  refine z_ldcw dJ6_bitCount_0f7a4_11 wk_J6_266 ?_
  refine z_iand dJ6_bitCount_0f7a4_14 ?_
  refine z_iload_n dJ6_bitCount_0f7a4_15 rfl 0 rfl ?_
  refine z_iconst (v := 2) dJ6_bitCount_0f7a4_16 k_c2 ?_
  refine z_iushr dJ6_bitCount_0f7a4_17 ?_
  refine z_ldcw dJ6_bitCount_0f7a4_18 wk_J6_266 ?_
  refine z_iand dJ6_bitCount_0f7a4_21 ?_
  refine z_iadd dJ6_bitCount_0f7a4_22 ?_
  refine z_nm (fun x2 => ?_)
  refine z_istore_n (lv' := [(0, .int x2)]) dJ6_bitCount_0f7a4_23 rfl (by decide) rfl ?_
  refine z_iload_n dJ6_bitCount_0f7a4_24 rfl 0 rfl ?_
  refine z_iload_n dJ6_bitCount_0f7a4_25 rfl 0 rfl ?_
  refine z_iconst (v := 4) dJ6_bitCount_0f7a4_26 k_c4 ?_
  refine z_iushr dJ6_bitCount_0f7a4_27 ?_
  refine z_iadd dJ6_bitCount_0f7a4_28 ?_
  refine z_ldcw dJ6_bitCount_0f7a4_29 wk_J6_267 ?_
  refine z_iand dJ6_bitCount_0f7a4_32 ?_
  refine z_nm (fun x3 => ?_)
  refine z_istore_n (lv' := [(0, .int x3)]) dJ6_bitCount_0f7a4_33 rfl (by decide) rfl ?_
  refine z_iload_n dJ6_bitCount_0f7a4_34 rfl 0 rfl ?_
  refine z_iload_n dJ6_bitCount_0f7a4_35 rfl 0 rfl ?_
  refine z_bipush (v := 8) dJ6_bitCount_0f7a4_36 k_bi8 ?_
  refine z_iushr dJ6_bitCount_0f7a4_38 ?_
  refine z_iadd dJ6_bitCount_0f7a4_39 ?_
  refine z_nm (fun x4 => ?_)
  refine z_istore_n (lv' := [(0, .int x4)]) dJ6_bitCount_0f7a4_40 rfl (by decide) rfl ?_
  refine z_iload_n dJ6_bitCount_0f7a4_41 rfl 0 rfl ?_
  refine z_iload_n dJ6_bitCount_0f7a4_42 rfl 0 rfl ?_
  refine z_bipush (v := 16) dJ6_bitCount_0f7a4_43 k_bi16 ?_
  refine z_iushr dJ6_bitCount_0f7a4_45 ?_
  refine z_iadd dJ6_bitCount_0f7a4_46 ?_
  refine z_nm (fun x5 => ?_)
  refine z_istore_n (lv' := [(0, .int x5)]) dJ6_bitCount_0f7a4_47 rfl (by decide) rfl ?_
  refine z_iload_n dJ6_bitCount_0f7a4_48 rfl 0 rfl ?_
  refine z_bipush (v := 63) dJ6_bitCount_0f7a4_49 k_bi63 ?_
  refine z_iand dJ6_bitCount_0f7a4_51 ?_
  exact z_iret dJ6_bitCount_0f7a4_52
set_option maxRecDepth 100000 in
set_option maxHeartbeats 4000000 in
theorem c_J6_bitCount_0f7a4 (X : z_X) (v0 : Int32) (m : z_M) : z_Ct X yJ6_bitCount_0f7a4 cJ6_bitCount_0f7a4 1 (some .int) 0 [.int v0] m (f_J6_bitCount_0f7a4 v0 m) := z_Ct.of (by decide) (Nat.le_of_ble_eq_true rfl) (s_J6_bitCount_0f7a4 X v0 m)
set_option maxRecDepth 100000 in
set_option maxHeartbeats 4000000 in
theorem s_X3_init (X : z_X) (v0 : Nat) (m : z_M) : z_Sim X yX3_init cX3_init 1 none 1 0 [(0, .ref (z_ad X v0))] [] m (f_X3_init v0 m) := by
  unfold f_X3_init
  refine z_aload_n dX3_init_0 rfl 0 rfl ?_
  refine z_oinit (by decide) (Nat.le_of_ble_eq_true rfl) wm_X3_3 dX3_init_1 ?_
  refine z_aload_n dX3_init_4 rfl 0 rfl ?_
  refine z_bipush (v := 8) dX3_init_5 k_bi8 ?_
  refine z_newI dX3_init_7 (fun a1 m2 => ?_)
  refine z_setF (t0 := (.array .int)) z_X3 (by decide) rfl rfl rfl rfl wf_X3_9 (by decide +kernel) (fun _ => rfl) (fun _ => rfl) dX3_init_9 ?_
  generalize z_wP m2 v0 0 a1 = m3
  refine z_aload_n dX3_init_12 rfl 0 rfl ?_
  refine z_bipush (v := 8) dX3_init_13 k_bi8 ?_
  refine z_newI dX3_init_15 (fun a4 m5 => ?_)
  refine z_setF (t0 := (.array .int)) z_X3 (by decide) rfl rfl rfl rfl wf_X3_15 (by decide +kernel) (fun _ => rfl) (fun _ => rfl) dX3_init_17 ?_
  generalize z_wP m5 v0 1 a4 = m6
  exact z_vret dX3_init_20
set_option maxRecDepth 100000 in
set_option maxHeartbeats 4000000 in
theorem c_X3_init (X : z_X) (v0 : Nat) (m : z_M) : z_Ct X yX3_init cX3_init 1 none 1 [.ref (z_ad X v0)] m (f_X3_init v0 m) := z_Ct.of (by decide) (Nat.le_of_ble_eq_true rfl) (s_X3_init X v0 m)
set_option maxRecDepth 100000 in
set_option maxHeartbeats 4000000 in
theorem s_X0_init_L18 (X : z_X) : ∀ (n : Nat) (v0 : Nat) (v2 : Int32) (m : z_M), z_Sim X yX0_init cX0_init 3 none 2 18 [(0, .ref (z_ad X v0)), (2, .int v2)] [] m (f_X0_init_L18 n v0 v2 m) := by
  intro n
  induction n with
  | zero => intros; exact z_none
  | succ n ih =>
      intro v0 v2 m
      unfold f_X0_init_L18
      refine z_iload_n dX0_init_18 rfl 1 rfl ?_
      refine z_aload_n dX0_init_19 rfl 0 rfl ?_
      refine z_getP z_X0 (j := 0) (by decide) rfl rfl wf_X0_15 dX0_init_20 (fun a1 => ?_)
      refine z_alen dX0_init_23 (fun x2 => ?_)
      refine z_icmp_ge (tg := 46) dX0_init_24 (by decide) ?_ ?_
      · exact z_vret dX0_init_46
      · refine z_aload_n dX0_init_27 rfl 0 rfl ?_
        refine z_getP z_X0 (j := 0) (by decide) rfl rfl wf_X0_15 dX0_init_28 (fun a3 => ?_)
        refine z_iload_n dX0_init_31 rfl 1 rfl ?_
        refine z_new z_X3 wc_X0_13 wi_X3 wn_X3 dX0_init_32 (fun a4 m5 => ?_)
        refine z_dup dX0_init_35 rfl ?_
        refine z_cN (As := []) (rest := [.ref (z_ad X a4), .int v2, .ref (z_ad X a3)]) (c_X3_init X a4 m5) mw_X3_init iw_X3_init rfl wm_X0_21 rfl rfl (by decide) (Nat.le_of_ble_eq_true rfl) dX0_init_36 (fun _ m6 => ?_)
        refine z_aast dX0_init_39 ?_
        generalize z_wP m6 a3 (Int32.toNatClampNeg v2) a4 = m7
        refine z_iinc (k := 1) (lv' := [(2, .int (v2 + 1)), (0, .ref (z_ad X v0))]) dX0_init_40 rfl (k_i1 _) (by decide) rfl ?_
        refine z_goto (tg := 18) dX0_init_43 (by decide) ?_
        exact z_sub (lv' := [(0, .ref (z_ad X v0)), (2, .int (v2 + 1))]) [1, 0] rfl (ih v0 (v2 + 1) m7)
set_option maxRecDepth 100000 in
set_option maxHeartbeats 4000000 in
theorem s_X0_init (X : z_X) (v0 : Nat) (v1 : Int32) (m : z_M) : z_Sim X yX0_init cX0_init 3 none 2 0 [(0, .ref (z_ad X v0)), (1, .int v1)] [] m (f_X0_init v0 v1 m) := by
  unfold f_X0_init
  refine z_aload_n dX0_init_0 rfl 0 rfl ?_
  refine z_oinit (by decide) (Nat.le_of_ble_eq_true rfl) wm_X0_1 dX0_init_1 ?_
  refine z_aload_n dX0_init_4 rfl 0 rfl ?_
  refine z_iload_n dX0_init_5 rfl 1 rfl ?_
  refine z_iconst (v := 1) dX0_init_6 k_c1 ?_
  refine z_mmax (by decide) wm_X0_7 (Nat.le_of_ble_eq_true rfl) dX0_init_7 ?_
  refine z_newR wc_X0_13 dX0_init_10 (fun a8 m9 => ?_)
  refine z_setF (t0 := (.array (.object "HayFootStraw$Standing"))) z_X0 (by decide) rfl rfl rfl rfl wf_X0_15 (by decide +kernel) (fun _ => rfl) (fun _ => rfl) dX0_init_13 ?_
  generalize z_wP m9 v0 0 a8 = m10
  refine z_iconst (v := 0) dX0_init_16 k_c0 ?_
  refine z_istore_n (lv' := [(2, .int 0), (0, .ref (z_ad X v0)), (1, .int v1)]) dX0_init_17 rfl (by decide) rfl ?_
  exact z_sub (lv' := [(0, .ref (z_ad X v0)), (2, .int 0)]) [1, 0] rfl (s_X0_init_L18 X 400 v0 0 m10)
set_option maxRecDepth 100000 in
set_option maxHeartbeats 4000000 in
theorem c_X0_init (X : z_X) (v0 : Nat) (v1 : Int32) (m : z_M) : z_Ct X yX0_init cX0_init 3 none 2 [.ref (z_ad X v0), .int v1] m (f_X0_init v0 v1 m) := z_Ct.of (by decide) (Nat.le_of_ble_eq_true rfl) (s_X0_init X v0 v1 m)
set_option maxRecDepth 100000 in
set_option maxHeartbeats 4000000 in
theorem s_X0_loseOldest_L9 (X : z_X) : ∀ (n : Nat) (v0 : Nat) (v1 : Nat) (v2 : Int32) (m : z_M), z_Sim X yX0_loseOldest cX0_loseOldest 3 none 0 9 [(0, .ref (z_ad X v0)), (1, .ref (z_ad X v1)), (2, .int v2)] [] m (f_X0_loseOldest_L9 n v0 v1 v2 m) := by
  intro n
  induction n with
  | zero => intros; exact z_none
  | succ n ih =>
      intro v0 v1 v2 m
      unfold f_X0_loseOldest_L9
      refine z_iload_n dX0_loseOldest_9 rfl 2 rfl ?_
      refine z_aload_n dX0_loseOldest_10 rfl 0 rfl ?_
      refine z_getP z_X0 (j := 0) (by decide) rfl rfl wf_X0_15 dX0_loseOldest_11 (fun a1 => ?_)
      refine z_alen dX0_loseOldest_14 (fun x2 => ?_)
      refine z_icmp_ge (tg := 38) dX0_loseOldest_15 (by decide) ?_ ?_
      · refine z_aload_n dX0_loseOldest_38 rfl 0 rfl ?_
        refine z_getP z_X0 (j := 0) (by decide) rfl rfl wf_X0_15 dX0_loseOldest_39 (fun a3 => ?_)
        refine z_aload_n dX0_loseOldest_42 rfl 0 rfl ?_
        refine z_getP z_X0 (j := 0) (by decide) rfl rfl wf_X0_15 dX0_loseOldest_43 (fun a4 => ?_)
        refine z_alen dX0_loseOldest_46 (fun x5 => ?_)
        refine z_iconst (v := 1) dX0_loseOldest_47 k_c1 ?_
        refine z_isub dX0_loseOldest_48 ?_
        refine z_aload_n dX0_loseOldest_49 rfl 1 rfl ?_
        refine z_aast dX0_loseOldest_50 ?_
        generalize z_wP m a3 (Int32.toNatClampNeg (x5 - 1)) v1 = m6
        refine z_aload_n dX0_loseOldest_51 rfl 0 rfl ?_
        refine z_aload_n dX0_loseOldest_52 rfl 0 rfl ?_
        refine z_getP z_X0 (j := 0) (by decide) rfl rfl wf_X0_15 dX0_loseOldest_53 (fun a7 => ?_)
        refine z_alen dX0_loseOldest_56 (fun x8 => ?_)
        refine z_iconst (v := 1) dX0_loseOldest_57 k_c1 ?_
        refine z_isub dX0_loseOldest_58 ?_
        refine z_nm (fun x9 => ?_)
        refine z_setI z_X0 (by decide) rfl rfl wf_X0_22 dX0_loseOldest_59 ?_
        generalize z_wI m6 v0 1 x9 = m10
        exact z_vret dX0_loseOldest_62
      · refine z_aload_n dX0_loseOldest_18 rfl 0 rfl ?_
        refine z_getP z_X0 (j := 0) (by decide) rfl rfl wf_X0_15 dX0_loseOldest_19 (fun a11 => ?_)
        refine z_iload_n dX0_loseOldest_22 rfl 2 rfl ?_
        refine z_iconst (v := 1) dX0_loseOldest_23 k_c1 ?_
        refine z_isub dX0_loseOldest_24 ?_
        refine z_aload_n dX0_loseOldest_25 rfl 0 rfl ?_
        refine z_getP z_X0 (j := 0) (by decide) rfl rfl wf_X0_15 dX0_loseOldest_26 (fun a12 => ?_)
        refine z_iload_n dX0_loseOldest_29 rfl 2 rfl ?_
        refine z_aald dX0_loseOldest_30 (fun a13 => ?_)
        refine z_aast dX0_loseOldest_31 ?_
        generalize z_wP m a11 (Int32.toNatClampNeg (v2 - 1)) a13 = m14
        refine z_iinc (k := 2) (lv' := [(2, .int (v2 + 1)), (0, .ref (z_ad X v0)), (1, .ref (z_ad X v1))]) dX0_loseOldest_32 rfl (k_i1 _) (by decide) rfl ?_
        refine z_goto (tg := 9) dX0_loseOldest_35 (by decide) ?_
        exact z_sub (lv' := [(0, .ref (z_ad X v0)), (1, .ref (z_ad X v1)), (2, .int (v2 + 1))]) [1, 2, 0] rfl (ih v0 v1 (v2 + 1) m14)
set_option maxRecDepth 100000 in
set_option maxHeartbeats 4000000 in
theorem s_X0_loseOldest (X : z_X) (v0 : Nat) (m : z_M) : z_Sim X yX0_loseOldest cX0_loseOldest 3 none 0 0 [(0, .ref (z_ad X v0))] [] m (f_X0_loseOldest v0 m) := by
  unfold f_X0_loseOldest
  refine z_aload_n dX0_loseOldest_0 rfl 0 rfl ?_
  refine z_getP z_X0 (j := 0) (by decide) rfl rfl wf_X0_15 dX0_loseOldest_1 (fun a15 => ?_)
  refine z_iconst (v := 0) dX0_loseOldest_4 k_c0 ?_
  refine z_aald dX0_loseOldest_5 (fun a16 => ?_)
  refine z_astore_n (lv' := [(1, .ref (z_ad X a16)), (0, .ref (z_ad X v0))]) dX0_loseOldest_6 rfl (by decide) rfl ?_
  refine z_iconst (v := 1) dX0_loseOldest_7 k_c1 ?_
  refine z_istore_n (lv' := [(2, .int 1), (1, .ref (z_ad X a16)), (0, .ref (z_ad X v0))]) dX0_loseOldest_8 rfl (by decide) rfl ?_
  exact z_sub (lv' := [(0, .ref (z_ad X v0)), (1, .ref (z_ad X a16)), (2, .int 1)]) [2, 1, 0] rfl (s_X0_loseOldest_L9 X 400 v0 a16 1 m)
set_option maxRecDepth 100000 in
set_option maxHeartbeats 4000000 in
theorem c_X0_loseOldest (X : z_X) (v0 : Nat) (m : z_M) : z_Ct X yX0_loseOldest cX0_loseOldest 3 none 0 [.ref (z_ad X v0)] m (f_X0_loseOldest v0 m) := z_Ct.of (by decide) (Nat.le_of_ble_eq_true rfl) (s_X0_loseOldest X v0 m)
set_option maxRecDepth 100000 in
set_option maxHeartbeats 4000000 in
theorem s_X3_copy (X : z_X) (v0 : Nat) (v1 : Nat) (m : z_M) : z_Sim X yX3_copy cX3_copy 2 none 1 0 [(0, .ref (z_ad X v0)), (1, .ref (z_ad X v1))] [] m (f_X3_copy v0 v1 m) := by
  unfold f_X3_copy
  refine z_aload_n dX3_copy_0 rfl 1 rfl ?_
  refine z_getP z_X3 (j := 0) (by decide) rfl rfl wf_X3_9 dX3_copy_1 (fun a1 => ?_)
  refine z_iconst (v := 0) dX3_copy_4 k_c0 ?_
  refine z_aload_n dX3_copy_5 rfl 0 rfl ?_
  refine z_getP z_X3 (j := 0) (by decide) rfl rfl wf_X3_9 dX3_copy_6 (fun a2 => ?_)
  refine z_iconst (v := 0) dX3_copy_9 k_c0 ?_
  refine z_bipush (v := 8) dX3_copy_10 k_bi8 ?_
  refine z_copy (by decide) wm_X3_21 (Nat.le_of_ble_eq_true rfl) dX3_copy_12 (fun m3 => ?_)
  refine z_aload_n dX3_copy_15 rfl 1 rfl ?_
  refine z_getP z_X3 (j := 1) (by decide) rfl rfl wf_X3_15 dX3_copy_16 (fun a4 => ?_)
  refine z_iconst (v := 0) dX3_copy_19 k_c0 ?_
  refine z_aload_n dX3_copy_20 rfl 0 rfl ?_
  refine z_getP z_X3 (j := 1) (by decide) rfl rfl wf_X3_15 dX3_copy_21 (fun a5 => ?_)
  refine z_iconst (v := 0) dX3_copy_24 k_c0 ?_
  refine z_bipush (v := 8) dX3_copy_25 k_bi8 ?_
  refine z_copy (by decide) wm_X3_21 (Nat.le_of_ble_eq_true rfl) dX3_copy_27 (fun m6 => ?_)
  refine z_aload_n dX3_copy_30 rfl 0 rfl ?_
  refine z_aload_n dX3_copy_31 rfl 1 rfl ?_
  refine z_getI z_X3 (j := 2) (by decide) rfl rfl wf_X3_32 dX3_copy_32 (fun x7 => ?_)
  refine z_setI z_X3 (by decide) rfl rfl wf_X3_32 dX3_copy_35 ?_
  generalize z_wI m6 v0 2 x7 = m8
  refine z_aload_n dX3_copy_38 rfl 0 rfl ?_
  refine z_aload_n dX3_copy_39 rfl 1 rfl ?_
  refine z_getI z_X3 (j := 3) (by decide) rfl rfl wf_X3_33 dX3_copy_40 (fun x9 => ?_)
  refine z_setI z_X3 (by decide) rfl rfl wf_X3_33 dX3_copy_43 ?_
  generalize z_wI m8 v0 3 x9 = m10
  refine z_aload_n dX3_copy_46 rfl 0 rfl ?_
  refine z_aload_n dX3_copy_47 rfl 1 rfl ?_
  refine z_getI z_X3 (j := 4) (by decide) rfl rfl wf_X3_36 dX3_copy_48 (fun x11 => ?_)
  refine z_setI z_X3 (by decide) rfl rfl wf_X3_36 dX3_copy_51 ?_
  generalize z_wI m10 v0 4 x11 = m12
  refine z_aload_n dX3_copy_54 rfl 0 rfl ?_
  refine z_aload_n dX3_copy_55 rfl 1 rfl ?_
  refine z_getI z_X3 (j := 5) (by decide) rfl rfl wf_X3_39 dX3_copy_56 (fun x13 => ?_)
  refine z_setI z_X3 (by decide) rfl rfl wf_X3_39 dX3_copy_59 ?_
  generalize z_wI m12 v0 5 x13 = m14
  refine z_aload_n dX3_copy_62 rfl 0 rfl ?_
  refine z_aload_n dX3_copy_63 rfl 1 rfl ?_
  refine z_getI z_X3 (j := 6) (by decide) rfl rfl wf_X3_42 dX3_copy_64 (fun x15 => ?_)
  refine z_setI z_X3 (by decide) rfl rfl wf_X3_42 dX3_copy_67 ?_
  generalize z_wI m14 v0 6 x15 = m16
  refine z_aload_n dX3_copy_70 rfl 0 rfl ?_
  refine z_aload_n dX3_copy_71 rfl 1 rfl ?_
  refine z_getI z_X3 (j := 7) (by decide) rfl rfl wf_X3_45 dX3_copy_72 (fun x17 => ?_)
  refine z_setI z_X3 (by decide) rfl rfl wf_X3_45 dX3_copy_75 ?_
  generalize z_wI m16 v0 7 x17 = m18
  exact z_vret dX3_copy_78
set_option maxRecDepth 100000 in
set_option maxHeartbeats 4000000 in
theorem c_X3_copy (X : z_X) (v0 : Nat) (v1 : Nat) (m : z_M) : z_Ct X yX3_copy cX3_copy 2 none 1 [.ref (z_ad X v0), .ref (z_ad X v1)] m (f_X3_copy v0 v1 m) := z_Ct.of (by decide) (Nat.le_of_ble_eq_true rfl) (s_X3_copy X v0 v1 m)
set_option maxRecDepth 100000 in
set_option maxHeartbeats 4000000 in
theorem s_X0_put_L16 (X : z_X) (v0 : Nat) (v1 : Nat) (m : z_M) : z_Sim X yX0_put cX0_put 2 none 2 16 [(0, .ref (z_ad X v0)), (1, .ref (z_ad X v1))] [] m (f_X0_put_L16 v0 v1 m) := by
  unfold f_X0_put_L16
  refine z_aload_n dX0_put_16 rfl 0 rfl ?_
  refine z_getP z_X0 (j := 0) (by decide) rfl rfl wf_X0_15 dX0_put_17 (fun a1 => ?_)
  refine z_aload_n dX0_put_20 rfl 0 rfl ?_
  refine z_getI z_X0 (j := 1) (by decide) rfl rfl wf_X0_22 dX0_put_21 (fun x2 => ?_)
  refine z_aald dX0_put_24 (fun a3 => ?_)
  refine z_aload_n dX0_put_25 rfl 1 rfl ?_
  refine z_cVv (As := [.ref (z_ad X v1)]) (rest := []) (c_X3_copy X a3 v1 m) mw_X3_copy iw_X3_copy z_X3 wm_X0_29 rfl rfl (by decide) (Nat.le_of_ble_eq_true rfl) dX0_put_26 (fun _ m4 => ?_)
  refine z_aload_n dX0_put_29 rfl 0 rfl ?_
  refine z_dup dX0_put_30 rfl ?_
  refine z_getI z_X0 (j := 1) (by decide) rfl rfl wf_X0_22 dX0_put_31 (fun x5 => ?_)
  refine z_iconst (v := 1) dX0_put_34 k_c1 ?_
  refine z_iadd dX0_put_35 ?_
  refine z_nm (fun x6 => ?_)
  refine z_setI z_X0 (by decide) rfl rfl wf_X0_22 dX0_put_36 ?_
  generalize z_wI m4 v0 1 x6 = m7
  exact z_vret dX0_put_39
set_option maxRecDepth 100000 in
set_option maxHeartbeats 4000000 in
theorem s_X0_put (X : z_X) (v0 : Nat) (v1 : Nat) (m : z_M) : z_Sim X yX0_put cX0_put 2 none 2 0 [(0, .ref (z_ad X v0)), (1, .ref (z_ad X v1))] [] m (f_X0_put v0 v1 m) := by
  unfold f_X0_put
  refine z_aload_n dX0_put_0 rfl 0 rfl ?_
  refine z_getI z_X0 (j := 1) (by decide) rfl rfl wf_X0_22 dX0_put_1 (fun x8 => ?_)
  refine z_aload_n dX0_put_4 rfl 0 rfl ?_
  refine z_getP z_X0 (j := 0) (by decide) rfl rfl wf_X0_15 dX0_put_5 (fun a9 => ?_)
  refine z_alen dX0_put_8 (fun x10 => ?_)
  refine z_icmp_lt (tg := 16) dX0_put_9 (by decide) ?_ ?_
  · exact z_sub (lv' := [(0, .ref (z_ad X v0)), (1, .ref (z_ad X v1))]) [0, 1] rfl (s_X0_put_L16 X v0 v1 m)
  · refine z_aload_n dX0_put_12 rfl 0 rfl ?_
    refine z_cVv (As := []) (rest := []) (c_X0_loseOldest X v0 m) mw_X0_loseOldest iw_X0_loseOldest z_X0 wm_X0_26 rfl rfl (by decide) (Nat.le_of_ble_eq_true rfl) dX0_put_13 (fun _ m11 => ?_)
    exact z_sub (lv' := [(0, .ref (z_ad X v0)), (1, .ref (z_ad X v1))]) [0, 1] rfl (s_X0_put_L16 X v0 v1 m11)
set_option maxRecDepth 100000 in
set_option maxHeartbeats 4000000 in
theorem c_X0_put (X : z_X) (v0 : Nat) (v1 : Nat) (m : z_M) : z_Ct X yX0_put cX0_put 2 none 2 [.ref (z_ad X v0), .ref (z_ad X v1)] m (f_X0_put v0 v1 m) := z_Ct.of (by decide) (Nat.le_of_ble_eq_true rfl) (s_X0_put X v0 v1 m)
set_option maxRecDepth 100000 in
set_option maxHeartbeats 4000000 in
theorem s_X0_takeTop (X : z_X) (v0 : Nat) (v1 : Nat) (m : z_M) : z_Sim X yX0_takeTop cX0_takeTop 2 (some .boolean) 2 0 [(0, .ref (z_ad X v0)), (1, .ref (z_ad X v1))] [] m (f_X0_takeTop v0 v1 m) := by
  unfold f_X0_takeTop
  refine z_aload_n dX0_takeTop_0 rfl 0 rfl ?_
  refine z_getI z_X0 (j := 1) (by decide) rfl rfl wf_X0_22 dX0_takeTop_1 (fun x1 => ?_)
  refine z_if_gt (tg := 9) dX0_takeTop_4 (by decide) ?_ ?_
  · refine z_aload_n dX0_takeTop_9 rfl 0 rfl ?_
    refine z_dup dX0_takeTop_10 rfl ?_
    refine z_getI z_X0 (j := 1) (by decide) rfl rfl wf_X0_22 dX0_takeTop_11 (fun x2 => ?_)
    refine z_iconst (v := 1) dX0_takeTop_14 k_c1 ?_
    refine z_isub dX0_takeTop_15 ?_
    refine z_nm (fun x3 => ?_)
    refine z_setI z_X0 (by decide) rfl rfl wf_X0_22 dX0_takeTop_16 ?_
    generalize z_wI m v0 1 x3 = m4
    refine z_aload_n dX0_takeTop_19 rfl 1 rfl ?_
    refine z_aload_n dX0_takeTop_20 rfl 0 rfl ?_
    refine z_getP z_X0 (j := 0) (by decide) rfl rfl wf_X0_15 dX0_takeTop_21 (fun a5 => ?_)
    refine z_aload_n dX0_takeTop_24 rfl 0 rfl ?_
    refine z_getI z_X0 (j := 1) (by decide) rfl rfl wf_X0_22 dX0_takeTop_25 (fun x6 => ?_)
    refine z_aald dX0_takeTop_28 (fun a7 => ?_)
    refine z_cVv (As := [.ref (z_ad X a7)]) (rest := []) (c_X3_copy X v1 a7 m4) mw_X3_copy iw_X3_copy z_X3 wm_X0_29 rfl rfl (by decide) (Nat.le_of_ble_eq_true rfl) dX0_takeTop_29 (fun _ m8 => ?_)
    refine z_iconst (v := 1) dX0_takeTop_32 k_c1 ?_
    exact z_zret1 dX0_takeTop_33
  · refine z_iconst (v := 0) dX0_takeTop_7 k_c0 ?_
    exact z_zret0 dX0_takeTop_8
set_option maxRecDepth 100000 in
set_option maxHeartbeats 4000000 in
theorem c_X0_takeTop (X : z_X) (v0 : Nat) (v1 : Nat) (m : z_M) : z_Ct X yX0_takeTop cX0_takeTop 2 (some .boolean) 2 [.ref (z_ad X v0), .ref (z_ad X v1)] m (f_X0_takeTop v0 v1 m) := z_Ct.of (by decide) (Nat.le_of_ble_eq_true rfl) (s_X0_takeTop X v0 v1 m)
set_option maxRecDepth 100000 in
set_option maxHeartbeats 4000000 in
theorem s_X1_add (X : z_X) (v0 : Nat) (v1 : Int32) (m : z_M) : z_Sim X yX1_add cX1_add 2 (some .boolean) 0 0 [(0, .ref (z_ad X v0)), (1, .int v1)] [] m (f_X1_add v0 v1 m) := by
  unfold f_X1_add
  refine z_aload_n dX1_add_0 rfl 0 rfl ?_
  refine z_getI z_X1 (j := 1) (by decide) rfl rfl wf_X1_19 dX1_add_1 (fun x1 => ?_)
  refine z_aload_n dX1_add_4 rfl 0 rfl ?_
  refine z_getP z_X1 (j := 0) (by decide) rfl rfl wf_X1_9 dX1_add_5 (fun a2 => ?_)
  refine z_alen dX1_add_8 (fun x3 => ?_)
  refine z_icmp_lt (tg := 14) dX1_add_9 (by decide) ?_ ?_
  · refine z_aload_n dX1_add_14 rfl 0 rfl ?_
    refine z_getP z_X1 (j := 0) (by decide) rfl rfl wf_X1_9 dX1_add_15 (fun a4 => ?_)
    refine z_aload_n dX1_add_18 rfl 0 rfl ?_
    refine z_getI z_X1 (j := 1) (by decide) rfl rfl wf_X1_19 dX1_add_19 (fun x5 => ?_)
    refine z_iload_n dX1_add_22 rfl 1 rfl ?_
    refine z_cast dX1_add_23 ?_
    generalize z_wI m a4 (Int32.toNatClampNeg x5) (vp_nar .char v1) = m6
    refine z_aload_n dX1_add_24 rfl 0 rfl ?_
    refine z_dup dX1_add_25 rfl ?_
    refine z_getI z_X1 (j := 1) (by decide) rfl rfl wf_X1_19 dX1_add_26 (fun x7 => ?_)
    refine z_iconst (v := 1) dX1_add_29 k_c1 ?_
    refine z_iadd dX1_add_30 ?_
    refine z_nm (fun x8 => ?_)
    refine z_setI z_X1 (by decide) rfl rfl wf_X1_19 dX1_add_31 ?_
    generalize z_wI m6 v0 1 x8 = m9
    refine z_iconst (v := 1) dX1_add_34 k_c1 ?_
    exact z_zret1 dX1_add_35
  · refine z_iconst (v := 0) dX1_add_12 k_c0 ?_
    exact z_zret0 dX1_add_13
set_option maxRecDepth 100000 in
set_option maxHeartbeats 4000000 in
theorem c_X1_add (X : z_X) (v0 : Nat) (v1 : Int32) (m : z_M) : z_Ct X yX1_add cX1_add 2 (some .boolean) 0 [.ref (z_ad X v0), .int v1] m (f_X1_add v0 v1 m) := z_Ct.of (by decide) (Nat.le_of_ble_eq_true rfl) (s_X1_add X v0 v1 m)
set_option maxRecDepth 100000 in
set_option maxHeartbeats 4000000 in
theorem s_X1_clear (X : z_X) (v0 : Nat) (m : z_M) : z_Sim X yX1_clear cX1_clear 1 none 0 0 [(0, .ref (z_ad X v0))] [] m (f_X1_clear v0 m) := by
  unfold f_X1_clear
  refine z_aload_n dX1_clear_0 rfl 0 rfl ?_
  refine z_iconst (v := 0) dX1_clear_1 k_c0 ?_
  refine z_setI z_X1 (by decide) rfl rfl wf_X1_19 dX1_clear_2 ?_
  generalize z_wI m v0 1 0 = m1
  exact z_vret dX1_clear_5
set_option maxRecDepth 100000 in
set_option maxHeartbeats 4000000 in
theorem c_X1_clear (X : z_X) (v0 : Nat) (m : z_M) : z_Ct X yX1_clear cX1_clear 1 none 0 [.ref (z_ad X v0)] m (f_X1_clear v0 m) := z_Ct.of (by decide) (Nat.le_of_ble_eq_true rfl) (s_X1_clear X v0 m)
set_option maxRecDepth 100000 in
set_option maxHeartbeats 4000000 in
theorem s_X1_init (X : z_X) (v0 : Nat) (m : z_M) : z_Sim X yX1_init cX1_init 1 none 1 0 [(0, .ref (z_ad X v0))] [] m (f_X1_init v0 m) := by
  unfold f_X1_init
  refine z_aload_n dX1_init_0 rfl 0 rfl ?_
  refine z_oinit (by decide) (Nat.le_of_ble_eq_true rfl) wm_X1_3 dX1_init_1 ?_
  refine z_aload_n dX1_init_4 rfl 0 rfl ?_
  refine z_sipush (v := 200) dX1_init_5 k_si200 ?_
  refine z_newC dX1_init_8 (fun a1 m2 => ?_)
  refine z_setF (t0 := (.array .char)) z_X1 (by decide) rfl rfl rfl rfl wf_X1_9 (by decide +kernel) (fun _ => rfl) (fun _ => rfl) dX1_init_10 ?_
  generalize z_wP m2 v0 0 a1 = m3
  refine z_aload_n dX1_init_13 rfl 0 rfl ?_
  refine z_iconst (v := 4) dX1_init_14 k_c4 ?_
  refine z_newI dX1_init_15 (fun a4 m5 => ?_)
  refine z_setF (t0 := (.array .int)) z_X1 (by decide) rfl rfl rfl rfl wf_X1_15 (by decide +kernel) (fun _ => rfl) (fun _ => rfl) dX1_init_17 ?_
  generalize z_wP m5 v0 2 a4 = m6
  exact z_vret dX1_init_20
set_option maxRecDepth 100000 in
set_option maxHeartbeats 4000000 in
theorem c_X1_init (X : z_X) (v0 : Nat) (m : z_M) : z_Ct X yX1_init cX1_init 1 none 1 [.ref (z_ad X v0)] m (f_X1_init v0 m) := z_Ct.of (by decide) (Nat.le_of_ble_eq_true rfl) (s_X1_init X v0 m)
set_option maxRecDepth 100000 in
set_option maxHeartbeats 4000000 in
theorem s_X1_isFigure (X : z_X) (v0 : Nat) (v1 : Int32) (m : z_M) : z_Sim X yX1_isFigure cX1_isFigure 2 (some .boolean) 0 0 [(0, .ref (z_ad X v0)), (1, .int v1)] [] m (f_X1_isFigure v0 v1 m) := by
  unfold f_X1_isFigure
  refine z_iload_n dX1_isFigure_0 rfl 1 rfl ?_
  refine z_aload_n dX1_isFigure_1 rfl 0 rfl ?_
  refine z_getI z_X1 (j := 1) (by decide) rfl rfl wf_X1_19 dX1_isFigure_2 (fun x1 => ?_)
  refine z_icmp_ge (tg := 34) dX1_isFigure_5 (by decide) ?_ ?_
  · refine z_iconst (v := 0) dX1_isFigure_34 k_c0 ?_
    exact z_zret0 dX1_isFigure_35
  · refine z_aload_n dX1_isFigure_8 rfl 0 rfl ?_
    refine z_getP z_X1 (j := 0) (by decide) rfl rfl wf_X1_9 dX1_isFigure_9 (fun a2 => ?_)
    refine z_iload_n dX1_isFigure_12 rfl 1 rfl ?_
    refine z_cald dX1_isFigure_13 (fun x3 => ?_)
    refine z_bipush (v := 48) dX1_isFigure_14 k_bi48 ?_
    refine z_icmp_lt (tg := 34) dX1_isFigure_16 (by decide) ?_ ?_
    · refine z_iconst (v := 0) dX1_isFigure_34 k_c0 ?_
      exact z_zret0 dX1_isFigure_35
    · refine z_aload_n dX1_isFigure_19 rfl 0 rfl ?_
      refine z_getP z_X1 (j := 0) (by decide) rfl rfl wf_X1_9 dX1_isFigure_20 (fun a4 => ?_)
      refine z_iload_n dX1_isFigure_23 rfl 1 rfl ?_
      refine z_cald dX1_isFigure_24 (fun x5 => ?_)
      refine z_bipush (v := 57) dX1_isFigure_25 k_bi57 ?_
      refine z_icmp_gt (tg := 34) dX1_isFigure_27 (by decide) ?_ ?_
      · refine z_iconst (v := 0) dX1_isFigure_34 k_c0 ?_
        exact z_zret0 dX1_isFigure_35
      · refine z_iconst (v := 1) dX1_isFigure_30 k_c1 ?_
        refine z_goto (tg := 35) dX1_isFigure_31 (by decide) ?_
        exact z_zret1 dX1_isFigure_35
set_option maxRecDepth 100000 in
set_option maxHeartbeats 4000000 in
theorem c_X1_isFigure (X : z_X) (v0 : Nat) (v1 : Int32) (m : z_M) : z_Ct X yX1_isFigure cX1_isFigure 2 (some .boolean) 0 [.ref (z_ad X v0), .int v1] m (f_X1_isFigure v0 v1 m) := z_Ct.of (by decide) (Nat.le_of_ble_eq_true rfl) (s_X1_isFigure X v0 v1 m)
set_option maxRecDepth 100000 in
set_option maxHeartbeats 4000000 in
theorem s_X1_numbersBehind_L20 (X : z_X) (m : z_M) : z_Sim X yX1_numbersBehind cX1_numbersBehind 1 (some .int) 0 20 [] [] m (f_X1_numbersBehind_L20 m) := by
  unfold f_X1_numbersBehind_L20
  refine z_iconst (v := 1) dX1_numbersBehind_20 k_c1 ?_
  refine z_goto (tg := 25) dX1_numbersBehind_21 (by decide) ?_
  exact z_iret dX1_numbersBehind_25
set_option maxRecDepth 100000 in
set_option maxHeartbeats 4000000 in
theorem s_X1_numbersBehind (X : z_X) (v0 : Int32) (m : z_M) : z_Sim X yX1_numbersBehind cX1_numbersBehind 1 (some .int) 0 0 [(0, .int v0)] [] m (f_X1_numbersBehind v0 m) := by
  unfold f_X1_numbersBehind
  refine z_iload_n dX1_numbersBehind_0 rfl 0 rfl ?_
  refine z_bipush (v := 109) dX1_numbersBehind_1 k_bi109 ?_
  refine z_icmp_ne (tg := 8) dX1_numbersBehind_3 (by decide) ?_ ?_
  · refine z_iload_n dX1_numbersBehind_8 rfl 0 rfl ?_
    refine z_bipush (v := 122) dX1_numbersBehind_9 k_bi122 ?_
    refine z_icmp_eq (tg := 20) dX1_numbersBehind_11 (by decide) ?_ ?_
    · exact z_sub (lv' := []) [] rfl (s_X1_numbersBehind_L20 X m)
    · refine z_iload_n dX1_numbersBehind_14 rfl 0 rfl ?_
      refine z_bipush (v := 101) dX1_numbersBehind_15 k_bi101 ?_
      refine z_icmp_ne (tg := 24) dX1_numbersBehind_17 (by decide) ?_ ?_
      · refine z_iconst (v := 0) dX1_numbersBehind_24 k_c0 ?_
        exact z_iret dX1_numbersBehind_25
      · exact z_sub (lv' := []) [] rfl (s_X1_numbersBehind_L20 X m)
  · refine z_iconst (v := 4) dX1_numbersBehind_6 k_c4 ?_
    exact z_iret dX1_numbersBehind_7
set_option maxRecDepth 100000 in
set_option maxHeartbeats 4000000 in
theorem c_X1_numbersBehind (X : z_X) (v0 : Int32) (m : z_M) : z_Ct X yX1_numbersBehind cX1_numbersBehind 1 (some .int) 0 [.int v0] m (f_X1_numbersBehind v0 m) := z_Ct.of (by decide) (Nat.le_of_ble_eq_true rfl) (s_X1_numbersBehind X v0 m)
set_option maxRecDepth 100000 in
set_option maxHeartbeats 4000000 in
theorem s_X1_readNumber_L46 (X : z_X) (v0 : Nat) (v2 : Int32) (v3 : Int32) (v4 : Int32) (m : z_M) : z_Sim X yX1_readNumber cX1_readNumber 5 (some .int) 1 46 [(0, .ref (z_ad X v0)), (2, .int v2), (3, .int v3), (4, .int v4)] [] m (f_X1_readNumber_L46 v0 v2 v3 v4 m) := by
  unfold f_X1_readNumber_L46
  refine z_aload_n dX1_readNumber_46 rfl 0 rfl ?_
  refine z_getP z_X1 (j := 2) (by decide) rfl rfl wf_X1_15 dX1_readNumber_47 (fun a1 => ?_)
  refine z_iload_n dX1_readNumber_50 rfl 1 rfl ?_
  refine z_iload_n dX1_readNumber_51 rfl 2 rfl ?_
  refine z_iast dX1_readNumber_52 ?_
  generalize z_wI m a1 (Int32.toNatClampNeg v2) v3 = m2
  refine z_iload dX1_readNumber_53 3 rfl ?_
  exact z_iret dX1_readNumber_55
set_option maxRecDepth 100000 in
set_option maxHeartbeats 4000000 in
theorem s_X1_readNumber_L5 (X : z_X) : ∀ (n : Nat) (v0 : Nat) (v1 : Int32) (v2 : Int32) (v3 : Int32) (v4 : Int32) (m : z_M), z_Sim X yX1_readNumber cX1_readNumber 5 (some .int) 1 5 [(0, .ref (z_ad X v0)), (1, .int v1), (2, .int v2), (3, .int v3), (4, .int v4)] [] m (f_X1_readNumber_L5 n v0 v1 v2 v3 v4 m) := by
  intro n
  induction n with
  | zero => intros; exact z_none
  | succ n ih =>
      intro v0 v1 v2 v3 v4 m
      unfold f_X1_readNumber_L5
      refine z_iload dX1_readNumber_5 4 rfl ?_
      refine z_iconst (v := 2) dX1_readNumber_7 k_c2 ?_
      refine z_icmp_ge (tg := 46) dX1_readNumber_8 (by decide) ?_ ?_
      · exact z_sub (lv' := [(0, .ref (z_ad X v0)), (2, .int v2), (3, .int v3), (4, .int v4)]) [0, 2, 3, 4] rfl (s_X1_readNumber_L46 X v0 v2 v3 v4 m)
      · refine z_aload_n dX1_readNumber_11 rfl 0 rfl ?_
        refine z_iload_n dX1_readNumber_12 rfl 1 rfl ?_
        refine z_iload dX1_readNumber_13 4 rfl ?_
        refine z_iadd dX1_readNumber_15 ?_
        refine z_cVi (As := [.int (v1 + v4)]) (rest := []) (c_X1_isFigure X v0 (v1 + v4) m) mw_X1_isFigure iw_X1_isFigure z_X1 wm_X1_44 rfl rfl (by decide) (Nat.le_of_ble_eq_true rfl) dX1_readNumber_16 (fun x3 m4 => ?_)
        refine z_if_eq (tg := 46) dX1_readNumber_19 (by decide) ?_ ?_
        · exact z_sub (lv' := [(0, .ref (z_ad X v0)), (2, .int v2), (3, .int v3), (4, .int v4)]) [0, 2, 3, 4] rfl (s_X1_readNumber_L46 X v0 v2 v3 v4 m4)
        · refine z_iload_n dX1_readNumber_22 rfl 3 rfl ?_
          refine z_bipush (v := 10) dX1_readNumber_23 k_bi10 ?_
          refine z_imul dX1_readNumber_25 ?_
          refine z_aload_n dX1_readNumber_26 rfl 0 rfl ?_
          refine z_getP z_X1 (j := 0) (by decide) rfl rfl wf_X1_9 dX1_readNumber_27 (fun a5 => ?_)
          refine z_iload_n dX1_readNumber_30 rfl 1 rfl ?_
          refine z_iload dX1_readNumber_31 4 rfl ?_
          refine z_iadd dX1_readNumber_33 ?_
          refine z_cald dX1_readNumber_34 (fun x6 => ?_)
          refine z_bipush (v := 48) dX1_readNumber_35 k_bi48 ?_
          refine z_isub dX1_readNumber_37 ?_
          refine z_iadd dX1_readNumber_38 ?_
          refine z_nm (fun x7 => ?_)
          refine z_istore_n (lv' := [(3, .int x7), (0, .ref (z_ad X v0)), (1, .int v1), (2, .int v2), (4, .int v4)]) dX1_readNumber_39 rfl (by decide) rfl ?_
          refine z_iinc (k := 4) (lv' := [(4, .int (v4 + 1)), (3, .int x7), (0, .ref (z_ad X v0)), (1, .int v1), (2, .int v2)]) dX1_readNumber_40 rfl (k_i1 _) (by decide) rfl ?_
          refine z_goto (tg := 5) dX1_readNumber_43 (by decide) ?_
          exact z_sub (lv' := [(0, .ref (z_ad X v0)), (1, .int v1), (2, .int v2), (3, .int x7), (4, .int (v4 + 1))]) [2, 3, 4, 1, 0] rfl (ih v0 v1 v2 x7 (v4 + 1) m4)
set_option maxRecDepth 100000 in
set_option maxHeartbeats 4000000 in
theorem s_X1_readNumber (X : z_X) (v0 : Nat) (v1 : Int32) (v2 : Int32) (m : z_M) : z_Sim X yX1_readNumber cX1_readNumber 5 (some .int) 1 0 [(0, .ref (z_ad X v0)), (1, .int v1), (2, .int v2)] [] m (f_X1_readNumber v0 v1 v2 m) := by
  unfold f_X1_readNumber
  refine z_iconst (v := 0) dX1_readNumber_0 k_c0 ?_
  refine z_istore_n (lv' := [(3, .int 0), (0, .ref (z_ad X v0)), (1, .int v1), (2, .int v2)]) dX1_readNumber_1 rfl (by decide) rfl ?_
  refine z_iconst (v := 0) dX1_readNumber_2 k_c0 ?_
  refine z_istore (lv' := [(4, .int 0), (3, .int 0), (0, .ref (z_ad X v0)), (1, .int v1), (2, .int v2)]) dX1_readNumber_3 (by decide) rfl ?_
  exact z_sub (lv' := [(0, .ref (z_ad X v0)), (1, .int v1), (2, .int v2), (3, .int 0), (4, .int 0)]) [2, 3, 4, 1, 0] rfl (s_X1_readNumber_L5 X 400 v0 v1 v2 0 0 m)
set_option maxRecDepth 100000 in
set_option maxHeartbeats 4000000 in
theorem c_X1_readNumber (X : z_X) (v0 : Nat) (v1 : Int32) (v2 : Int32) (m : z_M) : z_Ct X yX1_readNumber cX1_readNumber 5 (some .int) 1 [.ref (z_ad X v0), .int v1, .int v2] m (f_X1_readNumber v0 v1 v2 m) := z_Ct.of (by decide) (Nat.le_of_ble_eq_true rfl) (s_X1_readNumber X v0 v1 v2 m)
set_option maxRecDepth 100000 in
set_option maxHeartbeats 4000000 in
theorem s_X2_takeMan (X : z_X) (v0 : Nat) (v1 : Int32) (v2 : Int32) (v3 : Int32) (v4 : Int32) (m : z_M) : z_Sim X yX2_takeMan cX2_takeMan 5 (some .boolean) 0 0 [(0, .ref (z_ad X v0)), (1, .int v1), (2, .int v2), (3, .int v3), (4, .int v4)] [] m (f_X2_takeMan v0 v1 v2 v3 v4 m) := by
  unfold f_X2_takeMan
  refine z_aload_n dX2_takeMan_0 rfl 0 rfl ?_
  refine z_getI z_X2 (j := 0) (by decide) rfl rfl wf_X2_24 dX2_takeMan_1 (fun x1 => ?_)
  refine z_bipush (v := 8) dX2_takeMan_4 k_bi8 ?_
  refine z_icmp_ge (tg := 32) dX2_takeMan_6 (by decide) ?_ ?_
  · refine z_iconst (v := 0) dX2_takeMan_32 k_c0 ?_
    exact z_zret0 dX2_takeMan_33
  · refine z_iload_n dX2_takeMan_9 rfl 1 rfl ?_
    refine z_iconst (v := 3) dX2_takeMan_10 k_c3 ?_
    refine z_icmp_gt (tg := 32) dX2_takeMan_11 (by decide) ?_ ?_
    · refine z_iconst (v := 0) dX2_takeMan_32 k_c0 ?_
      exact z_zret0 dX2_takeMan_33
    · refine z_iload_n dX2_takeMan_14 rfl 2 rfl ?_
      refine z_iconst (v := 4) dX2_takeMan_15 k_c4 ?_
      refine z_icmp_ge (tg := 32) dX2_takeMan_16 (by decide) ?_ ?_
      · refine z_iconst (v := 0) dX2_takeMan_32 k_c0 ?_
        exact z_zret0 dX2_takeMan_33
      · refine z_iload_n dX2_takeMan_19 rfl 3 rfl ?_
        refine z_bipush (v := 8) dX2_takeMan_20 k_bi8 ?_
        refine z_icmp_ge (tg := 32) dX2_takeMan_22 (by decide) ?_ ?_
        · refine z_iconst (v := 0) dX2_takeMan_32 k_c0 ?_
          exact z_zret0 dX2_takeMan_33
        · refine z_iload dX2_takeMan_25 4 rfl ?_
          refine z_bipush (v := 10) dX2_takeMan_27 k_bi10 ?_
          refine z_icmp_le (tg := 34) dX2_takeMan_29 (by decide) ?_ ?_
          · refine z_aload_n dX2_takeMan_34 rfl 0 rfl ?_
            refine z_getP z_X2 (j := 3) (by decide) rfl rfl wf_X2_9 dX2_takeMan_35 (fun a2 => ?_)
            refine z_aload_n dX2_takeMan_38 rfl 0 rfl ?_
            refine z_getI z_X2 (j := 0) (by decide) rfl rfl wf_X2_24 dX2_takeMan_39 (fun x3 => ?_)
            refine z_iload_n dX2_takeMan_42 rfl 1 rfl ?_
            refine z_iast dX2_takeMan_43 ?_
            generalize z_wI m a2 (Int32.toNatClampNeg x3) v1 = m4
            refine z_aload_n dX2_takeMan_44 rfl 0 rfl ?_
            refine z_getP z_X2 (j := 4) (by decide) rfl rfl wf_X2_15 dX2_takeMan_45 (fun a5 => ?_)
            refine z_aload_n dX2_takeMan_48 rfl 0 rfl ?_
            refine z_getI z_X2 (j := 0) (by decide) rfl rfl wf_X2_24 dX2_takeMan_49 (fun x6 => ?_)
            refine z_iload_n dX2_takeMan_52 rfl 2 rfl ?_
            refine z_iast dX2_takeMan_53 ?_
            generalize z_wI m4 a5 (Int32.toNatClampNeg x6) v2 = m7
            refine z_aload_n dX2_takeMan_54 rfl 0 rfl ?_
            refine z_getP z_X2 (j := 5) (by decide) rfl rfl wf_X2_18 dX2_takeMan_55 (fun a8 => ?_)
            refine z_aload_n dX2_takeMan_58 rfl 0 rfl ?_
            refine z_getI z_X2 (j := 0) (by decide) rfl rfl wf_X2_24 dX2_takeMan_59 (fun x9 => ?_)
            refine z_iload_n dX2_takeMan_62 rfl 3 rfl ?_
            refine z_iast dX2_takeMan_63 ?_
            generalize z_wI m7 a8 (Int32.toNatClampNeg x9) v3 = m10
            refine z_aload_n dX2_takeMan_64 rfl 0 rfl ?_
            refine z_getP z_X2 (j := 6) (by decide) rfl rfl wf_X2_21 dX2_takeMan_65 (fun a11 => ?_)
            refine z_aload_n dX2_takeMan_68 rfl 0 rfl ?_
            refine z_getI z_X2 (j := 0) (by decide) rfl rfl wf_X2_24 dX2_takeMan_69 (fun x12 => ?_)
            refine z_iload dX2_takeMan_72 4 rfl ?_
            refine z_iast dX2_takeMan_74 ?_
            generalize z_wI m10 a11 (Int32.toNatClampNeg x12) v4 = m13
            refine z_aload_n dX2_takeMan_75 rfl 0 rfl ?_
            refine z_dup dX2_takeMan_76 rfl ?_
            refine z_getI z_X2 (j := 0) (by decide) rfl rfl wf_X2_24 dX2_takeMan_77 (fun x14 => ?_)
            refine z_iconst (v := 1) dX2_takeMan_80 k_c1 ?_
            refine z_iadd dX2_takeMan_81 ?_
            refine z_nm (fun x15 => ?_)
            refine z_setI z_X2 (by decide) rfl rfl wf_X2_24 dX2_takeMan_82 ?_
            generalize z_wI m13 v0 0 x15 = m16
            refine z_iconst (v := 1) dX2_takeMan_85 k_c1 ?_
            exact z_zret1 dX2_takeMan_86
          · refine z_iconst (v := 0) dX2_takeMan_32 k_c0 ?_
            exact z_zret0 dX2_takeMan_33
set_option maxRecDepth 100000 in
set_option maxHeartbeats 4000000 in
theorem c_X2_takeMan (X : z_X) (v0 : Nat) (v1 : Int32) (v2 : Int32) (v3 : Int32) (v4 : Int32) (m : z_M) : z_Ct X yX2_takeMan cX2_takeMan 5 (some .boolean) 0 [.ref (z_ad X v0), .int v1, .int v2, .int v3, .int v4] m (f_X2_takeMan v0 v1 v2 v3 v4 m) := z_Ct.of (by decide) (Nat.le_of_ble_eq_true rfl) (s_X2_takeMan X v0 v1 v2 v3 v4 m)
set_option maxRecDepth 100000 in
set_option maxHeartbeats 4000000 in
theorem s_X2_take (X : z_X) (v0 : Nat) (v1 : Int32) (v2 : Nat) (m : z_M) : z_Sim X yX2_take cX2_take 3 (some .boolean) 1 0 [(0, .ref (z_ad X v0)), (1, .int v1), (2, .ref (z_ad X v2))] [] m (f_X2_take v0 v1 v2 m) := by
  unfold f_X2_take
  refine z_iload_n dX2_take_0 rfl 1 rfl ?_
  refine z_bipush (v := 109) dX2_take_1 k_bi109 ?_
  refine z_icmp_ne (tg := 23) dX2_take_3 (by decide) ?_ ?_
  · refine z_iload_n dX2_take_23 rfl 1 rfl ?_
    refine z_bipush (v := 122) dX2_take_24 k_bi122 ?_
    refine z_icmp_ne (tg := 38) dX2_take_26 (by decide) ?_ ?_
    · refine z_aload_n dX2_take_38 rfl 2 rfl ?_
      refine z_iconst (v := 0) dX2_take_39 k_c0 ?_
      refine z_iald dX2_take_40 (fun x1 => ?_)
      refine z_iconst (v := 1) dX2_take_41 k_c1 ?_
      refine z_icmp_le (tg := 47) dX2_take_42 (by decide) ?_ ?_
      · refine z_aload_n dX2_take_47 rfl 0 rfl ?_
        refine z_aload_n dX2_take_48 rfl 2 rfl ?_
        refine z_iconst (v := 0) dX2_take_49 k_c0 ?_
        refine z_iald dX2_take_50 (fun x2 => ?_)
        refine z_setI z_X2 (by decide) rfl rfl wf_X2_31 dX2_take_51 ?_
        generalize z_wI m v0 2 x2 = m3
        refine z_iconst (v := 1) dX2_take_54 k_c1 ?_
        exact z_zret1 dX2_take_55
      · refine z_iconst (v := 0) dX2_take_45 k_c0 ?_
        exact z_zret0 dX2_take_46
    · refine z_aload_n dX2_take_29 rfl 0 rfl ?_
      refine z_aload_n dX2_take_30 rfl 2 rfl ?_
      refine z_iconst (v := 0) dX2_take_31 k_c0 ?_
      refine z_iald dX2_take_32 (fun x4 => ?_)
      refine z_setI z_X2 (by decide) rfl rfl wf_X2_28 dX2_take_33 ?_
      generalize z_wI m v0 1 x4 = m5
      refine z_iconst (v := 1) dX2_take_36 k_c1 ?_
      exact z_zret1 dX2_take_37
  · refine z_aload_n dX2_take_6 rfl 0 rfl ?_
    refine z_aload_n dX2_take_7 rfl 2 rfl ?_
    refine z_iconst (v := 0) dX2_take_8 k_c0 ?_
    refine z_iald dX2_take_9 (fun x6 => ?_)
    refine z_aload_n dX2_take_10 rfl 2 rfl ?_
    refine z_iconst (v := 1) dX2_take_11 k_c1 ?_
    refine z_iald dX2_take_12 (fun x7 => ?_)
    refine z_aload_n dX2_take_13 rfl 2 rfl ?_
    refine z_iconst (v := 2) dX2_take_14 k_c2 ?_
    refine z_iald dX2_take_15 (fun x8 => ?_)
    refine z_aload_n dX2_take_16 rfl 2 rfl ?_
    refine z_iconst (v := 3) dX2_take_17 k_c3 ?_
    refine z_iald dX2_take_18 (fun x9 => ?_)
    refine z_cVi (As := [.int x6, .int x7, .int x8, .int x9]) (rest := []) (c_X2_takeMan X v0 x6 x7 x8 x9 m) mw_X2_takeMan iw_X2_takeMan z_X2 wm_X2_34 rfl rfl (by decide) (Nat.le_of_ble_eq_true rfl) dX2_take_19 (fun x10 m11 => ?_)
    exact z_zret dX2_take_22
set_option maxRecDepth 100000 in
set_option maxHeartbeats 4000000 in
theorem c_X2_take (X : z_X) (v0 : Nat) (v1 : Int32) (v2 : Nat) (m : z_M) : z_Ct X yX2_take cX2_take 3 (some .boolean) 1 [.ref (z_ad X v0), .int v1, .ref (z_ad X v2)] m (f_X2_take v0 v1 v2 m) := z_Ct.of (by decide) (Nat.le_of_ble_eq_true rfl) (s_X2_take X v0 v1 v2 m)
set_option maxRecDepth 100000 in
set_option maxHeartbeats 4000000 in
theorem s_X1_readItem_L68 (X : z_X) (h28 : Nat → Nat → Int32 → Int32 → Int32 → Int32 → z_M → z_R) (H28 : ∀ (w0 : Nat) (w2 : Nat) (w3 : Int32) (w4 : Int32) (w5 : Int32) (w6 : Int32) (w : z_M), z_Sim X yX1_readItem cX1_readItem 9 (some .int) 2 28 [(0, .ref (z_ad X w0)), (2, .ref (z_ad X w2)), (3, .int w3), (4, .int w4), (5, .int w5), (6, .int w6)] [] w (h28 w0 w2 w3 w4 w5 w6 w)) (v0 : Nat) (v2 : Nat) (v3 : Int32) (v4 : Int32) (v5 : Int32) (v6 : Int32) (v7 : Int32) (s0 : Int32) (m : z_M) : z_Sim X yX1_readItem cX1_readItem 9 (some .int) 2 68 [(0, .ref (z_ad X v0)), (2, .ref (z_ad X v2)), (3, .int v3), (4, .int v4), (5, .int v5), (6, .int v6), (7, .int v7)] [.int s0] m (f_X1_readItem_L68 h28 v0 v2 v3 v4 v5 v6 v7 s0 m) := by
  unfold f_X1_readItem_L68
  refine z_istore (lv' := [(8, .int s0), (0, .ref (z_ad X v0)), (2, .ref (z_ad X v2)), (3, .int v3), (4, .int v4), (5, .int v5), (6, .int v6), (7, .int v7)]) dX1_readItem_68 (by decide) rfl ?_
  refine z_iload dX1_readItem_70 7 rfl ?_
  refine z_if_eq (tg := 96) dX1_readItem_72 (by decide) ?_ ?_
  · refine z_iconst (v := (-1)) dX1_readItem_96 k_cm1 ?_
    exact z_iret dX1_readItem_97
  · refine z_iload dX1_readItem_75 5 rfl ?_
    refine z_aload_n dX1_readItem_77 rfl 1 rfl ?_
    refine z_getI z_X1 (j := 1) (by decide) rfl rfl wf_X1_19 dX1_readItem_78 (fun x1 => ?_)
    refine z_icmp_ge (tg := 96) dX1_readItem_81 (by decide) ?_ ?_
    · refine z_iconst (v := (-1)) dX1_readItem_96 k_cm1 ?_
      exact z_iret dX1_readItem_97
    · refine z_aload_n dX1_readItem_84 rfl 1 rfl ?_
      refine z_getP z_X1 (j := 0) (by decide) rfl rfl wf_X1_9 dX1_readItem_85 (fun a2 => ?_)
      refine z_iload dX1_readItem_88 5 rfl ?_
      refine z_cald dX1_readItem_90 (fun x3 => ?_)
      refine z_iload dX1_readItem_91 0 rfl ?_
      refine z_icmp_eq (tg := 98) dX1_readItem_93 (by decide) ?_ ?_
      · refine z_iinc (k := 5) (lv' := [(5, .int (v5 + 1)), (8, .int s0), (0, .ref (z_ad X v0)), (2, .ref (z_ad X v2)), (3, .int v3), (4, .int v4), (6, .int v6), (7, .int v7)]) dX1_readItem_98 rfl (k_i1 _) (by decide) rfl ?_
        refine z_iinc (k := 6) (lv' := [(6, .int (v6 + 1)), (5, .int (v5 + 1)), (8, .int s0), (0, .ref (z_ad X v0)), (2, .ref (z_ad X v2)), (3, .int v3), (4, .int v4), (7, .int v7)]) dX1_readItem_101 rfl (k_i1 _) (by decide) rfl ?_
        refine z_goto (tg := 28) dX1_readItem_104 (by decide) ?_
        exact z_sub (lv' := [(0, .ref (z_ad X v0)), (2, .ref (z_ad X v2)), (3, .int v3), (4, .int v4), (5, .int (v5 + 1)), (6, .int (v6 + 1))]) [3, 4, 5, 6, 1, 0] rfl (H28 v0 v2 v3 v4 (v5 + 1) (v6 + 1) m)
      · refine z_iconst (v := (-1)) dX1_readItem_96 k_cm1 ?_
        exact z_iret dX1_readItem_97
set_option maxRecDepth 100000 in
set_option maxHeartbeats 4000000 in
theorem s_X1_readItem_L28 (X : z_X) : ∀ (n : Nat) (v0 : Nat) (v2 : Nat) (v3 : Int32) (v4 : Int32) (v5 : Int32) (v6 : Int32) (m : z_M), z_Sim X yX1_readItem cX1_readItem 9 (some .int) 2 28 [(0, .ref (z_ad X v0)), (2, .ref (z_ad X v2)), (3, .int v3), (4, .int v4), (5, .int v5), (6, .int v6)] [] m (f_X1_readItem_L28 n v0 v2 v3 v4 v5 v6 m) := by
  intro n
  induction n with
  | zero => intros; exact z_none
  | succ n ih =>
      intro v0 v2 v3 v4 v5 v6 m
      unfold f_X1_readItem_L28
      refine z_iload dX1_readItem_28 5 rfl ?_
      refine z_iload dX1_readItem_30 3 rfl ?_
      refine z_icmp_ge (tg := 107) dX1_readItem_32 (by decide) ?_ ?_
      · refine z_aload_n dX1_readItem_107 rfl 1 rfl ?_
        refine z_iload_n dX1_readItem_108 rfl 2 rfl ?_
        refine z_aload_n dX1_readItem_109 rfl 0 rfl ?_
        refine z_getP z_X1 (j := 2) (by decide) rfl rfl wf_X1_15 dX1_readItem_110 (fun a4 => ?_)
        refine z_cVi (As := [.int v3, .ref (z_ad X a4)]) (rest := []) (c_X2_take X v2 v3 a4 m) mw_X2_take iw_X2_take z_X2 wm_X1_40 rfl rfl (by decide) (Nat.le_of_ble_eq_true rfl) dX1_readItem_113 (fun x5 m6 => ?_)
        refine z_if_eq (tg := 124) dX1_readItem_116 (by decide) ?_ ?_
        · refine z_iconst (v := (-1)) dX1_readItem_124 k_cm1 ?_
          exact z_iret dX1_readItem_125
        · refine z_iload dX1_readItem_119 4 rfl ?_
          refine z_goto (tg := 125) dX1_readItem_121 (by decide) ?_
          exact z_iret dX1_readItem_125
      · refine z_aload_n dX1_readItem_35 rfl 0 rfl ?_
        refine z_iload dX1_readItem_36 4 rfl ?_
        refine z_iload dX1_readItem_38 5 rfl ?_
        refine z_cVi (As := [.int v5, .int v6]) (rest := []) (c_X1_readNumber X v0 v5 v6 m) mw_X1_readNumber iw_X1_readNumber z_X1 wm_X1_36 rfl rfl (by decide) (Nat.le_of_ble_eq_true rfl) dX1_readItem_40 (fun x7 m8 => ?_)
        refine z_istore (lv' := [(7, .int x7), (0, .ref (z_ad X v0)), (2, .ref (z_ad X v2)), (3, .int v3), (4, .int v4), (5, .int v5), (6, .int v6)]) dX1_readItem_43 (by decide) rfl ?_
        refine z_iload dX1_readItem_45 5 rfl ?_
        refine z_iload dX1_readItem_47 0 rfl ?_
        refine z_iadd dX1_readItem_49 ?_
        refine z_nm (fun x9 => ?_)
        refine z_istore (lv' := [(5, .int x9), (7, .int x7), (0, .ref (z_ad X v0)), (2, .ref (z_ad X v2)), (3, .int v3), (4, .int v4), (6, .int v6)]) dX1_readItem_50 (by decide) rfl ?_
        refine z_iload dX1_readItem_52 6 rfl ?_
        refine z_iload dX1_readItem_54 5 rfl ?_
        refine z_iconst (v := 1) dX1_readItem_56 k_c1 ?_
        refine z_isub dX1_readItem_57 ?_
        refine z_icmp_ne (tg := 66) dX1_readItem_58 (by decide) ?_ ?_
        · refine z_bipush (v := 44) dX1_readItem_66 k_bi44 ?_
          exact z_sub (lv' := [(0, .ref (z_ad X v0)), (2, .ref (z_ad X v2)), (3, .int v3), (4, .int v4), (5, .int x9), (6, .int v6), (7, .int x7)]) [2, 3, 4, 5, 0, 6, 1] rfl (s_X1_readItem_L68 X (f_X1_readItem_L28 n) ih v0 v2 v3 v4 x9 v6 x7 44 m8)
        · refine z_bipush (v := 59) dX1_readItem_61 k_bi59 ?_
          refine z_goto (tg := 68) dX1_readItem_63 (by decide) ?_
          exact z_sub (lv' := [(0, .ref (z_ad X v0)), (2, .ref (z_ad X v2)), (3, .int v3), (4, .int v4), (5, .int x9), (6, .int v6), (7, .int x7)]) [2, 3, 4, 5, 0, 6, 1] rfl (s_X1_readItem_L68 X (f_X1_readItem_L28 n) ih v0 v2 v3 v4 x9 v6 x7 59 m8)
set_option maxRecDepth 100000 in
set_option maxHeartbeats 4000000 in
theorem s_X1_readItem (X : z_X) (v0 : Nat) (v1 : Int32) (v2 : Nat) (m : z_M) : z_Sim X yX1_readItem cX1_readItem 9 (some .int) 2 0 [(0, .ref (z_ad X v0)), (1, .int v1), (2, .ref (z_ad X v2))] [] m (f_X1_readItem v0 v1 v2 m) := by
  unfold f_X1_readItem
  refine z_aload_n dX1_readItem_0 rfl 0 rfl ?_
  refine z_getP z_X1 (j := 0) (by decide) rfl rfl wf_X1_9 dX1_readItem_1 (fun a10 => ?_)
  refine z_iload_n dX1_readItem_4 rfl 1 rfl ?_
  refine z_cald dX1_readItem_5 (fun x11 => ?_)
  refine z_istore_n (lv' := [(3, .int x11), (0, .ref (z_ad X v0)), (1, .int v1), (2, .ref (z_ad X v2))]) dX1_readItem_6 rfl (by decide) rfl ?_
  refine z_iload_n dX1_readItem_7 rfl 0 rfl ?_
  refine z_cSi (As := [.int x11]) (rest := []) (c_X1_numbersBehind X x11 m) mw_X1_numbersBehind iw_X1_numbersBehind wm_X1_32 rfl rfl (by decide) (Nat.le_of_ble_eq_true rfl) dX1_readItem_8 (fun x12 m13 => ?_)
  refine z_istore (lv' := [(4, .int x12), (3, .int x11), (0, .ref (z_ad X v0)), (1, .int v1), (2, .ref (z_ad X v2))]) dX1_readItem_11 (by decide) rfl ?_
  refine z_iload dX1_readItem_13 0 rfl ?_
  refine z_if_ne (tg := 20) dX1_readItem_15 (by decide) ?_ ?_
  · refine z_iload_n dX1_readItem_20 rfl 3 rfl ?_
    refine z_iconst (v := 1) dX1_readItem_21 k_c1 ?_
    refine z_iadd dX1_readItem_22 ?_
    refine z_nm (fun x14 => ?_)
    refine z_istore (lv' := [(5, .int x14), (4, .int x12), (3, .int x11), (0, .ref (z_ad X v0)), (1, .int v1), (2, .ref (z_ad X v2))]) dX1_readItem_23 (by decide) rfl ?_
    refine z_iconst (v := 0) dX1_readItem_25 k_c0 ?_
    refine z_istore (lv' := [(6, .int 0), (5, .int x14), (4, .int x12), (3, .int x11), (0, .ref (z_ad X v0)), (1, .int v1), (2, .ref (z_ad X v2))]) dX1_readItem_26 (by decide) rfl ?_
    exact z_sub (lv' := [(0, .ref (z_ad X v0)), (2, .ref (z_ad X v2)), (3, .int x11), (4, .int x12), (5, .int x14), (6, .int 0)]) [4, 6, 3, 2, 1, 0] rfl (s_X1_readItem_L28 X 400 v0 v2 x11 x12 x14 0 m13)
  · refine z_iconst (v := (-1)) dX1_readItem_18 k_cm1 ?_
    exact z_iret dX1_readItem_19
set_option maxRecDepth 100000 in
set_option maxHeartbeats 4000000 in
theorem c_X1_readItem (X : z_X) (v0 : Nat) (v1 : Int32) (v2 : Nat) (m : z_M) : z_Ct X yX1_readItem cX1_readItem 9 (some .int) 2 [.ref (z_ad X v0), .int v1, .ref (z_ad X v2)] m (f_X1_readItem v0 v1 v2 m) := z_Ct.of (by decide) (Nat.le_of_ble_eq_true rfl) (s_X1_readItem X v0 v1 v2 m)
set_option maxRecDepth 100000 in
set_option maxHeartbeats 4000000 in
theorem s_X2_clear (X : z_X) (v0 : Nat) (m : z_M) : z_Sim X yX2_clear cX2_clear 1 none 0 0 [(0, .ref (z_ad X v0))] [] m (f_X2_clear v0 m) := by
  unfold f_X2_clear
  refine z_aload_n dX2_clear_0 rfl 0 rfl ?_
  refine z_iconst (v := 0) dX2_clear_1 k_c0 ?_
  refine z_setI z_X2 (by decide) rfl rfl wf_X2_24 dX2_clear_2 ?_
  generalize z_wI m v0 0 0 = m1
  refine z_aload_n dX2_clear_5 rfl 0 rfl ?_
  refine z_iconst (v := 0) dX2_clear_6 k_c0 ?_
  refine z_setI z_X2 (by decide) rfl rfl wf_X2_28 dX2_clear_7 ?_
  generalize z_wI m1 v0 1 0 = m2
  refine z_aload_n dX2_clear_10 rfl 0 rfl ?_
  refine z_iconst (v := 0) dX2_clear_11 k_c0 ?_
  refine z_setI z_X2 (by decide) rfl rfl wf_X2_31 dX2_clear_12 ?_
  generalize z_wI m2 v0 2 0 = m3
  exact z_vret dX2_clear_15
set_option maxRecDepth 100000 in
set_option maxHeartbeats 4000000 in
theorem c_X2_clear (X : z_X) (v0 : Nat) (m : z_M) : z_Ct X yX2_clear cX2_clear 1 none 0 [.ref (z_ad X v0)] m (f_X2_clear v0 m) := z_Ct.of (by decide) (Nat.le_of_ble_eq_true rfl) (s_X2_clear X v0 m)
set_option maxRecDepth 100000 in
set_option maxHeartbeats 4000000 in
theorem s_X1_readInto_L8 (X : z_X) : ∀ (n : Nat) (v0 : Nat) (v1 : Nat) (v2 : Int32) (v3 : Int32) (m : z_M), z_Sim X yX1_readInto cX1_readInto 5 (some .int) 3 8 [(0, .ref (z_ad X v0)), (1, .ref (z_ad X v1)), (2, .int v2), (3, .int v3)] [] m (f_X1_readInto_L8 n v0 v1 v2 v3 m) := by
  intro n
  induction n with
  | zero => intros; exact z_none
  | succ n ih =>
      intro v0 v1 v2 v3 m
      unfold f_X1_readInto_L8
      refine z_iload_n dX1_readInto_8 rfl 3 rfl ?_
      refine z_sipush (v := 200) dX1_readInto_9 k_si200 ?_
      refine z_icmp_ge (tg := 48) dX1_readInto_12 (by decide) ?_ ?_
      · refine z_bipush (v := (-4)) dX1_readInto_48 k_bim4 ?_
        exact z_iret dX1_readInto_50
      · refine z_iload_n dX1_readInto_15 rfl 2 rfl ?_
        refine z_aload_n dX1_readInto_16 rfl 0 rfl ?_
        refine z_getI z_X1 (j := 1) (by decide) rfl rfl wf_X1_19 dX1_readInto_17 (fun x1 => ?_)
        refine z_icmp_ge (tg := 48) dX1_readInto_20 (by decide) ?_ ?_
        · refine z_bipush (v := (-4)) dX1_readInto_48 k_bim4 ?_
          exact z_iret dX1_readInto_50
        · refine z_aload_n dX1_readInto_23 rfl 0 rfl ?_
          refine z_iload_n dX1_readInto_24 rfl 2 rfl ?_
          refine z_aload_n dX1_readInto_25 rfl 1 rfl ?_
          refine z_cVi (As := [.int v2, .ref (z_ad X v1)]) (rest := []) (c_X1_readItem X v0 v2 v1 m) mw_X1_readItem iw_X1_readItem z_X1 wm_X1_28 rfl rfl (by decide) (Nat.le_of_ble_eq_true rfl) dX1_readInto_26 (fun x2 m3 => ?_)
          refine z_istore (lv' := [(4, .int x2), (0, .ref (z_ad X v0)), (1, .ref (z_ad X v1)), (2, .int v2), (3, .int v3)]) dX1_readInto_29 (by decide) rfl ?_
          refine z_iload dX1_readInto_31 0 rfl ?_
          refine z_iconst (v := (-1)) dX1_readInto_33 k_cm1 ?_
          refine z_icmp_ne (tg := 39) dX1_readInto_34 (by decide) ?_ ?_
          · refine z_iload dX1_readInto_39 0 rfl ?_
            refine z_istore_n (lv' := [(2, .int x2), (4, .int x2), (0, .ref (z_ad X v0)), (1, .ref (z_ad X v1)), (3, .int v3)]) dX1_readInto_41 rfl (by decide) rfl ?_
            refine z_iinc (k := 4) (lv' := [(3, .int (v3 + 1)), (2, .int x2), (4, .int x2), (0, .ref (z_ad X v0)), (1, .ref (z_ad X v1))]) dX1_readInto_42 rfl (k_i1 _) (by decide) rfl ?_
            refine z_goto (tg := 8) dX1_readInto_45 (by decide) ?_
            exact z_sub (lv' := [(0, .ref (z_ad X v0)), (1, .ref (z_ad X v1)), (2, .int x2), (3, .int (v3 + 1))]) [3, 4, 1, 0] rfl (ih v0 v1 x2 (v3 + 1) m3)
          · refine z_iload_n dX1_readInto_37 rfl 3 rfl ?_
            exact z_iret dX1_readInto_38
set_option maxRecDepth 100000 in
set_option maxHeartbeats 4000000 in
theorem s_X1_readInto (X : z_X) (v0 : Nat) (v1 : Nat) (m : z_M) : z_Sim X yX1_readInto cX1_readInto 5 (some .int) 3 0 [(0, .ref (z_ad X v0)), (1, .ref (z_ad X v1))] [] m (f_X1_readInto v0 v1 m) := by
  unfold f_X1_readInto
  refine z_aload_n dX1_readInto_0 rfl 1 rfl ?_
  refine z_cVv (As := []) (rest := []) (c_X2_clear X v1 m) mw_X2_clear iw_X2_clear z_X2 wm_X1_23 rfl rfl (by decide) (Nat.le_of_ble_eq_true rfl) dX1_readInto_1 (fun _ m4 => ?_)
  refine z_iconst (v := 0) dX1_readInto_4 k_c0 ?_
  refine z_istore_n (lv' := [(2, .int 0), (0, .ref (z_ad X v0)), (1, .ref (z_ad X v1))]) dX1_readInto_5 rfl (by decide) rfl ?_
  refine z_iconst (v := 0) dX1_readInto_6 k_c0 ?_
  refine z_istore_n (lv' := [(3, .int 0), (2, .int 0), (0, .ref (z_ad X v0)), (1, .ref (z_ad X v1))]) dX1_readInto_7 rfl (by decide) rfl ?_
  exact z_sub (lv' := [(0, .ref (z_ad X v0)), (1, .ref (z_ad X v1)), (2, .int 0), (3, .int 0)]) [2, 3, 1, 0] rfl (s_X1_readInto_L8 X 400 v0 v1 0 0 m4)
set_option maxRecDepth 100000 in
set_option maxHeartbeats 4000000 in
theorem c_X1_readInto (X : z_X) (v0 : Nat) (v1 : Nat) (m : z_M) : z_Ct X yX1_readInto cX1_readInto 5 (some .int) 3 [.ref (z_ad X v0), .ref (z_ad X v1)] m (f_X1_readInto v0 v1 m) := z_Ct.of (by decide) (Nat.le_of_ble_eq_true rfl) (s_X1_readInto X v0 v1 m)
set_option maxRecDepth 100000 in
set_option maxHeartbeats 4000000 in
theorem s_X2_canBeLaid_L2 (X : z_X) : ∀ (n : Nat) (v0 : Nat) (v1 : Int32) (m : z_M), z_Sim X yX2_canBeLaid cX2_canBeLaid 2 (some .boolean) 0 2 [(0, .ref (z_ad X v0)), (1, .int v1)] [] m (f_X2_canBeLaid_L2 n v0 v1 m) := by
  intro n
  induction n with
  | zero => intros; exact z_none
  | succ n ih =>
      intro v0 v1 m
      unfold f_X2_canBeLaid_L2
      refine z_iload_n dX2_canBeLaid_2 rfl 1 rfl ?_
      refine z_aload_n dX2_canBeLaid_3 rfl 0 rfl ?_
      refine z_getI z_X2 (j := 0) (by decide) rfl rfl wf_X2_24 dX2_canBeLaid_4 (fun x1 => ?_)
      refine z_icmp_ge (tg := 31) dX2_canBeLaid_7 (by decide) ?_ ?_
      · refine z_aload_n dX2_canBeLaid_31 rfl 0 rfl ?_
        refine z_getI z_X2 (j := 0) (by decide) rfl rfl wf_X2_24 dX2_canBeLaid_32 (fun x2 => ?_)
        refine z_if_le (tg := 42) dX2_canBeLaid_35 (by decide) ?_ ?_
        · refine z_iconst (v := 0) dX2_canBeLaid_42 k_c0 ?_
          exact z_zret0 dX2_canBeLaid_43
        · refine z_iconst (v := 1) dX2_canBeLaid_38 k_c1 ?_
          refine z_goto (tg := 43) dX2_canBeLaid_39 (by decide) ?_
          exact z_zret1 dX2_canBeLaid_43
      · refine z_aload_n dX2_canBeLaid_10 rfl 0 rfl ?_
        refine z_getP z_X2 (j := 5) (by decide) rfl rfl wf_X2_18 dX2_canBeLaid_11 (fun a3 => ?_)
        refine z_iload_n dX2_canBeLaid_14 rfl 1 rfl ?_
        refine z_iald dX2_canBeLaid_15 (fun x4 => ?_)
        refine z_aload_n dX2_canBeLaid_16 rfl 0 rfl ?_
        refine z_getI z_X2 (j := 0) (by decide) rfl rfl wf_X2_24 dX2_canBeLaid_17 (fun x5 => ?_)
        refine z_icmp_lt (tg := 25) dX2_canBeLaid_20 (by decide) ?_ ?_
        · refine z_iinc (k := 1) (lv' := [(1, .int (v1 + 1)), (0, .ref (z_ad X v0))]) dX2_canBeLaid_25 rfl (k_i1 _) (by decide) rfl ?_
          refine z_goto (tg := 2) dX2_canBeLaid_28 (by decide) ?_
          exact z_sub (lv' := [(0, .ref (z_ad X v0)), (1, .int (v1 + 1))]) [1, 0] rfl (ih v0 (v1 + 1) m)
        · refine z_iconst (v := 0) dX2_canBeLaid_23 k_c0 ?_
          exact z_zret0 dX2_canBeLaid_24
set_option maxRecDepth 100000 in
set_option maxHeartbeats 4000000 in
theorem s_X2_canBeLaid (X : z_X) (v0 : Nat) (m : z_M) : z_Sim X yX2_canBeLaid cX2_canBeLaid 2 (some .boolean) 0 0 [(0, .ref (z_ad X v0))] [] m (f_X2_canBeLaid v0 m) := by
  unfold f_X2_canBeLaid
  refine z_iconst (v := 0) dX2_canBeLaid_0 k_c0 ?_
  refine z_istore_n (lv' := [(1, .int 0), (0, .ref (z_ad X v0))]) dX2_canBeLaid_1 rfl (by decide) rfl ?_
  exact z_sub (lv' := [(0, .ref (z_ad X v0)), (1, .int 0)]) [1, 0] rfl (s_X2_canBeLaid_L2 X 400 v0 0 m)
set_option maxRecDepth 100000 in
set_option maxHeartbeats 4000000 in
theorem c_X2_canBeLaid (X : z_X) (v0 : Nat) (m : z_M) : z_Ct X yX2_canBeLaid cX2_canBeLaid 2 (some .boolean) 0 [.ref (z_ad X v0)] m (f_X2_canBeLaid v0 m) := z_Ct.of (by decide) (Nat.le_of_ble_eq_true rfl) (s_X2_canBeLaid X v0 m)
set_option maxRecDepth 100000 in
set_option maxHeartbeats 4000000 in
theorem s_X2_init (X : z_X) (v0 : Nat) (m : z_M) : z_Sim X yX2_init cX2_init 1 none 1 0 [(0, .ref (z_ad X v0))] [] m (f_X2_init v0 m) := by
  unfold f_X2_init
  refine z_aload_n dX2_init_0 rfl 0 rfl ?_
  refine z_oinit (by decide) (Nat.le_of_ble_eq_true rfl) wm_X2_3 dX2_init_1 ?_
  refine z_aload_n dX2_init_4 rfl 0 rfl ?_
  refine z_bipush (v := 8) dX2_init_5 k_bi8 ?_
  refine z_newI dX2_init_7 (fun a1 m2 => ?_)
  refine z_setF (t0 := (.array .int)) z_X2 (by decide) rfl rfl rfl rfl wf_X2_9 (by decide +kernel) (fun _ => rfl) (fun _ => rfl) dX2_init_9 ?_
  generalize z_wP m2 v0 3 a1 = m3
  refine z_aload_n dX2_init_12 rfl 0 rfl ?_
  refine z_bipush (v := 8) dX2_init_13 k_bi8 ?_
  refine z_newI dX2_init_15 (fun a4 m5 => ?_)
  refine z_setF (t0 := (.array .int)) z_X2 (by decide) rfl rfl rfl rfl wf_X2_15 (by decide +kernel) (fun _ => rfl) (fun _ => rfl) dX2_init_17 ?_
  generalize z_wP m5 v0 4 a4 = m6
  refine z_aload_n dX2_init_20 rfl 0 rfl ?_
  refine z_bipush (v := 8) dX2_init_21 k_bi8 ?_
  refine z_newI dX2_init_23 (fun a7 m8 => ?_)
  refine z_setF (t0 := (.array .int)) z_X2 (by decide) rfl rfl rfl rfl wf_X2_18 (by decide +kernel) (fun _ => rfl) (fun _ => rfl) dX2_init_25 ?_
  generalize z_wP m8 v0 5 a7 = m9
  refine z_aload_n dX2_init_28 rfl 0 rfl ?_
  refine z_bipush (v := 8) dX2_init_29 k_bi8 ?_
  refine z_newI dX2_init_31 (fun a10 m11 => ?_)
  refine z_setF (t0 := (.array .int)) z_X2 (by decide) rfl rfl rfl rfl wf_X2_21 (by decide +kernel) (fun _ => rfl) (fun _ => rfl) dX2_init_33 ?_
  generalize z_wP m11 v0 6 a10 = m12
  exact z_vret dX2_init_36
set_option maxRecDepth 100000 in
set_option maxHeartbeats 4000000 in
theorem c_X2_init (X : z_X) (v0 : Nat) (m : z_M) : z_Ct X yX2_init cX2_init 1 none 1 [.ref (z_ad X v0)] m (f_X2_init v0 m) := z_Ct.of (by decide) (Nat.le_of_ble_eq_true rfl) (s_X2_init X v0 m)
set_option maxRecDepth 100000 in
set_option maxHeartbeats 4000000 in
theorem s_X3_begin (X : z_X) (v0 : Nat) (v1 : Nat) (m : z_M) : z_Sim X yX3_begin cX3_begin 2 none 1 0 [(0, .ref (z_ad X v0)), (1, .ref (z_ad X v1))] [] m (f_X3_begin v0 v1 m) := by
  unfold f_X3_begin
  refine z_aload_n dX3_begin_0 rfl 1 rfl ?_
  refine z_getP z_X2 (j := 4) (by decide) rfl rfl wf_X3_18 dX3_begin_1 (fun a1 => ?_)
  refine z_iconst (v := 0) dX3_begin_4 k_c0 ?_
  refine z_aload_n dX3_begin_5 rfl 0 rfl ?_
  refine z_getP z_X3 (j := 0) (by decide) rfl rfl wf_X3_9 dX3_begin_6 (fun a2 => ?_)
  refine z_iconst (v := 0) dX3_begin_9 k_c0 ?_
  refine z_bipush (v := 8) dX3_begin_10 k_bi8 ?_
  refine z_copy (by decide) wm_X3_21 (Nat.le_of_ble_eq_true rfl) dX3_begin_12 (fun m3 => ?_)
  refine z_aload_n dX3_begin_15 rfl 1 rfl ?_
  refine z_getP z_X2 (j := 5) (by decide) rfl rfl wf_X3_27 dX3_begin_16 (fun a4 => ?_)
  refine z_iconst (v := 0) dX3_begin_19 k_c0 ?_
  refine z_aload_n dX3_begin_20 rfl 0 rfl ?_
  refine z_getP z_X3 (j := 1) (by decide) rfl rfl wf_X3_15 dX3_begin_21 (fun a5 => ?_)
  refine z_iconst (v := 0) dX3_begin_24 k_c0 ?_
  refine z_bipush (v := 8) dX3_begin_25 k_bi8 ?_
  refine z_copy (by decide) wm_X3_21 (Nat.le_of_ble_eq_true rfl) dX3_begin_27 (fun m6 => ?_)
  refine z_aload_n dX3_begin_30 rfl 0 rfl ?_
  refine z_aload_n dX3_begin_31 rfl 1 rfl ?_
  refine z_getI z_X2 (j := 2) (by decide) rfl rfl wf_X3_28 dX3_begin_32 (fun x7 => ?_)
  refine z_setI z_X3 (by decide) rfl rfl wf_X3_32 dX3_begin_35 ?_
  generalize z_wI m6 v0 2 x7 = m8
  refine z_aload_n dX3_begin_38 rfl 0 rfl ?_
  refine z_iconst (v := 0) dX3_begin_39 k_c0 ?_
  refine z_setI z_X3 (by decide) rfl rfl wf_X3_33 dX3_begin_40 ?_
  generalize z_wI m8 v0 3 0 = m9
  refine z_aload_n dX3_begin_43 rfl 0 rfl ?_
  refine z_iconst (v := 0) dX3_begin_44 k_c0 ?_
  refine z_setI z_X3 (by decide) rfl rfl wf_X3_36 dX3_begin_45 ?_
  generalize z_wI m9 v0 4 0 = m10
  refine z_aload_n dX3_begin_48 rfl 0 rfl ?_
  refine z_iconst (v := 0) dX3_begin_49 k_c0 ?_
  refine z_setI z_X3 (by decide) rfl rfl wf_X3_39 dX3_begin_50 ?_
  generalize z_wI m10 v0 5 0 = m11
  refine z_aload_n dX3_begin_53 rfl 0 rfl ?_
  refine z_iconst (v := 0) dX3_begin_54 k_c0 ?_
  refine z_setI z_X3 (by decide) rfl rfl wf_X3_42 dX3_begin_55 ?_
  generalize z_wI m11 v0 6 0 = m12
  refine z_aload_n dX3_begin_58 rfl 0 rfl ?_
  refine z_iconst (v := 0) dX3_begin_59 k_c0 ?_
  refine z_setI z_X3 (by decide) rfl rfl wf_X3_45 dX3_begin_60 ?_
  generalize z_wI m12 v0 7 0 = m13
  exact z_vret dX3_begin_63
set_option maxRecDepth 100000 in
set_option maxHeartbeats 4000000 in
theorem c_X3_begin (X : z_X) (v0 : Nat) (v1 : Nat) (m : z_M) : z_Ct X yX3_begin cX3_begin 2 none 1 [.ref (z_ad X v0), .ref (z_ad X v1)] m (f_X3_begin v0 v1 m) := z_Ct.of (by decide) (Nat.le_of_ble_eq_true rfl) (s_X3_begin X v0 v1 m)
