set_option maxRecDepth 100000 in
set_option maxHeartbeats 4000000 in
theorem s_X4_init_L109 (X : z_X) : ∀ (n : Nat) (v0 : Nat) (v1 : Int32) (m : z_M), z_Sim X yX4_init cX4_init 2 none 5 109 [(0, .ref (z_ad X v0)), (1, .int v1)] [] m (f_X4_init_L109 n v0 v1 m) := by
  intro n
  induction n with
  | zero => intros; exact z_none
  | succ n ih =>
      intro v0 v1 m
      unfold f_X4_init_L109
      refine z_iload_n dX4_init_109 rfl 1 rfl ?_
      refine z_ldcS rfl dX4_init_110 ?_
      refine z_cT (As := []) (rest := [.int v1]) (c_strLen X m) mw_J0_length_8abf5 iw_J0_length_8abf5 wm_X4_60 rfl rfl (by decide) (Nat.le_of_ble_eq_true rfl) dX4_init_112 (fun x1 m2 => ?_)
      refine z_icmp_ge (tg := 138) dX4_init_115 (by decide) ?_ ?_
      · refine z_aload_n dX4_init_138 rfl 0 rfl ?_
        refine z_cVi (As := []) (rest := []) (c_X4_layScript X v0 m2) mw_X4_layScript iw_X4_layScript z_X4 wm_X4_74 rfl rfl (by decide) (Nat.le_of_ble_eq_true rfl) dX4_init_139 (fun x3 m4 => ?_)
        refine z_pop dX4_init_142 rfl ?_
        refine z_aload_n dX4_init_143 rfl 0 rfl ?_
        refine z_getP z_X4 (j := 0) (by decide) rfl rfl wf_X4_10 dX4_init_144 (fun a5 => ?_)
        refine z_cVv (As := []) (rest := []) (c_X1_clear X a5 m4) mw_X1_clear iw_X1_clear z_X1 wm_X4_78 rfl rfl (by decide) (Nat.le_of_ble_eq_true rfl) dX4_init_147 (fun _ m6 => ?_)
        exact z_vret dX4_init_150
      · refine z_aload_n dX4_init_118 rfl 0 rfl ?_
        refine z_getP z_X4 (j := 0) (by decide) rfl rfl wf_X4_10 dX4_init_119 (fun a7 => ?_)
        refine z_ldcS rfl dX4_init_122 ?_
        refine z_iload_n dX4_init_124 rfl 1 rfl ?_
        refine z_cT (As := [.int v1]) (rest := [.ref (z_ad X a7)]) (c_strAt X v1 m2) mw_J0_charAt_5068e iw_J0_charAt_5068e wm_X4_66 rfl rfl (by decide) (Nat.le_of_ble_eq_true rfl) dX4_init_125 (fun x8 m9 => ?_)
        refine z_cVi (As := [.int x8]) (rest := []) (c_X1_add X a7 x8 m9) mw_X1_add iw_X1_add z_X1 wm_X4_70 rfl rfl (by decide) (Nat.le_of_ble_eq_true rfl) dX4_init_128 (fun x10 m11 => ?_)
        refine z_pop dX4_init_131 rfl ?_
        refine z_iinc (k := 1) (lv' := [(1, .int (v1 + 1)), (0, .ref (z_ad X v0))]) dX4_init_132 rfl (k_i1 _) (by decide) rfl ?_
        refine z_goto (tg := 109) dX4_init_135 (by decide) ?_
        exact z_sub (lv' := [(0, .ref (z_ad X v0)), (1, .int (v1 + 1))]) [1, 0] rfl (ih v0 (v1 + 1) m11)
set_option maxRecDepth 100000 in
set_option maxHeartbeats 4000000 in
theorem s_X4_init (X : z_X) (v0 : Nat) (m : z_M) : z_Sim X yX4_init cX4_init 2 none 5 0 [(0, .ref (z_ad X v0))] [] m (f_X4_init v0 m) := by
  unfold f_X4_init
  refine z_aload_n dX4_init_0 rfl 0 rfl ?_
  refine z_oinit (by decide) (Nat.le_of_ble_eq_true rfl) wm_X4_1 dX4_init_1 ?_
  refine z_aload_n dX4_init_4 rfl 0 rfl ?_
  refine z_new z_X1 wc_X4_7 wi_X1 wn_X1 dX4_init_5 (fun a12 m13 => ?_)
  refine z_dup dX4_init_8 rfl ?_
  refine z_cN (As := []) (rest := [.ref (z_ad X a12), .ref (z_ad X v0)]) (c_X1_init X a12 m13) mw_X1_init iw_X1_init rfl wm_X4_9 rfl rfl (by decide) (Nat.le_of_ble_eq_true rfl) dX4_init_9 (fun _ m14 => ?_)
  refine z_setF (t0 := (.object "HayFootStraw$Script")) z_X4 (by decide) rfl rfl rfl rfl wf_X4_10 (by decide +kernel) (fun _ => rfl) (fun _ => rfl) dX4_init_12 ?_
  generalize z_wP m14 v0 0 a12 = m15
  refine z_aload_n dX4_init_15 rfl 0 rfl ?_
  refine z_new z_X2 wc_X4_16 wi_X2 wn_X2 dX4_init_16 (fun a16 m17 => ?_)
  refine z_dup dX4_init_19 rfl ?_
  refine z_cN (As := []) (rest := [.ref (z_ad X a16), .ref (z_ad X v0)]) (c_X2_init X a16 m17) mw_X2_init iw_X2_init rfl wm_X4_18 rfl rfl (by decide) (Nat.le_of_ble_eq_true rfl) dX4_init_20 (fun _ m18 => ?_)
  refine z_setP (t0 := (.object "HayFootStraw$Squad")) z_X4 (by decide) rfl rfl wf_X4_19 (by decide +kernel) (fun _ => rfl) (fun _ => rfl) dX4_init_23 ?_
  generalize z_wP m18 v0 1 a16 = m19
  refine z_aload_n dX4_init_26 rfl 0 rfl ?_
  refine z_new z_X2 wc_X4_16 wi_X2 wn_X2 dX4_init_27 (fun a20 m21 => ?_)
  refine z_dup dX4_init_30 rfl ?_
  refine z_cN (As := []) (rest := [.ref (z_ad X a20), .ref (z_ad X v0)]) (c_X2_init X a20 m21) mw_X2_init iw_X2_init rfl wm_X4_18 rfl rfl (by decide) (Nat.le_of_ble_eq_true rfl) dX4_init_31 (fun _ m22 => ?_)
  refine z_setP (t0 := (.object "HayFootStraw$Squad")) z_X4 (by decide) rfl rfl wf_X4_23 (by decide +kernel) (fun _ => rfl) (fun _ => rfl) dX4_init_34 ?_
  generalize z_wP m22 v0 2 a20 = m23
  refine z_aload_n dX4_init_37 rfl 0 rfl ?_
  refine z_new z_X3 wc_X4_26 wi_X3 wn_X3 dX4_init_38 (fun a24 m25 => ?_)
  refine z_dup dX4_init_41 rfl ?_
  refine z_cN (As := []) (rest := [.ref (z_ad X a24), .ref (z_ad X v0)]) (c_X3_init X a24 m25) mw_X3_init iw_X3_init rfl wm_X4_28 rfl rfl (by decide) (Nat.le_of_ble_eq_true rfl) dX4_init_42 (fun _ m26 => ?_)
  refine z_setF (t0 := (.object "HayFootStraw$Standing")) z_X4 (by decide) rfl rfl rfl rfl wf_X4_29 (by decide +kernel) (fun _ => rfl) (fun _ => rfl) dX4_init_45 ?_
  generalize z_wP m26 v0 3 a24 = m27
  refine z_aload_n dX4_init_48 rfl 0 rfl ?_
  refine z_new z_X3 wc_X4_26 wi_X3 wn_X3 dX4_init_49 (fun a28 m29 => ?_)
  refine z_dup dX4_init_52 rfl ?_
  refine z_cN (As := []) (rest := [.ref (z_ad X a28), .ref (z_ad X v0)]) (c_X3_init X a28 m29) mw_X3_init iw_X3_init rfl wm_X4_28 rfl rfl (by decide) (Nat.le_of_ble_eq_true rfl) dX4_init_53 (fun _ m30 => ?_)
  refine z_setF (t0 := (.object "HayFootStraw$Standing")) z_X4 (by decide) rfl rfl rfl rfl wf_X4_33 (by decide +kernel) (fun _ => rfl) (fun _ => rfl) dX4_init_56 ?_
  generalize z_wP m30 v0 4 a28 = m31
  refine z_aload_n dX4_init_59 rfl 0 rfl ?_
  refine z_new z_X0 wc_X4_36 wi_X0 wn_X0 dX4_init_60 (fun a32 m33 => ?_)
  refine z_dup dX4_init_63 rfl ?_
  refine z_bipush (v := 8) dX4_init_64 k_bi8 ?_
  refine z_cI (As := [.int 8]) (rest := [.ref (z_ad X a32), .ref (z_ad X v0)]) (c_X0_init X a32 8 m33) mw_X0_init iw_X0_init rfl wm_X4_38 rfl rfl (by decide) (Nat.le_of_ble_eq_true rfl) dX4_init_66 (fun _ m34 => ?_)
  refine z_setF (t0 := (.object "HayFootStraw$Pile")) z_X4 (by decide) rfl rfl rfl rfl wf_X4_41 (by decide +kernel) (fun _ => rfl) (fun _ => rfl) dX4_init_69 ?_
  generalize z_wP m34 v0 5 a32 = m35
  refine z_aload_n dX4_init_72 rfl 0 rfl ?_
  refine z_new z_X0 wc_X4_36 wi_X0 wn_X0 dX4_init_73 (fun a36 m37 => ?_)
  refine z_dup dX4_init_76 rfl ?_
  refine z_iconst (v := 2) dX4_init_77 k_c2 ?_
  refine z_cI (As := [.int 2]) (rest := [.ref (z_ad X a36), .ref (z_ad X v0)]) (c_X0_init X a36 2 m37) mw_X0_init iw_X0_init rfl wm_X4_38 rfl rfl (by decide) (Nat.le_of_ble_eq_true rfl) dX4_init_78 (fun _ m38 => ?_)
  refine z_setF (t0 := (.object "HayFootStraw$Pile")) z_X4 (by decide) rfl rfl rfl rfl wf_X4_45 (by decide +kernel) (fun _ => rfl) (fun _ => rfl) dX4_init_81 ?_
  generalize z_wP m38 v0 6 a36 = m39
  refine z_aload_n dX4_init_84 rfl 0 rfl ?_
  refine z_bipush (v := 8) dX4_init_85 k_bi8 ?_
  refine z_newI dX4_init_87 (fun a40 m41 => ?_)
  refine z_setF (t0 := (.array .int)) z_X4 (by decide) rfl rfl rfl rfl wf_X4_48 (by decide +kernel) (fun _ => rfl) (fun _ => rfl) dX4_init_89 ?_
  generalize z_wP m41 v0 7 a40 = m42
  refine z_aload_n dX4_init_92 rfl 0 rfl ?_
  refine z_bipush (v := 8) dX4_init_93 k_bi8 ?_
  refine z_newI dX4_init_95 (fun a43 m44 => ?_)
  refine z_setF (t0 := (.array .int)) z_X4 (by decide) rfl rfl rfl rfl wf_X4_52 (by decide +kernel) (fun _ => rfl) (fun _ => rfl) dX4_init_97 ?_
  generalize z_wP m44 v0 8 a43 = m45
  refine z_aload_n dX4_init_100 rfl 0 rfl ?_
  refine z_iconst (v := 3) dX4_init_101 k_c3 ?_
  refine z_newI dX4_init_102 (fun a46 m47 => ?_)
  refine z_setF (t0 := (.array .int)) z_X4 (by decide) rfl rfl rfl rfl wf_X4_55 (by decide +kernel) (fun _ => rfl) (fun _ => rfl) dX4_init_104 ?_
  generalize z_wP m47 v0 9 a46 = m48
  refine z_iconst (v := 0) dX4_init_107 k_c0 ?_
  refine z_istore_n (lv' := [(1, .int 0), (0, .ref (z_ad X v0))]) dX4_init_108 rfl (by decide) rfl ?_
  exact z_sub (lv' := [(0, .ref (z_ad X v0)), (1, .int 0)]) [1, 0] rfl (s_X4_init_L109 X 400 v0 0 m48)
set_option maxRecDepth 100000 in
set_option maxHeartbeats 4000000 in
theorem c_X4_init (X : z_X) (v0 : Nat) (m : z_M) : z_Ct X yX4_init cX4_init 2 none 5 [.ref (z_ad X v0)] m (f_X4_init v0 m) := z_Ct.of (by decide) (Nat.le_of_ble_eq_true rfl) (s_X4_init X v0 m)
