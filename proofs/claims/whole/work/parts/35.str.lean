/-! THE FIRST SQUAD'S TEXT: the JDK's own members over it -/
section
variable {X : z_X} {y : MethodName} {cc : ByteArray} {nL : Nat} {rt : Option FieldType} {d : Nat} {pc : Nat} {lv : List (Nat × Value)} {st : List Value} {mm : z_M} {o : z_R}
theorem z_getsC {ix : Nat} (hw : Cond.fieldLink y.cls ix "java/lang/String" "COMPACT_STRINGS" "Z" ∈ z_ws) (hd : decode cc pc = .ok (.getstatic ix, 3)) (K : z_Sim X y cc nL rt d (pc + 3) lv (.int 1 :: st) mm o) : z_Sim X y cc nL rt d pc lv st mm o :=
  z_rd (fun p e R s m args below meth c0 H locs cells slots Q ls hE hH hS kk => va_gets hE.1.1 hE.1.2.1 hE.2.2.2.2.2.2.2.2.1 hS hE.1.2.2.2.1 (hE.1.2.2.2.2 _ hw) (fun _ h => h) hd kk) K
theorem z_getsF {ix : Nat} (hw : Cond.fieldLink y.cls ix "jdk/internal/util/Preconditions" "SIOOBE_FORMATTER" "Ljava/util/function/BiFunction;" ∈ z_ws) (hd : decode cc pc = .ok (.getstatic ix, 3)) (K : ∀ v : Value, v.category = 1 → z_Sim X y cc nL rt d (pc + 3) lv (v :: st) mm o) : z_Sim X y cc nL rt d pc lv st mm o := by
  intro r m2 ho
  refine ⟨(K .null rfl r m2 ho).1, fun p e s m args below meth c n0 z0 H locs ls hE h1 h2 hH hS hl => ?_⟩
  rcases hE.2.2.2.2.2.2.2.2.2.2.2.2.1 with hZ | ⟨t, hZ⟩
  · exact va_gets hE.1.1 hE.1.2.1 hZ hS hE.1.2.2.2.1 (hE.1.2.2.2.2 _ hw) (fun _ h => h) hd ((K _ rfl r m2 ho).2 p e s m args below meth c n0 z0 H locs ls hE h1 h2 hH hS hl)
  · exact va_gets hE.1.1 hE.1.2.1 hZ hS hE.1.2.2.2.1 (hE.1.2.2.2.2 _ hw) (fun _ h => h) hd ((K _ rfl r m2 ho).2 p e s m args below meth c n0 z0 H locs ls hE h1 h2 hH hS hl)
theorem z_gK {ix : Nat} (hw : Cond.fieldLink y.cls ix "java/lang/String" "coder" "B" ∈ z_ws) (hd : decode cc pc = .ok (.getfield ix, 3)) (K : z_Sim X y cc nL rt d (pc + 3) lv (.int 0 :: st) mm o) : z_Sim X y cc nL rt d pc lv (.ref (X.2.2.2.2.2 2) :: st) mm o :=
  z_rd (fun p e R s m args below meth c0 H locs cells slots Q ls hE hH hS kk => vk_getf hE.1.1 hE.1.2.1 (hE.2.2.2.2.2.2.2.2.2.1.1 0 (by decide)).2.1 hS hE.1.2.2.2.1 (hE.1.2.2.2.2 _ hw) (fun _ h => h) hd kk) K
theorem z_gV {ix : Nat} (hw : Cond.fieldLink y.cls ix "java/lang/String" "value" "[B" ∈ z_ws) (hd : decode cc pc = .ok (.getfield ix, 3)) (K : z_Sim X y cc nL rt d (pc + 3) lv (.ref (X.2.2.2.2.2 3) :: st) mm o) : z_Sim X y cc nL rt d pc lv (.ref (X.2.2.2.2.2 2) :: st) mm o :=
  z_rd (fun p e R s m args below meth c0 H locs cells slots Q ls hE hH hS kk => vk_getf hE.1.1 hE.1.2.1 (hE.2.2.2.2.2.2.2.2.2.1.1 0 (by decide)).2.2.1 hS hE.1.2.2.2.1 (hE.1.2.2.2.2 _ hw) (fun _ h => h) hd kk) K
theorem z_lenT (hd : decode cc pc = .ok (.arraylength, 1)) (K : z_Sim X y cc nL rt d (pc + 1) lv (.int (Int32.ofNat z_tx.length) :: st) mm o) : z_Sim X y cc nL rt d pc lv (.ref (X.2.2.2.2.2 3) :: st) mm o :=
  z_rd (fun p e R s m args below meth c0 H locs cells slots Q ls hE hH hS kk => va_tlen hE.1.1 hE.1.2.1 (hE.2.2.2.2.2.2.2.2.2.1.1 0 (by decide)).2.2.2 hS rfl hd kk) K
theorem z_baldT {i : Int32} (hi : 0 ≤ i.toInt ∧ i.toInt < z_tx.length) (hd : decode cc pc = .ok (.baload, 1)) (K : z_Sim X y cc nL rt d (pc + 1) lv (.int (z_tx.getD i.toNatClampNeg 0) :: st) mm o) : z_Sim X y cc nL rt d pc lv (.int i :: .ref (X.2.2.2.2.2 3) :: st) mm o :=
  z_rd (fun p e R s m args below meth c0 H locs cells slots Q ls hE hH hS kk => va_tb hE.1.1 hE.1.2.1 (hE.2.2.2.2.2.2.2.2.2.1.1 0 (by decide)).2.2.2 hS (vp_in_iff.mpr hi) rfl hd kk) K
end
theorem z_txc (i : Int32) (hi : 0 ≤ i.toInt ∧ i.toInt < z_tx.length) : ((z_tx.getD i.toNatClampNeg 0 &&& 255).toUInt32 % 65536).toInt32 = z_tx.getD i.toNatClampNeg 0 := by
  have h : ∀ k, k < z_tx.length → ((z_tx.getD k 0 &&& 255).toUInt32 % 65536).toInt32 = z_tx.getD k 0 := by decide +kernel
  refine h _ ?_
  show i.toInt.toNat < _
  omega
theorem c_J0_coder (X : z_X) (m : z_M) : z_Ct X yJ0_coder_7d493 cJ0_coder_7d493 1 (some .byte) 0 [.ref (X.2.2.2.2.2 2)] m (some (0, m)) := by
  refine z_Ct.of (by decide) (Nat.le_of_ble_eq_true rfl) (?_ : z_Sim X _ _ _ _ _ 0 [(0, .ref (X.2.2.2.2.2 2))] [] m _)
  refine z_getsC wf_J0_38 dJ0_coder_7d493_0 ?_
  have e : (some (0, m) : z_R) = if (1 : Int32) = 0 then none else some (0, m) := rfl
  rw [e]
  refine z_if_eq (tg := 13) dJ0_coder_7d493_3 (by decide) z_none ?_
  refine z_aload_n dJ0_coder_7d493_6 rfl 0 rfl ?_
  refine z_gK wf_J0_15 dJ0_coder_7d493_7 ?_
  refine z_goto (tg := 14) dJ0_coder_7d493_10 (by decide) ?_
  exact z_xret rfl dJ0_coder_7d493_14
theorem c_J0_isLatin1 (X : z_X) (m : z_M) : z_Ct X yJ0_isLatin1_aae02 cJ0_isLatin1_aae02 1 (some .boolean) 0 [.ref (X.2.2.2.2.2 2)] m (some (1, m)) := by
  refine z_Ct.of (by decide) (Nat.le_of_ble_eq_true rfl) (?_ : z_Sim X _ _ _ _ _ 0 [(0, .ref (X.2.2.2.2.2 2))] [] m _)
  refine z_getsC wf_J0_38 dJ0_isLatin1_aae02_0 ?_
  have e : (some (1, m) : z_R) = if (1 : Int32) = 0 then none else some (1, m) := rfl
  rw [e]
  refine z_if_eq (tg := 17) dJ0_isLatin1_aae02_3 (by decide) z_none ?_
  refine z_aload_n dJ0_isLatin1_aae02_6 rfl 0 rfl ?_
  refine z_gK wf_J0_15 dJ0_isLatin1_aae02_7 ?_
  have e : (some (1, m) : z_R) = if (0 : Int32) = 0 then some (1, m) else none := rfl
  rw [e]
  refine z_if_ne (tg := 17) dJ0_isLatin1_aae02_10 (by decide) z_none ?_
  refine z_iconst (v := 1) dJ0_isLatin1_aae02_13 k_c1 ?_
  refine z_goto (tg := 18) dJ0_isLatin1_aae02_14 (by decide) ?_
  exact z_zret1 dJ0_isLatin1_aae02_18
theorem c_strLen (X : z_X) (m : z_M) : z_Ct X yJ0_length_8abf5 cJ0_length_8abf5 1 (some .int) 1 [.ref (X.2.2.2.2.2 2)] m (f_strLen m) := by
  refine z_Ct.of (by decide) (Nat.le_of_ble_eq_true rfl) (?_ : z_Sim X _ _ _ _ _ 0 [(0, .ref (X.2.2.2.2.2 2))] [] m _)
  refine z_aload_n dJ0_length_8abf5_0 rfl 0 rfl ?_
  refine z_gV wf_J0_9 dJ0_length_8abf5_1 ?_
  refine z_lenT dJ0_length_8abf5_4 ?_
  refine z_aload_n dJ0_length_8abf5_5 rfl 0 rfl ?_
  have e : f_strLen m = z_b (some (0, m)) (fun x m1 => some (Int32.ofNat z_tx.length >>> (x &&& 31), m1)) := by
    show some (Int32.ofNat z_tx.length, m) = some (Int32.ofNat z_tx.length >>> ((0 : Int32) &&& 31), m)
    rw [show Int32.ofNat z_tx.length >>> ((0 : Int32) &&& 31) = Int32.ofNat z_tx.length by decide +kernel]
  rw [e]
  refine z_cT (As := []) (rest := [.int (Int32.ofNat z_tx.length)]) (c_J0_coder X m) mw_J0_coder_7d493 iw_J0_coder_7d493 wm_J0_335 rfl rfl (by decide) (Nat.le_of_ble_eq_true rfl) dJ0_length_8abf5_6 (fun x1 m1 => ?_)
  refine z_ishr dJ0_length_8abf5_9 ?_
  exact z_iret dJ0_length_8abf5_10
theorem c_J3_checkIndex (X : z_X) (i n : Int32) (v : Value) (hv : v.category = 1) (m : z_M) (h1 : ¬ i < 0) (h2 : i < n) : z_Ct X yJ3_checkIndex_8e157 cJ3_checkIndex_8e157 3 (some .int) 0 [.int i, .int n, v] m (some (i, m)) := by
  refine z_Ct.of (by decide) (by cases v <;> first | exact Nat.le_of_ble_eq_true rfl | cases hv) (?_ : z_Sim X _ _ _ _ _ 0 [(0, .int i), (1, .int n), (2, v)] [] m _)
  refine z_iload_n dJ3_checkIndex_8e157_0 rfl 0 rfl ?_
  have e : (some (i, m) : z_R) = if i < 0 then none else some (i, m) := by rw [if_neg h1]
  rw [e]
  refine z_if_lt (tg := 9) dJ3_checkIndex_8e157_1 (by decide) z_none ?_
  refine z_iload_n dJ3_checkIndex_8e157_4 rfl 0 rfl ?_
  refine z_iload_n dJ3_checkIndex_8e157_5 rfl 1 rfl ?_
  have e : (some (i, m) : z_R) = if i < n then some (i, m) else none := by rw [if_pos h2]
  rw [e]
  refine z_icmp_lt (tg := 16) dJ3_checkIndex_8e157_6 (by decide) ?_ z_none
  refine z_iload_n dJ3_checkIndex_8e157_16 rfl 0 rfl ?_
  exact z_iret dJ3_checkIndex_8e157_17
theorem c_J0_checkIndex (X : z_X) (i n : Int32) (m : z_M) (h1 : ¬ i < 0) (h2 : i < n) : z_Ct X yJ0_checkIndex_df160 cJ0_checkIndex_df160 2 none 1 [.int i, .int n] m (some (0, m)) := by
  refine z_Ct.of (by decide) (Nat.le_of_ble_eq_true rfl) (?_ : z_Sim X _ _ _ _ _ 0 [(0, .int i), (1, .int n)] [] m _)
  refine z_iload_n dJ0_checkIndex_df160_0 rfl 0 rfl ?_
  refine z_iload_n dJ0_checkIndex_df160_1 rfl 1 rfl ?_
  refine z_getsF wf_J0_1053 dJ0_checkIndex_df160_2 (fun v hv => ?_)
  have e : (some (0, m) : z_R) = z_b (some (i, m)) (fun _ m1 => some (0, m1)) := rfl
  rw [e]
  refine z_cSi (As := [.int i, .int n, v]) (rest := []) (c_J3_checkIndex X i n v hv m h1 h2) mw_J3_checkIndex_8e157 iw_J3_checkIndex_8e157 wm_J0_1059 rfl rfl (by decide) (Nat.le_of_ble_eq_true rfl) dJ0_checkIndex_df160_5 (fun x1 m1 => ?_)
  refine z_pop dJ0_checkIndex_df160_8 rfl ?_
  exact z_vret dJ0_checkIndex_df160_9
theorem c_J1_charAt (X : z_X) (i : Int32) (m : z_M) (hi : 0 ≤ i.toInt ∧ i.toInt < z_tx.length) : z_Ct X yJ1_charAt_3b067 cJ1_charAt_3b067 2 (some .char) 2 [.ref (X.2.2.2.2.2 3), .int i] m (some (z_tx.getD i.toNatClampNeg 0, m)) := by
  refine z_Ct.of (by decide) (Nat.le_of_ble_eq_true rfl) (?_ : z_Sim X _ _ _ _ _ 0 [(0, .ref (X.2.2.2.2.2 3)), (1, .int i)] [] m _)
  refine z_iload_n dJ1_charAt_3b067_0 rfl 1 rfl ?_
  refine z_aload_n dJ1_charAt_3b067_1 rfl 0 rfl ?_
  refine z_lenT dJ1_charAt_3b067_2 ?_
  have e : (some (z_tx.getD i.toNatClampNeg 0, m) : z_R) = z_b (some (0, m)) (fun _ m1 => some (z_tx.getD i.toNatClampNeg 0, m1)) := rfl
  rw [e]
  have hlt : i < Int32.ofNat z_tx.length := by
    rw [Int32.lt_iff_toInt_lt]
    have : (Int32.ofNat z_tx.length).toInt = (z_tx.length : Int) := by decide
    omega
  have hge : ¬ i < 0 := by
    rw [Int32.lt_iff_toInt_lt]
    have : (0 : Int32).toInt = 0 := by decide
    omega
  refine z_cSv (As := [.int i, .int (Int32.ofNat z_tx.length)]) (rest := []) (c_J0_checkIndex X i _ m hge hlt) mw_J0_checkIndex_df160 iw_J0_checkIndex_df160 wm_J1_9 rfl rfl (by decide) (Nat.le_of_ble_eq_true rfl) dJ1_charAt_3b067_3 (fun x1 m1 => ?_)
  refine z_aload_n dJ1_charAt_3b067_6 rfl 0 rfl ?_
  refine z_iload_n dJ1_charAt_3b067_7 rfl 1 rfl ?_
  refine z_baldT hi dJ1_charAt_3b067_8 ?_
  refine z_sipush (v := 255) dJ1_charAt_3b067_9 k_si255 ?_
  refine z_iand dJ1_charAt_3b067_12 ?_
  refine z_i2c dJ1_charAt_3b067_13 ?_
  rw [z_txc i hi]
  exact z_xret (by rw [← z_txc i hi]; exact pk_nc _) dJ1_charAt_3b067_14
theorem c_strAt (X : z_X) (i : Int32) (m : z_M) : z_Ct X yJ0_charAt_5068e cJ0_charAt_5068e 2 (some .char) 3 [.ref (X.2.2.2.2.2 2), .int i] m (f_strAt i m) := by
  refine z_Ct.of (by decide) (Nat.le_of_ble_eq_true rfl) (?_ : z_Sim X _ _ _ _ _ 0 [(0, .ref (X.2.2.2.2.2 2)), (1, .int i)] [] m _)
  unfold f_strAt
  refine z_if (fun hi => ?_) (fun _ => z_none)
  refine z_aload_n dJ0_charAt_5068e_0 rfl 0 rfl ?_
  have e : (some (z_tx.getD i.toNatClampNeg 0, m) : z_R) = z_b (some (1, m)) (fun x m1 => if x = 0 then none else z_b (some (z_tx.getD i.toNatClampNeg 0, m1)) (fun x m2 => if x = z_tx.getD i.toNatClampNeg 0 then some (x, m2) else none)) := by
    simp [z_b]
  rw [e]
  refine z_cT (As := []) (rest := []) (c_J0_isLatin1 X m) mw_J0_isLatin1_aae02 iw_J0_isLatin1_aae02 wm_J0_492 rfl rfl (by decide) (Nat.le_of_ble_eq_true rfl) dJ0_charAt_5068e_1 (fun x1 m1 => ?_)
  refine z_if_eq (tg := 16) dJ0_charAt_5068e_4 (by decide) z_none ?_
  refine z_aload_n dJ0_charAt_5068e_7 rfl 0 rfl ?_
  refine z_gV wf_J0_9 dJ0_charAt_5068e_8 ?_
  refine z_iload_n dJ0_charAt_5068e_11 rfl 1 rfl ?_
  refine z_cSi (As := [.ref (X.2.2.2.2.2 3), .int i]) (rest := []) (c_J1_charAt X i m1 hi) mw_J1_charAt_3b067 iw_J1_charAt_3b067 wm_J0_495 rfl rfl (by decide) (Nat.le_of_ble_eq_true rfl) dJ0_charAt_5068e_12 (fun x2 m2 => ?_)
  refine z_if (fun hx => ?_) (fun _ => z_none)
  subst hx
  exact z_xret (by rw [← z_txc i hi]; exact pk_nc _) dJ0_charAt_5068e_15
