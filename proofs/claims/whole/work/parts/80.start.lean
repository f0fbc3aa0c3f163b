/-! FROM THE LAW'S ENTRY, open in the relation -/
def z_m0 : z_M := (0, 0, fun _ _ => 0, fun _ _ => none)
def z_Start (Rel : z_M → Prop) : Prop := ∃ (r1 : Int32) (m1 : z_M) (r2 : Int32) (m2 : z_M), f_X4_init 0 (z_nw z_m0) = some (r1, m1) ∧ m1.1 = 57 ∧ m1.2.1 ≤ 7000000 ∧ f_X5_init 57 (z_nw m1) = some (r2, m2) ∧ Rel m2
abbrev z_flat : List Cond := flatC (Jvm.Cond.and given_1 narrow_1)
theorem z_e0 : ∀ j, j < 3 → Cond.eq (.elem (.static "HayFootStraw" "TURNS" "[I") (.int (Int32.ofNat j))) (.int (z_tb 0 j)) ∈ z_flat := by decide +kernel
theorem z_e1 : ∀ j, j < 6 → Cond.eq (.elem (.static "HayFootStraw" "ROWS" "[I") (.int (Int32.ofNat j))) (.int (z_tb 1 j)) ∈ z_flat := by decide +kernel
theorem z_e2 : ∀ j, j < 67 → Cond.eq (.elem (.field (.string "HayFootStraw" 58) "java/lang/String" "value" "[B") (.int (Int32.ofNat j))) (.int (z_tx.getD j 0)) ∈ z_flat := by decide +kernel
theorem z_nestW : ∀ q ∈ z_nest, Cond.methodLinkNest q.1 q.2.1 q.2.2 "HayFootStraw" ∈ lw_tbl := by decide +kernel
set_option maxRecDepth 100000 in
set_option maxHeartbeats 4000000 in
theorem whole_open {p : Program} {e : Env} {s : State} {m : MethodId} {below : List Frame} {meth : Method} {c : Code} (l : Launch) {b L : Nat} {xs : Nat → Int32} (hL : L ≤ 2048) (C0 : lw_At p s m meth c b L xs) {Rel : z_M → Prop} (hops : z_Ops Rel) (hstart : z_Start Rel) : W p l e room_1 s m #[Value.ref b] below meth c s.heap [] 0 0 (lw_Z below #[Value.ref b] s) (entryFrame m ([Value.ref b] : List Value).toArray 4) := by
  obtain ⟨hx, hb, hr, hml, hown, hts, hX, hbl, hlocks, hgv⟩ := id C0
  have hfl := flat_of_before _ hgv
  have hz : ∀ w ∈ z_ws, w ∈ lw_tbl := fun w h => (List.mem_filter.mp h).1
  have hA : ∀ a : Nat, a < s.heap.size → ¬ s.heap.size ≤ a := fun a h => Nat.not_le.mpr h
  -- classes
  obtain ⟨c0, i0, k0⟩ := u_known (C := RX0) (T := TX0) (N := 2) (n := 2) hts (fun w h => hz w (z_X0.2.1 w h)) (hts _ (hz _ wi_X0))
  obtain ⟨c1, i1, k1⟩ := u_known (C := RX1) (T := TX1) (N := 3) (n := 3) hts (fun w h => hz w (z_X1.2.1 w h)) (hts _ (hz _ wi_X1))
  obtain ⟨c2, i2, k2⟩ := u_known (C := RX2) (T := TX2) (N := 7) (n := 7) hts (fun w h => hz w (z_X2.2.1 w h)) (hts _ (hz _ wi_X2))
  obtain ⟨c3, i3, k3⟩ := u_known (C := RX3) (T := TX3) (N := 8) (n := 8) hts (fun w h => hz w (z_X3.2.1 w h)) (hts _ (hz _ wi_X3))
  obtain ⟨c4, i4, k4⟩ := u_known (C := RX4) (T := TX4) (N := 10) (n := 10) hts (fun w h => hz w (z_X4.2.1 w h)) (hts _ (hz _ wi_X4))
  obtain ⟨c5, i5, k5⟩ := u_known (C := RX5) (T := TX5) (N := 14) (n := 14) hts (fun w h => hz w (z_X5.2.1 w h)) (hts _ (hz _ wi_X5))
  -- array classes
  obtain ⟨cI, kI, pI, f1, f2, f3⟩ := Cond.arrayClass_spec (hts (.arrayClass .int) (by decide +kernel))
  obtain ⟨cC, kC, pC, g1, g2, g3⟩ := Cond.arrayClass_spec (hts (.arrayClass .char) (by decide +kernel))
  have hao : (Cond.arrayOver (.object "HayFootStraw$Standing")).before #[Value.ref b] s = true := hts _ (by decide +kernel)
  obtain ⟨pR, cR, kR, o1, o2, o3, o4, o5⟩ := Cond.arrayOver_spec hao
  -- tables and the text
  obtain ⟨t0, v0, T0⟩ := va_Tof (f := fun j => .int (z_tb 0 j)) (A := fun q => s.heap.size ≤ q) (N := 3) (by decide) (hfl (.arrayOf (.static "HayFootStraw" "TURNS" "[I") .int) (by decide +kernel)) (va_eqt (hfl (.eq (.length (.static "HayFootStraw" "TURNS" "[I")) (.int 3)) (by decide +kernel))) (fun j hj => va_eqt (hfl _ (z_e0 j hj))) hA
  obtain ⟨t1, v1, T1⟩ := va_Tof (f := fun j => .int (z_tb 1 j)) (A := fun q => s.heap.size ≤ q) (N := 6) (by decide) (hfl (.arrayOf (.static "HayFootStraw" "ROWS" "[I") .int) (by decide +kernel)) (va_eqt (hfl (.eq (.length (.static "HayFootStraw" "ROWS" "[I")) (.int 6)) (by decide +kernel))) (fun j hj => va_eqt (hfl _ (z_e1 j hj))) hA
  have Z0 := va_Zref (A := fun q => s.heap.size ≤ q) (hts (.laysStatic "HayFootStraw" "TURNS" "[I") (by decide +kernel)) (hts (.initialized "HayFootStraw") (by decide +kernel)) v0 hA
  have Z1 := va_Zref (A := fun q => s.heap.size ≤ q) (hts (.laysStatic "HayFootStraw" "ROWS" "[I") (by decide +kernel)) (hts (.initialized "HayFootStraw") (by decide +kernel)) v1 hA
  have Z2 := va_Zof (A := fun q => s.heap.size ≤ q) (hts (.laysStatic "java/lang/String" "COMPACT_STRINGS" "Z") (by decide +kernel)) (hts (.initialized "java/lang/String") (by decide +kernel)) (va_eqi (z := 1) (hfl (.eq (.static "java/lang/String" "COMPACT_STRINGS" "Z") (.int 1)) (by decide +kernel))) hA
  have Z3 := va_Zqof (A := fun q => s.heap.size ≤ q) (hts (.laysStatic "jdk/internal/util/Preconditions" "SIOOBE_FORMATTER" "Ljava/util/function/BiFunction;") (by decide +kernel)) (hts (.initialized "jdk/internal/util/Preconditions") (by decide +kernel)) (hfl (.isRef (.static "jdk/internal/util/Preconditions" "SIOOBE_FORMATTER" "Ljava/util/function/BiFunction;")) (by decide +kernel)) hA
  obtain ⟨adK, adV, S0, ev⟩ := vk_Sof (args := #[Value.ref b]) (s := s) (N := 1) (tm := fun _ => .string "HayFootStraw" 58) (len := [z_tx.length]) (byt := [z_tx]) (A := fun q => s.heap.size ≤ q)
    (fun i hi => by obtain rfl : i = 0 := (by omega); decide) (fun i hi => hfl _ (by decide +kernel)) (fun i hi => hfl _ (by decide +kernel)) (fun i hi => hfl _ (by decide +kernel))
    (fun i hi => by obtain rfl : i = 0 := (by omega); exact hfl _ (by decide +kernel)) (fun i hi j hj => by obtain rfl : i = 0 := (by omega); exact hfl _ (z_e2 j hj)) (fun i j hi hj h => absurd (show i = j by omega) h) hA
  have hvR : vk_R "HayFootStraw" 58 z_txS (adK 0) s := vk_R.of (hts (.stringRef "HayFootStraw" 58 z_txS) (by decide +kernel)) (ev 0 (by decide))
  let X : z_X := (l, (fun k => match k with | 0 => c0 | 1 => c1 | 2 => c2 | 3 => c3 | 4 => c4 | _ => c5), (fun k => match k with | 0 => i0 | 1 => i1 | 2 => i2 | 3 => i3 | 4 => i4 | _ => i5), (fun k => match k with | 6 => cI | 7 => cC | _ => cR), s.heap.size, (fun t => match t with | 0 => t0 | 1 => t1 | 2 => adK 0 | _ => adV 0))
  have hK : va_K (X.2.1, X.2.2.1) vwCl (z_ty X) s := by
    refine ⟨fun k q hq => ?_, fun k q hq => ?_⟩
    · match k, hq with
      | 0, hq => cases hq; exact k0
      | 1, hq => cases hq; exact k1
      | 2, hq => cases hq; exact k2
      | 3, hq => cases hq; exact k3
      | 4, hq => cases hq; exact k4
      | 5, hq => cases hq; exact k5
      | k + 6, hq => simp [vwCl] at hq
    · match k, hq with
      | 0, hq => cases hq; exact ⟨fun n z => ⟨fun _ h => (by cases h), kI, f2, pI, f3⟩, f1⟩
      | 1, hq => cases hq; exact ⟨fun n z => ⟨fun _ h => (by cases h), kC, g2, pC, g3⟩, g1⟩
      | 2, hq => cases hq; exact ⟨fun n z => ⟨fun _ h => (by cases h), kR, o3, pR, o4⟩, kR, pR, o3, o4, o1, o5⟩
      | k + 3, hq => simp [z_ty] at hq
  have hS : z_S X s s.heap := by
    refine ⟨⟨Z0, Z1⟩, fun t ht => ?_, Z2, ?_, hvR, va_AO.of hao, Z3, fun q hq => va_Nw.of rfl (hts _ (z_nestW q hq))⟩
    · rcases (show t = 0 ∨ t = 1 by omega) with rfl | rfl
      · exact T0
      · exact T1
    · refine ⟨fun i hi => ?_, fun i j hi hj _ => by omega⟩
      obtain rfl : i = 0 := by omega
      exact S0.1 0 (by decide)
  have C : z_LC X p s m meth c b L xs := ⟨C0, hK, hS, rfl, hL⟩
  obtain ⟨r1, m1, r2, m2, h1, hn1, hz1, h2, hR⟩ := hstart
  have hb2 := hops.1 m2 hR
  have hl := lv_entry ([.ref b]) (n := 4) (Nat.le_of_ble_eq_true rfl)
  rw [lg_entry_eq]
  generalize (lg_sl ([.ref b]) ++ List.replicate (4 - (lg_sl ([.ref b])).length) Slot.unset).toArray = ls at hl ⊢
  have hH0 : z_H X z_m0 s.heap := ⟨rfl, fun a ha => absurd ha (Nat.not_lt_zero a)⟩
  have K : z_L X p e s m below meth c b 0 [(0, .ref b)] [] z_m0 := by
    refine z_Lnew C z_X4 rfl (by decide) wc_L_7 wi_X4 wn_X4 dL_law_0 ?_
    refine z_Ldup C dL_law_3 rfl ?_
    refine z_LcI C (As := []) (rest := [.ref (z_ad X 0)]) (a := z_ad X 0) (c_X4_init X 0 (z_nw z_m0)) h1 ⟨by omega, by omega⟩ mw_X4_init iw_X4_init rfl wm_L_9 rfl rfl (by decide) (Nat.le_of_ble_eq_true rfl) dL_law_4 ?_
    refine z_Lastore C (lv' := [(1, .ref (z_ad X 0)), (0, .ref b)]) dL_law_7 rfl (by decide) rfl ?_
    have hn2 : z_n m1.1 ≤ 200 := z_n200 _
    refine z_Lnew C z_X5 (by rw [hn1]; rfl) ⟨by omega, by omega⟩ wc_L_10 wi_X5 wn_X5 dL_law_8 ?_
    refine z_Ldup C dL_law_11 rfl ?_
    rw [hn1]
    refine z_LcI C (As := []) (rest := [.ref (z_ad X 57)]) (a := z_ad X 57) (c_X5_init X 57 (z_nw m1)) h2 ⟨hb2.2.1, hb2.2.2⟩ mw_X5_init iw_X5_init rfl wm_L_12 rfl rfl (by decide) (Nat.le_of_ble_eq_true rfl) dL_law_12 ?_
    refine z_Lastore C (lv' := [(2, .ref (z_ad X 57)), (1, .ref (z_ad X 0)), (0, .ref b)]) dL_law_15 rfl (by decide) rfl ?_
    refine z_Liconst C (v := 0) dL_law_16 (by decide) ?_
    refine z_Listore C (lv' := [(3, .int 0), (2, .ref (z_ad X 57)), (1, .ref (z_ad X 0)), (0, .ref b)]) dL_law_17 rfl (by decide) rfl ?_
    exact lw_loop C hops (L + 1) 0 0 nI_0.symm (by omega) (Nat.zero_le _) m2 hR
  exact K s.heap [] ls hH0 va_S.rf hl
