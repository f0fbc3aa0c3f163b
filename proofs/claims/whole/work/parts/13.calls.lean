/-! MAKING, TABLES, RETURNS, CALLS -/
theorem z_n200 (a : Nat) : z_n a ≤ 200 := by
  unfold z_n
  rw [List.getD_eq_getElem?_getD]
  cases hq : z_T[a]? with
  | none => simp
  | some q =>
    have h2 := List.all_eq_true.mp (show z_T.all (fun q => decide (q.2 ≤ 200)) = true by decide +kernel) q (List.mem_of_getElem? hq)
    simpa using h2
theorem z_bytes (a : Nat) {c : Nat} (h : c ≤ 4) : z_n a * c ≤ 536870912 := Nat.le_trans (Nat.mul_le_mul (z_n200 a) h) (by decide)
section
variable {X : z_X} {y : MethodName} {cc : ByteArray} {nL : Nat} {rt : Option FieldType} {d : Nat} {pc : Nat} {lv lv' : List (Nat × Value)} {st : List Value} {mm : z_M} {o : z_R}
theorem z_H.new {m : z_M} {H H1 : Heap} (h : z_H X m H) (hz : H1.size = H.size + 1) (ho : ∀ q : Nat, q < H.size → H1[q]? = H[q]?) (ha : va_at (X.2.1, X.2.2.1) vwCl (z_ad X m.1, z_E X (z_nw m) m.1) H1) : z_H X (z_nw m) H1 := by
  refine ⟨by rw [hz, h.1]; rfl, fun b hb => ?_⟩
  by_cases e : b = m.1
  · subst e
    exact ha
  · have hlt : b < m.1 := by
      have : b < m.1 + 1 := hb
      omega
    rw [z_E_congr (m := m) (by funext k; simp [z_nw, e]) (by funext k; simp [z_nw, e])]
    exact (h.2 b hlt).kept (ho _ (h.2 b hlt).lt)
theorem z_S.push {A : Nat → Prop} {H0 H H1 : Heap} {locs : List Loc} (hS : va_S A H0 H locs) (hz : H1.size = H.size + 1) (ho : ∀ q : Nat, q < H.size → H1[q]? = H[q]?) : va_S A H0 H1 locs :=
  ⟨Nat.le_trans hS.1 (by omega), fun x h1 h2 => (ho x (Nat.lt_of_lt_of_le h1 hS.1)).trans (hS.2.1 x h1 h2), hS.2.2⟩
/-- a step that makes a cell -/
theorem z_mk {pc' : Nat} {st0 st' : List Value} {k : Nat → z_M → z_R} (h : ∀ (p : Program) (e : Env) (R : Room) (s : State) (m : MethodId) (args : Array Value) (below : List Frame) (meth : Method) (c : Code) (H : Heap) (locs : List Loc) (cells slots : Nat) (Q : State → Prop) (ls : Array Slot),
      z_En X y cc nL rt p s m args meth c → z_H X mm H → va_S (z_A X) s.heap H locs → cells + 1 ≤ R.cells → slots + z_n mm.1 ≤ R.slots → (∀ H1 : Heap, z_H X (z_nw mm) H1 → va_S (z_A X) s.heap H1 locs → W p X.1 e R s m args below meth c H1 locs (cells + 1) (slots + z_n mm.1) Q (F0 m pc' ls (.ref (z_ad X mm.1) :: st'))) → W p X.1 e R s m args below meth c H locs cells slots Q (F0 m pc ls st0))
    (K : z_Sim X y cc nL rt d pc' lv (.ref (z_ad X mm.1) :: st') (z_nw mm) (k mm.1 (z_nw mm))) : z_Sim X y cc nL rt d pc lv st0 mm (k mm.1 (z_nw mm)) := by
  intro r m2 ho
  obtain ⟨⟨a1, a2⟩, b⟩ := K r m2 ho
  have a1 : mm.1 + 1 ≤ m2.1 := a1
  have a2 : mm.2.1 + z_n mm.1 ≤ m2.2.1 := a2
  refine ⟨⟨by omega, by omega⟩, fun p e s m args below meth c n0 z0 H locs ls hE h1 h2 hH hS hl => h _ _ _ _ _ _ _ _ _ _ _ _ _ _ _ hE hH hS ?_ ?_ (fun H1 hH1 hS1 => ?_)⟩
  · show mm.1 - n0 + 1 ≤ m2.1 - n0
    omega
  · show mm.2.1 - z0 + z_n mm.1 ≤ m2.2.1 - z0
    omega
  · have hh := b p e s m args below meth c n0 z0 H1 locs ls hE (by show n0 ≤ mm.1 + 1; omega) (by show z0 ≤ mm.2.1 + z_n mm.1; omega) hH1 hS1 hl
    have e1 : (z_nw mm).1 - n0 = mm.1 - n0 + 1 := by show mm.1 + 1 - n0 = _; omega
    have e2 : (z_nw mm).2.1 - z0 = mm.2.1 - z0 + z_n mm.1 := by show mm.2.1 + z_n mm.1 - z0 = _; omega
    rw [e1, e2] at hh
    exact hh
theorem z_new {c ix N : Nat} {C : String} {T : u_T} {ty : Nat → FieldType} {k : Nat → z_M → z_R} (hc : z_Cl c C T N ty) (hw : Cond.classLink y.cls ix C ∈ z_ws) (hw2 : Cond.instantiable C N ∈ z_ws) (hw3 : Cond.initialized C ∈ z_ws) (hd : decode cc pc = .ok (.new ix, 3))
    (K : ∀ (a : Nat) (m' : z_M), z_Sim X y cc nL rt d (pc + 3) lv (.ref (z_ad X a) :: st) m' (k a m')) : z_Sim X y cc nL rt d pc lv st mm (z_no mm c k) := by
  unfold z_no
  refine z_if (fun g2 => ?_) (fun _ => z_none)
  refine z_mk (fun p e R s m args below meth c0 H locs cells slots Q ls hE hH hS hcells hslots kk => ?_) (K mm.1 (z_nw mm))
  have hts := hE.1.2.2.2.2
  have hKn := hE.2.2.2.2.1.1 c _ hc.1
  have hlen : z_n mm.1 = N := hc.2.2.2.2.1 _ g2
  rw [hlen] at hslots kk
  refine W.newcK (h := z_ad X mm.1) hE.1.1 hE.1.2.1 hE.1.2.2.2.1 (hts _ hw) (hts _ hw2) (hts _ hw3) rfl hd hcells hslots hKn.2.1 hH.1 fun H1 kC hkC e1 z1 o1 => ?_
  have z1 : H1.size = H.size + 1 := by rw [hH.1]; exact z1
  have o1 : ∀ q : Nat, q < H.size → H1[q]? = H[q]? := fun q hq => o1 q (by rw [hH.1] at hq; exact hq)
  refine kk H1 (hH.new z1 o1 ?_) (z_S.push hS z1 o1)
  rw [z_E_obj g2 hc.2.2.2.2.2.2]
  refine ⟨_, hc.1, (u_born ty hts hc.2.1 hKn hkC e1 hc.2.2.1).to (fun j hj => ?_)⟩
  have hj2 : j < z_n mm.1 := by rw [hlen]; exact hj
  rw [hc.2.2.2.2.2.1 j hj]
  by_cases hi : z_i c j = true
  · simp [vp_V, hj2, z_v, g2, hi, z_nw]
  · simp [vp_V, hj2, z_v, g2, hi, z_nw, va_rf]
theorem z_newI {n : Int32} {k : Nat → z_M → z_R} (hd : decode cc pc = .ok (.newarray .int, 2))
    (K : ∀ (a : Nat) (m' : z_M), z_Sim X y cc nL rt d (pc + 2) lv (.ref (z_ad X a) :: st) m' (k a m')) : z_Sim X y cc nL rt d pc lv (.int n :: st) mm (z_na mm 6 n k) := by
  unfold z_na
  refine z_if (fun hg => ?_) (fun _ => z_none)
  obtain ⟨g2, g3, g4⟩ := hg
  refine z_mk (fun p e R s m args below meth c0 H locs cells slots Q ls hE hH hS hcells hslots kk => ?_) (K mm.1 (z_nw mm))
  have hts := hE.1.2.2.2.2
  refine va_newaK (atype := .int) (h := z_ad X mm.1) hE.1.1 hE.1.2.1 (hts (.arrayClass .int) (by decide +kernel)) rfl hd rfl g3 g4 ?_ hcells hslots hH.1 ?_
  · have h1 : componentBytes (newarray.typeOf ArrayType.int) ≤ 4 := by decide
    exact z_bytes mm.1 h1
  intro H1 cA e1 z1 o1 _ hcA
  have z1 : H1.size = H.size + 1 := by rw [hH.1]; exact z1
  have o1 : ∀ q : Nat, q < H.size → H1[q]? = H[q]? := fun q hq => o1 q (by rw [hH.1] at hq; exact hq)
  refine kk H1 (hH.new z1 o1 ?_) (z_S.push hS z1 o1)
  rw [z_E_int g2]
  have hc2 : s.vm.findClass ("[" ++ FieldType.int.toString) = some (X.2.2.2.1 6) := (hE.2.2.2.2.1.2 0 (X.2.2.2.1 6, .int) rfl).2
  have ecA : cA = X.2.2.2.1 6 := Option.some.inj (hcA.symm.trans hc2)
  subst ecA
  show H1[z_ad X mm.1]? = some (vp_cell _ _)
  rw [e1, vp_cell_i]
  congr 2
  funext q
  simp [z_nw]
  rfl
theorem z_newC {n : Int32} {k : Nat → z_M → z_R} (hd : decode cc pc = .ok (.newarray .char, 2))
    (K : ∀ (a : Nat) (m' : z_M), z_Sim X y cc nL rt d (pc + 2) lv (.ref (z_ad X a) :: st) m' (k a m')) : z_Sim X y cc nL rt d pc lv (.int n :: st) mm (z_na mm 7 n k) := by
  unfold z_na
  refine z_if (fun hg => ?_) (fun _ => z_none)
  obtain ⟨g2, g3, g4⟩ := hg
  refine z_mk (fun p e R s m args below meth c0 H locs cells slots Q ls hE hH hS hcells hslots kk => ?_) (K mm.1 (z_nw mm))
  have hts := hE.1.2.2.2.2
  refine va_newaK (atype := .char) (h := z_ad X mm.1) hE.1.1 hE.1.2.1 (hts (.arrayClass .char) (by decide +kernel)) rfl hd rfl g3 g4 ?_ hcells hslots hH.1 ?_
  · have h1 : componentBytes (newarray.typeOf ArrayType.char) ≤ 4 := by decide
    exact z_bytes mm.1 h1
  intro H1 cA e1 z1 o1 _ hcA
  have z1 : H1.size = H.size + 1 := by rw [hH.1]; exact z1
  have o1 : ∀ q : Nat, q < H.size → H1[q]? = H[q]? := fun q hq => o1 q (by rw [hH.1] at hq; exact hq)
  refine kk H1 (hH.new z1 o1 ?_) (z_S.push hS z1 o1)
  rw [z_E_chr g2]
  have hc2 : s.vm.findClass ("[" ++ FieldType.char.toString) = some (X.2.2.2.1 7) := (hE.2.2.2.2.1.2 1 (X.2.2.2.1 7, .char) rfl).2
  have ecA : cA = X.2.2.2.1 7 := Option.some.inj (hcA.symm.trans hc2)
  subst ecA
  show H1[z_ad X mm.1]? = some (vp_cell _ _)
  rw [e1, vp_cell_i]
  congr 2
  funext q
  simp [z_nw]
  rfl
theorem z_newR {ix : Nat} {n : Int32} {k : Nat → z_M → z_R} (hw : Cond.classLink y.cls ix "HayFootStraw$Standing" ∈ z_ws) (hd : decode cc pc = .ok (.anewarray ix, 3)) 
    (K : ∀ (a : Nat) (m' : z_M), z_Sim X y cc nL rt d (pc + 3) lv (.ref (z_ad X a) :: st) m' (k a m')) : z_Sim X y cc nL rt d pc lv (.int n :: st) mm (z_na mm 8 n k) := by
  unfold z_na
  refine z_if (fun hg => ?_) (fun _ => z_none)
  obtain ⟨g2, g3, g4⟩ := hg
  refine z_mk (fun p e R s m args below meth c0 H locs cells slots Q ls hE hH hS hcells hslots kk => ?_) (K mm.1 (z_nw mm))
  have hts := hE.1.2.2.2.2
  rw [← g4] at hslots kk
  refine W.anew hE.1.1 hE.1.2.1 hE.1.2.2.2.1 (hts _ hw) (va_AO.use hE.2.2.2.2.2.2.2.2.2.2.2.1) rfl hd rfl g3 (by rw [g4]; exact z_bytes _ (by decide)) hcells hslots fun cA kA comp f1 f2 f3 f4 => ?_
  generalize hH1 : H.push ({ cls := cA, slots := Array.replicate n.toNatClampNeg .null, vm := .none } : Cell) = H1
  have z1 : H1.size = H.size + 1 := by rw [← hH1, Array.size_push]
  have e1 : H1[H.size]? = some (arrV cA n.toNatClampNeg (fun _ => .null)) := by rw [← hH1, Array.getElem?_push_size, ← arrV_new]
  have o1 : ∀ q : Nat, q < H.size → H1[q]? = H[q]? := fun q hq => by rw [← hH1, Array.getElem?_push, if_neg (Nat.ne_of_lt hq)]
  have hsz : H.size = z_ad X mm.1 := hH.1
  rw [hsz] at e1
  have kk2 := kk H1 (hH.new z1 o1 ?_) (z_S.push hS z1 o1)
  · rw [← hsz] at kk2
    exact kk2
  rw [z_E_ref g2]
  obtain ⟨kA', comp', r1, r2, r3, hc2⟩ := (hE.2.2.2.2.1.2 2 (X.2.2.2.1 8, .object "HayFootStraw$Standing") rfl).2
  have ecA : cA = X.2.2.2.1 8 := Option.some.inj (f1.symm.trans hc2)
  subst ecA
  show H1[z_ad X mm.1]? = some (vp_cell _ _)
  rw [e1, vp_cell_q, g4]
  congr 2
  funext q
  simp [z_nw, va_rf]
theorem z_gets0 {ix : Nat} (hw : Cond.fieldLink y.cls ix "HayFootStraw" "TURNS" "[I" ∈ z_ws) (hd : decode cc pc = .ok (.getstatic ix, 3)) (K : z_Sim X y cc nL rt d (pc + 3) lv (.ref (X.2.2.2.2.2 0) :: st) mm o) : z_Sim X y cc nL rt d pc lv st mm o :=
  z_rd (fun p e R s m args below meth c0 H locs cells slots Q ls hE hH hS kk => va_gets hE.1.1 hE.1.2.1 hE.2.2.2.2.2.2.1.1 hS hE.1.2.2.2.1 (hE.1.2.2.2.2 _ hw) (fun _ h => h) hd kk) K
theorem z_gets1 {ix : Nat} (hw : Cond.fieldLink y.cls ix "HayFootStraw" "ROWS" "[I" ∈ z_ws) (hd : decode cc pc = .ok (.getstatic ix, 3)) (K : z_Sim X y cc nL rt d (pc + 3) lv (.ref (X.2.2.2.2.2 1) :: st) mm o) : z_Sim X y cc nL rt d pc lv st mm o :=
  z_rd (fun p e R s m args below meth c0 H locs cells slots Q ls hE hH hS kk => va_gets hE.1.1 hE.1.2.1 hE.2.2.2.2.2.2.1.2 hS hE.1.2.2.2.1 (hE.1.2.2.2.2 _ hw) (fun _ h => h) hd kk) K
theorem z_tald {t : Nat} {i : Int32} {k : Int32 → z_R} (ht : t < 2) (hd : decode cc pc = .ok (.iaload, 1)) (K : ∀ v : Int32, z_Sim X y cc nL rt d (pc + 1) lv (.int v :: st) mm (k v)) : z_Sim X y cc nL rt d pc lv (.int i :: .ref (X.2.2.2.2.2 t) :: st) mm (z_tl t i k) := by
  unfold z_tl
  refine z_if (fun hg => ?_) (fun _ => z_none)
  exact z_rd (fun p e R s m args below meth c0 H locs cells slots Q ls hE hH hS kk => va_ti hE.1.1 hE.1.2.1 (hE.2.2.2.2.2.2.2.1 t ht) hS (vp_in_iff.mpr hg) rfl hd kk) (K _)
theorem z_iret {v : Int32} (hd : decode cc pc = .ok (.ireturn, 1)) : z_Sim X y cc nL (some .int) d pc lv [.int v] mm (some (v, mm)) := by
  intro r m2 ho
  cases ho
  exact ⟨⟨Nat.le_refl _, Nat.le_refl _⟩, fun p e s m args below meth c n0 z0 H locs ls hE h1 h2 hH hS hl => W.iret hE.1.1 hE.1.2.1 hE.2.1 (fun t ht _ => ⟨rfl, by rw [ht]; exact hH, hS.F ht⟩) hS.2.2 hd hE.2.2.1⟩
theorem z_zret {v : Int32} (hd : decode cc pc = .ok (.ireturn, 1)) : z_Sim X y cc nL (some .boolean) d pc lv [.int v] mm (z_rz v mm) := by
  unfold z_rz
  refine z_if (fun hg => ?_) (fun _ => z_none)
  intro r m2 ho
  cases ho
  exact ⟨⟨Nat.le_refl _, Nat.le_refl _⟩, fun p e s m args below meth c n0 z0 H locs ls hE h1 h2 hH hS hl => W.zret hE.1.1 hE.1.2.1 hE.2.1 (by rcases hg with h | h <;> rw [h] <;> rfl) (fun t ht _ => ⟨rfl, by rw [ht]; exact hH, hS.F ht⟩) hS.2.2 hd hE.2.2.1⟩
theorem z_zret0 (hd : decode cc pc = .ok (.ireturn, 1)) : z_Sim X y cc nL (some .boolean) d pc lv [.int 0] mm (some (0, mm)) := z_zret (v := 0) hd
theorem z_zret1 (hd : decode cc pc = .ok (.ireturn, 1)) : z_Sim X y cc nL (some .boolean) d pc lv [.int 1] mm (some (1, mm)) := z_zret (v := 1) hd
theorem z_vret (hd : decode cc pc = .ok (.return_, 1)) : z_Sim X y cc nL none d pc lv [] mm (some (0, mm)) := by
  intro r m2 ho
  cases ho
  exact ⟨⟨Nat.le_refl _, Nat.le_refl _⟩, fun p e s m args below meth c n0 z0 H locs ls hE h1 h2 hH hS hl => W.vret hE.1.1 hE.1.2.1 hE.2.1 (fun t ht _ => ⟨rfl, by rw [ht]; exact hH, hS.F ht⟩) hS.2.2 hd hE.2.2.1⟩
theorem z_oinit {a ix : Nat} (hd1 : 1 ≤ d) (h36 : (st.map fun v => v.category).sum + 12 ≤ 36) (hw : Cond.methodLink y.cls ix Lib.objectInit ∈ z_ws) (hd : decode cc pc = .ok (.invokespecial ix, 3)) (K : z_Sim X y cc nL rt d (pc + 3) lv st mm o) : z_Sim X y cc nL rt d pc lv (.ref a :: st) mm o := by
  intro r m2 ho
  obtain ⟨a1, b⟩ := K r m2 ho
  refine ⟨a1, fun p e s m args below meth c n0 z0 H locs ls hE h1 h2 hH hS hl => ?_⟩
  have hts := hE.1.2.2.2.2
  refine W.objInit hE.1.1 hE.1.2.1 hE.1.2.2.2.1 (hts _ hw) (hts (.instanceMethod Lib.objectInit) (by decide +kernel)) (hts (.code Lib.objectInit ⟨#[0xb1]⟩ 1 none) (by decide +kernel)) rfl (by rw [hE.1.2.2.1]; exact hl.1) rfl hd hd1 (by show 2 * 0 + _ + 12 ≤ 36 * d; omega) ?_
  exact b p e s m args below meth c n0 z0 H locs ls hE h1 h2 hH hS hl
/-- behind a call -/
theorem z_behind {p : Program} {e : Env} {R : Room} {s : State} {m : MethodId} {args : Array Value} {below : List Frame} {meth : Method} {c : Code} {H : Heap} {locs : List Loc} {cells slots mc ms : Nat} {Q : State → Prop} {ls : Array Slot} {st0 rest : List Value} {a : Array Value} {rt2 : Option FieldType} {r1 : Int32} {m1 : z_M}
    (hr : va_Run p X.1 e R s m args below meth c H locs cells slots mc ms (F0 m pc ls st0) rest (z_Q X rt2 r1 m1 a) (z_A X)) (hS : va_S (z_A X) s.heap H locs)
    (kk : ∀ (H1 : Heap) (locs1 : List Loc), z_H X m1 H1 → va_S (z_A X) s.heap H1 locs1 → W p X.1 e R s m args below meth c H1 locs1 (cells + mc) (slots + ms) Q (F0 m (pc + 3) ls ((if rt2 = none then none else some (Value.int r1)).toList ++ rest))) : W p X.1 e R s m args below meth c H locs cells slots Q (F0 m pc ls st0) := by
  intro T hT Y
  obtain ⟨v, st₀, t, T', L, h0, Y', hL, e1, e2, ⟨hv, hp, hz, hk⟩, stp⟩ := hr T hT Y
  cases hv
  rw [h0] at hz hk
  obtain ⟨t2, a1, b1⟩ := kk T'.heap (locs ++ L) (by rw [e1]; exact hp) ⟨Nat.le_trans hS.1 (by rw [e1]; exact hz), fun q h1 h2 => by rw [e1, hk q (Nat.lt_of_lt_of_le h1 hS.1) h2]; exact hS.2.1 q h1 h2, fun q hq => by
      rcases List.mem_append.mp hq with h | h
      · exact hS.2.2 q h
      · exact hL q h⟩ T' rfl Y'
  exact ⟨t2, stp t2 a1, b1⟩
/-- what the tables say of a method -/
def z_Mw (y2 : MethodName) (c2 : ByteArray) (n2 : Nat) (rt2 : Option FieldType) (np : Nat) : Prop := Cond.code y2 c2 n2 rt2 ∈ z_ws ∧ Cond.initialized y2.cls ∈ z_ws ∧ (y2.cls ≠ "java/lang/invoke/MethodHandle" ∧ y2.cls ≠ "java/lang/invoke/VarHandle" ∧ (parseMethodDescriptor y2.desc).map (fun d => d.parameters.length) = some np)
theorem z_pre {U s : State} {H : Heap} {locs : List Loc} {av : List Value} (hK : va_K (X.2.1, X.2.2.1) vwCl (z_ty X) s) (hSt : z_S X s s.heap) (hH : z_H X mm H) (hS : va_S (z_A X) s.heap H locs) (hU : U.heap = H) (hW : s.WarmedH U.vm) : va_Pc av (z_Pre X mm) av.toArray U := ⟨rfl, by rw [hU]; exact hH, va_K.moved hW.alike hK, by rw [hU]; exact hSt.to hS hW⟩
/-- any call, by its run -/
theorem z_call {y2 : MethodName} {c2 : ByteArray} {n2 : Nat} {rt2 : Option FieldType} {d2 : Nat} {av : List Value} {oc : z_R} {k : Int32 → z_M → z_R} {st0 rest : List Value} (hC : z_Ct X y2 c2 n2 rt2 d2 av mm oc)
    (run : ∀ (r1 : Int32) (m1 : z_M) (p : Program) (e : Env) (R : Room) (s : State) (m : MethodId) (args : Array Value) (below : List Frame) (meth : Method) (c : Code) (H : Heap) (locs : List Loc) (cells slots : Nat) (ls : Array Slot), z_En X y cc nL rt p s m args meth c → z_H X mm H → va_S (z_A X) s.heap H locs → ls.size = nL → R.frames = d → R.locals = 36 * d → cells + (m1.1 - mm.1) ≤ R.cells ∧ slots + (m1.2.1 - mm.2.1) ≤ R.slots → 
      Met X.1 y2 (Cond.code y2 c2 n2 rt2 :: z_ws) (z_rm d2 (m1.1 - mm.1) (m1.2.1 - mm.2.1)) (va_Pc av (z_Pre X mm)) (z_Q X rt2 r1 m1) (m1.1 - mm.1) (m1.2.1 - mm.2.1) (z_A X) →
      va_Run p X.1 e R s m args below meth c H locs cells slots (m1.1 - mm.1) (m1.2.1 - mm.2.1) (F0 m pc ls st0) rest (z_Q X rt2 r1 m1 av.toArray) (z_A X))
    (K : ∀ (r1 : Int32) (m1 : z_M), z_Sim X y cc nL rt d (pc + 3) lv ((if rt2 = none then none else some (Value.int r1)).toList ++ rest) m1 (k r1 m1)) : z_Sim X y cc nL rt d pc lv st0 mm (z_b oc k) := by
  intro r m2 ho
  obtain ⟨r1, m1, h1, h2⟩ := z_b_some ho
  obtain ⟨⟨q1, q2⟩, hM⟩ := hC r1 m1 h1
  obtain ⟨⟨q3, q4⟩, b⟩ := K r1 m1 r m2 h2
  refine ⟨⟨by omega, by omega⟩, fun p e s m args below meth c n0 z0 H locs ls hE g1 g2 hH hS hl => ?_⟩
  refine z_behind (run r1 m1 p e _ s m args below meth c H locs _ _ ls hE hH hS hl.1 rfl rfl ⟨?_, ?_⟩ hM) hS (fun H1 locs1 hH1 hS1 => ?_)
  · show mm.1 - n0 + (m1.1 - mm.1) ≤ m2.1 - n0
    omega
  · show mm.2.1 - z0 + (m1.2.1 - mm.2.1) ≤ m2.2.1 - z0
    omega
  · have hh := b p e s m args below meth c n0 z0 H1 locs1 ls hE (by omega) (by omega) hH1 hS1 hl
    have e1 : mm.1 - n0 + (m1.1 - mm.1) = m1.1 - n0 := by omega
    have e2 : mm.2.1 - z0 + (m1.2.1 - mm.2.1) = m1.2.1 - z0 := by omega
    rw [e1, e2]
    exact hh
theorem z_cV {y2 : MethodName} {c2 : ByteArray} {n2 np N : Nat} {rt2 : Option FieldType} {d2 a ci ix : Nat} {C : String} {T : u_T} {ty : Nat → FieldType} {As rest st0 : List Value} {oc : z_R} {k : Int32 → z_M → z_R} (hC : z_Ct X y2 c2 n2 rt2 d2 (.ref (z_ad X a) :: As) mm oc) (hM : z_Mw y2 c2 n2 rt2 np) (hI : Cond.instanceMethod y2 ∈ z_ws ∧ Cond.selects C y2 y2 ∈ z_ws) (hc : z_Cl ci C T N ty) (hl : Cond.methodLink y.cls ix y2 ∈ z_ws) (hnp : As.length = np) (hst : st0 = As.reverse ++ .ref (z_ad X a) :: rest) (hR : d2 + 1 ≤ d ∧ 8 + (n2 + 11) + 36 * d2 ≤ 36 * d) (h8 : (rest.map fun v => v.category).sum ≤ 8) (hd : decode cc pc = .ok (.invokevirtual ix, 3))
    (K : ∀ (r1 : Int32) (m1 : z_M), z_Sim X y cc nL rt d (pc + 3) lv ((if rt2 = none then none else some (Value.int r1)).toList ++ rest) m1 (k r1 m1)) : z_Sim X y cc nL rt d pc lv st0 mm (z_cv mm a ci oc k) := by
  unfold z_cv
  refine z_if (fun hg => ?_) (fun _ => z_none)
  obtain ⟨g1, g2⟩ := hg
  refine z_call hC (fun r1 m1 p e R s m args below meth c H locs cells slots ls hE hH hS hls hRf hRl hfit hMet => ?_) K
  have hts := hE.1.2.2.2.2
  have hat := z_one_P hH g1 (z_E_obj g2 hc.2.2.2.2.2.2)
  exact va_runV (C := C) (b := z_ad X a) (As := As) (rest := rest) (n := np) hE.1 hMet ⟨callB_of np hts (z_goodIn hM.1 (fun _ h => h)) rfl rfl rfl (hts _ hM.2.1) (hts _ hl) hM.2.2 ⟨by show d2 + 1 ≤ R.frames; omega, by show 8 + (n2 + 11) + 36 * d2 ≤ R.locals; omega⟩, hts _ hI.1, hts _ hI.2⟩ ⟨z_blind X _ mm, va_recv hE.2.2.2.2.1 hat hc.1 (q0 := 0) rfl, fun U hU hW => z_pre hE.2.2.2.2.1 hE.2.2.2.2.2.2 hH hS hU hW⟩ rfl hnp hls hst (lv_room h8) hd hfit
theorem z_cS {y2 : MethodName} {c2 : ByteArray} {n2 np : Nat} {rt2 : Option FieldType} {d2 ix : Nat} {As rest st0 : List Value} {oc : z_R} {k : Int32 → z_M → z_R} (hC : z_Ct X y2 c2 n2 rt2 d2 As mm oc) (hM : z_Mw y2 c2 n2 rt2 np) (hI : Cond.static y2 ∈ z_ws) (hl : Cond.methodLink y.cls ix y2 ∈ z_ws) (hnp : As.length = np) (hst : st0 = As.reverse ++ rest) (hR : d2 + 1 ≤ d ∧ 8 + (n2 + 11) + 36 * d2 ≤ 36 * d) (h8 : (rest.map fun v => v.category).sum ≤ 8) (hd : decode cc pc = .ok (.invokestatic ix, 3))
    (K : ∀ (r1 : Int32) (m1 : z_M), z_Sim X y cc nL rt d (pc + 3) lv ((if rt2 = none then none else some (Value.int r1)).toList ++ rest) m1 (k r1 m1)) : z_Sim X y cc nL rt d pc lv st0 mm (z_b oc k) := by
  refine z_call hC (fun r1 m1 p e R s m args below meth c H locs cells slots ls hE hH hS hls hRf hRl hfit hMet => ?_) K
  have hts := hE.1.2.2.2.2
  exact va_runS (As := As) (rest := rest) (n := np) hE.1 hMet ⟨callB_of np hts (z_goodIn hM.1 (fun _ h => h)) rfl rfl rfl (hts _ hM.2.1) (hts _ hl) hM.2.2 ⟨by show d2 + 1 ≤ R.frames; omega, by show 8 + (n2 + 11) + 36 * d2 ≤ R.locals; omega⟩, hts _ hI⟩ ⟨z_blind X _ mm, fun U hU hW => z_pre hE.2.2.2.2.1 hE.2.2.2.2.2.2 hH hS hU hW⟩ rfl hnp hls hst (lv_room h8) hd hfit
theorem z_cI {y2 : MethodName} {c2 : ByteArray} {n2 np : Nat} {d2 a ix : Nat} {As rest st0 : List Value} {oc : z_R} {k : Int32 → z_M → z_R} (hC : z_Ct X y2 c2 n2 none d2 (.ref a :: As) mm oc) (hM : z_Mw y2 c2 n2 none np) (hI : Cond.instanceMethod y2 ∈ z_ws) (hn2 : y2.name = "<init>") (hl : Cond.methodLink y.cls ix y2 ∈ z_ws) (hnp : As.length = np) (hst : st0 = As.reverse ++ .ref a :: rest) (hR : d2 + 1 ≤ d ∧ 8 + (n2 + 11) + 36 * d2 ≤ 36 * d) (h8 : (rest.map fun v => v.category).sum ≤ 8) (hd : decode cc pc = .ok (.invokespecial ix, 3))
    (K : ∀ (r1 : Int32) (m1 : z_M), z_Sim X y cc nL rt d (pc + 3) lv rest m1 (k r1 m1)) : z_Sim X y cc nL rt d pc lv st0 mm (z_b oc k) := by
  refine z_call hC (fun r1 m1 p e R s m args below meth c H locs cells slots ls hE hH hS hls hRf hRl hfit hMet => ?_) K
  have hts := hE.1.2.2.2.2
  exact va_runI (b := a) (As := As) (rest := rest) (n := np) hE.1 hMet ⟨callB_of np hts (z_goodIn hM.1 (fun _ h => h)) rfl rfl rfl (hts _ hM.2.1) (hts _ hl) hM.2.2 ⟨by show d2 + 1 ≤ R.frames; omega, by show 8 + (n2 + 11) + 36 * d2 ≤ R.locals; omega⟩, hn2, hts _ hI⟩ ⟨z_blind X _ mm, fun U hU hW => z_pre hE.2.2.2.2.1 hE.2.2.2.2.2.2 hH hS hU hW⟩ rfl hnp hls hst (lv_room h8) hd hfit
theorem z_cN {y2 : MethodName} {c2 : ByteArray} {n2 np : Nat} {d2 a ix : Nat} {As rest st0 : List Value} {oc : z_R} {k : Int32 → z_M → z_R} (hC : z_Ct X y2 c2 n2 none d2 (.ref a :: As) mm oc) (hM : z_Mw y2 c2 n2 none np) (hI : Cond.instanceMethod y2 ∈ z_ws) (hn2 : y2.name = "<init>") (hl : (y.cls, ix, y2) ∈ z_nest) (hnp : As.length = np) (hst : st0 = As.reverse ++ .ref a :: rest) (hR : d2 + 1 ≤ d ∧ 8 + (n2 + 11) + 36 * d2 ≤ 36 * d) (h8 : (rest.map fun v => v.category).sum ≤ 8) (hd : decode cc pc = .ok (.invokespecial ix, 3))
    (K : ∀ (r1 : Int32) (m1 : z_M), z_Sim X y cc nL rt d (pc + 3) lv rest m1 (k r1 m1)) : z_Sim X y cc nL rt d pc lv st0 mm (z_b oc k) := by
  refine z_call hC (fun r1 m1 p e R s m args below meth c H locs cells slots ls hE hH hS hls hRf hRl hfit hMet => ?_) K
  have hts := hE.1.2.2.2.2
  have hc : Cond.code y2 c2 n2 none ∈ (Cond.code y2 c2 n2 none :: z_ws) := List.mem_cons_self
  refine va_runIN (host := "HayFootStraw") (b := a) (As := As) (rest := rest) (n := np) hE.1 hMet ⟨⟨⟨rfl, rfl, by show d2 + 1 ≤ R.frames; omega, by show 8 + (n2 + 11) + 36 * d2 ≤ R.locals; omega, pay_in hts (z_goodIn hM.1 (fun _ h => h)), hc⟩, hts _ hM.1, hts _ hM.2.1, ⟨hM.2.2.1, hM.2.2.2.1⟩, fun sig h => ?_, va_Nw.use rfl (hE.2.2.2.2.2.2.2.2.2.2.2.2.2 _ hl)⟩, hn2, hts _ hI⟩ ⟨z_blind X _ mm, fun U hU hW => z_pre hE.2.2.2.2.1 hE.2.2.2.2.2.2 hH hS hU hW⟩ rfl hnp hls hst (lv_room h8) hd hfit
  have h2 := hM.2.2.2.2
  rw [h] at h2
  exact (Option.some.inj h2).symm
theorem z_cVi {y2 : MethodName} {c2 : ByteArray} {n2 np N : Nat} {t2 : FieldType} {d2 a ci ix : Nat} {C : String} {T : u_T} {ty : Nat → FieldType} {As rest st0 : List Value} {oc : z_R} {k : Int32 → z_M → z_R} (hC : z_Ct X y2 c2 n2 (some t2) d2 (.ref (z_ad X a) :: As) mm oc) (hM : z_Mw y2 c2 n2 (some t2) np) (hI : Cond.instanceMethod y2 ∈ z_ws ∧ Cond.selects C y2 y2 ∈ z_ws) (hc : z_Cl ci C T N ty) (hl : Cond.methodLink y.cls ix y2 ∈ z_ws) (hnp : As.length = np) (hst : st0 = As.reverse ++ .ref (z_ad X a) :: rest) (hR : d2 + 1 ≤ d ∧ 8 + (n2 + 11) + 36 * d2 ≤ 36 * d) (h8 : (rest.map fun v => v.category).sum ≤ 8) (hd : decode cc pc = .ok (.invokevirtual ix, 3))
    (K : ∀ (r1 : Int32) (m1 : z_M), z_Sim X y cc nL rt d (pc + 3) lv (.int r1 :: rest) m1 (k r1 m1)) : z_Sim X y cc nL rt d pc lv st0 mm (z_cv mm a ci oc k) :=
  z_cV hC hM hI hc hl hnp hst hR h8 hd K
theorem z_cVv {y2 : MethodName} {c2 : ByteArray} {n2 np N : Nat} {d2 a ci ix : Nat} {C : String} {T : u_T} {ty : Nat → FieldType} {As rest st0 : List Value} {oc : z_R} {k : Int32 → z_M → z_R} (hC : z_Ct X y2 c2 n2 none d2 (.ref (z_ad X a) :: As) mm oc) (hM : z_Mw y2 c2 n2 none np) (hI : Cond.instanceMethod y2 ∈ z_ws ∧ Cond.selects C y2 y2 ∈ z_ws) (hc : z_Cl ci C T N ty) (hl : Cond.methodLink y.cls ix y2 ∈ z_ws) (hnp : As.length = np) (hst : st0 = As.reverse ++ .ref (z_ad X a) :: rest) (hR : d2 + 1 ≤ d ∧ 8 + (n2 + 11) + 36 * d2 ≤ 36 * d) (h8 : (rest.map fun v => v.category).sum ≤ 8) (hd : decode cc pc = .ok (.invokevirtual ix, 3))
    (K : ∀ (r1 : Int32) (m1 : z_M), z_Sim X y cc nL rt d (pc + 3) lv rest m1 (k r1 m1)) : z_Sim X y cc nL rt d pc lv st0 mm (z_cv mm a ci oc k) :=
  z_cV hC hM hI hc hl hnp hst hR h8 hd K
theorem z_cSi {y2 : MethodName} {c2 : ByteArray} {n2 np : Nat} {t2 : FieldType} {d2 ix : Nat} {As rest st0 : List Value} {oc : z_R} {k : Int32 → z_M → z_R} (hC : z_Ct X y2 c2 n2 (some t2) d2 As mm oc) (hM : z_Mw y2 c2 n2 (some t2) np) (hI : Cond.static y2 ∈ z_ws) (hl : Cond.methodLink y.cls ix y2 ∈ z_ws) (hnp : As.length = np) (hst : st0 = As.reverse ++ rest) (hR : d2 + 1 ≤ d ∧ 8 + (n2 + 11) + 36 * d2 ≤ 36 * d) (h8 : (rest.map fun v => v.category).sum ≤ 8) (hd : decode cc pc = .ok (.invokestatic ix, 3))
    (K : ∀ (r1 : Int32) (m1 : z_M), z_Sim X y cc nL rt d (pc + 3) lv (.int r1 :: rest) m1 (k r1 m1)) : z_Sim X y cc nL rt d pc lv st0 mm (z_b oc k) :=
  z_cS hC hM hI hl hnp hst hR h8 hd K
theorem z_cSv {y2 : MethodName} {c2 : ByteArray} {n2 np : Nat} {d2 ix : Nat} {As rest st0 : List Value} {oc : z_R} {k : Int32 → z_M → z_R} (hC : z_Ct X y2 c2 n2 none d2 As mm oc) (hM : z_Mw y2 c2 n2 none np) (hI : Cond.static y2 ∈ z_ws) (hl : Cond.methodLink y.cls ix y2 ∈ z_ws) (hnp : As.length = np) (hst : st0 = As.reverse ++ rest) (hR : d2 + 1 ≤ d ∧ 8 + (n2 + 11) + 36 * d2 ≤ 36 * d) (h8 : (rest.map fun v => v.category).sum ≤ 8) (hd : decode cc pc = .ok (.invokestatic ix, 3))
    (K : ∀ (r1 : Int32) (m1 : z_M), z_Sim X y cc nL rt d (pc + 3) lv rest m1 (k r1 m1)) : z_Sim X y cc nL rt d pc lv st0 mm (z_b oc k) :=
  z_cS hC hM hI hl hnp hst hR h8 hd K
/-- a call on the first squad's text -/
theorem z_cT {y2 : MethodName} {c2 : ByteArray} {n2 np : Nat} {t2 : FieldType} {d2 ix : Nat} {As rest st0 : List Value} {oc : z_R} {k : Int32 → z_M → z_R} (hC : z_Ct X y2 c2 n2 (some t2) d2 (.ref (X.2.2.2.2.2 2) :: As) mm oc) (hM : z_Mw y2 c2 n2 (some t2) np) (hI : Cond.instanceMethod y2 ∈ z_ws ∧ Cond.selects RJ0 y2 y2 ∈ z_ws) (hl : Cond.methodLink y.cls ix y2 ∈ z_ws) (hnp : As.length = np) (hst : st0 = As.reverse ++ .ref (X.2.2.2.2.2 2) :: rest) (hR : d2 + 1 ≤ d ∧ 8 + (n2 + 11) + 36 * d2 ≤ 36 * d) (h8 : (rest.map fun v => v.category).sum ≤ 8) (hd : decode cc pc = .ok (.invokevirtual ix, 3))
    (K : ∀ (r1 : Int32) (m1 : z_M), z_Sim X y cc nL rt d (pc + 3) lv (.int r1 :: rest) m1 (k r1 m1)) : z_Sim X y cc nL rt d pc lv st0 mm (z_b oc k) := by
  refine z_call hC (fun r1 m1 p e R s m args below meth c H locs cells slots ls hE hH hS hls hRf hRl hfit hMet => ?_) K
  have hts := hE.1.2.2.2.2
  exact va_runV (C := RJ0) (b := X.2.2.2.2.2 2) (As := As) (rest := rest) (n := np) hE.1 hMet ⟨callB_of np hts (z_goodIn hM.1 (fun _ h => h)) rfl rfl rfl (hts _ hM.2.1) (hts _ hl) hM.2.2 ⟨by show d2 + 1 ≤ R.frames; omega, by show 8 + (n2 + 11) + 36 * d2 ≤ R.locals; omega⟩, hts _ hI.1, hts _ hI.2⟩ ⟨z_blind X _ mm, vk_recv (i := 0) hE.2.2.2.2.2.2.2.2.2.1 (by decide) hS, fun U hU hW => z_pre hE.2.2.2.2.1 hE.2.2.2.2.2.2 hH hS hU hW⟩ rfl hnp hls hst (lv_room h8) hd hfit
theorem z_ldcS (hy : y.cls = "HayFootStraw") (hd : decode cc pc = .ok (.ldc 58, 2)) (K : z_Sim X y cc nL rt d (pc + 2) lv (.ref (X.2.2.2.2.2 2) :: st) mm o) : z_Sim X y cc nL rt d pc lv st mm o :=
  z_rd (fun p e R s m args below meth c0 H locs cells slots Q ls hE hH hS kk => va_ldcS (own := "HayFootStraw") hE.1.1 hE.1.2.1 (by rw [← hy]; exact hE.1.2.2.2.1) hE.2.2.2.2.2.2.2.2.2.2.1 hd kk) K
def z_mx (x y : Int32) : Int32 := if x < y then y else x
def z_dv (x y : Int32) (k : Int32 → z_R) : z_R := if y = 0 then none else k (x / y)
def z_rm' (x y : Int32) (k : Int32 → z_R) : z_R := if y = 0 then none else k (z_mI x y)
theorem z_idivG {x y1 : Int32} {k : Int32 → z_R} (hd : decode cc pc = .ok (.idiv, 1)) (K : ∀ v : Int32, z_Sim X y cc nL rt d (pc + 1) lv (.int v :: st) mm (k v)) : z_Sim X y cc nL rt d pc lv (.int y1 :: .int x :: st) mm (z_dv x y1 k) := by
  unfold z_dv
  exact z_if (fun _ => z_none) (fun h => z_idiv hd h (K _))
theorem z_iremG {x y1 : Int32} {k : Int32 → z_R} (hd : decode cc pc = .ok (.irem, 1)) (K : ∀ v : Int32, z_Sim X y cc nL rt d (pc + 1) lv (.int v :: st) mm (k v)) : z_Sim X y cc nL rt d pc lv (.int y1 :: .int x :: st) mm (z_rm' x y1 k) := by
  unfold z_rm'
  exact z_if (fun _ => z_none) (fun h => z_irem hd h (K _))
/-- a return of any int kind -/
theorem z_xret {v : Int32} {ty : FieldType} (hn : narrow ty (.int v) = .int v) (hd : decode cc pc = .ok (.ireturn, 1)) : z_Sim X y cc nL (some ty) d pc lv [.int v] mm (some (v, mm)) := by
  intro r m2 ho
  cases ho
  exact ⟨⟨Nat.le_refl _, Nat.le_refl _⟩, fun p e s m args below meth c n0 z0 H locs ls hE h1 h2 hH hS hl => W.zret hE.1.1 hE.1.2.1 hE.2.1 hn (fun t ht _ => ⟨rfl, by rw [ht]; exact hH, hS.F ht⟩) hS.2.2 hd hE.2.2.1⟩
end
theorem z_sw2 {x : Int32} (h0 : ¬ x = 0) (h1 : ¬ x = 1) (h2 : ¬ x = 2) : x.toInt < 0 ∨ 2 < x.toInt := by
  have a0 := lv_neT h0 (a := 0) (by decide)
  have a1 := lv_neT h1 (a := 1) (by decide)
  have a2 := lv_neT h2 (a := 2) (by decide)
  omega
theorem z_sw4 {x : Int32} (h0 : ¬ x = 0) (h1 : ¬ x = 1) (h2 : ¬ x = 2) (h3 : ¬ x = 3) (h4 : ¬ x = 4) : x.toInt < 0 ∨ 4 < x.toInt := by
  have a0 := lv_neT h0 (a := 0) (by decide)
  have a1 := lv_neT h1 (a := 1) (by decide)
  have a2 := lv_neT h2 (a := 2) (by decide)
  have a3 := lv_neT h3 (a := 3) (by decide)
  have a4 := lv_neT h4 (a := 4) (by decide)
  omega
theorem z_sw5 {x : Int32} (h0 : ¬ x = 0) (h1 : ¬ x = 1) (h2 : ¬ x = 2) (h3 : ¬ x = 3) (h4 : ¬ x = 4) (h5 : ¬ x = 5) : x.toInt < 0 ∨ 5 < x.toInt := by
  have a0 := lv_neT h0 (a := 0) (by decide)
  have a1 := lv_neT h1 (a := 1) (by decide)
  have a2 := lv_neT h2 (a := 2) (by decide)
  have a3 := lv_neT h3 (a := 3) (by decide)
  have a4 := lv_neT h4 (a := 4) (by decide)
  have a5 := lv_neT h5 (a := 5) (by decide)
  omega
