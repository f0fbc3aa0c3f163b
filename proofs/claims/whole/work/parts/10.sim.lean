/-! THE PICTURE. A memory of rows of ints and of references; which row is what (z_T) stands fast: the cells come in the order in which the two constructors make them. -/
abbrev z_M : Type := Nat × Nat × (Nat → Nat → Int32) × (Nat → Nat → Option Nat)
abbrev z_R : Type := Option (Int32 × z_M)
/-- launch, class ids, slots, ids of array classes (by kind), the first address, addresses of what was there before -/
abbrev z_X : Type := Launch × (Nat → ClassId) × (Nat → Nat → Nat) × (Nat → ClassId) × Nat × (Nat → Nat)
/-- kind (0 to 5: the class in vwCl; 6 int[], 7 char[], 8 Standing[]) and length -/
def z_T : List (Nat × Nat) := [(4, 10), (1, 3), (7, 200), (6, 4), (2, 7), (6, 8), (6, 8), (6, 8), (6, 8), (2, 7), (6, 8), (6, 8), (6, 8), (6, 8), (3, 8), (6, 8), (6, 8), (3, 8), (6, 8), (6, 8), (0, 2), (8, 8), (3, 8), (6, 8), (6, 8), (3, 8), (6, 8), (6, 8), (3, 8), (6, 8), (6, 8), (3, 8), (6, 8), (6, 8), (3, 8), (6, 8), (6, 8), (3, 8), (6, 8), (6, 8), (3, 8), (6, 8), (6, 8), (3, 8), (6, 8), (6, 8), (0, 2), (8, 2), (3, 8), (6, 8), (6, 8), (3, 8), (6, 8), (6, 8), (6, 8), (6, 8), (6, 3), (5, 14), (6, 200), (6, 35), (6, 35), (6, 22), (6, 176), (6, 44), (6, 22)]
def z_k (a : Nat) : Nat := (z_T.getD a (99, 0)).1
def z_n (a : Nat) : Nat := (z_T.getD a (99, 0)).2
/-- is the field an int -/
def z_i (c k : Nat) : Bool := match c with
  | 0 => [1].contains k
  | 1 => [1].contains k
  | 2 => [0, 1, 2].contains k
  | 3 => [2, 3, 4, 5, 6, 7].contains k
  | 5 => [1, 6, 8, 9, 10, 11, 13].contains k
  | _ => false
def z_ad (X : z_X) (a : Nat) : Nat := X.2.2.2.2.1 + a
def z_A (X : z_X) : Nat → Prop := fun q => X.2.2.2.2.1 ≤ q
def z_v (X : z_X) (m : z_M) (a k : Nat) : Value := if z_i (z_k a) k = true then .int (m.2.2.1 a k) else va_rf ((m.2.2.2 a k).map (z_ad X))
def z_E (X : z_X) (m : z_M) (a : Nat) : va_E :=
  if z_k a = 6 ∨ z_k a = 7 then .inl (X.2.2.2.1 (z_k a), z_n a, .inl (m.2.2.1 a))
  else if z_k a = 8 then .inl (X.2.2.2.1 8, z_n a, .inr (.inr (.inr (.inr (fun j => (m.2.2.2 a j).map (z_ad X))))))
  else .inr (z_k a, (List.range (z_n a)).map (z_v X m a))
def z_H (X : z_X) (m : z_M) (H : Heap) : Prop := H.size = X.2.2.2.2.1 + m.1 ∧ ∀ a, a < m.1 → va_at (X.2.1, X.2.2.1) vwCl (z_ad X a, z_E X m a) H
def z_ty (X : z_X) : List (ClassId × FieldType) := [(X.2.2.2.1 6, .int), (X.2.2.2.1 7, .char), (X.2.2.2.1 8, .object "HayFootStraw$Standing")]
/-- the two tables of numbers that the class keeps -/
def z_tn (t : Nat) : Nat := if t = 0 then 3 else 6
def z_tb (t j : Nat) : Int32 := if t = 0 then ([3, 1, 2] : List Int32).getD j 0 else ([1, 3, 9, 27, 81, 243] : List Int32).getD j 0
/-- the first squad's text, by its bytes -/
def z_tx : List Int32 := [109, 48, 44, 48, 44, 48, 44, 48, 59, 109, 49, 44, 48, 44, 48, 44, 49, 48, 59, 109, 50, 44, 48, 44, 49, 44, 48, 59, 109, 50, 44, 48, 44, 50, 44, 51, 59, 109, 51, 44, 48, 44, 48, 44, 48, 59, 109, 49, 44, 48, 44, 53, 44, 53, 59, 109, 50, 44, 48, 44, 51, 44, 54, 59, 122, 52, 59]
def z_txS : String := "m0,0,0,0;m1,0,0,10;m2,0,1,0;m2,0,2,3;m3,0,0,0;m1,0,5,5;m2,0,3,6;z4;"
/-- calls of private constructors -/
def z_nest : List (String × Nat × MethodName) := [(RX0, 21, yX3_init), (RX4, 9, yX1_init), (RX4, 18, yX2_init), (RX4, 28, yX3_init)]
def z_S (X : z_X) (U : State) (H : Heap) : Prop :=
  (va_Z "HayFootStraw" "TURNS" "[I" (.ref (X.2.2.2.2.2 0)) (z_A X) U H ∧ va_Z "HayFootStraw" "ROWS" "[I" (.ref (X.2.2.2.2.2 1)) (z_A X) U H) ∧
  (∀ t, t < 2 → va_T .int (X.2.2.2.2.2 t) (z_tn t) (fun j => .int (z_tb t j)) (z_A X) U H) ∧
  va_Z "java/lang/String" "COMPACT_STRINGS" "Z" (.int 1) (z_A X) U H ∧
  vk_S 1 [z_tx.length] [z_tx] (fun _ => X.2.2.2.2.2 2) (fun _ => X.2.2.2.2.2 3) (z_A X) U H ∧
  vk_R "HayFootStraw" 58 z_txS (X.2.2.2.2.2 2) U ∧ va_AO "HayFootStraw$Standing" U ∧
  va_Zq "jdk/internal/util/Preconditions" "SIOOBE_FORMATTER" "Ljava/util/function/BiFunction;" (z_A X) U H ∧ ∀ q ∈ z_nest, va_Nw (.methodLinkNest q.1 q.2.1 q.2.2 "HayFootStraw") U
abbrev z_rm (d n z : Nat) : Room := { frames := d, cells := n, slots := z, locals := 36 * d }
/-- the words that keep -/
def z_ws : List Cond := lw_tbl.filter goodWord
/-- Java's remainder -/
def z_mI (x y : Int32) : Int32 := x - x / y * y
def z_mL (x y : Int64) : Int64 := x - x / y * y
theorem z_good (w : Cond) (h : w ∈ z_ws) : goodWord w = true := (List.mem_filter.mp h).2
theorem z_goodIn {y : MethodName} {cc : ByteArray} {nL : Nat} {rt : Option FieldType} {ws : List Cond} (h : Cond.code y cc nL rt ∈ z_ws) (hw : ∀ w ∈ z_ws, w ∈ ws) : GoodIn ws (Cond.code y cc nL rt :: z_ws) := by
  intro w hm
  rcases List.mem_cons.mp hm with rfl | hm
  · exact ⟨hw _ h, good_of_word (z_good _ h)⟩
  · exact ⟨hw _ hm, good_of_word (z_good _ hm)⟩
def z_En (X : z_X) (y : MethodName) (cc : ByteArray) (nL : Nat) (rt : Option FieldType) (p : Program) (s : State) (m : MethodId) (args : Array Value) (meth : Method) (c : Code) : Prop :=
  CallFix p m c cc nL s args z_ws y.cls ∧ meth.sig.returnType = rt ∧ meth.locks = false ∧ (y.name = "<init>" → meth.name = "<init>") ∧ va_K (X.2.1, X.2.2.1) vwCl (z_ty X) s ∧ X.2.2.2.2.1 ≤ s.heap.size ∧ z_S X s s.heap
def z_Q (X : z_X) (rt : Option FieldType) (r : Int32) (m2 : z_M) : Array Value → State → Outcome → State → Prop := fun _ st oc t =>
  oc = .returned (if rt = none then none else some (.int r)) ∧ z_H X m2 t.heap ∧ va_F (z_A X) st t
/-- from here the machine comes to what o tells -/
def z_Sim (X : z_X) (y : MethodName) (cc : ByteArray) (nL : Nat) (rt : Option FieldType) (d : Nat) (pc : Nat) (lv : List (Nat × Value)) (st : List Value) (mm : z_M) (o : z_R) : Prop :=
  ∀ (r : Int32) (m2 : z_M), o = some (r, m2) → (mm.1 ≤ m2.1 ∧ mm.2.1 ≤ m2.2.1) ∧
    ∀ (p : Program) (e : Env) (s : State) (m : MethodId) (args : Array Value) (below : List Frame) (meth : Method) (c : Code) (n0 z0 : Nat) (H : Heap) (locs : List Loc) (ls : Array Slot),
      z_En X y cc nL rt p s m args meth c → n0 ≤ mm.1 → z0 ≤ mm.2.1 → z_H X mm H → va_S (z_A X) s.heap H locs → lv_has ls nL lv →
      W p X.1 e (z_rm d (m2.1 - n0) (m2.2.1 - z0)) s m args below meth c H locs (mm.1 - n0) (mm.2.1 - z0) (MQ below (z_Q X rt r m2) args s (m2.1 - n0) (m2.2.1 - z0) (z_A X)) (F0 m pc ls st)
def z_Pre (X : z_X) (mm : z_M) (U : State) : Prop := z_H X mm U.heap ∧ va_K (X.2.1, X.2.2.1) vwCl (z_ty X) U ∧ z_S X U U.heap
/-- a method's contract -/
def z_Ct (X : z_X) (y : MethodName) (cc : ByteArray) (nL : Nat) (rt : Option FieldType) (d : Nat) (av : List Value) (mm : z_M) (o : z_R) : Prop :=
  ∀ (r : Int32) (m2 : z_M), o = some (r, m2) → (mm.1 ≤ m2.1 ∧ mm.2.1 ≤ m2.2.1) ∧
    Met X.1 y (Cond.code y cc nL rt :: z_ws) (z_rm d (m2.1 - mm.1) (m2.2.1 - mm.2.1)) (va_Pc av (z_Pre X mm)) (z_Q X rt r m2) (m2.1 - mm.1) (m2.2.1 - mm.2.1) (z_A X)
theorem z_S.to {X : z_X} {s U : State} {H : Heap} {locs : List Loc} (h : z_S X s s.heap) (hS : va_S (z_A X) s.heap H locs) (hW : s.WarmedH U.vm) : z_S X U H := by
  obtain ⟨⟨h1, h2⟩, h3, h4, h5, h6, h7, h8, h9⟩ := h
  have ha := hW.alike
  exact ⟨⟨(h1.moved ha).kept hS.2.1, (h2.moved ha).kept hS.2.1⟩, fun t ht => ((h3 t ht).moved ha).kept hS.2.1, (h4.moved ha).kept hS.2.1, (h5.moved ha).kept hS.2.1, h6.warm hW, h7.moved ha, (h8.moved ha).kept hS.2.1, fun q hq => (h9 q hq).warmM hW⟩
theorem z_S.call {X : z_X} {U : State} {g : JFrame} {mk : MethodId} {a : Array Value} (h : z_S X U U.heap) : z_S X (U.calling g mk a) (U.calling g mk a).heap := by
  obtain ⟨⟨h1, h2⟩, h3, h4, h5, h6, h7, h8, h9⟩ := h
  have ha : U.vm.Alike (U.calling g mk a).vm := Vm.Alike.refl U.vm
  exact ⟨⟨h1.moved ha, h2.moved ha⟩, fun t ht => (h3 t ht).moved ha, h4.moved ha, h5.moved ha, h6.same rfl, h7.moved ha, h8.moved ha, fun q hq => (h9 q hq).same rfl rfl⟩
theorem z_blind (X : z_X) (av : List Value) (mm : z_M) : FrameBlind (va_Pc av (z_Pre X mm)) := by
  intro a U g mk h
  obtain ⟨h1, h2, h3, h4⟩ := h
  exact ⟨h1, h2, va_K.moved (u := U) (U := U.calling g mk a) (Vm.Alike.refl U.vm) h3, h4.call⟩
/-- a contract out of the walk -/
theorem z_Ct.of {X : z_X} {y : MethodName} {cc : ByteArray} {nL : Nat} {rt : Option FieldType} {d : Nat} {av : List Value} {mm : z_M} {o : z_R} (hy : plainName y.cls = true) (hn : (lg_sl av).length ≤ nL) (K : z_Sim X y cc nL rt d 0 (lv_args 0 av) [] mm o) : z_Ct X y cc nL rt d av mm o := by
  intro r m2 ho
  obtain ⟨hm, hW⟩ := K r m2 ho
  refine ⟨hm, Met.ofW (cc := cc) (maxL := nL) (ret := rt) hy rfl ?_⟩
  intro p e s m args below meth c s₁ B hml hv
  obtain ⟨rfl, hP, hK, hSt⟩ := hv
  have hts := atoms_spec (ws := Cond.code y cc nL rt :: z_ws) B.pre
  have hen : z_En X y cc nL rt p s m av.toArray meth c := ⟨⟨B.exec, B.bytes, hml, findClass_of_methodNamed B.named, fun w hw => hts w (List.mem_cons_of_mem _ hw)⟩, B.returns, B.notSynchronized, fun hi => (name_of_methodNamed B.named B.method).1.trans hi, hK, by rw [hP.1]; exact Nat.le_add_right _ _, hSt⟩
  have hl := lv_entry av (n := nL) hn
  rw [lg_entry_eq]
  have h := hW p e s m av.toArray below meth c mm.1 mm.2.1 s.heap [] _ hen (Nat.le_refl _) (Nat.le_refl _) hP va_S.rf hl
  rw [Nat.sub_self, Nat.sub_self] at h
  exact h
section
variable {X : z_X} {y : MethodName} {cc : ByteArray} {nL : Nat} {rt : Option FieldType} {d : Nat} {pc : Nat} {lv lv' : List (Nat × Value)} {st : List Value} {mm : z_M} {o : z_R}
theorem z_sub (ks : List Nat) (h : lv_pick lv ks = lv') (K : z_Sim X y cc nL rt d pc lv' st mm o) : z_Sim X y cc nL rt d pc lv st mm o := by
  intro r m2 ho
  obtain ⟨a, b⟩ := K r m2 ho
  exact ⟨a, fun p e s m args below meth c n0 z0 H locs ls hE h1 h2 hH hS hl => b p e s m args below meth c n0 z0 H locs ls hE h1 h2 hH hS (lv_sub hl ks h)⟩
theorem z_none : z_Sim X y cc nL rt d pc lv st mm none := by
  intro r m2 ho
  cases ho
/-- a step that touches no heap -/
theorem z_one {pc' : Nat} {st' : List Value} (h : ∀ (p : Program) (e : Env) (R : Room) (s : State) (m : MethodId) (args : Array Value) (below : List Frame) (meth : Method) (c : Code) (H : Heap) (locs : List Loc) (cells slots : Nat) (Q : State → Prop) (ls : Array Slot),
      p.tables.exec = Jvm.exec → c.code = cc → s.vm.findClass y.cls = some m.cls → (∀ w ∈ z_ws, w.before args s = true) → lv_has ls nL lv → (∀ ls' : Array Slot, lv_has ls' nL lv' → W p X.1 e R s m args below meth c H locs cells slots Q (F0 m pc' ls' st')) → W p X.1 e R s m args below meth c H locs cells slots Q (F0 m pc ls st))
    (K : z_Sim X y cc nL rt d pc' lv' st' mm o) : z_Sim X y cc nL rt d pc lv st mm o := by
  intro r m2 ho
  obtain ⟨a, b⟩ := K r m2 ho
  exact ⟨a, fun p e s m args below meth c n0 z0 H locs ls hE h1 h2 hH hS hl => h _ _ _ _ _ _ _ _ _ _ _ _ _ _ _ hE.1.1 hE.1.2.1 hE.1.2.2.2.1 hE.1.2.2.2.2 hl (fun ls' hl' => b p e s m args below meth c n0 z0 H locs ls' hE h1 h2 hH hS hl')⟩

theorem z_iconst {n : Int} {v : Int32} (hd : decode cc pc = .ok (.iconst n, 1)) (hv : Int32.ofInt n = v) (K : z_Sim X y cc nL rt d (pc + 1) lv (.int v :: st) mm o) : z_Sim X y cc nL rt d pc lv st mm o :=
  z_one (fun _ _ _ _ _ _ _ _ _ _ _ _ _ _ ls hx hb _ _ hl k => lv_iconst hx hb hd hv (k ls hl)) K
theorem z_bipush {n : Int} {v : Int32} (hd : decode cc pc = .ok (.bipush n, 2)) (hv : (Int8.ofInt n).toInt32 = v) (K : z_Sim X y cc nL rt d (pc + 2) lv (.int v :: st) mm o) : z_Sim X y cc nL rt d pc lv st mm o :=
  z_one (fun _ _ _ _ _ _ _ _ _ _ _ _ _ _ ls hx hb _ _ hl k => lv_bipush hx hb hd hv (k ls hl)) K
theorem z_sipush {n : Int} {v : Int32} (hd : decode cc pc = .ok (.sipush n, 3)) (hv : (Int16.ofInt n).toInt32 = v) (K : z_Sim X y cc nL rt d (pc + 3) lv (.int v :: st) mm o) : z_Sim X y cc nL rt d pc lv st mm o :=
  z_one (fun _ _ _ _ _ _ _ _ _ _ _ _ _ _ ls hx hb _ _ hl k => lv_sipush hx hb hd hv (k ls hl)) K
theorem z_lconst {n : Fin 2} {v : Int64} (hd : decode cc pc = .ok (.lconst n, 1)) (hv : Int64.ofNat (n : Nat) = v) (K : z_Sim X y cc nL rt d (pc + 1) lv (.long v :: st) mm o) : z_Sim X y cc nL rt d pc lv st mm o :=
  z_one (fun _ _ _ _ _ _ _ _ _ _ _ _ _ _ ls hx hb _ _ hl k => lv_lconst hx hb hd hv (k ls hl)) K
theorem z_ldc2 {ix : Nat} {v : Int64} (hd : decode cc pc = .ok (.ldc2_w ix, 3)) (hw : Cond.constantLong y.cls ix v ∈ z_ws) (K : z_Sim X y cc nL rt d (pc + 3) lv (.long v :: st) mm o) : z_Sim X y cc nL rt d pc lv st mm o :=
  z_one (fun _ _ _ _ _ _ _ _ _ _ _ _ _ _ ls hx hb ho hts hl k => lv_ldc2 hx hb ho (hts _ hw) hd (k ls hl)) K
theorem z_ldc {ix : Nat} {v : Int32} (hd : decode cc pc = .ok (.ldc ix, 2)) (hw : Cond.constant y.cls ix v ∈ z_ws) (K : z_Sim X y cc nL rt d (pc + 2) lv (.int v :: st) mm o) : z_Sim X y cc nL rt d pc lv st mm o :=
  z_one (fun _ _ _ _ _ _ _ _ _ _ _ _ _ _ ls hx hb ho hts hl k => lv_ldc hx hb ho (hts _ hw) hd (k ls hl)) K
theorem z_ldcw {ix : Nat} {v : Int32} (hd : decode cc pc = .ok (.ldc_w ix, 3)) (hw : Cond.constant y.cls ix v ∈ z_ws) (K : z_Sim X y cc nL rt d (pc + 3) lv (.int v :: st) mm o) : z_Sim X y cc nL rt d pc lv st mm o :=
  z_one (fun _ _ _ _ _ _ _ _ _ _ _ _ _ _ ls hx hb ho hts hl k => lv_ldcw hx hb ho (hts _ hw) hd (k ls hl)) K
theorem z_iload_n {k : Fin 4} {i : Nat} {x : Int32} (hd : decode cc pc = .ok (.iload_n k, 1)) (hi : (k : Nat) = i) (j : Nat) (hj : lv[j]? = some (i, .int x)) (K : z_Sim X y cc nL rt d (pc + 1) lv (.int x :: st) mm o) : z_Sim X y cc nL rt d pc lv st mm o :=
  z_one (fun _ _ _ _ _ _ _ _ _ _ _ _ _ _ ls hx hb _ _ hl k => lv_iload_n hx hb hd hi (lv_at hl j hj) (k ls hl)) K
theorem z_iload {i : Nat} {x : Int32} (hd : decode cc pc = .ok (.iload i, 2)) (j : Nat) (hj : lv[j]? = some (i, .int x)) (K : z_Sim X y cc nL rt d (pc + 2) lv (.int x :: st) mm o) : z_Sim X y cc nL rt d pc lv st mm o :=
  z_one (fun _ _ _ _ _ _ _ _ _ _ _ _ _ _ ls hx hb _ _ hl k => lv_iload hx hb hd (lv_at hl j hj) (k ls hl)) K
theorem z_lload_n {k : Fin 4} {i : Nat} {x : Int64} (hd : decode cc pc = .ok (.lload_n k, 1)) (hi : (k : Nat) = i) (j : Nat) (hj : lv[j]? = some (i, .long x)) (K : z_Sim X y cc nL rt d (pc + 1) lv (.long x :: st) mm o) : z_Sim X y cc nL rt d pc lv st mm o :=
  z_one (fun _ _ _ _ _ _ _ _ _ _ _ _ _ _ ls hx hb _ _ hl k => lv_lload_n hx hb hd hi (lv_at hl j hj) (k ls hl)) K
theorem z_lload {i : Nat} {x : Int64} (hd : decode cc pc = .ok (.lload i, 2)) (j : Nat) (hj : lv[j]? = some (i, .long x)) (K : z_Sim X y cc nL rt d (pc + 2) lv (.long x :: st) mm o) : z_Sim X y cc nL rt d pc lv st mm o :=
  z_one (fun _ _ _ _ _ _ _ _ _ _ _ _ _ _ ls hx hb _ _ hl k => lv_lload hx hb hd (lv_at hl j hj) (k ls hl)) K
theorem z_aload_n {k : Fin 4} {i : Nat} {x : Nat} (hd : decode cc pc = .ok (.aload_n k, 1)) (hi : (k : Nat) = i) (j : Nat) (hj : lv[j]? = some (i, .ref x)) (K : z_Sim X y cc nL rt d (pc + 1) lv (.ref x :: st) mm o) : z_Sim X y cc nL rt d pc lv st mm o :=
  z_one (fun _ _ _ _ _ _ _ _ _ _ _ _ _ _ ls hx hb _ _ hl k => lv_aload_n hx hb hd hi (lv_at hl j hj) (k ls hl)) K
theorem z_aload {i : Nat} {x : Nat} (hd : decode cc pc = .ok (.aload i, 2)) (j : Nat) (hj : lv[j]? = some (i, .ref x)) (K : z_Sim X y cc nL rt d (pc + 2) lv (.ref x :: st) mm o) : z_Sim X y cc nL rt d pc lv st mm o :=
  z_one (fun _ _ _ _ _ _ _ _ _ _ _ _ _ _ ls hx hb _ _ hl k => lv_aload hx hb hd (lv_at hl j hj) (k ls hl)) K
theorem z_istore_n {k : Fin 4} {i : Nat} {x : Int32} (hd : decode cc pc = .ok (.istore_n k, 1)) (hi : (k : Nat) = i) (hn : i < nL) (hl : (i, Value.int x) :: lv.filter (fun q => !(q.1 == i) && !(q.1 + 1 == i && q.2.category == 2)) = lv') (K : z_Sim X y cc nL rt d (pc + 1) lv' st mm o) : z_Sim X y cc nL rt d pc lv (.int x :: st) mm o :=
  z_one (fun _ _ _ _ _ _ _ _ _ _ _ _ _ _ ls hx hb _ _ h k => lv_istore_n hx hb hd hi h hn hl k) K
theorem z_istore {i : Nat} {x : Int32} (hd : decode cc pc = .ok (.istore i, 2)) (hn : i < nL) (hl : (i, Value.int x) :: lv.filter (fun q => !(q.1 == i) && !(q.1 + 1 == i && q.2.category == 2)) = lv') (K : z_Sim X y cc nL rt d (pc + 2) lv' st mm o) : z_Sim X y cc nL rt d pc lv (.int x :: st) mm o :=
  z_one (fun _ _ _ _ _ _ _ _ _ _ _ _ _ _ ls hx hb _ _ h k => lv_istore hx hb hd h hn hl k) K
theorem z_lstore_n {k : Fin 4} {i : Nat} {x : Int64} (hd : decode cc pc = .ok (.lstore_n k, 1)) (hi : (k : Nat) = i) (hn : i + 1 < nL) (hl : (i, Value.long x) :: lv.filter (fun q => !(q.1 == i) && (!(q.1 == i + 1) && !(q.1 + 1 == i && q.2.category == 2))) = lv') (K : z_Sim X y cc nL rt d (pc + 1) lv' st mm o) : z_Sim X y cc nL rt d pc lv (.long x :: st) mm o :=
  z_one (fun _ _ _ _ _ _ _ _ _ _ _ _ _ _ ls hx hb _ _ h k => lv_lstore_n hx hb hd hi h hn hl k) K
theorem z_lstore {i : Nat} {x : Int64} (hd : decode cc pc = .ok (.lstore i, 2)) (hn : i + 1 < nL) (hl : (i, Value.long x) :: lv.filter (fun q => !(q.1 == i) && (!(q.1 == i + 1) && !(q.1 + 1 == i && q.2.category == 2))) = lv') (K : z_Sim X y cc nL rt d (pc + 2) lv' st mm o) : z_Sim X y cc nL rt d pc lv (.long x :: st) mm o :=
  z_one (fun _ _ _ _ _ _ _ _ _ _ _ _ _ _ ls hx hb _ _ h k => lv_lstore hx hb hd h hn hl k) K
theorem z_astore_n {k : Fin 4} {i : Nat} {x : Nat} (hd : decode cc pc = .ok (.astore_n k, 1)) (hi : (k : Nat) = i) (hn : i < nL) (hl : (i, Value.ref x) :: lv.filter (fun q => !(q.1 == i) && !(q.1 + 1 == i && q.2.category == 2)) = lv') (K : z_Sim X y cc nL rt d (pc + 1) lv' st mm o) : z_Sim X y cc nL rt d pc lv (.ref x :: st) mm o :=
  z_one (fun _ _ _ _ _ _ _ _ _ _ _ _ _ _ ls hx hb _ _ h k => lv_astore_n hx hb hd hi h hn hl k) K
theorem z_astore {i : Nat} {x : Nat} (hd : decode cc pc = .ok (.astore i, 2)) (hn : i < nL) (hl : (i, Value.ref x) :: lv.filter (fun q => !(q.1 == i) && !(q.1 + 1 == i && q.2.category == 2)) = lv') (K : z_Sim X y cc nL rt d (pc + 2) lv' st mm o) : z_Sim X y cc nL rt d pc lv (.ref x :: st) mm o :=
  z_one (fun _ _ _ _ _ _ _ _ _ _ _ _ _ _ ls hx hb _ _ h k => lv_astore hx hb hd h hn hl k) K
theorem z_iinc {i k : Nat} {n : Int} {x v : Int32} (hd : decode cc pc = .ok (.iinc i n, 3)) (hk : lv[k]? = some (i, .int x)) (hv : x + Int32.ofInt n = v) (hn : i < nL) (hl : (i, Value.int v) :: lv.filter (fun q => !(q.1 == i) && !(q.1 + 1 == i && q.2.category == 2)) = lv') (K : z_Sim X y cc nL rt d (pc + 3) lv' st mm o) : z_Sim X y cc nL rt d pc lv st mm o :=
  z_one (fun _ _ _ _ _ _ _ _ _ _ _ _ _ _ ls hx hb _ _ h kk => lv_iinc hx hb hd h hk hv hn hl kk) K
theorem z_iadd {x y1 : Int32} (hd : decode cc pc = .ok (.iadd, 1)) (K : z_Sim X y cc nL rt d (pc + 1) lv (.int (x + y1) :: st) mm o) : z_Sim X y cc nL rt d pc lv (.int y1 :: .int x :: st) mm o :=
  z_one (fun _ _ _ _ _ _ _ _ _ _ _ _ _ _ ls hx hb _ _ hl k => lv_iadd hx hb hd (k ls hl)) K
theorem z_isub {x y1 : Int32} (hd : decode cc pc = .ok (.isub, 1)) (K : z_Sim X y cc nL rt d (pc + 1) lv (.int (x - y1) :: st) mm o) : z_Sim X y cc nL rt d pc lv (.int y1 :: .int x :: st) mm o :=
  z_one (fun _ _ _ _ _ _ _ _ _ _ _ _ _ _ ls hx hb _ _ hl k => lv_isub hx hb hd (k ls hl)) K
theorem z_imul {x y1 : Int32} (hd : decode cc pc = .ok (.imul, 1)) (K : z_Sim X y cc nL rt d (pc + 1) lv (.int (x * y1) :: st) mm o) : z_Sim X y cc nL rt d pc lv (.int y1 :: .int x :: st) mm o :=
  z_one (fun _ _ _ _ _ _ _ _ _ _ _ _ _ _ ls hx hb _ _ hl k => lv_imul hx hb hd (k ls hl)) K
theorem z_iand {x y1 : Int32} (hd : decode cc pc = .ok (.iand, 1)) (K : z_Sim X y cc nL rt d (pc + 1) lv (.int (x &&& y1) :: st) mm o) : z_Sim X y cc nL rt d pc lv (.int y1 :: .int x :: st) mm o :=
  z_one (fun _ _ _ _ _ _ _ _ _ _ _ _ _ _ ls hx hb _ _ hl k => lv_iand hx hb hd (k ls hl)) K
theorem z_ior {x y1 : Int32} (hd : decode cc pc = .ok (.ior, 1)) (K : z_Sim X y cc nL rt d (pc + 1) lv (.int (x ||| y1) :: st) mm o) : z_Sim X y cc nL rt d pc lv (.int y1 :: .int x :: st) mm o :=
  z_one (fun _ _ _ _ _ _ _ _ _ _ _ _ _ _ ls hx hb _ _ hl k => lv_ior hx hb hd (k ls hl)) K
theorem z_ixor {x y1 : Int32} (hd : decode cc pc = .ok (.ixor, 1)) (K : z_Sim X y cc nL rt d (pc + 1) lv (.int (x ^^^ y1) :: st) mm o) : z_Sim X y cc nL rt d pc lv (.int y1 :: .int x :: st) mm o :=
  z_one (fun _ _ _ _ _ _ _ _ _ _ _ _ _ _ ls hx hb _ _ hl k => lv_ixor hx hb hd (k ls hl)) K
theorem z_ishl {x y1 : Int32} (hd : decode cc pc = .ok (.ishl, 1)) (K : z_Sim X y cc nL rt d (pc + 1) lv (.int (x <<< (y1 &&& 31)) :: st) mm o) : z_Sim X y cc nL rt d pc lv (.int y1 :: .int x :: st) mm o :=
  z_one (fun _ _ _ _ _ _ _ _ _ _ _ _ _ _ ls hx hb _ _ hl k => lv_ishl hx hb hd (k ls hl)) K
theorem z_ishr {x y1 : Int32} (hd : decode cc pc = .ok (.ishr, 1)) (K : z_Sim X y cc nL rt d (pc + 1) lv (.int (x >>> (y1 &&& 31)) :: st) mm o) : z_Sim X y cc nL rt d pc lv (.int y1 :: .int x :: st) mm o :=
  z_one (fun _ _ _ _ _ _ _ _ _ _ _ _ _ _ ls hx hb _ _ hl k => lv_ishr hx hb hd (k ls hl)) K
theorem z_ladd {x y1 : Int64} (hd : decode cc pc = .ok (.ladd, 1)) (K : z_Sim X y cc nL rt d (pc + 1) lv (.long (x + y1) :: st) mm o) : z_Sim X y cc nL rt d pc lv (.long y1 :: .long x :: st) mm o :=
  z_one (fun _ _ _ _ _ _ _ _ _ _ _ _ _ _ ls hx hb _ _ hl k => lv_ladd hx hb hd (k ls hl)) K
theorem z_lmul {x y1 : Int64} (hd : decode cc pc = .ok (.lmul, 1)) (K : z_Sim X y cc nL rt d (pc + 1) lv (.long (x * y1) :: st) mm o) : z_Sim X y cc nL rt d pc lv (.long y1 :: .long x :: st) mm o :=
  z_one (fun _ _ _ _ _ _ _ _ _ _ _ _ _ _ ls hx hb _ _ hl k => lv_lmul hx hb hd (k ls hl)) K
theorem z_idiv {x y1 : Int32} (hd : decode cc pc = .ok (.idiv, 1)) (hne : ¬ y1 = 0) (K : z_Sim X y cc nL rt d (pc + 1) lv (.int (x / y1) :: st) mm o) : z_Sim X y cc nL rt d pc lv (.int y1 :: .int x :: st) mm o :=
  z_one (fun _ _ _ _ _ _ _ _ _ _ _ _ _ _ ls hx hb _ _ hl k => lv_idiv hx hb hd hne (k ls hl)) K
theorem z_irem {x y1 : Int32} (hd : decode cc pc = .ok (.irem, 1)) (hne : ¬ y1 = 0) (K : z_Sim X y cc nL rt d (pc + 1) lv (.int (z_mI x y1) :: st) mm o) : z_Sim X y cc nL rt d pc lv (.int y1 :: .int x :: st) mm o :=
  z_one (fun _ _ _ _ _ _ _ _ _ _ _ _ _ _ ls hx hb _ _ hl k => lv_irem hx hb hd hne (k ls hl)) K
theorem z_ldiv {x y1 : Int64} (hd : decode cc pc = .ok (.ldiv, 1)) (hne : ¬ y1 = 0) (K : z_Sim X y cc nL rt d (pc + 1) lv (.long (x / y1) :: st) mm o) : z_Sim X y cc nL rt d pc lv (.long y1 :: .long x :: st) mm o :=
  z_one (fun _ _ _ _ _ _ _ _ _ _ _ _ _ _ ls hx hb _ _ hl k => lv_ldiv hx hb hd hne (k ls hl)) K
theorem z_lrem {x y1 : Int64} (hd : decode cc pc = .ok (.lrem, 1)) (hne : ¬ y1 = 0) (K : z_Sim X y cc nL rt d (pc + 1) lv (.long (z_mL x y1) :: st) mm o) : z_Sim X y cc nL rt d pc lv (.long y1 :: .long x :: st) mm o :=
  z_one (fun _ _ _ _ _ _ _ _ _ _ _ _ _ _ ls hx hb _ _ hl k => lv_lrem hx hb hd hne (k ls hl)) K
theorem z_iushr {x y1 : Int32} (hd : decode cc pc = .ok (.iushr, 1)) (K : z_Sim X y cc nL rt d (pc + 1) lv (.int (x.toUInt32 >>> (y1.toUInt32 &&& Int32.toUInt32 31)).toInt32 :: st) mm o) : z_Sim X y cc nL rt d pc lv (.int y1 :: .int x :: st) mm o :=
  z_one (fun _ _ _ _ _ _ _ _ _ _ _ _ _ _ ls hx hb _ _ hl k => lv_iushr hx hb hd rfl (k ls hl)) K
theorem z_i2l {x : Int32} (hd : decode cc pc = .ok (.i2l, 1)) (K : z_Sim X y cc nL rt d (pc + 1) lv (.long x.toInt64 :: st) mm o) : z_Sim X y cc nL rt d pc lv (.int x :: st) mm o :=
  z_one (fun _ _ _ _ _ _ _ _ _ _ _ _ _ _ ls hx hb _ _ hl k => lv_i2l hx hb hd rfl (k ls hl)) K
theorem z_l2i {x : Int64} (hd : decode cc pc = .ok (.l2i, 1)) (K : z_Sim X y cc nL rt d (pc + 1) lv (.int x.toInt32 :: st) mm o) : z_Sim X y cc nL rt d pc lv (.long x :: st) mm o :=
  z_one (fun _ _ _ _ _ _ _ _ _ _ _ _ _ _ ls hx hb _ _ hl k => lv_l2i hx hb hd rfl (k ls hl)) K
theorem z_i2c {x : Int32} (hd : decode cc pc = .ok (.i2c, 1)) (K : z_Sim X y cc nL rt d (pc + 1) lv (.int (x.toUInt32 % 65536).toInt32 :: st) mm o) : z_Sim X y cc nL rt d pc lv (.int x :: st) mm o :=
  z_one (fun _ _ _ _ _ _ _ _ _ _ _ _ _ _ ls hx hb _ _ hl k => lv_i2c hx hb hd rfl (k ls hl)) K
theorem z_dup {v : Value} (hd : decode cc pc = .ok (.dup, 1)) (hv : v.category = 1) (K : z_Sim X y cc nL rt d (pc + 1) lv (v :: v :: st) mm o) : z_Sim X y cc nL rt d pc lv (v :: st) mm o :=
  z_one (fun _ _ _ _ _ _ _ _ _ _ _ _ _ _ ls hx hb _ _ hl k => lv_dup hx hb hd hv (k ls hl)) K
theorem z_pop {v : Value} (hd : decode cc pc = .ok (.pop, 1)) (hv : v.category = 1) (K : z_Sim X y cc nL rt d (pc + 1) lv st mm o) : z_Sim X y cc nL rt d pc lv (v :: st) mm o :=
  z_one (fun _ _ _ _ _ _ _ _ _ _ _ _ _ _ ls hx hb _ _ hl k => lv_pop hx hb hd hv (k ls hl)) K
theorem z_dup2 {v w : Value} (hd : decode cc pc = .ok (.dup2, 1)) (hv : v.category = 1) (hw : w.category = 1) (K : z_Sim X y cc nL rt d (pc + 1) lv (v :: w :: v :: w :: st) mm o) : z_Sim X y cc nL rt d pc lv (v :: w :: st) mm o :=
  z_one (fun _ _ _ _ _ _ _ _ _ _ _ _ _ _ ls hx hb _ _ hl k => lv_dup2_11 hx hb hd hv hw (k ls hl)) K
theorem z_goto {off : Int} {tg : Nat} (hd : decode cc pc = .ok (.goto off, 3)) (ht : (pc : Int) + off = (tg : Int)) (K : z_Sim X y cc nL rt d tg lv st mm o) : z_Sim X y cc nL rt d pc lv st mm o :=
  z_one (fun _ _ _ _ _ _ _ _ _ _ _ _ _ _ ls hx hb _ _ hl k => lv_goto hx hb hd ht (k ls hl)) K
/-- both ways of a test -/
theorem z_if {c0 : Prop} [Decidable c0] {o1 o2 : z_R} (h1 : c0 → z_Sim X y cc nL rt d pc lv st mm o1) (h2 : ¬ c0 → z_Sim X y cc nL rt d pc lv st mm o2) : z_Sim X y cc nL rt d pc lv st mm (if c0 then o1 else o2) := by
  by_cases h : c0
  · rw [if_pos h]; exact h1 h
  · rw [if_neg h]; exact h2 h
theorem z_if_eq {x : Int32} {off : Int} {tg : Nat} {o1 o2 : z_R} (hd : decode cc pc = .ok (.ifCond .eq off, 3)) (ht : (pc : Int) + off = (tg : Int)) (K1 : z_Sim X y cc nL rt d tg lv st mm o1) (K2 : z_Sim X y cc nL rt d (pc + 3) lv st mm o2) : z_Sim X y cc nL rt d pc lv (.int x :: st) mm (if x = 0 then o1 else o2) :=
  z_if (fun h => z_one (fun _ _ _ _ _ _ _ _ _ _ _ _ _ _ ls hx hb _ _ hl k => lv_if_eq hx hb hd ht (fun _ => k ls hl) (fun q => absurd h q)) K1) (fun h => z_one (fun _ _ _ _ _ _ _ _ _ _ _ _ _ _ ls hx hb _ _ hl k => lv_if_eq hx hb hd ht (fun q => absurd q h) (fun _ => k ls hl)) K2)
theorem z_icmp_eq {x y1 : Int32} {off : Int} {tg : Nat} {o1 o2 : z_R} (hd : decode cc pc = .ok (.if_icmp .eq off, 3)) (ht : (pc : Int) + off = (tg : Int)) (K1 : z_Sim X y cc nL rt d tg lv st mm o1) (K2 : z_Sim X y cc nL rt d (pc + 3) lv st mm o2) : z_Sim X y cc nL rt d pc lv (.int y1 :: .int x :: st) mm (if x = y1 then o1 else o2) :=
  z_if (fun h => z_one (fun _ _ _ _ _ _ _ _ _ _ _ _ _ _ ls hx hb _ _ hl k => lv_icmp_eq hx hb hd ht (fun _ => k ls hl) (fun q => absurd h q)) K1) (fun h => z_one (fun _ _ _ _ _ _ _ _ _ _ _ _ _ _ ls hx hb _ _ hl k => lv_icmp_eq hx hb hd ht (fun q => absurd q h) (fun _ => k ls hl)) K2)
theorem z_if_ne {x : Int32} {off : Int} {tg : Nat} {o1 o2 : z_R} (hd : decode cc pc = .ok (.ifCond .ne off, 3)) (ht : (pc : Int) + off = (tg : Int)) (K1 : z_Sim X y cc nL rt d tg lv st mm o1) (K2 : z_Sim X y cc nL rt d (pc + 3) lv st mm o2) : z_Sim X y cc nL rt d pc lv (.int x :: st) mm (if x = 0 then o2 else o1) :=
  z_if (fun h => z_one (fun _ _ _ _ _ _ _ _ _ _ _ _ _ _ ls hx hb _ _ hl k => lv_if_ne hx hb hd ht (fun q => absurd h q) (fun _ => k ls hl)) K2) (fun h => z_one (fun _ _ _ _ _ _ _ _ _ _ _ _ _ _ ls hx hb _ _ hl k => lv_if_ne hx hb hd ht (fun _ => k ls hl) (fun q => absurd q h)) K1)
theorem z_icmp_ne {x y1 : Int32} {off : Int} {tg : Nat} {o1 o2 : z_R} (hd : decode cc pc = .ok (.if_icmp .ne off, 3)) (ht : (pc : Int) + off = (tg : Int)) (K1 : z_Sim X y cc nL rt d tg lv st mm o1) (K2 : z_Sim X y cc nL rt d (pc + 3) lv st mm o2) : z_Sim X y cc nL rt d pc lv (.int y1 :: .int x :: st) mm (if x = y1 then o2 else o1) :=
  z_if (fun h => z_one (fun _ _ _ _ _ _ _ _ _ _ _ _ _ _ ls hx hb _ _ hl k => lv_icmp_ne hx hb hd ht (fun q => absurd h q) (fun _ => k ls hl)) K2) (fun h => z_one (fun _ _ _ _ _ _ _ _ _ _ _ _ _ _ ls hx hb _ _ hl k => lv_icmp_ne hx hb hd ht (fun _ => k ls hl) (fun q => absurd q h)) K1)
theorem z_if_lt {x : Int32} {off : Int} {tg : Nat} {o1 o2 : z_R} (hd : decode cc pc = .ok (.ifCond .lt off, 3)) (ht : (pc : Int) + off = (tg : Int)) (K1 : z_Sim X y cc nL rt d tg lv st mm o1) (K2 : z_Sim X y cc nL rt d (pc + 3) lv st mm o2) : z_Sim X y cc nL rt d pc lv (.int x :: st) mm (if x < 0 then o1 else o2) :=
  z_if (fun h => z_one (fun _ _ _ _ _ _ _ _ _ _ _ _ _ _ ls hx hb _ _ hl k => lv_if_lt hx hb hd ht (fun _ => k ls hl) (fun q => absurd h q)) K1) (fun h => z_one (fun _ _ _ _ _ _ _ _ _ _ _ _ _ _ ls hx hb _ _ hl k => lv_if_lt hx hb hd ht (fun q => absurd q h) (fun _ => k ls hl)) K2)
theorem z_icmp_lt {x y1 : Int32} {off : Int} {tg : Nat} {o1 o2 : z_R} (hd : decode cc pc = .ok (.if_icmp .lt off, 3)) (ht : (pc : Int) + off = (tg : Int)) (K1 : z_Sim X y cc nL rt d tg lv st mm o1) (K2 : z_Sim X y cc nL rt d (pc + 3) lv st mm o2) : z_Sim X y cc nL rt d pc lv (.int y1 :: .int x :: st) mm (if x < y1 then o1 else o2) :=
  z_if (fun h => z_one (fun _ _ _ _ _ _ _ _ _ _ _ _ _ _ ls hx hb _ _ hl k => lv_icmp_lt hx hb hd ht (fun _ => k ls hl) (fun q => absurd h q)) K1) (fun h => z_one (fun _ _ _ _ _ _ _ _ _ _ _ _ _ _ ls hx hb _ _ hl k => lv_icmp_lt hx hb hd ht (fun q => absurd q h) (fun _ => k ls hl)) K2)
theorem z_if_ge {x : Int32} {off : Int} {tg : Nat} {o1 o2 : z_R} (hd : decode cc pc = .ok (.ifCond .ge off, 3)) (ht : (pc : Int) + off = (tg : Int)) (K1 : z_Sim X y cc nL rt d tg lv st mm o1) (K2 : z_Sim X y cc nL rt d (pc + 3) lv st mm o2) : z_Sim X y cc nL rt d pc lv (.int x :: st) mm (if 0 ≤ x then o1 else o2) :=
  z_if (fun h => z_one (fun _ _ _ _ _ _ _ _ _ _ _ _ _ _ ls hx hb _ _ hl k => lv_if_ge hx hb hd ht (fun _ => k ls hl) (fun q => absurd h q)) K1) (fun h => z_one (fun _ _ _ _ _ _ _ _ _ _ _ _ _ _ ls hx hb _ _ hl k => lv_if_ge hx hb hd ht (fun q => absurd q h) (fun _ => k ls hl)) K2)
theorem z_icmp_ge {x y1 : Int32} {off : Int} {tg : Nat} {o1 o2 : z_R} (hd : decode cc pc = .ok (.if_icmp .ge off, 3)) (ht : (pc : Int) + off = (tg : Int)) (K1 : z_Sim X y cc nL rt d tg lv st mm o1) (K2 : z_Sim X y cc nL rt d (pc + 3) lv st mm o2) : z_Sim X y cc nL rt d pc lv (.int y1 :: .int x :: st) mm (if y1 ≤ x then o1 else o2) :=
  z_if (fun h => z_one (fun _ _ _ _ _ _ _ _ _ _ _ _ _ _ ls hx hb _ _ hl k => lv_icmp_ge hx hb hd ht (fun _ => k ls hl) (fun q => absurd h q)) K1) (fun h => z_one (fun _ _ _ _ _ _ _ _ _ _ _ _ _ _ ls hx hb _ _ hl k => lv_icmp_ge hx hb hd ht (fun q => absurd q h) (fun _ => k ls hl)) K2)
theorem z_if_gt {x : Int32} {off : Int} {tg : Nat} {o1 o2 : z_R} (hd : decode cc pc = .ok (.ifCond .gt off, 3)) (ht : (pc : Int) + off = (tg : Int)) (K1 : z_Sim X y cc nL rt d tg lv st mm o1) (K2 : z_Sim X y cc nL rt d (pc + 3) lv st mm o2) : z_Sim X y cc nL rt d pc lv (.int x :: st) mm (if 0 < x then o1 else o2) :=
  z_if (fun h => z_one (fun _ _ _ _ _ _ _ _ _ _ _ _ _ _ ls hx hb _ _ hl k => lv_if_gt hx hb hd ht (fun _ => k ls hl) (fun q => absurd h q)) K1) (fun h => z_one (fun _ _ _ _ _ _ _ _ _ _ _ _ _ _ ls hx hb _ _ hl k => lv_if_gt hx hb hd ht (fun q => absurd q h) (fun _ => k ls hl)) K2)
theorem z_icmp_gt {x y1 : Int32} {off : Int} {tg : Nat} {o1 o2 : z_R} (hd : decode cc pc = .ok (.if_icmp .gt off, 3)) (ht : (pc : Int) + off = (tg : Int)) (K1 : z_Sim X y cc nL rt d tg lv st mm o1) (K2 : z_Sim X y cc nL rt d (pc + 3) lv st mm o2) : z_Sim X y cc nL rt d pc lv (.int y1 :: .int x :: st) mm (if y1 < x then o1 else o2) :=
  z_if (fun h => z_one (fun _ _ _ _ _ _ _ _ _ _ _ _ _ _ ls hx hb _ _ hl k => lv_icmp_gt hx hb hd ht (fun _ => k ls hl) (fun q => absurd h q)) K1) (fun h => z_one (fun _ _ _ _ _ _ _ _ _ _ _ _ _ _ ls hx hb _ _ hl k => lv_icmp_gt hx hb hd ht (fun q => absurd q h) (fun _ => k ls hl)) K2)
theorem z_if_le {x : Int32} {off : Int} {tg : Nat} {o1 o2 : z_R} (hd : decode cc pc = .ok (.ifCond .le off, 3)) (ht : (pc : Int) + off = (tg : Int)) (K1 : z_Sim X y cc nL rt d tg lv st mm o1) (K2 : z_Sim X y cc nL rt d (pc + 3) lv st mm o2) : z_Sim X y cc nL rt d pc lv (.int x :: st) mm (if x ≤ 0 then o1 else o2) :=
  z_if (fun h => z_one (fun _ _ _ _ _ _ _ _ _ _ _ _ _ _ ls hx hb _ _ hl k => lv_if_le hx hb hd ht (fun _ => k ls hl) (fun q => absurd h q)) K1) (fun h => z_one (fun _ _ _ _ _ _ _ _ _ _ _ _ _ _ ls hx hb _ _ hl k => lv_if_le hx hb hd ht (fun q => absurd q h) (fun _ => k ls hl)) K2)
theorem z_icmp_le {x y1 : Int32} {off : Int} {tg : Nat} {o1 o2 : z_R} (hd : decode cc pc = .ok (.if_icmp .le off, 3)) (ht : (pc : Int) + off = (tg : Int)) (K1 : z_Sim X y cc nL rt d tg lv st mm o1) (K2 : z_Sim X y cc nL rt d (pc + 3) lv st mm o2) : z_Sim X y cc nL rt d pc lv (.int y1 :: .int x :: st) mm (if x ≤ y1 then o1 else o2) :=
  z_if (fun h => z_one (fun _ _ _ _ _ _ _ _ _ _ _ _ _ _ ls hx hb _ _ hl k => lv_icmp_le hx hb hd ht (fun _ => k ls hl) (fun q => absurd h q)) K1) (fun h => z_one (fun _ _ _ _ _ _ _ _ _ _ _ _ _ _ ls hx hb _ _ hl k => lv_icmp_le hx hb hd ht (fun q => absurd q h) (fun _ => k ls hl)) K2)
theorem z_swOut {df lo hi : Int} {offs : Array Int} {ln : Nat} {x : Int32} {tg : Nat} (hd : decode cc pc = .ok (.tableswitch df lo hi offs, ln)) (h : x.toInt < lo ∨ hi < x.toInt) (ht : (pc : Int) + df = (tg : Int)) (K : z_Sim X y cc nL rt d tg lv st mm o) : z_Sim X y cc nL rt d pc lv (.int x :: st) mm o :=
  z_one (fun _ _ _ _ _ _ _ _ _ _ _ _ _ _ ls hx hb _ _ hl k => lv_tableOut hx hb hd h ht (k ls hl)) K
theorem z_swIn {df lo hi : Int} {offs : Array Int} {ln : Nat} {x : Int32} {off : Int} {tg : Nat} (hd : decode cc pc = .ok (.tableswitch df lo hi offs, ln)) (h1 : ¬ x.toInt < lo) (h2 : ¬ hi < x.toInt) (ho : offs[(x.toInt - lo).toNat]? = some off) (ht : (pc : Int) + off = (tg : Int)) (K : z_Sim X y cc nL rt d tg lv st mm o) : z_Sim X y cc nL rt d pc lv (.int x :: st) mm o :=
  z_one (fun _ _ _ _ _ _ _ _ _ _ _ _ _ _ ls hx hb _ _ hl k => lv_tableIn hx hb hd h1 h2 ho ht (k ls hl)) K
/-- a number gets a name -/
def z_lt (x : Int32) (k : Int32 → z_R) : z_R := k x
def z_lL (x : Int64) (k : Int64 → z_R) : z_R := k x
theorem z_nm {x : Int32} {k : Int32 → z_R} (K : ∀ v : Int32, z_Sim X y cc nL rt d pc lv (.int v :: st) mm (k v)) : z_Sim X y cc nL rt d pc lv (.int x :: st) mm (z_lt x k) := K x
theorem z_nm2 {x v0 : Int32} {k : Int32 → z_R} (K : ∀ v : Int32, z_Sim X y cc nL rt d pc lv (.int v :: .int v0 :: st) mm (k v)) : z_Sim X y cc nL rt d pc lv (.int x :: .int v0 :: st) mm (z_lt x k) := K x
theorem z_nmL {x : Int64} {k : Int64 → z_R} (K : ∀ v : Int64, z_Sim X y cc nL rt d pc lv (.long v :: st) mm (k v)) : z_Sim X y cc nL rt d pc lv (.long x :: st) mm (z_lL x k) := K x
end
