/-! WRITES, MAKING, CALLS, RETURNS -/
section
variable {X : z_X} {y : MethodName} {cc : ByteArray} {nL : Nat} {rt : Option FieldType} {d : Nat} {pc : Nat} {lv lv' : List (Nat × Value)} {st : List Value} {mm : z_M} {o : z_R}
/-- a step that writes the heap, and makes nothing -/
theorem z_wr {pc' : Nat} {st' : List Value} {mm' : z_M} (hn : mm'.1 = mm.1) (hz : mm'.2.1 = mm.2.1) (h : ∀ (p : Program) (e : Env) (R : Room) (s : State) (m : MethodId) (args : Array Value) (below : List Frame) (meth : Method) (c : Code) (H : Heap) (locs : List Loc) (cells slots : Nat) (Q : State → Prop) (ls : Array Slot),
      z_En X y cc nL rt p s m args meth c → 1 ≤ R.frames ∨ d = 0 → 36 ≤ R.locals ∨ d = 0 → ls.size = nL → z_H X mm H → va_S (z_A X) s.heap H locs → (∀ (H1 : Heap) (locs1 : List Loc), z_H X mm' H1 → va_S (z_A X) s.heap H1 locs1 → W p X.1 e R s m args below meth c H1 locs1 cells slots Q (F0 m pc' ls st')) → W p X.1 e R s m args below meth c H locs cells slots Q (F0 m pc ls st))
    (K : z_Sim X y cc nL rt d pc' lv st' mm' o) : z_Sim X y cc nL rt d pc lv st mm o := by
  intro r m2 ho
  obtain ⟨a, b⟩ := K r m2 ho
  rw [hn, hz] at a
  refine ⟨a, fun p e s m args below meth c n0 z0 H locs ls hE h1 h2 hH hS hl => h _ _ _ _ _ _ _ _ _ _ _ _ _ _ _ hE ?_ ?_ hl.1 hH hS (fun H1 locs1 hH1 hS1 => ?_)⟩
  · show 1 ≤ d ∨ d = 0
    omega
  · show 36 ≤ 36 * d ∨ d = 0
    omega
  · have := b p e s m args below meth c n0 z0 H1 locs1 ls hE (by omega) (by omega) hH1 hS1 hl
    rw [hn, hz] at this
    exact this
theorem z_putA {a c j N : Nat} {C : String} {T : u_T} {ty : Nat → FieldType} {m' : z_M} {H1 : Heap} {cell : Cell} {s : State} {args : Array Value} {v : Value} (hc : z_Cl c C T N ty) (hts : ∀ w ∈ z_ws, w.before args s = true) (hK : va_K (X.2.1, X.2.2.1) vwCl (z_ty X) s) (g2 : z_k a = c) (hj : j < N)
    (q2 : cell.cls = X.2.1 c) (q3 : cell.vm = .none) (q4 : ∀ k, k < N → cell.slots[X.2.2.1 c k]? = some (vp_V ((List.range (z_n a)).map (z_v X mm a)) k)) (e1 : H1[z_ad X a]? = some (cell.setSlot (X.2.2.1 c j) v)) (hv : z_v X m' a j = v) (ho : ∀ k, k ≠ j → z_v X m' a k = z_v X mm a k) : va_at (X.2.1, X.2.2.1) vwCl (z_ad X a, z_E X m' a) H1 := by
  rw [z_E_obj g2 hc.2.2.2.2.2.2]
  have hap := va_apart (own := C) (D := (X.2.1, X.2.2.1)) hts hc.2.1 ty hc.2.2.1 hc.2.2.2.1 hK hc.1
  have hlen : z_n a = N := hc.2.2.2.2.1 a g2
  refine ⟨_, hc.1, t_OB.to (V := updV (vp_V ((List.range (z_n a)).map (z_v X mm a))) j v) ⟨_, e1, q2, q3, t_set q4 hap hj v⟩ (fun k hk => ?_)⟩
  have hk2 : k < z_n a := by rw [hlen]; exact hk
  by_cases e : k = j
  · subst e
    simp [updV, vp_V, hk2, hv]
  · simp [updV, vp_V, e, hk2, ho k e]
theorem z_put {a c j ix N : Nat} {C ref nm ds : String} {T : u_T} {ty : Nat → FieldType} {t0 : FieldType} {m' : z_M} {v : Value} (hc : z_Cl c C T N ty) (hj : j < N) (hT : T j = (ref, nm, ds, false)) (hw : Cond.fieldLink y.cls ix ref nm ds ∈ z_ws) (ht : parseFieldDescriptor ds = some t0) (hnar : narrow t0 v = v) (hfit : fits t0 v = true)
    (hn : m'.1 = mm.1) (hz : m'.2.1 = mm.2.1) (hb : ∀ b, b ≠ a → m'.2.2.1 b = mm.2.2.1 b ∧ m'.2.2.2 b = mm.2.2.2 b) (g1 : a < mm.1) (g2 : z_k a = c) (hv : z_v X m' a j = v) (ho : ∀ k, k ≠ j → z_v X m' a k = z_v X mm a k) (hd : decode cc pc = .ok (.putfield ix, 3))
    (K : z_Sim X y cc nL rt d (pc + 3) lv st m' o) : z_Sim X y cc nL rt d pc lv (v :: .ref (z_ad X a) :: st) mm o := by
  refine z_wr hn hz (fun p e R s m args below meth c0 H locs cells slots Q ls hE _ _ _ hH hS kk => ?_) K
  have hts := hE.1.2.2.2.2
  have hK := hE.2.2.2.2.1
  have hat := hH.2 a g1
  rw [z_E_obj g2 hc.2.2.2.2.2.2] at hat
  obtain ⟨r, h1, cell, q1, q2, q3, q4⟩ := hat
  have hr : r = (C, T, N) := Option.some.inj (h1.symm.trans hc.1)
  subst hr
  obtain ⟨hSl, hfc, kC, hkC, hkind⟩ := hK.1 c _ hc.1
  obtain ⟨cf, kf, fi, f, hi, hsl⟩ := hSl j hj
  have hlay := hts _ (hc.2.1 _ (u_in_lay hj))
  unfold u_lay at hlay
  dsimp only at hi hsl hfc hkC q4
  rw [hT] at hlay hi
  have hst := (u_facts hfc hkC (u_lays hts hc.2.1 hj) (by rw [hT]; exact hi)).1
  have h6 := u_store hfc hkC hkind hlay hi ht hnar hfit
  refine W.putK hE.1.1 hE.1.2.1 (f := f) ⟨hE.1.2.2.2.1, hts _ hw, ⟨_, _, _, hi⟩, hst⟩ (by rw [q2]; exact h6) q1 q3 (by rw [hsl]; exact k2_hasslot (q4 j hj)) rfl rfl hd fun H' e1 e2 e3 => ?_
  rw [hsl] at e1 ⊢
  exact kk H' _ (hH.set hn hb (z_putA hc hts hK g2 hj q2 q3 q4 e1 hv ho) e2 e3) (hS.put e2 e3 (z_adA X a))
theorem z_putF {a c j ix N : Nat} {C ref nm ds : String} {T : u_T} {ty : Nat → FieldType} {t0 : FieldType} {m' : z_M} {v : Value} (hc : z_Cl c C T N ty) (hj : j < N) (hT : T j = (ref, nm, ds, true)) (hyi : y.name = "<init>") (hyc : ref = y.cls) (hw : Cond.fieldLink y.cls ix ref nm ds ∈ z_ws) (ht : parseFieldDescriptor ds = some t0) (hnar : narrow t0 v = v) (hfit : fits t0 v = true)
    (hn : m'.1 = mm.1) (hz : m'.2.1 = mm.2.1) (hb : ∀ b, b ≠ a → m'.2.2.1 b = mm.2.2.1 b ∧ m'.2.2.2 b = mm.2.2.2 b) (g1 : a < mm.1) (g2 : z_k a = c) (hv : z_v X m' a j = v) (ho : ∀ k, k ≠ j → z_v X m' a k = z_v X mm a k) (hd : decode cc pc = .ok (.putfield ix, 3))
    (K : z_Sim X y cc nL rt d (pc + 3) lv st m' o) : z_Sim X y cc nL rt d pc lv (v :: .ref (z_ad X a) :: st) mm o := by
  refine z_wr hn hz (fun p e R s m args below meth c0 H locs cells slots Q ls hE _ _ _ hH hS kk => ?_) K
  have hts := hE.1.2.2.2.2
  have hK := hE.2.2.2.2.1
  have hat := hH.2 a g1
  rw [z_E_obj g2 hc.2.2.2.2.2.2] at hat
  obtain ⟨r, h1, cell, q1, q2, q3, q4⟩ := hat
  have hr : r = (C, T, N) := Option.some.inj (h1.symm.trans hc.1)
  subst hr
  obtain ⟨hSl, hfc, kC, hkC, hkind⟩ := hK.1 c _ hc.1
  obtain ⟨cf, kf, fi, f, hi, hsl⟩ := hSl j hj
  have hlay := hts _ (hc.2.1 _ (u_in_lay hj))
  unfold u_lay at hlay
  dsimp only at hi hsl hfc hkC q4
  rw [hT] at hlay hi
  have hst := (u_facts hfc hkC (u_lays hts hc.2.1 hj) (by rw [hT]; exact hi)).1
  have hcf : m.cls = cf := by
    obtain ⟨_, _, c', _, _, _, -, -, hf', -, -, -, hown2, -⟩ := Cond.laysFinal_spec hlay
    have e1 : c' = cf := by have := hi.symm.trans hf'; simp at this; exact this.1.symm
    have hown2' : s.vm.findClass y.cls = some c' := by rw [← hyc]; exact hown2
    rw [← e1]; exact Option.some.inj (hE.1.2.2.2.1.symm.trans hown2')
  have h6 := u_fits hfc hkC hkind (Or.inr hlay) hi ht hnar hfit
  refine W.putFinK hE.1.1 hE.1.2.1 hE.1.2.2.2.1 (hts _ hw) hi hst hcf (hE.2.2.2.1 hyi) (by rw [q2]; exact h6) q1 q3 (by rw [hsl]; exact k2_hasslot (q4 j hj)) rfl rfl hd fun H' e1 e2 e3 => ?_
  rw [hsl] at e1 ⊢
  exact kk H' _ (hH.set hn hb (z_putA hc hts hK g2 hj q2 q3 q4 e1 hv ho) e2 e3) (hS.put e2 e3 (z_adA X a))
theorem z_wI_b {m : z_M} {a j : Nat} {v : Int32} : ∀ b, b ≠ a → (z_wI m a j v).2.2.1 b = m.2.2.1 b ∧ (z_wI m a j v).2.2.2 b = m.2.2.2 b := fun b hb => ⟨by funext k; simp [z_wI, hb], rfl⟩
theorem z_wP_b {m : z_M} {a j w : Nat} : ∀ b, b ≠ a → (z_wP m a j w).2.2.1 b = m.2.2.1 b ∧ (z_wP m a j w).2.2.2 b = m.2.2.2 b := fun b hb => ⟨rfl, by funext k; simp [z_wP, hb]⟩
theorem z_wR_b {m : z_M} {a : Nat} {f : Nat → Int32} : ∀ b, b ≠ a → (z_wR m a f).2.2.1 b = m.2.2.1 b ∧ (z_wR m a f).2.2.2 b = m.2.2.2 b := fun b hb => ⟨by funext k; simp [z_wR, hb], rfl⟩
theorem z_setI {a c j ix N : Nat} {C ref nm : String} {T : u_T} {ty : Nat → FieldType} {v : Int32} {k : z_M → z_R} (hc : z_Cl c C T N ty) (hj : j < N) (hT : T j = (ref, nm, "I", false)) (hi : z_i c j = true) (hw : Cond.fieldLink y.cls ix ref nm "I" ∈ z_ws) (hd : decode cc pc = .ok (.putfield ix, 3))
    (K : z_Sim X y cc nL rt d (pc + 3) lv st (z_wI mm a j v) (k (z_wI mm a j v))) : z_Sim X y cc nL rt d pc lv (.int v :: .ref (z_ad X a) :: st) mm (z_sI mm a c j v k) := by
  unfold z_sI
  refine z_if (fun hg => ?_) (fun _ => z_none)
  obtain ⟨g1, g2⟩ := hg
  exact z_put (t0 := .int) (m' := z_wI mm a j v) hc hj hT hw (by decide +kernel) rfl rfl rfl rfl z_wI_b g1 g2 (by simp [z_v, g2, hi, z_wI]) (fun q hq => by simp [z_v, z_wI, hq]) hd K
theorem z_setP {a c j ix N w : Nat} {C ref nm ds : String} {T : u_T} {ty : Nat → FieldType} {t0 : FieldType} {k : z_M → z_R} (hc : z_Cl c C T N ty) (hj : j < N) (hT : T j = (ref, nm, ds, false)) (hi : z_i c j = false) (hw : Cond.fieldLink y.cls ix ref nm ds ∈ z_ws) (ht : parseFieldDescriptor ds = some t0) (hnar : ∀ q : Nat, narrow t0 (.ref q) = .ref q) (hfit : ∀ q : Nat, fits t0 (.ref q) = true) (hd : decode cc pc = .ok (.putfield ix, 3))
    (K : z_Sim X y cc nL rt d (pc + 3) lv st (z_wP mm a j w) (k (z_wP mm a j w))) : z_Sim X y cc nL rt d pc lv (.ref (z_ad X w) :: .ref (z_ad X a) :: st) mm (z_sP mm a c j w k) := by
  unfold z_sP
  refine z_if (fun hg => ?_) (fun _ => z_none)
  obtain ⟨g1, g2⟩ := hg
  exact z_put (m' := z_wP mm a j w) hc hj hT hw ht (hnar _) (hfit _) rfl rfl z_wP_b g1 g2 (by simp [z_v, g2, hi, z_wP, va_rf]) (fun q hq => by simp [z_v, z_wP, hq]) hd K
theorem z_setF {a c j ix N w : Nat} {C ref nm ds : String} {T : u_T} {ty : Nat → FieldType} {t0 : FieldType} {k : z_M → z_R} (hc : z_Cl c C T N ty) (hj : j < N) (hT : T j = (ref, nm, ds, true)) (hyi : y.name = "<init>") (hyc : ref = y.cls) (hi : z_i c j = false) (hw : Cond.fieldLink y.cls ix ref nm ds ∈ z_ws) (ht : parseFieldDescriptor ds = some t0) (hnar : ∀ q : Nat, narrow t0 (.ref q) = .ref q) (hfit : ∀ q : Nat, fits t0 (.ref q) = true) (hd : decode cc pc = .ok (.putfield ix, 3))
    (K : z_Sim X y cc nL rt d (pc + 3) lv st (z_wP mm a j w) (k (z_wP mm a j w))) : z_Sim X y cc nL rt d pc lv (.ref (z_ad X w) :: .ref (z_ad X a) :: st) mm (z_sP mm a c j w k) := by
  unfold z_sP
  refine z_if (fun hg => ?_) (fun _ => z_none)
  obtain ⟨g1, g2⟩ := hg
  exact z_putF (m' := z_wP mm a j w) hc hj hT hyi hyc hw ht (hnar _) (hfit _) rfl rfl z_wP_b g1 g2 (by simp [z_v, g2, hi, z_wP, va_rf]) (fun q hq => by simp [z_v, z_wP, hq]) hd K
theorem z_iast {a : Nat} {i v : Int32} {k : z_M → z_R} (hd : decode cc pc = .ok (.iastore, 1)) (K : z_Sim X y cc nL rt d (pc + 1) lv st (z_wI mm a i.toNatClampNeg v) (k (z_wI mm a i.toNatClampNeg v))) : z_Sim X y cc nL rt d pc lv (.int v :: .int i :: .ref (z_ad X a) :: st) mm (z_as mm a i v k) := by
  unfold z_as
  refine z_if (fun hg => ?_) (fun _ => z_none)
  obtain ⟨g1, g2, g3⟩ := hg
  have hin := vp_in_iff.mpr g3
  refine z_wr (mm' := z_wI mm a i.toNatClampNeg v) rfl rfl (fun p e R s m args below meth c0 H locs cells slots Q ls hE _ _ _ hH hS kk => ?_) K
  have hat := hH.2 a g1
  rw [z_E_int g2] at hat
  refine W.iast hE.1.1 hE.1.2.1 hat ((hE.2.2.2.2.1.2 0 _ rfl).1 (z_n a) (fun j => .int (mm.2.2.1 a j))) (fun q => by cases q) (by show ¬ (i < 0 ∨ (arrV _ _ _).slots.size ≤ _); rw [arrV_size]; exact hin) rfl rfl hd fun H1 e z oq => ?_
  refine kk H1 _ (hH.set rfl z_wI_b ?_ z oq) (hS.put z oq (z_adA X a))
  rw [z_E_int g2]
  show H1[z_ad X a]? = some (vp_cell _ _)
  rw [e]
  rw [vp_cell_i, vp_cell_i, arrV_store]
  congr 2
  funext q
  by_cases hq : q = i.toNatClampNeg
  · subst hq
    simp [updV, z_wI]
  · simp [updV, z_wI, hq]
theorem z_cast {a : Nat} {i v : Int32} {k : z_M → z_R} (hd : decode cc pc = .ok (.castore, 1)) (K : z_Sim X y cc nL rt d (pc + 1) lv st (z_wI mm a i.toNatClampNeg (vp_nar .char v)) (k (z_wI mm a i.toNatClampNeg (vp_nar .char v)))) : z_Sim X y cc nL rt d pc lv (.int v :: .int i :: .ref (z_ad X a) :: st) mm (z_cs mm a i v k) := by
  unfold z_cs
  refine z_if (fun hg => ?_) (fun _ => z_none)
  obtain ⟨g1, g2, g3⟩ := hg
  have hin := vp_in_iff.mpr g3
  refine z_wr (mm' := z_wI mm a i.toNatClampNeg (vp_nar .char v)) rfl rfl (fun p e R s m args below meth c0 H locs cells slots Q ls hE _ _ _ hH hS kk => ?_) K
  have hat := hH.2 a g1
  rw [z_E_chr g2] at hat
  refine W.cast hE.1.1 hE.1.2.1 hat ((hE.2.2.2.2.1.2 1 _ rfl).1 (z_n a) (fun j => .int (mm.2.2.1 a j))) (fun q => by cases q) (by show ¬ (i < 0 ∨ (arrV _ _ _).slots.size ≤ _); rw [arrV_size]; exact hin) rfl rfl hd fun H1 e z oq => ?_
  refine kk H1 _ (hH.set rfl z_wI_b ?_ z oq) (hS.put z oq (z_adA X a))
  rw [z_E_chr g2]
  show H1[z_ad X a]? = some (vp_cell _ _)
  rw [e]
  rw [vp_cell_i, vp_cell_i, arrV_store]
  congr 2
  funext q
  by_cases hq : q = i.toNatClampNeg
  · subst hq
    simp [updV, z_wI, vp_nar]
    rfl
  · simp [updV, z_wI, hq]
theorem z_aast {a b : Nat} {i : Int32} {k : z_M → z_R} (hd : decode cc pc = .ok (.aastore, 1)) (K : z_Sim X y cc nL rt d (pc + 1) lv st (z_wP mm a i.toNatClampNeg b) (k (z_wP mm a i.toNatClampNeg b))) : z_Sim X y cc nL rt d pc lv (.ref (z_ad X b) :: .int i :: .ref (z_ad X a) :: st) mm (z_ps mm a i b k) := by
  unfold z_ps
  refine z_if (fun hg => ?_) (fun _ => z_none)
  obtain ⟨g1, g2, g3, g4, g5⟩ := hg
  have hin := vp_in_iff.mpr g3
  have h0 : ¬ i < 0 := fun q => hin (Or.inl q)
  have hlt : i.toNatClampNeg < z_n a := Nat.not_le.mp fun q => hin (Or.inr q)
  refine z_wr (mm' := z_wP mm a i.toNatClampNeg b) rfl rfl (fun p e R s m args below meth c0 H locs cells slots Q ls hE _ _ _ hH hS kk => ?_) K
  have hat := hH.2 a g1
  rw [z_E_ref g2] at hat
  have hbt := hH.2 b g4
  rw [z_E_obj g5 (by decide)] at hbt
  have hK := hE.2.2.2.2.1
  obtain ⟨r', hr', cellV, c1, c2, c3, -⟩ := hbt
  have hcls := (hK.1 3 (RX3, TX3, 8) rfl).2
  obtain ⟨kA, comp, k1, k2, k3, -⟩ := (hK.2 2 (X.2.2.2.1 8, .object "HayFootStraw$Standing") rfl).2
  have hcomp : comp = X.2.1 3 := Option.some.inj (k3.symm.trans hcls.1)
  subst hcomp
  obtain ⟨kC, hkC, -⟩ := hcls.2
  refine W.aast hE.1.1 hE.1.2.1 hat (fun q h => by cases h) (fun h => by cases h) k1 k2 rfl hkC ⟨h0, by show _ < (arrV _ _ _).slots.size; rw [arrV_size]; exact hlt⟩ c1 (fun q h => by rw [c3] at h; cases h) (by rw [c2]; exact hkC) (by rw [c2]; exact va_assign hcls) rfl rfl hd fun H1 e z oq => ?_
  refine kk H1 _ (hH.set rfl z_wP_b ?_ z oq) (hS.put z oq (z_adA X a))
  rw [z_E_ref g2]
  show H1[z_ad X a]? = some (vp_cell _ _)
  rw [e]
  rw [vp_cell_q, vp_cell_q, arrV_store]
  congr 2
  funext q
  by_cases hq : q = i.toNatClampNeg
  · subst hq
    simp [updV, z_wP, va_rf]
  · simp [updV, z_wP, hq]
theorem z_copy {a b ix : Nat} {sp dp n : Int32} {k : z_M → z_R} (hd0 : 1 ≤ d) (hw : Cond.methodLink y.cls ix arraycopyName ∈ z_ws) (h36 : (st.map fun v => v.category).sum + (nativeFrameWords "java/lang/System" "arraycopy" 5 + 11) ≤ 36) (hd : decode cc pc = .ok (.invokestatic ix, 3))
    (K : ∀ m' : z_M, z_Sim X y cc nL rt d (pc + 3) lv st m' (k m')) : z_Sim X y cc nL rt d pc lv (.int n :: .int dp :: .ref (z_ad X b) :: .int sp :: .ref (z_ad X a) :: st) mm (z_cp mm a sp b dp n k) := by
  unfold z_cp
  refine z_if (fun hg => ?_) (fun _ => z_none)
  obtain ⟨⟨g1, g2⟩, ⟨g3, g4⟩, ⟨h1, h2, h3⟩, h4, h5⟩ := hg
  refine z_wr (mm' := z_wR mm b (va_cpy (mm.2.2.1 a) (mm.2.2.1 b) sp.toNatClampNeg dp.toNatClampNeg n.toNatClampNeg)) rfl rfl (fun p e R s m args below meth c0 H locs cells slots Q ls hE hR1 hR2 hls hH hS kk => ?_) (K _)
  have nn : ∀ z : Int32, ¬ z < 0 → z.toInt = (z.toNatClampNeg : Int) := by
    intro z hz
    have hz0 : (0 : Int) ≤ z.toInt := by
      have := Int32.not_lt.mp hz
      simpa using Int32.le_iff_toInt_le.mp this
    show z.toInt = ((z.toInt.toNat : Nat) : Int)
    omega
  have hc0 := hH.2 a g1
  rw [z_E_int g2] at hc0
  have hc1 := hH.2 b g3
  rw [z_E_int g4] at hc1
  have hc0 : H[z_ad X a]? = some (vp_cell (X.2.2.2.1 6) (z_n a, .inl (mm.2.2.1 a))) := hc0
  have hc1 : H[z_ad X b]? = some (vp_cell (X.2.2.2.1 6) (z_n b, .inl (mm.2.2.1 b))) := hc1
  have hts := hE.1.2.2.2.2
  intro T hT Y
  obtain ⟨-, k0, hk0, cm0, hkk0⟩ := (hE.2.2.2.2.1.2 0 _ rfl).1 (z_n a) (fun j => .int (mm.2.2.1 a j))
  obtain ⟨-, k1, hk1, cm1, hkk1⟩ := (hE.2.2.2.2.1.2 0 _ rfl).1 (z_n b) (fun j => .int (mm.2.2.1 b j))
  obtain ⟨vm', X', step⟩ := Y.arraycopy hE.1.1 hE.1.2.2.2.1 (hts _ hw) (hts (.native arraycopyName) (by decide +kernel)) (hts (.static arraycopyName) (by decide +kernel)) (hts (.initialized "java/lang/System") (by decide +kernel)) (src := z_ad X a) (dst := z_ad X b) (cs := vp_cell (X.2.2.2.1 6) (z_n a, .inl (mm.2.2.1 a))) (cd := vp_cell (X.2.2.2.1 6) (z_n b, .inl (mm.2.2.1 b))) (srcPos := sp) (destPos := dp) (n := n) (by rw [hT]; exact hc0) (by rw [hT]; exact hc1)
    (fun _ h => by cases h) (fun _ h => by cases h) (fun h => by cases h) (fun h => by cases h) hk0 hk1 hkk0 hkk1 (by simp [refKind]) h1 h2 h3
    (by rw [nn sp h1, nn n h3]; show ¬ _ > ((arrV _ (z_n a) (fun j => .int (mm.2.2.1 a j))).slots.size : Int); rw [arrV_size]; omega)
    (by rw [nn dp h2, nn n h3]; show ¬ _ > ((arrV _ (z_n b) (fun j => .int (mm.2.2.1 b j))).slots.size : Int); rw [arrV_size]; omega)
    (fun vm₁ _ i hi => by
      have e : (vp_cell (X.2.2.2.1 6) (z_n a, .inl (mm.2.2.1 a))).slots.getD (sp.toNatClampNeg + i) .null = .int (mm.2.2.1 a (sp.toNatClampNeg + i)) := by
        show (arrV _ (z_n a) (fun j => .int (mm.2.2.1 a j))).slots.getD _ _ = _
        rw [Array.getD_eq_getD_getElem?, arrV_read _ _ (by omega)]
        rfl
      refine ⟨?_, ?_⟩
      · rw [e]
        rfl
      · rw [e]
        exact trivial)
    (g := F0 m pc ls (.int n :: .int dp :: .ref (z_ad X b) :: .int sp :: .ref (z_ad X a) :: st)) rfl (by rw [hE.1.2.2.1]; exact hls) (rest := st) rfl (by rw [hE.1.2.1]; exact hd) (by omega) (by show 2 * 0 + _ + _ ≤ _; omega)
  have e1 : copied (vp_cell (X.2.2.2.1 6) (z_n a, .inl (mm.2.2.1 a))) (vp_cell (X.2.2.2.1 6) (z_n b, .inl (mm.2.2.1 b))) sp dp n = vp_cell (X.2.2.2.1 6) (z_n b, .inl (va_cpy (mm.2.2.1 a) (mm.2.2.1 b) sp.toNatClampNeg dp.toNatClampNeg n.toNatClampNeg)) := va_copied (fun z => .int z) _ _ _ _ h4
  rw [e1] at X' step
  have hl : z_ad X b < H.size := (Array.getElem?_eq_some_iff.mp hc1).1
  generalize hce : vp_cell (X.2.2.2.1 6) (z_n b, .inl (va_cpy (mm.2.2.1 a) (mm.2.2.1 b) sp.toNatClampNeg dp.toNatClampNeg n.toNatClampNeg)) = ce at X' step
  have hheap : ((T.setVm vm').setCell (z_ad X b) ce).heap = H.setIfInBounds (z_ad X b) ce := by rw [← hT]; rfl
  have oq : ∀ q : Nat, q ≠ z_ad X b → (H.setIfInBounds (z_ad X b) ce)[q]? = H[q]? := fun q hq => by simp [Array.getElem?_setIfInBounds, Ne.symm hq]
  have hat : va_at (X.2.1, X.2.2.1) vwCl (z_ad X b, z_E X (z_wR mm b (va_cpy (mm.2.2.1 a) (mm.2.2.1 b) sp.toNatClampNeg dp.toNatClampNeg n.toNatClampNeg)) b) (H.setIfInBounds (z_ad X b) ce) := by
    rw [z_E_int g4]
    show (H.setIfInBounds (z_ad X b) ce)[z_ad X b]? = some (vp_cell _ _)
    rw [← hce]
    simp [Array.getElem?_setIfInBounds, hl, z_wR]
  obtain ⟨t, a1, b1⟩ := kk _ _ (hH.set rfl z_wR_b hat (by simp) oq) ⟨by simp; exact hS.1, fun q g1 g2 => by
      rw [oq q (fun e => g2 (by rw [e]; exact z_adA X b))]
      exact hS.2.1 q g1 g2, fun q hq => by
      rcases List.mem_append.mp hq with h | h
      · exact hS.2.2 q h
      · obtain ⟨z, -, hz⟩ := List.mem_map.mp h
        rw [← hz]
        exact z_adA X b⟩ _ hheap X'
  exact ⟨t, step t a1, b1⟩
end
