/-! READS AND WRITES. Each row pairs an instruction with a word of the functional text. -/
def z_wI (m : z_M) (a j : Nat) (v : Int32) : z_M := (m.1, m.2.1, fun b k => if b = a ∧ k = j then v else m.2.2.1 b k, m.2.2.2)
def z_wP (m : z_M) (a j b0 : Nat) : z_M := (m.1, m.2.1, m.2.2.1, fun b k => if b = a ∧ k = j then some b0 else m.2.2.2 b k)
def z_wR (m : z_M) (a : Nat) (f : Nat → Int32) : z_M := (m.1, m.2.1, fun b k => if b = a then f k else m.2.2.1 b k, m.2.2.2)
def z_nw (m : z_M) : z_M := (m.1 + 1, m.2.1 + z_n m.1, fun b k => if b = m.1 then 0 else m.2.2.1 b k, fun b k => if b = m.1 then none else m.2.2.2 b k)
def z_gI (m : z_M) (a c j : Nat) (k : Int32 → z_R) : z_R := if a < m.1 ∧ z_k a = c then k (m.2.2.1 a j) else none
def z_gP (m : z_M) (a c j : Nat) (k : Nat → z_R) : z_R := if a < m.1 ∧ z_k a = c then (match m.2.2.2 a j with
  | some b => k b
  | none => none) else none
def z_sI (m : z_M) (a c j : Nat) (v : Int32) (k : z_M → z_R) : z_R := if a < m.1 ∧ z_k a = c then k (z_wI m a j v) else none
def z_sP (m : z_M) (a c j b : Nat) (k : z_M → z_R) : z_R := if a < m.1 ∧ z_k a = c then k (z_wP m a j b) else none
def z_al (m : z_M) (a : Nat) (i : Int32) (k : Int32 → z_R) : z_R := if a < m.1 ∧ z_k a = 6 ∧ 0 ≤ i.toInt ∧ i.toInt < z_n a then k (m.2.2.1 a i.toNatClampNeg) else none
def z_cl (m : z_M) (a : Nat) (i : Int32) (k : Int32 → z_R) : z_R := if a < m.1 ∧ z_k a = 7 ∧ 0 ≤ i.toInt ∧ i.toInt < z_n a then k (m.2.2.1 a i.toNatClampNeg) else none
def z_as (m : z_M) (a : Nat) (i v : Int32) (k : z_M → z_R) : z_R := if a < m.1 ∧ z_k a = 6 ∧ 0 ≤ i.toInt ∧ i.toInt < z_n a then k (z_wI m a i.toNatClampNeg v) else none
def z_cs (m : z_M) (a : Nat) (i v : Int32) (k : z_M → z_R) : z_R := if a < m.1 ∧ z_k a = 7 ∧ 0 ≤ i.toInt ∧ i.toInt < z_n a then k (z_wI m a i.toNatClampNeg (vp_nar .char v)) else none
def z_pl (m : z_M) (a : Nat) (i : Int32) (k : Nat → z_R) : z_R := if a < m.1 ∧ z_k a = 8 ∧ 0 ≤ i.toInt ∧ i.toInt < z_n a then (match m.2.2.2 a i.toNatClampNeg with
  | some b => k b
  | none => none) else none
def z_ps (m : z_M) (a : Nat) (i : Int32) (b : Nat) (k : z_M → z_R) : z_R := if a < m.1 ∧ z_k a = 8 ∧ (0 ≤ i.toInt ∧ i.toInt < z_n a) ∧ b < m.1 ∧ z_k b = 3 then k (z_wP m a i.toNatClampNeg b) else none
def z_ln (m : z_M) (a : Nat) (k : Int32 → z_R) : z_R := if a < m.1 ∧ (z_k a = 6 ∨ z_k a = 7 ∨ z_k a = 8) then k (Int32.ofNat (z_n a)) else none
def z_cp (m : z_M) (a : Nat) (sp : Int32) (b : Nat) (dp n : Int32) (k : z_M → z_R) : z_R :=
  if (a < m.1 ∧ z_k a = 6) ∧ (b < m.1 ∧ z_k b = 6) ∧ (¬ sp < 0 ∧ ¬ dp < 0 ∧ ¬ n < 0) ∧ sp.toNatClampNeg + n.toNatClampNeg ≤ z_n a ∧ dp.toNatClampNeg + n.toNatClampNeg ≤ z_n b then k (z_wR m b (va_cpy (m.2.2.1 a) (m.2.2.1 b) sp.toNatClampNeg dp.toNatClampNeg n.toNatClampNeg)) else none
def z_no (m : z_M) (c : Nat) (k : Nat → z_M → z_R) : z_R := if z_k m.1 = c then k m.1 (z_nw m) else none
def z_na (m : z_M) (c : Nat) (n : Int32) (k : Nat → z_M → z_R) : z_R := if z_k m.1 = c ∧ ¬ n < 0 ∧ n.toNatClampNeg = z_n m.1 then k m.1 (z_nw m) else none
def z_tl (t : Nat) (i : Int32) (k : Int32 → z_R) : z_R := if 0 ≤ i.toInt ∧ i.toInt < z_tn t then k (z_tb t i.toNatClampNeg) else none
def z_b (o : z_R) (k : Int32 → z_M → z_R) : z_R := match o with
  | some q => k q.1 q.2
  | none => none
def z_cv (m : z_M) (a c : Nat) (o : z_R) (k : Int32 → z_M → z_R) : z_R := if a < m.1 ∧ z_k a = c then z_b o k else none
def z_rz (r : Int32) (m : z_M) : z_R := if r = 0 ∨ r = 1 then some (r, m) else none
theorem z_b_some {o : z_R} {k : Int32 → z_M → z_R} {q : Int32 × z_M} (h : z_b o k = some q) : ∃ r m, o = some (r, m) ∧ k r m = some q := by
  cases o with
  | none => cases h
  | some x => exact ⟨x.1, x.2, rfl, h⟩
/-- what a class's rows need -/
def z_Cl (c : Nat) (C : String) (T : u_T) (N : Nat) (ty : Nat → FieldType) : Prop := vwCl[c]? = some (C, T, N) ∧ (∀ w ∈ u_ws C T N, w ∈ z_ws) ∧ (∀ k, k < N → parseFieldDescriptor (T k).2.2.1 = some (ty k)) ∧ (∀ a, a < N → ∀ b, b < N → a ≠ b → (T a).2.1 ≠ (T b).2.1) ∧ (∀ a, z_k a = c → z_n a = N) ∧ (∀ k, k < N → defaultValue (ty k) = if z_i c k = true then .int 0 else .null) ∧ c < 6
theorem z_cl_len {c N : Nat} (h : z_T.all (fun q => !(q.1 == c) || q.2 == N) = true) (hc : c < 99) : ∀ a, z_k a = c → z_n a = N := by
  intro a ha
  unfold z_k at ha
  unfold z_n
  rw [List.getD_eq_getElem?_getD] at ha ⊢
  cases hq : z_T[a]? with
  | none => rw [hq] at ha; simp at ha; omega
  | some q =>
    rw [hq] at ha
    have h2 := List.all_eq_true.mp h q (List.mem_of_getElem? hq)
    simp at ha h2 ⊢
    rcases h2 with h2 | h2
    · exact absurd ha h2
    · exact h2
set_option maxRecDepth 100000 in
theorem z_X0 : z_Cl 0 RX0 TX0 2 tyX0 := ⟨rfl, by decide +kernel, tyX0_ok, nmX0, z_cl_len (by decide +kernel) (by decide), by decide +kernel, by decide⟩
set_option maxRecDepth 100000 in
theorem z_X1 : z_Cl 1 RX1 TX1 3 tyX1 := ⟨rfl, by decide +kernel, tyX1_ok, nmX1, z_cl_len (by decide +kernel) (by decide), by decide +kernel, by decide⟩
set_option maxRecDepth 100000 in
theorem z_X2 : z_Cl 2 RX2 TX2 7 tyX2 := ⟨rfl, by decide +kernel, tyX2_ok, nmX2, z_cl_len (by decide +kernel) (by decide), by decide +kernel, by decide⟩
set_option maxRecDepth 100000 in
theorem z_X3 : z_Cl 3 RX3 TX3 8 tyX3 := ⟨rfl, by decide +kernel, tyX3_ok, nmX3, z_cl_len (by decide +kernel) (by decide), by decide +kernel, by decide⟩
set_option maxRecDepth 100000 in
theorem z_X4 : z_Cl 4 RX4 TX4 10 tyX4 := ⟨rfl, by decide +kernel, tyX4_ok, nmX4, z_cl_len (by decide +kernel) (by decide), by decide +kernel, by decide⟩
set_option maxRecDepth 100000 in
theorem z_X5 : z_Cl 5 RX5 TX5 14 tyX5 := ⟨rfl, by decide +kernel, tyX5_ok, nmX5, z_cl_len (by decide +kernel) (by decide), by decide +kernel, by decide⟩
theorem z_E_obj {X : z_X} {m : z_M} {a c : Nat} (h : z_k a = c) (hc : c < 6) : z_E X m a = .inr (c, (List.range (z_n a)).map (z_v X m a)) := by
  unfold z_E
  rw [if_neg (by omega), if_neg (by omega), h]
theorem z_E_int {X : z_X} {m : z_M} {a : Nat} (h : z_k a = 6) : z_E X m a = .inl (X.2.2.2.1 6, z_n a, .inl (m.2.2.1 a)) := by
  unfold z_E
  rw [if_pos (by omega), h]
theorem z_E_chr {X : z_X} {m : z_M} {a : Nat} (h : z_k a = 7) : z_E X m a = .inl (X.2.2.2.1 7, z_n a, .inl (m.2.2.1 a)) := by
  unfold z_E
  rw [if_pos (by omega), h]
theorem z_E_ref {X : z_X} {m : z_M} {a : Nat} (h : z_k a = 8) : z_E X m a = .inl (X.2.2.2.1 8, z_n a, .inr (.inr (.inr (.inr (fun j => (m.2.2.2 a j).map (z_ad X)))))) := by
  unfold z_E
  rw [if_neg (by omega), if_pos h]
theorem z_E_congr {X : z_X} {m m' : z_M} {a : Nat} (h1 : m'.2.2.1 a = m.2.2.1 a) (h2 : m'.2.2.2 a = m.2.2.2 a) : z_E X m' a = z_E X m a := by
  have hv : z_v X m' a = z_v X m a := by
    funext k
    unfold z_v
    rw [h1, h2]
  unfold z_E
  rw [h1, h2, hv]
theorem z_ad_inj {X : z_X} {a b : Nat} (h : z_ad X a = z_ad X b) : a = b := by
  unfold z_ad at h
  omega
theorem z_adA (X : z_X) (a : Nat) : z_A X (z_ad X a) := Nat.le_add_right _ _
/-- one cell changes -/
theorem z_H.set {X : z_X} {m m' : z_M} {H H1 : Heap} {a : Nat} (h : z_H X m H) (hn : m'.1 = m.1) (hb : ∀ b, b ≠ a → m'.2.2.1 b = m.2.2.1 b ∧ m'.2.2.2 b = m.2.2.2 b) (ha : va_at (X.2.1, X.2.2.1) vwCl (z_ad X a, z_E X m' a) H1) (hz : H1.size = H.size) (hq : ∀ q : Nat, q ≠ z_ad X a → H1[q]? = H[q]?) : z_H X m' H1 := by
  refine ⟨by rw [hz, h.1, hn], fun b hb' => ?_⟩
  by_cases e : b = a
  · subst e
    exact ha
  · rw [z_E_congr (hb b e).1 (hb b e).2]
    exact (h.2 b (by omega)).kept (hq _ (fun z => e (z_ad_inj z)))
theorem z_one_P {X : z_X} {m : z_M} {H : Heap} {a : Nat} (h : z_H X m H) (ha : a < m.1) {e : va_E} (he : z_E X m a = e) : va_P (X.2.1, X.2.2.1) vwCl [(z_ad X a, e)] H := by
  intro k q hk
  cases k with
  | zero => cases hk; rw [← he]; exact h.2 a ha
  | succ k => simp at hk
section
variable {X : z_X} {y : MethodName} {cc : ByteArray} {nL : Nat} {rt : Option FieldType} {d : Nat} {pc : Nat} {lv lv' : List (Nat × Value)} {st : List Value} {mm : z_M} {o : z_R}
/-- a step that reads the heap -/
theorem z_rd {pc' : Nat} {st' : List Value} (h : ∀ (p : Program) (e : Env) (R : Room) (s : State) (m : MethodId) (args : Array Value) (below : List Frame) (meth : Method) (c : Code) (H : Heap) (locs : List Loc) (cells slots : Nat) (Q : State → Prop) (ls : Array Slot),
      z_En X y cc nL rt p s m args meth c → z_H X mm H → va_S (z_A X) s.heap H locs → W p X.1 e R s m args below meth c H locs cells slots Q (F0 m pc' ls st') → W p X.1 e R s m args below meth c H locs cells slots Q (F0 m pc ls st))
    (K : z_Sim X y cc nL rt d pc' lv st' mm o) : z_Sim X y cc nL rt d pc lv st mm o := by
  intro r m2 ho
  obtain ⟨a, b⟩ := K r m2 ho
  exact ⟨a, fun p e s m args below meth c n0 z0 H locs ls hE h1 h2 hH hS hl => h _ _ _ _ _ _ _ _ _ _ _ _ _ _ _ hE hH hS (b p e s m args below meth c n0 z0 H locs ls hE h1 h2 hH hS hl)⟩
theorem z_getI {a c j ix N : Nat} {C ref nm ds : String} {T : u_T} {ty : Nat → FieldType} {fin : Bool} {k : Int32 → z_R} (hc : z_Cl c C T N ty) (hj : j < N) (hT : T j = (ref, nm, ds, fin)) (hi : z_i c j = true) (hw : Cond.fieldLink y.cls ix ref nm ds ∈ z_ws) (hd : decode cc pc = .ok (.getfield ix, 3))
    (K : ∀ v : Int32, z_Sim X y cc nL rt d (pc + 3) lv (.int v :: st) mm (k v)) : z_Sim X y cc nL rt d pc lv (.ref (z_ad X a) :: st) mm (z_gI mm a c j k) := by
  unfold z_gI
  refine z_if (fun hg => ?_) (fun _ => z_none)
  obtain ⟨g1, g2⟩ := hg
  refine z_rd (fun p e R s m args below meth c0 H locs cells slots Q ls hE hH hS kk => ?_) (K _)
  refine va_get (D := (X.2.1, X.2.2.1)) (C := C) (T := T) (N := N) (ref := ref) hE.1.1 hE.1.2.1 hE.1.2.2.2.2 hc.2.1 hE.1.2.2.2.1 hE.2.2.2.2.1 (z_one_P hH g1 (z_E_obj g2 hc.2.2.2.2.2.2)) 0 rfl hc.1 j hj (by rw [hT]; exact hE.1.2.2.2.2 _ hw) (by rw [hT]; exact fun _ h => h) ?_ hd kk
  rw [List.getElem?_map, List.getElem?_range (by rw [hc.2.2.2.2.1 a g2]; exact hj)]
  simp [z_v, g2, hi]
theorem z_getP {a c j ix N : Nat} {C ref nm ds : String} {T : u_T} {ty : Nat → FieldType} {fin : Bool} {k : Nat → z_R} (hc : z_Cl c C T N ty) (hj : j < N) (hT : T j = (ref, nm, ds, fin)) (hi : z_i c j = false) (hw : Cond.fieldLink y.cls ix ref nm ds ∈ z_ws) (hd : decode cc pc = .ok (.getfield ix, 3))
    (K : ∀ b : Nat, z_Sim X y cc nL rt d (pc + 3) lv (.ref (z_ad X b) :: st) mm (k b)) : z_Sim X y cc nL rt d pc lv (.ref (z_ad X a) :: st) mm (z_gP mm a c j k) := by
  unfold z_gP
  refine z_if (fun hg => ?_) (fun _ => z_none)
  obtain ⟨g1, g2⟩ := hg
  cases hb : mm.2.2.2 a j with
  | none => exact z_none
  | some b =>
    refine z_rd (fun p e R s m args below meth c0 H locs cells slots Q ls hE hH hS kk => ?_) (K b)
    refine va_get (D := (X.2.1, X.2.2.1)) (C := C) (T := T) (N := N) (ref := ref) hE.1.1 hE.1.2.1 hE.1.2.2.2.2 hc.2.1 hE.1.2.2.2.1 hE.2.2.2.2.1 (z_one_P hH g1 (z_E_obj g2 hc.2.2.2.2.2.2)) 0 rfl hc.1 j hj (by rw [hT]; exact hE.1.2.2.2.2 _ hw) (by rw [hT]; exact fun _ h => h) ?_ hd kk
    rw [List.getElem?_map, List.getElem?_range (by rw [hc.2.2.2.2.1 a g2]; exact hj)]
    simp [z_v, g2, hi, hb, va_rf]
theorem z_iald {a : Nat} {i : Int32} {k : Int32 → z_R} (hd : decode cc pc = .ok (.iaload, 1)) (K : ∀ v : Int32, z_Sim X y cc nL rt d (pc + 1) lv (.int v :: st) mm (k v)) : z_Sim X y cc nL rt d pc lv (.int i :: .ref (z_ad X a) :: st) mm (z_al mm a i k) := by
  unfold z_al
  refine z_if (fun hg => ?_) (fun _ => z_none)
  obtain ⟨g1, g2, g3⟩ := hg
  refine z_rd (fun p e R s m args below meth c0 H locs cells slots Q ls hE hH hS kk => ?_) (K _)
  exact va_iald (D := (X.2.1, X.2.2.1)) hE.1.1 hE.1.2.1 hE.2.2.2.2.1 (z_one_P hH g1 (z_E_int g2)) 0 0 rfl rfl (vp_in_iff.mpr g3) hd kk
theorem z_cald {a : Nat} {i : Int32} {k : Int32 → z_R} (hd : decode cc pc = .ok (.caload, 1)) (K : ∀ v : Int32, z_Sim X y cc nL rt d (pc + 1) lv (.int v :: st) mm (k v)) : z_Sim X y cc nL rt d pc lv (.int i :: .ref (z_ad X a) :: st) mm (z_cl mm a i k) := by
  unfold z_cl
  refine z_if (fun hg => ?_) (fun _ => z_none)
  obtain ⟨g1, g2, g3⟩ := hg
  refine z_rd (fun p e R s m args below meth c0 H locs cells slots Q ls hE hH hS kk => ?_) (K _)
  exact va_cald (D := (X.2.1, X.2.2.1)) hE.1.1 hE.1.2.1 hE.2.2.2.2.1 (z_one_P hH g1 (z_E_chr g2)) 0 1 rfl rfl (vp_in_iff.mpr g3) hd kk
theorem z_aald {a : Nat} {i : Int32} {k : Nat → z_R} (hd : decode cc pc = .ok (.aaload, 1)) (K : ∀ b : Nat, z_Sim X y cc nL rt d (pc + 1) lv (.ref (z_ad X b) :: st) mm (k b)) : z_Sim X y cc nL rt d pc lv (.int i :: .ref (z_ad X a) :: st) mm (z_pl mm a i k) := by
  unfold z_pl
  refine z_if (fun hg => ?_) (fun _ => z_none)
  obtain ⟨g1, g2, g3⟩ := hg
  cases hb : mm.2.2.2 a i.toNatClampNeg with
  | none => exact z_none
  | some b =>
    refine z_rd (fun p e R s m args below meth c0 H locs cells slots Q ls hE hH hS kk => ?_) (K b)
    refine va_aldq (D := (X.2.1, X.2.2.1)) (C := "HayFootStraw$Standing") hE.1.1 hE.1.2.1 hE.2.2.2.2.1 (z_one_P hH g1 (z_E_ref g2)) 0 2 rfl rfl (vp_in_iff.mpr g3) hd ?_
    simp only [hb, Option.map_some, va_rf]
    exact kk
theorem z_alen {a : Nat} {k : Int32 → z_R} (hd : decode cc pc = .ok (.arraylength, 1)) (K : ∀ v : Int32, z_Sim X y cc nL rt d (pc + 1) lv (.int v :: st) mm (k v)) : z_Sim X y cc nL rt d pc lv (.ref (z_ad X a) :: st) mm (z_ln mm a k) := by
  unfold z_ln
  refine z_if (fun hg => ?_) (fun _ => z_none)
  obtain ⟨g1, g2⟩ := hg
  refine z_rd (fun p e R s m args below meth c0 H locs cells slots Q ls hE hH hS kk => ?_) (K _)
  rcases g2 with g2 | g2 | g2
  · exact va_alen (D := (X.2.1, X.2.2.1)) (ty := .int) hE.1.1 hE.1.2.1 hE.2.2.2.2.1 (z_one_P hH g1 (z_E_int g2)) 0 0 rfl rfl rfl hd kk
  · exact va_alen (D := (X.2.1, X.2.2.1)) (ty := .char) hE.1.1 hE.1.2.1 hE.2.2.2.2.1 (z_one_P hH g1 (z_E_chr g2)) 0 1 rfl rfl rfl hd kk
  · exact va_alen (D := (X.2.1, X.2.2.1)) (ty := .object "HayFootStraw$Standing") hE.1.1 hE.1.2.1 hE.2.2.2.2.1 (z_one_P hH g1 (z_E_ref g2)) 0 2 rfl rfl rfl hd kk
end
