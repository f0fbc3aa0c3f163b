theorem wm_L_9 : Cond.methodLink RL 9 yX4_init ∈ z_ws := z_in 71 (by decide +kernel) (by decide)
theorem wm_L_12 : Cond.methodLink RL 12 yX5_init ∈ z_ws := z_in 578 (by decide +kernel) (by decide)
theorem wm_L_13 : Cond.methodLink RL 13 yX4_write ∈ z_ws := z_in 326 (by decide +kernel) (by decide)
theorem wm_L_17 : Cond.methodLink RL 17 yX5_write ∈ z_ws := z_in 637 (by decide +kernel) (by decide)
theorem wm_L_18 : Cond.methodLink RL 18 yX4_wipe ∈ z_ws := z_in 330 (by decide +kernel) (by decide)
theorem wm_L_22 : Cond.methodLink RL 22 yX5_wipe ∈ z_ws := z_in 644 (by decide +kernel) (by decide)
theorem wm_L_23 : Cond.methodLink RL 23 yX4_fault ∈ z_ws := z_in 334 (by decide +kernel) (by decide)
theorem wm_L_26 : Cond.methodLink RL 26 yX5_fault ∈ z_ws := z_in 648 (by decide +kernel) (by decide)
theorem wm_L_27 : Cond.methodLink RL 27 yX4_lay ∈ z_ws := z_in 338 (by decide +kernel) (by decide)
theorem wm_L_30 : Cond.methodLink RL 30 yX5_lay ∈ z_ws := z_in 679 (by decide +kernel) (by decide)
theorem wm_L_31 : Cond.methodLink RL 31 yX4_man ∈ z_ws := z_in 342 (by decide +kernel) (by decide)
theorem wm_L_35 : Cond.methodLink RL 35 yX5_man ∈ z_ws := z_in 683 (by decide +kernel) (by decide)
theorem wm_L_36 : Cond.methodLink RL 36 yX4_word ∈ z_ws := z_in 354 (by decide +kernel) (by decide)
theorem wm_L_39 : Cond.methodLink RL 39 yX5_word ∈ z_ws := z_in 695 (by decide +kernel) (by decide)
theorem wm_L_40 : Cond.methodLink RL 40 yX4_shout ∈ z_ws := z_in 420 (by decide +kernel) (by decide)
theorem wm_L_43 : Cond.methodLink RL 43 yX5_shout ∈ z_ws := z_in 754 (by decide +kernel) (by decide)
theorem wm_L_44 : Cond.methodLink RL 44 yX4_eyes ∈ z_ws := z_in 428 (by decide +kernel) (by decide)
theorem wm_L_47 : Cond.methodLink RL 47 yX5_eyes ∈ z_ws := z_in 762 (by decide +kernel) (by decide)
theorem wm_L_48 : Cond.methodLink RL 48 yX4_look ∈ z_ws := z_in 435 (by decide +kernel) (by decide)
theorem wm_L_51 : Cond.methodLink RL 51 yX5_look ∈ z_ws := z_in 766 (by decide +kernel) (by decide)
theorem wm_L_52 : Cond.methodLink RL 52 yX4_undo ∈ z_ws := z_in 439 (by decide +kernel) (by decide)
theorem wm_L_55 : Cond.methodLink RL 55 yX5_undo ∈ z_ws := z_in 770 (by decide +kernel) (by decide)
theorem wm_L_56 : Cond.methodLink RL 56 yX4_who ∈ z_ws := z_in 447 (by decide +kernel) (by decide)
theorem wm_L_59 : Cond.methodLink RL 59 yX5_who ∈ z_ws := z_in 774 (by decide +kernel) (by decide)
theorem wm_L_60 : Cond.methodLink RL 60 yX4_follows ∈ z_ws := z_in 451 (by decide +kernel) (by decide)
theorem wm_L_63 : Cond.methodLink RL 63 yX5_follows ∈ z_ws := z_in 778 (by decide +kernel) (by decide)
theorem wm_L_64 : Cond.methodLink RL 64 yX4_runs ∈ z_ws := z_in 455 (by decide +kernel) (by decide)
theorem wm_L_67 : Cond.methodLink RL 67 yX5_runs ∈ z_ws := z_in 782 (by decide +kernel) (by decide)
theorem wm_L_68 : Cond.methodLink RL 68 yX4_most ∈ z_ws := z_in 459 (by decide +kernel) (by decide)
theorem wm_L_71 : Cond.methodLink RL 71 yX5_most ∈ z_ws := z_in 786 (by decide +kernel) (by decide)
theorem wm_L_72 : Cond.methodLink RL 72 yX4_groups ∈ z_ws := z_in 467 (by decide +kernel) (by decide)
theorem wm_L_75 : Cond.methodLink RL 75 yX5_groups ∈ z_ws := z_in 790 (by decide +kernel) (by decide)
theorem wm_L_76 : Cond.methodLink RL 76 yX4_plan ∈ z_ws := z_in 472 (by decide +kernel) (by decide)
theorem wm_L_79 : Cond.methodLink RL 79 yX5_plan ∈ z_ws := z_in 794 (by decide +kernel) (by decide)
theorem wm_L_80 : Cond.methodLink RL 80 yX4_turn ∈ z_ws := z_in 497 (by decide +kernel) (by decide)
theorem wm_L_83 : Cond.methodLink RL 83 yX5_turn ∈ z_ws := z_in 814 (by decide +kernel) (by decide)
theorem wm_L_84 : Cond.methodLink RL 84 yX4_alike ∈ z_ws := z_in 509 (by decide +kernel) (by decide)
theorem wm_L_87 : Cond.methodLink RL 87 yX5_alike ∈ z_ws := z_in 818 (by decide +kernel) (by decide)
theorem wm_L_88 : Cond.methodLink RL 88 yX4_right ∈ z_ws := z_in 539 (by decide +kernel) (by decide)
theorem wm_L_92 : Cond.methodLink RL 92 yX5_right ∈ z_ws := z_in 829 (by decide +kernel) (by decide)
theorem wm_L_93 : Cond.methodLink RL 93 yX4_which ∈ z_ws := z_in 543 (by decide +kernel) (by decide)
theorem wm_L_96 : Cond.methodLink RL 96 yX5_which ∈ z_ws := z_in 833 (by decide +kernel) (by decide)
theorem wm_L_97 : Cond.methodLink RL 97 yX4_safe ∈ z_ws := z_in 547 (by decide +kernel) (by decide)
theorem wm_L_100 : Cond.methodLink RL 100 yX5_safe ∈ z_ws := z_in 838 (by decide +kernel) (by decide)
theorem wm_L_101 : Cond.methodLink RL 101 yX4_numbers ∈ z_ws := z_in 551 (by decide +kernel) (by decide)
theorem wm_L_104 : Cond.methodLink RL 104 yX5_numbers ∈ z_ws := z_in 842 (by decide +kernel) (by decide)
theorem wm_L_105 : Cond.methodLink RL 105 yX4_drill ∈ z_ws := z_in 555 (by decide +kernel) (by decide)
theorem wm_L_108 : Cond.methodLink RL 108 yX5_drill ∈ z_ws := z_in 846 (by decide +kernel) (by decide)
theorem wm_L_109 : Cond.methodLink RL 109 yX4_keep ∈ z_ws := z_in 564 (by decide +kernel) (by decide)
theorem wm_L_112 : Cond.methodLink RL 112 yX5_keep ∈ z_ws := z_in 850 (by decide +kernel) (by decide)
theorem wm_L_113 : Cond.methodLink RL 113 yX4_back ∈ z_ws := z_in 568 (by decide +kernel) (by decide)
theorem wm_L_116 : Cond.methodLink RL 116 yX5_back ∈ z_ws := z_in 854 (by decide +kernel) (by decide)
theorem wm_L_117 : Cond.methodLink RL 117 yX4_count ∈ z_ws := z_in 572 (by decide +kernel) (by decide)
theorem wm_L_120 : Cond.methodLink RL 120 yX5_count ∈ z_ws := z_in 858 (by decide +kernel) (by decide)
theorem wc_L_7 : Cond.classLink RL 7 RX4 ∈ z_ws := z_in 69 (by decide +kernel) (by decide)
theorem wc_L_10 : Cond.classLink RL 10 RX5 ∈ z_ws := z_in 576 (by decide +kernel) (by decide)
def R_law : String := "HayFootStrawLaw"
def lw_P (b : Addr) (xs : List Int32) (args : Array Value) (s : State) : Prop := args = #[.ref b] ∧ s.IntsAt b xs ∧ xs.length ≤ 2048 ∧ (Jvm.Cond.and given_1 narrow_1).before args s = true
def lw_Q (_ : Array Value) (s : State) (o : Outcome) (t : State) : Prop := o = .returned (some (.int 1)) ∧ Framed s o t [] 600000 7302250
def lw_Z (below : List Frame) (a : Array Value) (s : State) : State → Prop := fun t => ∃ o, t.status = .running ∧ Ended t below o ∧ lw_Q a s o t
/-- the law's own end, with 1 on the stack, nothing written that was there before, its room as the claim has it -/
theorem lw_ret {p : Program} {l : Launch} {e : Env} {s : State} {m : MethodId} {below : List Frame} {meth : Method} {c : Code} {b : Nat} (hx : p.tables.exec = Jvm.exec) (hb : c.code = code) (hr : meth.sig.returnType = ret) (hlocks : meth.locks = false) {pc : Nat} {H : Heap} {ls : Array Slot} (hdg : decode code pc = .ok (.ireturn, 1)) : W p l e room_1 s m #[Value.ref b] below meth c H [] 600000 7302250 (lw_Z below #[Value.ref b] s) (F0 m pc ls [.int 1]) := by
  intro T hT X
  obtain ⟨fs, hret, hrun, hended, hW, hframe⟩ := X.leave (v := some (.int 1)) (hlocks := hlocks) (fun h => by rw [hr] at h; cases h)
  have hmeth' : T.vm.method? m = some meth := X.method'
  refine ⟨T.setFrames fs, ?_, .returned (some (.int 1)), hrun, hended, rfl, ⟨_, rfl⟩, hW, hframe⟩
  jvm_step X.here [X.here.top, hx, hb, hdg, hmeth', hr, ret, narrow_b1]
  (try refine ⟨rfl, ?_⟩); (try refine ⟨rfl, ?_⟩)
  first | (intro acts; rw [hret _ acts rfl rfl rfl]) | rw [hret _ _ rfl rfl rfl]
  exact Steps.refl _
/-- what holds at the law's entry: the machine, the code, the tables' words (any of lw_tbl by 'hts w (by decide +kernel)'), the script of L ints xs at the cell b, what the Statement gives of the start (any of its parts by flat_of_before) -/
def lw_At (p : Program) (s : State) (m : MethodId) (meth : Method) (c : Code) (b L : Nat) (xs : Nat → Int32) : Prop :=
  p.tables.exec = Jvm.exec ∧ c.code = code ∧ meth.sig.returnType = ret ∧ c.maxLocals = 4 ∧ s.vm.findClass R_law = some m.cls ∧ (∀ w ∈ lw_tbl, w.before #[Value.ref b] s = true) ∧ va_X b L xs s s.heap ∧ b < s.heap.size ∧ meth.locks = false ∧ (Jvm.Cond.and given_1 narrow_1).before #[Value.ref b] s = true
def z_Ops (Rel : z_M → Prop) : Prop := (∀ m : z_M, Rel m → 57 < m.1 ∧ m.1 ≤ 600000 ∧ m.2.1 ≤ 7302250) ∧
  (∀ (a1 : Int32) (m : z_M), Rel m → ∃ (r : Int32) (m1 m2 : z_M), f_X4_write 0 a1 m = some (r, m1) ∧ f_X5_write 57 a1 m1 = some (r, m2) ∧ (57 < m1.1 ∧ m1.1 ≤ 600000 ∧ m1.2.1 ≤ 7302250) ∧ Rel m2) ∧
  (∀ (m : z_M), Rel m → ∃ (r : Int32) (m1 m2 : z_M), f_X4_wipe 0 m = some (r, m1) ∧ f_X5_wipe 57 m1 = some (r, m2) ∧ (57 < m1.1 ∧ m1.1 ≤ 600000 ∧ m1.2.1 ≤ 7302250) ∧ Rel m2) ∧
  (∀ (m : z_M), Rel m → ∃ (r : Int32) (m1 m2 : z_M), f_X4_fault 0 m = some (r, m1) ∧ f_X5_fault 57 m1 = some (r, m2) ∧ (57 < m1.1 ∧ m1.1 ≤ 600000 ∧ m1.2.1 ≤ 7302250) ∧ Rel m2) ∧
  (∀ (m : z_M), Rel m → ∃ (r : Int32) (m1 m2 : z_M), f_X4_lay 0 m = some (r, m1) ∧ f_X5_lay 57 m1 = some (r, m2) ∧ (57 < m1.1 ∧ m1.1 ≤ 600000 ∧ m1.2.1 ≤ 7302250) ∧ Rel m2) ∧
  (∀ (a1 a2 : Int32) (m : z_M), Rel m → ∃ (r : Int32) (m1 m2 : z_M), f_X4_man 0 a1 a2 m = some (r, m1) ∧ f_X5_man 57 a1 a2 m1 = some (r, m2) ∧ (57 < m1.1 ∧ m1.1 ≤ 600000 ∧ m1.2.1 ≤ 7302250) ∧ Rel m2) ∧
  (∀ (a1 : Int32) (m : z_M), Rel m → ∃ (r : Int32) (m1 m2 : z_M), f_X4_word 0 a1 m = some (r, m1) ∧ f_X5_word 57 a1 m1 = some (r, m2) ∧ (57 < m1.1 ∧ m1.1 ≤ 600000 ∧ m1.2.1 ≤ 7302250) ∧ Rel m2) ∧
  (∀ (a1 : Int32) (m : z_M), Rel m → ∃ (r : Int32) (m1 m2 : z_M), f_X4_shout 0 a1 m = some (r, m1) ∧ f_X5_shout 57 a1 m1 = some (r, m2) ∧ (57 < m1.1 ∧ m1.1 ≤ 600000 ∧ m1.2.1 ≤ 7302250) ∧ Rel m2) ∧
  (∀ (a1 : Int32) (m : z_M), Rel m → ∃ (r : Int32) (m1 m2 : z_M), f_X4_eyes 0 a1 m = some (r, m1) ∧ f_X5_eyes 57 a1 m1 = some (r, m2) ∧ (57 < m1.1 ∧ m1.1 ≤ 600000 ∧ m1.2.1 ≤ 7302250) ∧ Rel m2) ∧
  (∀ (a1 a2 : Int32) (m : z_M), Rel m → ∃ (r : Int32) (m1 m2 : z_M), f_X4_look 0 a1 a2 m = some (r, m1) ∧ f_X5_look 57 a1 a2 m1 = some (r, m2) ∧ (57 < m1.1 ∧ m1.1 ≤ 600000 ∧ m1.2.1 ≤ 7302250) ∧ Rel m2) ∧
  (∀ (m : z_M), Rel m → ∃ (r : Int32) (m1 m2 : z_M), f_X4_undo 0 m = some (r, m1) ∧ f_X5_undo 57 m1 = some (r, m2) ∧ (57 < m1.1 ∧ m1.1 ≤ 600000 ∧ m1.2.1 ≤ 7302250) ∧ Rel m2) ∧
  (∀ (a1 : Int32) (m : z_M), Rel m → ∃ (r : Int32) (m1 m2 : z_M), f_X4_who 0 a1 m = some (r, m1) ∧ f_X5_who 57 a1 m1 = some (r, m2) ∧ (57 < m1.1 ∧ m1.1 ≤ 600000 ∧ m1.2.1 ≤ 7302250) ∧ Rel m2) ∧
  (∀ (a1 : Int32) (m : z_M), Rel m → ∃ (r : Int32) (m1 m2 : z_M), f_X4_follows 0 a1 m = some (r, m1) ∧ f_X5_follows 57 a1 m1 = some (r, m2) ∧ (57 < m1.1 ∧ m1.1 ≤ 600000 ∧ m1.2.1 ≤ 7302250) ∧ Rel m2) ∧
  (∀ (a1 : Int32) (m : z_M), Rel m → ∃ (r : Int32) (m1 m2 : z_M), f_X4_runs 0 a1 m = some (r, m1) ∧ f_X5_runs 57 a1 m1 = some (r, m2) ∧ (57 < m1.1 ∧ m1.1 ≤ 600000 ∧ m1.2.1 ≤ 7302250) ∧ Rel m2) ∧
  (∀ (a1 : Int32) (m : z_M), Rel m → ∃ (r : Int32) (m1 m2 : z_M), f_X4_most 0 a1 m = some (r, m1) ∧ f_X5_most 57 a1 m1 = some (r, m2) ∧ (57 < m1.1 ∧ m1.1 ≤ 600000 ∧ m1.2.1 ≤ 7302250) ∧ Rel m2) ∧
  (∀ (a1 : Int32) (m : z_M), Rel m → ∃ (r : Int32) (m1 m2 : z_M), f_X4_groups 0 a1 m = some (r, m1) ∧ f_X5_groups 57 a1 m1 = some (r, m2) ∧ (57 < m1.1 ∧ m1.1 ≤ 600000 ∧ m1.2.1 ≤ 7302250) ∧ Rel m2) ∧
  (∀ (a1 : Int32) (m : z_M), Rel m → ∃ (r : Int32) (m1 m2 : z_M), f_X4_plan 0 a1 m = some (r, m1) ∧ f_X5_plan 57 a1 m1 = some (r, m2) ∧ (57 < m1.1 ∧ m1.1 ≤ 600000 ∧ m1.2.1 ≤ 7302250) ∧ Rel m2) ∧
  (∀ (a1 a2 : Int32) (m : z_M), Rel m → ∃ (r : Int32) (m1 m2 : z_M), f_X4_turn 0 a1 a2 m = some (r, m1) ∧ f_X5_turn 57 a1 a2 m1 = some (r, m2) ∧ (57 < m1.1 ∧ m1.1 ≤ 600000 ∧ m1.2.1 ≤ 7302250) ∧ Rel m2) ∧
  (∀ (a1 a2 : Int32) (m : z_M), Rel m → ∃ (r : Int32) (m1 m2 : z_M), f_X4_alike 0 a1 a2 m = some (r, m1) ∧ f_X5_alike 57 a1 a2 m1 = some (r, m2) ∧ (57 < m1.1 ∧ m1.1 ≤ 600000 ∧ m1.2.1 ≤ 7302250) ∧ Rel m2) ∧
  (∀ (a1 a2 a3 : Int32) (m : z_M), Rel m → ∃ (r : Int32) (m1 m2 : z_M), f_X4_right 0 a1 a2 a3 m = some (r, m1) ∧ f_X5_right 57 a1 a2 a3 m1 = some (r, m2) ∧ (57 < m1.1 ∧ m1.1 ≤ 600000 ∧ m1.2.1 ≤ 7302250) ∧ Rel m2) ∧
  (∀ (a1 a2 : Int32) (m : z_M), Rel m → ∃ (r : Int32) (m1 m2 : z_M), f_X4_which 0 a1 a2 m = some (r, m1) ∧ f_X5_which 57 a1 a2 m1 = some (r, m2) ∧ (57 < m1.1 ∧ m1.1 ≤ 600000 ∧ m1.2.1 ≤ 7302250) ∧ Rel m2) ∧
  (∀ (a1 : Int32) (m : z_M), Rel m → ∃ (r : Int32) (m1 m2 : z_M), f_X4_safe 0 a1 m = some (r, m1) ∧ f_X5_safe 57 a1 m1 = some (r, m2) ∧ (57 < m1.1 ∧ m1.1 ≤ 600000 ∧ m1.2.1 ≤ 7302250) ∧ Rel m2) ∧
  (∀ (a1 : Int32) (m : z_M), Rel m → ∃ (r : Int32) (m1 m2 : z_M), f_X4_numbers 0 a1 m = some (r, m1) ∧ f_X5_numbers 57 a1 m1 = some (r, m2) ∧ (57 < m1.1 ∧ m1.1 ≤ 600000 ∧ m1.2.1 ≤ 7302250) ∧ Rel m2) ∧
  (∀ (a1 a2 a3 : Int32) (m : z_M), Rel m → ∃ (r : Int32) (m1 m2 : z_M), f_X4_drill 0 a1 a2 a3 m = some (r, m1) ∧ f_X5_drill 57 a1 a2 a3 m1 = some (r, m2) ∧ (57 < m1.1 ∧ m1.1 ≤ 600000 ∧ m1.2.1 ≤ 7302250) ∧ Rel m2) ∧
  (∀ (m : z_M), Rel m → ∃ (r : Int32) (m1 m2 : z_M), f_X4_keep 0 m = some (r, m1) ∧ f_X5_keep 57 m1 = some (r, m2) ∧ (57 < m1.1 ∧ m1.1 ≤ 600000 ∧ m1.2.1 ≤ 7302250) ∧ Rel m2) ∧
  (∀ (m : z_M), Rel m → ∃ (r : Int32) (m1 m2 : z_M), f_X4_back 0 m = some (r, m1) ∧ f_X5_back 57 m1 = some (r, m2) ∧ (57 < m1.1 ∧ m1.1 ≤ 600000 ∧ m1.2.1 ≤ 7302250) ∧ Rel m2) ∧
  (∀ (a1 : Int32) (m : z_M), Rel m → ∃ (r : Int32) (m1 m2 : z_M), f_X4_count 0 a1 m = some (r, m1) ∧ f_X5_count 57 a1 m1 = some (r, m2) ∧ (57 < m1.1 ∧ m1.1 ≤ 600000 ∧ m1.2.1 ≤ 7302250) ∧ Rel m2)

section
variable {X : z_X} {p : Program} {e : Env} {s : State} {m : MethodId} {below : List Frame} {meth : Method} {c : Code} {b L : Nat} {xs : Nat → Int32} {pc : Nat} {lv lv' : List (Nat × Value)} {st : List Value} {mm : z_M}
def z_LC (X : z_X) (p : Program) (s : State) (m : MethodId) (meth : Method) (c : Code) (b L : Nat) (xs : Nat → Int32) : Prop := lw_At p s m meth c b L xs ∧ va_K (X.2.1, X.2.2.1) vwCl (z_ty X) s ∧ z_S X s s.heap ∧ X.2.2.2.2.1 = s.heap.size ∧ L ≤ 2048
def z_L (X : z_X) (p : Program) (e : Env) (s : State) (m : MethodId) (below : List Frame) (meth : Method) (c : Code) (b : Nat) (pc : Nat) (lv : List (Nat × Value)) (st : List Value) (mm : z_M) : Prop :=
  ∀ (H : Heap) (locs : List Loc) (ls : Array Slot), z_H X mm H → va_S (z_A X) s.heap H locs → lv_has ls 4 lv → W p X.1 e room_1 s m #[Value.ref b] below meth c H locs mm.1 mm.2.1 (lw_Z below #[Value.ref b] s) (F0 m pc ls st)
theorem z_Lw (C : z_LC X p s m meth c b L xs) : ∀ w ∈ z_ws, w.before #[Value.ref b] s = true := fun w h => C.1.2.2.2.2.2.1 w (List.mem_filter.mp h).1
theorem z_Lone (C : z_LC X p s m meth c b L xs) {pc' : Nat} {st' : List Value} (h : ∀ (H : Heap) (locs : List Loc) (cells slots : Nat) (Q : State → Prop) (ls : Array Slot), p.tables.exec = Jvm.exec → c.code = code → va_S (z_A X) s.heap H locs → lv_has ls 4 lv → (∀ ls' : Array Slot, lv_has ls' 4 lv' → W p X.1 e room_1 s m #[Value.ref b] below meth c H locs cells slots Q (F0 m pc' ls' st')) → W p X.1 e room_1 s m #[Value.ref b] below meth c H locs cells slots Q (F0 m pc ls st))
    (K : z_L X p e s m below meth c b pc' lv' st' mm) : z_L X p e s m below meth c b pc lv st mm := fun H locs ls hH hS hl => h H locs _ _ _ ls C.1.1 C.1.2.1 hS hl (fun ls' hl' => K H locs ls' hH hS hl')
theorem z_Liconst (C : z_LC X p s m meth c b L xs) {n : Int} {v : Int32} (hd : decode code pc = .ok (.iconst n, 1)) (hv : Int32.ofInt n = v) (K : z_L X p e s m below meth c b (pc + 1) lv (.int v :: st) mm) : z_L X p e s m below meth c b pc lv st mm := z_Lone C (fun _ _ _ _ _ ls hx hb _ hl k => lv_iconst hx hb hd hv (k ls hl)) K
theorem z_Lbipush (C : z_LC X p s m meth c b L xs) {n : Int} {v : Int32} (hd : decode code pc = .ok (.bipush n, 2)) (hv : (Int8.ofInt n).toInt32 = v) (K : z_L X p e s m below meth c b (pc + 2) lv (.int v :: st) mm) : z_L X p e s m below meth c b pc lv st mm := z_Lone C (fun _ _ _ _ _ ls hx hb _ hl k => lv_bipush hx hb hd hv (k ls hl)) K
theorem z_Liload (C : z_LC X p s m meth c b L xs) {k : Fin 4} {i : Nat} {x : Int32} (hd : decode code pc = .ok (.iload_n k, 1)) (hi : (k : Nat) = i) (j : Nat) (hj : lv[j]? = some (i, .int x)) (K : z_L X p e s m below meth c b (pc + 1) lv (.int x :: st) mm) : z_L X p e s m below meth c b pc lv st mm := z_Lone C (fun _ _ _ _ _ ls hx hb _ hl k => lv_iload_n hx hb hd hi (lv_at hl j hj) (k ls hl)) K
theorem z_Laload (C : z_LC X p s m meth c b L xs) {k : Fin 4} {i x : Nat} (hd : decode code pc = .ok (.aload_n k, 1)) (hi : (k : Nat) = i) (j : Nat) (hj : lv[j]? = some (i, .ref x)) (K : z_L X p e s m below meth c b (pc + 1) lv (.ref x :: st) mm) : z_L X p e s m below meth c b pc lv st mm := z_Lone C (fun _ _ _ _ _ ls hx hb _ hl k => lv_aload_n hx hb hd hi (lv_at hl j hj) (k ls hl)) K
theorem z_Listore (C : z_LC X p s m meth c b L xs) {k : Fin 4} {i : Nat} {x : Int32} (hd : decode code pc = .ok (.istore_n k, 1)) (hi : (k : Nat) = i) (hn : i < 4) (hl : (i, Value.int x) :: lv.filter (fun q => !(q.1 == i) && !(q.1 + 1 == i && q.2.category == 2)) = lv') (K : z_L X p e s m below meth c b (pc + 1) lv' st mm) : z_L X p e s m below meth c b pc lv (.int x :: st) mm := z_Lone C (fun _ _ _ _ _ ls hx hb _ h k => lv_istore_n hx hb hd hi h hn hl k) K
theorem z_Lastore (C : z_LC X p s m meth c b L xs) {k : Fin 4} {i x : Nat} (hd : decode code pc = .ok (.astore_n k, 1)) (hi : (k : Nat) = i) (hn : i < 4) (hl : (i, Value.ref x) :: lv.filter (fun q => !(q.1 == i) && !(q.1 + 1 == i && q.2.category == 2)) = lv') (K : z_L X p e s m below meth c b (pc + 1) lv' st mm) : z_L X p e s m below meth c b pc lv (.ref x :: st) mm := z_Lone C (fun _ _ _ _ _ ls hx hb _ h k => lv_astore_n hx hb hd hi h hn hl k) K
theorem z_Liinc (C : z_LC X p s m meth c b L xs) {i k : Nat} {n : Int} {x v : Int32} (hd : decode code pc = .ok (.iinc i n, 3)) (hk : lv[k]? = some (i, .int x)) (hv : x + Int32.ofInt n = v) (hn : i < 4) (hl : (i, Value.int v) :: lv.filter (fun q => !(q.1 == i) && !(q.1 + 1 == i && q.2.category == 2)) = lv') (K : z_L X p e s m below meth c b (pc + 3) lv' st mm) : z_L X p e s m below meth c b pc lv st mm := z_Lone C (fun _ _ _ _ _ ls hx hb _ h kk => lv_iinc hx hb hd h hk hv hn hl kk) K
theorem z_Liadd (C : z_LC X p s m meth c b L xs) {x y : Int32} (hd : decode code pc = .ok (.iadd, 1)) (K : z_L X p e s m below meth c b (pc + 1) lv (.int (x + y) :: st) mm) : z_L X p e s m below meth c b pc lv (.int y :: .int x :: st) mm := z_Lone C (fun _ _ _ _ _ ls hx hb _ hl k => lv_iadd hx hb hd (k ls hl)) K
theorem z_Lisub (C : z_LC X p s m meth c b L xs) {x y : Int32} (hd : decode code pc = .ok (.isub, 1)) (K : z_L X p e s m below meth c b (pc + 1) lv (.int (x - y) :: st) mm) : z_L X p e s m below meth c b pc lv (.int y :: .int x :: st) mm := z_Lone C (fun _ _ _ _ _ ls hx hb _ hl k => lv_isub hx hb hd (k ls hl)) K
theorem z_Liand (C : z_LC X p s m meth c b L xs) {x y : Int32} (hd : decode code pc = .ok (.iand, 1)) (K : z_L X p e s m below meth c b (pc + 1) lv (.int (x &&& y) :: st) mm) : z_L X p e s m below meth c b pc lv (.int y :: .int x :: st) mm := z_Lone C (fun _ _ _ _ _ ls hx hb _ hl k => lv_iand hx hb hd (k ls hl)) K
theorem z_Ldup (C : z_LC X p s m meth c b L xs) {v : Value} (hd : decode code pc = .ok (.dup, 1)) (hv : v.category = 1) (K : z_L X p e s m below meth c b (pc + 1) lv (v :: v :: st) mm) : z_L X p e s m below meth c b pc lv (v :: st) mm := z_Lone C (fun _ _ _ _ _ ls hx hb _ hl k => lv_dup hx hb hd hv (k ls hl)) K
theorem z_Lgoto (C : z_LC X p s m meth c b L xs) {off : Int} {tg : Nat} (hd : decode code pc = .ok (.goto off, 3)) (ht : (pc : Int) + off = (tg : Int)) (K : z_L X p e s m below meth c b tg lv st mm) : z_L X p e s m below meth c b pc lv st mm := z_Lone C (fun _ _ _ _ _ ls hx hb _ hl k => lv_goto hx hb hd ht (k ls hl)) K
theorem z_Lgt (C : z_LC X p s m meth c b L xs) {x y : Int32} {off : Int} {tg : Nat} (hd : decode code pc = .ok (.if_icmp .gt off, 3)) (ht : (pc : Int) + off = (tg : Int)) (K1 : y < x → z_L X p e s m below meth c b tg lv st mm) (K2 : ¬ y < x → z_L X p e s m below meth c b (pc + 3) lv st mm) : z_L X p e s m below meth c b pc lv (.int y :: .int x :: st) mm := fun H locs ls hH hS hl => lv_icmp_gt C.1.1 C.1.2.1 hd ht (fun q => K1 q H locs ls hH hS hl) (fun q => K2 q H locs ls hH hS hl)
theorem z_Leq (C : z_LC X p s m meth c b L xs) {x : Int32} {off : Int} {tg : Nat} (hd : decode code pc = .ok (.if_icmp .eq off, 3)) (ht : (pc : Int) + off = (tg : Int)) (K1 : z_L X p e s m below meth c b tg lv st mm) : z_L X p e s m below meth c b pc lv (.int x :: .int x :: st) mm := fun H locs ls hH hS hl => lv_icmp_eq C.1.1 C.1.2.1 hd ht (fun _ => K1 H locs ls hH hS hl) (fun q => absurd rfl q)
theorem z_Lout (C : z_LC X p s m meth c b L xs) {df lo hi : Int} {offs : Array Int} {ln : Nat} {x : Int32} {tg : Nat} (hd : decode code pc = .ok (.tableswitch df lo hi offs, ln)) (h : x.toInt < lo ∨ hi < x.toInt) (ht : (pc : Int) + df = (tg : Int)) (K : z_L X p e s m below meth c b tg lv st mm) : z_L X p e s m below meth c b pc lv (.int x :: st) mm := z_Lone C (fun _ _ _ _ _ ls hx hb _ hl k => lv_tableOut hx hb hd h ht (k ls hl)) K
theorem z_Lin (C : z_LC X p s m meth c b L xs) {df lo hi : Int} {offs : Array Int} {ln : Nat} {x : Int32} {off : Int} {tg : Nat} (hd : decode code pc = .ok (.tableswitch df lo hi offs, ln)) (h1 : ¬ x.toInt < lo) (h2 : ¬ hi < x.toInt) (ho : offs[(x.toInt - lo).toNat]? = some off) (ht : (pc : Int) + off = (tg : Int)) (K : z_L X p e s m below meth c b tg lv st mm) : z_L X p e s m below meth c b pc lv (.int x :: st) mm := z_Lone C (fun _ _ _ _ _ ls hx hb _ hl k => lv_tableIn hx hb hd h1 h2 ho ht (k ls hl)) K
theorem z_LbA (C : z_LC X p s m meth c b L xs) : ¬ z_A X b := by
  have h1 := C.1.2.2.2.2.2.2.2.1
  have h2 := C.2.2.2.1
  show ¬ X.2.2.2.2.1 ≤ b
  omega
theorem z_Llen (C : z_LC X p s m meth c b L xs) (hd : decode code pc = .ok (.arraylength, 1)) (K : z_L X p e s m below meth c b (pc + 1) lv (.int (Int32.ofNat L) :: st) mm) : z_L X p e s m below meth c b pc lv (.ref b :: st) mm := z_Lone C (fun _ _ _ _ _ ls hx hb hS hl k => va_slen hx hb C.1.2.2.2.2.2.2.1 C.1.2.2.2.2.2.2.2.1 (z_LbA C) hS hd (k ls hl)) K
theorem z_Lld (C : z_LC X p s m meth c b L xs) {i : Int32} (hin : vp_in i L) (hd : decode code pc = .ok (.iaload, 1)) (K : z_L X p e s m below meth c b (pc + 1) lv (.int (xs i.toNatClampNeg) :: st) mm) : z_L X p e s m below meth c b pc lv (.int i :: .ref b :: st) mm := z_Lone C (fun _ _ _ _ _ ls hx hb hS hl k => va_sld hx hb C.1.2.2.2.2.2.2.1 C.1.2.2.2.2.2.2.2.1 (z_LbA C) hS hin hd (k ls hl)) K
theorem z_Lrun {y2 : MethodName} {c2 : ByteArray} {n2 : Nat} {rt2 : Option FieldType} {d2 : Nat} {av : List Value} {oc : z_R} {r : Int32} {m1 : z_M} {st0 rest : List Value} (hC : z_Ct X y2 c2 n2 rt2 d2 av mm oc) (ho : oc = some (r, m1)) (hb : m1.1 ≤ 600000 ∧ m1.2.1 ≤ 7302250)
    (run : ∀ (H : Heap) (locs : List Loc) (ls : Array Slot), z_H X mm H → va_S (z_A X) s.heap H locs → ls.size = 4 → mm.1 + (m1.1 - mm.1) ≤ 600000 ∧ mm.2.1 + (m1.2.1 - mm.2.1) ≤ 7302250 →
      Met X.1 y2 (Cond.code y2 c2 n2 rt2 :: z_ws) (z_rm d2 (m1.1 - mm.1) (m1.2.1 - mm.2.1)) (va_Pc av (z_Pre X mm)) (z_Q X rt2 r m1) (m1.1 - mm.1) (m1.2.1 - mm.2.1) (z_A X) →
      va_Run p X.1 e room_1 s m #[Value.ref b] below meth c H locs mm.1 mm.2.1 (m1.1 - mm.1) (m1.2.1 - mm.2.1) (F0 m pc ls st0) rest (z_Q X rt2 r m1 av.toArray) (z_A X))
    (K : z_L X p e s m below meth c b (pc + 3) lv ((if rt2 = none then none else some (Value.int r)).toList ++ rest) m1) : z_L X p e s m below meth c b pc lv st0 mm := by
  intro H locs ls hH hS hl
  obtain ⟨⟨q1, q2⟩, hM⟩ := hC r m1 ho
  have e1 : mm.1 + (m1.1 - mm.1) = m1.1 := by omega
  have e2 : mm.2.1 + (m1.2.1 - mm.2.1) = m1.2.1 := by omega
  refine z_behind (run H locs ls hH hS hl.1 ⟨by omega, by omega⟩ hM) hS (fun H1 locs1 hH1 hS1 => ?_)
  rw [e1, e2]
  exact K H1 locs1 ls hH1 hS1 hl
theorem z_LcV (C : z_LC X p s m meth c b L xs) {y2 : MethodName} {c2 : ByteArray} {n2 np N : Nat} {t2 : FieldType} {d2 a ci ix : Nat} {C2 : String} {T : u_T} {ty : Nat → FieldType} {As rest st0 : List Value} {oc : z_R} {r : Int32} {m1 : z_M} (hC : z_Ct X y2 c2 n2 (some t2) d2 (.ref (z_ad X a) :: As) mm oc) (ho : oc = some (r, m1)) (hb : m1.1 ≤ 600000 ∧ m1.2.1 ≤ 7302250) (g1 : a < mm.1) (g2 : z_k a = ci) (hM : z_Mw y2 c2 n2 (some t2) np) (hI : Cond.instanceMethod y2 ∈ z_ws ∧ Cond.selects C2 y2 y2 ∈ z_ws) (hc : z_Cl ci C2 T N ty) (hl : Cond.methodLink RL ix y2 ∈ z_ws) (hnp : As.length = np) (hst : st0 = As.reverse ++ .ref (z_ad X a) :: rest) (hR : d2 + 1 ≤ 9 ∧ 8 + (n2 + 11) + 36 * d2 ≤ 330) (h8 : (rest.map fun v => v.category).sum ≤ 8) (hd : decode code pc = .ok (.invokevirtual ix, 3))
    (K : z_L X p e s m below meth c b (pc + 3) lv (.int r :: rest) m1) : z_L X p e s m below meth c b pc lv st0 mm := by
  refine z_Lrun hC ho hb (fun H locs ls hH hS hls hfit hMet => ?_) K
  have hts := z_Lw C
  have hat := z_one_P hH g1 (z_E_obj g2 hc.2.2.2.2.2.2)
  exact va_runV (C := C2) (b := z_ad X a) (As := As) (rest := rest) (n := np) (own := RL) (nL := 4) ⟨C.1.1, C.1.2.1, C.1.2.2.2.1, C.1.2.2.2.2.1, hts⟩ hMet ⟨callB_of np hts (z_goodIn hM.1 (fun _ h => h)) rfl rfl rfl (hts _ hM.2.1) (hts _ hl) hM.2.2 hR, hts _ hI.1, hts _ hI.2⟩ ⟨z_blind X _ mm, va_recv C.2.1 hat hc.1 (q0 := 0) rfl, fun U hU hW => z_pre C.2.1 C.2.2.1 hH hS hU hW⟩ rfl hnp hls hst (lv_room h8) hd hfit
theorem z_LcI (C : z_LC X p s m meth c b L xs) {y2 : MethodName} {c2 : ByteArray} {n2 np : Nat} {d2 a ix : Nat} {As rest st0 : List Value} {oc : z_R} {r : Int32} {m1 : z_M} (hC : z_Ct X y2 c2 n2 none d2 (.ref a :: As) mm oc) (ho : oc = some (r, m1)) (hb : m1.1 ≤ 600000 ∧ m1.2.1 ≤ 7302250) (hM : z_Mw y2 c2 n2 none np) (hI : Cond.instanceMethod y2 ∈ z_ws) (hn2 : y2.name = "<init>") (hl : Cond.methodLink RL ix y2 ∈ z_ws) (hnp : As.length = np) (hst : st0 = As.reverse ++ .ref a :: rest) (hR : d2 + 1 ≤ 9 ∧ 8 + (n2 + 11) + 36 * d2 ≤ 330) (h8 : (rest.map fun v => v.category).sum ≤ 8) (hd : decode code pc = .ok (.invokespecial ix, 3))
    (K : z_L X p e s m below meth c b (pc + 3) lv rest m1) : z_L X p e s m below meth c b pc lv st0 mm := by
  refine z_Lrun hC ho hb (fun H locs ls hH hS hls hfit hMet => ?_) K
  have hts := z_Lw C
  exact va_runI (b := a) (As := As) (rest := rest) (n := np) (own := RL) (nL := 4) ⟨C.1.1, C.1.2.1, C.1.2.2.2.1, C.1.2.2.2.2.1, hts⟩ hMet ⟨callB_of np hts (z_goodIn hM.1 (fun _ h => h)) rfl rfl rfl (hts _ hM.2.1) (hts _ hl) hM.2.2 hR, hn2, hts _ hI⟩ ⟨z_blind X _ mm, fun U hU hW => z_pre C.2.1 C.2.2.1 hH hS hU hW⟩ rfl hnp hls hst (lv_room h8) hd hfit
theorem z_Lnew (C : z_LC X p s m meth c b L xs) {ci ix N : Nat} {C2 : String} {T : u_T} {ty : Nat → FieldType} (hc : z_Cl ci C2 T N ty) (g2 : z_k mm.1 = ci) (hn : mm.1 + 1 ≤ 600000 ∧ mm.2.1 + z_n mm.1 ≤ 7302250) (hw : Cond.classLink RL ix C2 ∈ z_ws) (hw2 : Cond.instantiable C2 N ∈ z_ws) (hw3 : Cond.initialized C2 ∈ z_ws) (hd : decode code pc = .ok (.new ix, 3))
    (K : z_L X p e s m below meth c b (pc + 3) lv (.ref (z_ad X mm.1) :: st) (z_nw mm)) : z_L X p e s m below meth c b pc lv st mm := by
  intro H locs ls hH hS hl
  have hts := z_Lw C
  have hKn := C.2.1.1 ci _ hc.1
  have hlen : z_n mm.1 = N := hc.2.2.2.2.1 _ g2
  refine W.newcK (h := z_ad X mm.1) C.1.1 C.1.2.1 C.1.2.2.2.2.1 (hts _ hw) (hts _ hw2) (hts _ hw3) rfl hd hn.1 (by rw [← hlen]; exact hn.2) hKn.2.1 hH.1 fun H1 kC hkC e1 z1 o1 => ?_
  have z1 : H1.size = H.size + 1 := by rw [hH.1]; exact z1
  have o1 : ∀ q : Nat, q < H.size → H1[q]? = H[q]? := fun q hq => o1 q (by rw [hH.1] at hq; exact hq)
  rw [← hlen]
  refine K H1 locs ls (hH.new z1 o1 ?_) (z_S.push hS z1 o1) hl
  rw [z_E_obj g2 hc.2.2.2.2.2.2]
  refine ⟨_, hc.1, (u_born ty hts hc.2.1 hKn hkC e1 hc.2.2.1).to (fun j hj => ?_)⟩
  have hj2 : j < z_n mm.1 := by rw [hlen]; exact hj
  rw [hc.2.2.2.2.2.1 j hj]
  by_cases hi : z_i ci j = true
  · simp [vp_V, hj2, z_v, g2, hi, z_nw]
  · simp [vp_V, hj2, z_v, g2, hi, z_nw, va_rf]
end
theorem z_andb (x : Int32) : ¬ (x &&& 31).toInt < 0 := by
  obtain ⟨j, hj, e⟩ := pk_andE x (m := 31) 5 (by decide)
  rw [e, nI_toInt (by omega)]
  omega
set_option maxRecDepth 100000 in
set_option maxHeartbeats 4000000 in
theorem lw_c0 {X : z_X} {p : Program} {e : Env} {s : State} {m : MethodId} {below : List Frame} {meth : Method} {c : Code} {b L : Nat} {xs : Nat → Int32} (C : z_LC X p s m meth c b L xs) {Rel : z_M → Prop} (hops : z_Ops Rel) {i : Nat} {x3 : Int32} (hx : x3 = nI i) (hi : i + 4 ≤ L) {mm : z_M} (hR : Rel mm) (K : ∀ m2 : z_M, Rel m2 → z_L X p e s m below meth c b 780 [(3, .int x3), (2, .ref (z_ad X 57)), (1, .ref (z_ad X 0)), (0, .ref b)] [] m2) : z_L X p e s m below meth c b 152 [(3, .int x3), (2, .ref (z_ad X 57)), (1, .ref (z_ad X 0)), (0, .ref b)] [] mm := by
  have hL : L ≤ 2048 := C.2.2.2.2
  obtain ⟨r, m1, m2, h1, h2, hb1, hR2⟩ := hops.2.1 (xs (i + 1)) mm hR
  have hb0 := hops.1 mm hR
  have hb2 := hops.1 m2 hR2
  have e1 : x3 + 1 = nI (i + 1) := by rw [hx]; exact nI_add i 1
  have i1 : vp_in (x3 + 1) L := by rw [e1]; exact vp_in_nI (by omega) (by omega)
  have c1 : xs (x3 + 1).toNatClampNeg = xs (i + 1) := by rw [e1, nI_clamp (by omega)]
  refine z_Laload C dL_law_152 rfl 2 rfl ?_
  refine z_Laload C dL_law_153 rfl 3 rfl ?_
  refine z_Liload C dL_law_154 rfl 0 rfl ?_
  refine z_Liconst C (v := 1) dL_law_155 (by decide) ?_
  refine z_Liadd C dL_law_156 ?_
  refine z_Lld C i1 dL_law_157 ?_
  rw [c1]
  refine z_LcV C (As := [.int (xs (i + 1))]) (rest := []) (a := 0) (c_X4_write X 0 (xs (i + 1)) mm) h1 ⟨hb1.2.1, hb1.2.2⟩ (by omega) rfl mw_X4_write iw_X4_write z_X4 wm_L_13 rfl rfl (by decide) (Nat.le_of_ble_eq_true rfl) dL_law_158 ?_
  refine z_Laload C dL_law_161 rfl 1 rfl ?_
  refine z_Laload C dL_law_162 rfl 3 rfl ?_
  refine z_Liload C dL_law_163 rfl 0 rfl ?_
  refine z_Liconst C (v := 1) dL_law_164 (by decide) ?_
  refine z_Liadd C dL_law_165 ?_
  refine z_Lld C i1 dL_law_166 ?_
  rw [c1]
  refine z_LcV C (As := [.int (xs (i + 1))]) (rest := [.int r]) (a := 57) (c_X5_write X 57 (xs (i + 1)) m1) h2 ⟨hb2.2.1, hb2.2.2⟩ (by omega) rfl mw_X5_write iw_X5_write z_X5 wm_L_17 rfl rfl (by decide) (Nat.le_of_ble_eq_true rfl) dL_law_167 ?_
  refine z_Leq C (tg := 780) dL_law_170 (by decide) ?_
  exact K m2 hR2
set_option maxRecDepth 100000 in
set_option maxHeartbeats 4000000 in
theorem lw_c1 {X : z_X} {p : Program} {e : Env} {s : State} {m : MethodId} {below : List Frame} {meth : Method} {c : Code} {b L : Nat} {xs : Nat → Int32} (C : z_LC X p s m meth c b L xs) {Rel : z_M → Prop} (hops : z_Ops Rel) {i : Nat} {x3 : Int32} (hx : x3 = nI i) (hi : i + 4 ≤ L) {mm : z_M} (hR : Rel mm) (K : ∀ m2 : z_M, Rel m2 → z_L X p e s m below meth c b 780 [(3, .int x3), (2, .ref (z_ad X 57)), (1, .ref (z_ad X 0)), (0, .ref b)] [] m2) : z_L X p e s m below meth c b 175 [(3, .int x3), (2, .ref (z_ad X 57)), (1, .ref (z_ad X 0)), (0, .ref b)] [] mm := by
  have hL : L ≤ 2048 := C.2.2.2.2
  obtain ⟨r, m1, m2, h1, h2, hb1, hR2⟩ := hops.2.2.1  mm hR
  have hb0 := hops.1 mm hR
  have hb2 := hops.1 m2 hR2
  refine z_Laload C dL_law_175 rfl 2 rfl ?_
  refine z_LcV C (As := []) (rest := []) (a := 0) (c_X4_wipe X 0 mm) h1 ⟨hb1.2.1, hb1.2.2⟩ (by omega) rfl mw_X4_wipe iw_X4_wipe z_X4 wm_L_18 rfl rfl (by decide) (Nat.le_of_ble_eq_true rfl) dL_law_176 ?_
  refine z_Laload C dL_law_179 rfl 1 rfl ?_
  refine z_LcV C (As := []) (rest := [.int r]) (a := 57) (c_X5_wipe X 57 m1) h2 ⟨hb2.2.1, hb2.2.2⟩ (by omega) rfl mw_X5_wipe iw_X5_wipe z_X5 wm_L_22 rfl rfl (by decide) (Nat.le_of_ble_eq_true rfl) dL_law_180 ?_
  refine z_Leq C (tg := 780) dL_law_183 (by decide) ?_
  exact K m2 hR2
set_option maxRecDepth 100000 in
set_option maxHeartbeats 4000000 in
theorem lw_c2 {X : z_X} {p : Program} {e : Env} {s : State} {m : MethodId} {below : List Frame} {meth : Method} {c : Code} {b L : Nat} {xs : Nat → Int32} (C : z_LC X p s m meth c b L xs) {Rel : z_M → Prop} (hops : z_Ops Rel) {i : Nat} {x3 : Int32} (hx : x3 = nI i) (hi : i + 4 ≤ L) {mm : z_M} (hR : Rel mm) (K : ∀ m2 : z_M, Rel m2 → z_L X p e s m below meth c b 780 [(3, .int x3), (2, .ref (z_ad X 57)), (1, .ref (z_ad X 0)), (0, .ref b)] [] m2) : z_L X p e s m below meth c b 188 [(3, .int x3), (2, .ref (z_ad X 57)), (1, .ref (z_ad X 0)), (0, .ref b)] [] mm := by
  have hL : L ≤ 2048 := C.2.2.2.2
  obtain ⟨r, m1, m2, h1, h2, hb1, hR2⟩ := hops.2.2.2.1  mm hR
  have hb0 := hops.1 mm hR
  have hb2 := hops.1 m2 hR2
  refine z_Laload C dL_law_188 rfl 2 rfl ?_
  refine z_LcV C (As := []) (rest := []) (a := 0) (c_X4_fault X 0 mm) h1 ⟨hb1.2.1, hb1.2.2⟩ (by omega) rfl mw_X4_fault iw_X4_fault z_X4 wm_L_23 rfl rfl (by decide) (Nat.le_of_ble_eq_true rfl) dL_law_189 ?_
  refine z_Laload C dL_law_192 rfl 1 rfl ?_
  refine z_LcV C (As := []) (rest := [.int r]) (a := 57) (c_X5_fault X 57 m1) h2 ⟨hb2.2.1, hb2.2.2⟩ (by omega) rfl mw_X5_fault iw_X5_fault z_X5 wm_L_26 rfl rfl (by decide) (Nat.le_of_ble_eq_true rfl) dL_law_193 ?_
  refine z_Leq C (tg := 780) dL_law_196 (by decide) ?_
  exact K m2 hR2
set_option maxRecDepth 100000 in
set_option maxHeartbeats 4000000 in
theorem lw_c3 {X : z_X} {p : Program} {e : Env} {s : State} {m : MethodId} {below : List Frame} {meth : Method} {c : Code} {b L : Nat} {xs : Nat → Int32} (C : z_LC X p s m meth c b L xs) {Rel : z_M → Prop} (hops : z_Ops Rel) {i : Nat} {x3 : Int32} (hx : x3 = nI i) (hi : i + 4 ≤ L) {mm : z_M} (hR : Rel mm) (K : ∀ m2 : z_M, Rel m2 → z_L X p e s m below meth c b 780 [(3, .int x3), (2, .ref (z_ad X 57)), (1, .ref (z_ad X 0)), (0, .ref b)] [] m2) : z_L X p e s m below meth c b 201 [(3, .int x3), (2, .ref (z_ad X 57)), (1, .ref (z_ad X 0)), (0, .ref b)] [] mm := by
  have hL : L ≤ 2048 := C.2.2.2.2
  obtain ⟨r, m1, m2, h1, h2, hb1, hR2⟩ := hops.2.2.2.2.1  mm hR
  have hb0 := hops.1 mm hR
  have hb2 := hops.1 m2 hR2
  refine z_Laload C dL_law_201 rfl 2 rfl ?_
  refine z_LcV C (As := []) (rest := []) (a := 0) (c_X4_lay X 0 mm) h1 ⟨hb1.2.1, hb1.2.2⟩ (by omega) rfl mw_X4_lay iw_X4_lay z_X4 wm_L_27 rfl rfl (by decide) (Nat.le_of_ble_eq_true rfl) dL_law_202 ?_
  refine z_Laload C dL_law_205 rfl 1 rfl ?_
  refine z_LcV C (As := []) (rest := [.int r]) (a := 57) (c_X5_lay X 57 m1) h2 ⟨hb2.2.1, hb2.2.2⟩ (by omega) rfl mw_X5_lay iw_X5_lay z_X5 wm_L_30 rfl rfl (by decide) (Nat.le_of_ble_eq_true rfl) dL_law_206 ?_
  refine z_Leq C (tg := 780) dL_law_209 (by decide) ?_
  exact K m2 hR2
set_option maxRecDepth 100000 in
set_option maxHeartbeats 4000000 in
theorem lw_c4 {X : z_X} {p : Program} {e : Env} {s : State} {m : MethodId} {below : List Frame} {meth : Method} {c : Code} {b L : Nat} {xs : Nat → Int32} (C : z_LC X p s m meth c b L xs) {Rel : z_M → Prop} (hops : z_Ops Rel) {i : Nat} {x3 : Int32} (hx : x3 = nI i) (hi : i + 4 ≤ L) {mm : z_M} (hR : Rel mm) (K : ∀ m2 : z_M, Rel m2 → z_L X p e s m below meth c b 780 [(3, .int x3), (2, .ref (z_ad X 57)), (1, .ref (z_ad X 0)), (0, .ref b)] [] m2) : z_L X p e s m below meth c b 214 [(3, .int x3), (2, .ref (z_ad X 57)), (1, .ref (z_ad X 0)), (0, .ref b)] [] mm := by
  have hL : L ≤ 2048 := C.2.2.2.2
  obtain ⟨r, m1, m2, h1, h2, hb1, hR2⟩ := hops.2.2.2.2.2.1 (xs (i + 1)) (xs (i + 2)) mm hR
  have hb0 := hops.1 mm hR
  have hb2 := hops.1 m2 hR2
  have e1 : x3 + 1 = nI (i + 1) := by rw [hx]; exact nI_add i 1
  have i1 : vp_in (x3 + 1) L := by rw [e1]; exact vp_in_nI (by omega) (by omega)
  have c1 : xs (x3 + 1).toNatClampNeg = xs (i + 1) := by rw [e1, nI_clamp (by omega)]
  have e2 : x3 + 2 = nI (i + 2) := by rw [hx]; exact nI_add i 2
  have i2 : vp_in (x3 + 2) L := by rw [e2]; exact vp_in_nI (by omega) (by omega)
  have c2 : xs (x3 + 2).toNatClampNeg = xs (i + 2) := by rw [e2, nI_clamp (by omega)]
  refine z_Laload C dL_law_214 rfl 2 rfl ?_
  refine z_Laload C dL_law_215 rfl 3 rfl ?_
  refine z_Liload C dL_law_216 rfl 0 rfl ?_
  refine z_Liconst C (v := 1) dL_law_217 (by decide) ?_
  refine z_Liadd C dL_law_218 ?_
  refine z_Lld C i1 dL_law_219 ?_
  rw [c1]
  refine z_Laload C dL_law_220 rfl 3 rfl ?_
  refine z_Liload C dL_law_221 rfl 0 rfl ?_
  refine z_Liconst C (v := 2) dL_law_222 (by decide) ?_
  refine z_Liadd C dL_law_223 ?_
  refine z_Lld C i2 dL_law_224 ?_
  rw [c2]
  refine z_LcV C (As := [.int (xs (i + 1)), .int (xs (i + 2))]) (rest := []) (a := 0) (c_X4_man X 0 (xs (i + 1)) (xs (i + 2)) mm) h1 ⟨hb1.2.1, hb1.2.2⟩ (by omega) rfl mw_X4_man iw_X4_man z_X4 wm_L_31 rfl rfl (by decide) (Nat.le_of_ble_eq_true rfl) dL_law_225 ?_
  refine z_Laload C dL_law_228 rfl 1 rfl ?_
  refine z_Laload C dL_law_229 rfl 3 rfl ?_
  refine z_Liload C dL_law_230 rfl 0 rfl ?_
  refine z_Liconst C (v := 1) dL_law_231 (by decide) ?_
  refine z_Liadd C dL_law_232 ?_
  refine z_Lld C i1 dL_law_233 ?_
  rw [c1]
  refine z_Laload C dL_law_234 rfl 3 rfl ?_
  refine z_Liload C dL_law_235 rfl 0 rfl ?_
  refine z_Liconst C (v := 2) dL_law_236 (by decide) ?_
  refine z_Liadd C dL_law_237 ?_
  refine z_Lld C i2 dL_law_238 ?_
  rw [c2]
  refine z_LcV C (As := [.int (xs (i + 1)), .int (xs (i + 2))]) (rest := [.int r]) (a := 57) (c_X5_man X 57 (xs (i + 1)) (xs (i + 2)) m1) h2 ⟨hb2.2.1, hb2.2.2⟩ (by omega) rfl mw_X5_man iw_X5_man z_X5 wm_L_35 rfl rfl (by decide) (Nat.le_of_ble_eq_true rfl) dL_law_239 ?_
  refine z_Leq C (tg := 780) dL_law_242 (by decide) ?_
  exact K m2 hR2
set_option maxRecDepth 100000 in
set_option maxHeartbeats 4000000 in
theorem lw_c5 {X : z_X} {p : Program} {e : Env} {s : State} {m : MethodId} {below : List Frame} {meth : Method} {c : Code} {b L : Nat} {xs : Nat → Int32} (C : z_LC X p s m meth c b L xs) {Rel : z_M → Prop} (hops : z_Ops Rel) {i : Nat} {x3 : Int32} (hx : x3 = nI i) (hi : i + 4 ≤ L) {mm : z_M} (hR : Rel mm) (K : ∀ m2 : z_M, Rel m2 → z_L X p e s m below meth c b 780 [(3, .int x3), (2, .ref (z_ad X 57)), (1, .ref (z_ad X 0)), (0, .ref b)] [] m2) : z_L X p e s m below meth c b 247 [(3, .int x3), (2, .ref (z_ad X 57)), (1, .ref (z_ad X 0)), (0, .ref b)] [] mm := by
  have hL : L ≤ 2048 := C.2.2.2.2
  obtain ⟨r, m1, m2, h1, h2, hb1, hR2⟩ := hops.2.2.2.2.2.2.1 (xs (i + 1)) mm hR
  have hb0 := hops.1 mm hR
  have hb2 := hops.1 m2 hR2
  have e1 : x3 + 1 = nI (i + 1) := by rw [hx]; exact nI_add i 1
  have i1 : vp_in (x3 + 1) L := by rw [e1]; exact vp_in_nI (by omega) (by omega)
  have c1 : xs (x3 + 1).toNatClampNeg = xs (i + 1) := by rw [e1, nI_clamp (by omega)]
  refine z_Laload C dL_law_247 rfl 2 rfl ?_
  refine z_Laload C dL_law_248 rfl 3 rfl ?_
  refine z_Liload C dL_law_249 rfl 0 rfl ?_
  refine z_Liconst C (v := 1) dL_law_250 (by decide) ?_
  refine z_Liadd C dL_law_251 ?_
  refine z_Lld C i1 dL_law_252 ?_
  rw [c1]
  refine z_LcV C (As := [.int (xs (i + 1))]) (rest := []) (a := 0) (c_X4_word X 0 (xs (i + 1)) mm) h1 ⟨hb1.2.1, hb1.2.2⟩ (by omega) rfl mw_X4_word iw_X4_word z_X4 wm_L_36 rfl rfl (by decide) (Nat.le_of_ble_eq_true rfl) dL_law_253 ?_
  refine z_Laload C dL_law_256 rfl 1 rfl ?_
  refine z_Laload C dL_law_257 rfl 3 rfl ?_
  refine z_Liload C dL_law_258 rfl 0 rfl ?_
  refine z_Liconst C (v := 1) dL_law_259 (by decide) ?_
  refine z_Liadd C dL_law_260 ?_
  refine z_Lld C i1 dL_law_261 ?_
  rw [c1]
  refine z_LcV C (As := [.int (xs (i + 1))]) (rest := [.int r]) (a := 57) (c_X5_word X 57 (xs (i + 1)) m1) h2 ⟨hb2.2.1, hb2.2.2⟩ (by omega) rfl mw_X5_word iw_X5_word z_X5 wm_L_39 rfl rfl (by decide) (Nat.le_of_ble_eq_true rfl) dL_law_262 ?_
  refine z_Leq C (tg := 780) dL_law_265 (by decide) ?_
  exact K m2 hR2
set_option maxRecDepth 100000 in
set_option maxHeartbeats 4000000 in
theorem lw_c6 {X : z_X} {p : Program} {e : Env} {s : State} {m : MethodId} {below : List Frame} {meth : Method} {c : Code} {b L : Nat} {xs : Nat → Int32} (C : z_LC X p s m meth c b L xs) {Rel : z_M → Prop} (hops : z_Ops Rel) {i : Nat} {x3 : Int32} (hx : x3 = nI i) (hi : i + 4 ≤ L) {mm : z_M} (hR : Rel mm) (K : ∀ m2 : z_M, Rel m2 → z_L X p e s m below meth c b 780 [(3, .int x3), (2, .ref (z_ad X 57)), (1, .ref (z_ad X 0)), (0, .ref b)] [] m2) : z_L X p e s m below meth c b 270 [(3, .int x3), (2, .ref (z_ad X 57)), (1, .ref (z_ad X 0)), (0, .ref b)] [] mm := by
  have hL : L ≤ 2048 := C.2.2.2.2
  obtain ⟨r, m1, m2, h1, h2, hb1, hR2⟩ := hops.2.2.2.2.2.2.2.1 (xs (i + 1)) mm hR
  have hb0 := hops.1 mm hR
  have hb2 := hops.1 m2 hR2
  have e1 : x3 + 1 = nI (i + 1) := by rw [hx]; exact nI_add i 1
  have i1 : vp_in (x3 + 1) L := by rw [e1]; exact vp_in_nI (by omega) (by omega)
  have c1 : xs (x3 + 1).toNatClampNeg = xs (i + 1) := by rw [e1, nI_clamp (by omega)]
  refine z_Laload C dL_law_270 rfl 2 rfl ?_
  refine z_Laload C dL_law_271 rfl 3 rfl ?_
  refine z_Liload C dL_law_272 rfl 0 rfl ?_
  refine z_Liconst C (v := 1) dL_law_273 (by decide) ?_
  refine z_Liadd C dL_law_274 ?_
  refine z_Lld C i1 dL_law_275 ?_
  rw [c1]
  refine z_LcV C (As := [.int (xs (i + 1))]) (rest := []) (a := 0) (c_X4_shout X 0 (xs (i + 1)) mm) h1 ⟨hb1.2.1, hb1.2.2⟩ (by omega) rfl mw_X4_shout iw_X4_shout z_X4 wm_L_40 rfl rfl (by decide) (Nat.le_of_ble_eq_true rfl) dL_law_276 ?_
  refine z_Laload C dL_law_279 rfl 1 rfl ?_
  refine z_Laload C dL_law_280 rfl 3 rfl ?_
  refine z_Liload C dL_law_281 rfl 0 rfl ?_
  refine z_Liconst C (v := 1) dL_law_282 (by decide) ?_
  refine z_Liadd C dL_law_283 ?_
  refine z_Lld C i1 dL_law_284 ?_
  rw [c1]
  refine z_LcV C (As := [.int (xs (i + 1))]) (rest := [.int r]) (a := 57) (c_X5_shout X 57 (xs (i + 1)) m1) h2 ⟨hb2.2.1, hb2.2.2⟩ (by omega) rfl mw_X5_shout iw_X5_shout z_X5 wm_L_43 rfl rfl (by decide) (Nat.le_of_ble_eq_true rfl) dL_law_285 ?_
  refine z_Leq C (tg := 780) dL_law_288 (by decide) ?_
  exact K m2 hR2
set_option maxRecDepth 100000 in
set_option maxHeartbeats 4000000 in
theorem lw_c7 {X : z_X} {p : Program} {e : Env} {s : State} {m : MethodId} {below : List Frame} {meth : Method} {c : Code} {b L : Nat} {xs : Nat → Int32} (C : z_LC X p s m meth c b L xs) {Rel : z_M → Prop} (hops : z_Ops Rel) {i : Nat} {x3 : Int32} (hx : x3 = nI i) (hi : i + 4 ≤ L) {mm : z_M} (hR : Rel mm) (K : ∀ m2 : z_M, Rel m2 → z_L X p e s m below meth c b 780 [(3, .int x3), (2, .ref (z_ad X 57)), (1, .ref (z_ad X 0)), (0, .ref b)] [] m2) : z_L X p e s m below meth c b 293 [(3, .int x3), (2, .ref (z_ad X 57)), (1, .ref (z_ad X 0)), (0, .ref b)] [] mm := by
  have hL : L ≤ 2048 := C.2.2.2.2
  obtain ⟨r, m1, m2, h1, h2, hb1, hR2⟩ := hops.2.2.2.2.2.2.2.2.1 (xs (i + 1)) mm hR
  have hb0 := hops.1 mm hR
  have hb2 := hops.1 m2 hR2
  have e1 : x3 + 1 = nI (i + 1) := by rw [hx]; exact nI_add i 1
  have i1 : vp_in (x3 + 1) L := by rw [e1]; exact vp_in_nI (by omega) (by omega)
  have c1 : xs (x3 + 1).toNatClampNeg = xs (i + 1) := by rw [e1, nI_clamp (by omega)]
  refine z_Laload C dL_law_293 rfl 2 rfl ?_
  refine z_Laload C dL_law_294 rfl 3 rfl ?_
  refine z_Liload C dL_law_295 rfl 0 rfl ?_
  refine z_Liconst C (v := 1) dL_law_296 (by decide) ?_
  refine z_Liadd C dL_law_297 ?_
  refine z_Lld C i1 dL_law_298 ?_
  rw [c1]
  refine z_LcV C (As := [.int (xs (i + 1))]) (rest := []) (a := 0) (c_X4_eyes X 0 (xs (i + 1)) mm) h1 ⟨hb1.2.1, hb1.2.2⟩ (by omega) rfl mw_X4_eyes iw_X4_eyes z_X4 wm_L_44 rfl rfl (by decide) (Nat.le_of_ble_eq_true rfl) dL_law_299 ?_
  refine z_Laload C dL_law_302 rfl 1 rfl ?_
  refine z_Laload C dL_law_303 rfl 3 rfl ?_
  refine z_Liload C dL_law_304 rfl 0 rfl ?_
  refine z_Liconst C (v := 1) dL_law_305 (by decide) ?_
  refine z_Liadd C dL_law_306 ?_
  refine z_Lld C i1 dL_law_307 ?_
  rw [c1]
  refine z_LcV C (As := [.int (xs (i + 1))]) (rest := [.int r]) (a := 57) (c_X5_eyes X 57 (xs (i + 1)) m1) h2 ⟨hb2.2.1, hb2.2.2⟩ (by omega) rfl mw_X5_eyes iw_X5_eyes z_X5 wm_L_47 rfl rfl (by decide) (Nat.le_of_ble_eq_true rfl) dL_law_308 ?_
  refine z_Leq C (tg := 780) dL_law_311 (by decide) ?_
  exact K m2 hR2
set_option maxRecDepth 100000 in
set_option maxHeartbeats 4000000 in
theorem lw_c8 {X : z_X} {p : Program} {e : Env} {s : State} {m : MethodId} {below : List Frame} {meth : Method} {c : Code} {b L : Nat} {xs : Nat → Int32} (C : z_LC X p s m meth c b L xs) {Rel : z_M → Prop} (hops : z_Ops Rel) {i : Nat} {x3 : Int32} (hx : x3 = nI i) (hi : i + 4 ≤ L) {mm : z_M} (hR : Rel mm) (K : ∀ m2 : z_M, Rel m2 → z_L X p e s m below meth c b 780 [(3, .int x3), (2, .ref (z_ad X 57)), (1, .ref (z_ad X 0)), (0, .ref b)] [] m2) : z_L X p e s m below meth c b 316 [(3, .int x3), (2, .ref (z_ad X 57)), (1, .ref (z_ad X 0)), (0, .ref b)] [] mm := by
  have hL : L ≤ 2048 := C.2.2.2.2
  obtain ⟨r, m1, m2, h1, h2, hb1, hR2⟩ := hops.2.2.2.2.2.2.2.2.2.1 (xs (i + 1)) (xs (i + 2)) mm hR
  have hb0 := hops.1 mm hR
  have hb2 := hops.1 m2 hR2
  have e1 : x3 + 1 = nI (i + 1) := by rw [hx]; exact nI_add i 1
  have i1 : vp_in (x3 + 1) L := by rw [e1]; exact vp_in_nI (by omega) (by omega)
  have c1 : xs (x3 + 1).toNatClampNeg = xs (i + 1) := by rw [e1, nI_clamp (by omega)]
  have e2 : x3 + 2 = nI (i + 2) := by rw [hx]; exact nI_add i 2
  have i2 : vp_in (x3 + 2) L := by rw [e2]; exact vp_in_nI (by omega) (by omega)
  have c2 : xs (x3 + 2).toNatClampNeg = xs (i + 2) := by rw [e2, nI_clamp (by omega)]
  refine z_Laload C dL_law_316 rfl 2 rfl ?_
  refine z_Laload C dL_law_317 rfl 3 rfl ?_
  refine z_Liload C dL_law_318 rfl 0 rfl ?_
  refine z_Liconst C (v := 1) dL_law_319 (by decide) ?_
  refine z_Liadd C dL_law_320 ?_
  refine z_Lld C i1 dL_law_321 ?_
  rw [c1]
  refine z_Laload C dL_law_322 rfl 3 rfl ?_
  refine z_Liload C dL_law_323 rfl 0 rfl ?_
  refine z_Liconst C (v := 2) dL_law_324 (by decide) ?_
  refine z_Liadd C dL_law_325 ?_
  refine z_Lld C i2 dL_law_326 ?_
  rw [c2]
  refine z_LcV C (As := [.int (xs (i + 1)), .int (xs (i + 2))]) (rest := []) (a := 0) (c_X4_look X 0 (xs (i + 1)) (xs (i + 2)) mm) h1 ⟨hb1.2.1, hb1.2.2⟩ (by omega) rfl mw_X4_look iw_X4_look z_X4 wm_L_48 rfl rfl (by decide) (Nat.le_of_ble_eq_true rfl) dL_law_327 ?_
  refine z_Laload C dL_law_330 rfl 1 rfl ?_
  refine z_Laload C dL_law_331 rfl 3 rfl ?_
  refine z_Liload C dL_law_332 rfl 0 rfl ?_
  refine z_Liconst C (v := 1) dL_law_333 (by decide) ?_
  refine z_Liadd C dL_law_334 ?_
  refine z_Lld C i1 dL_law_335 ?_
  rw [c1]
  refine z_Laload C dL_law_336 rfl 3 rfl ?_
  refine z_Liload C dL_law_337 rfl 0 rfl ?_
  refine z_Liconst C (v := 2) dL_law_338 (by decide) ?_
  refine z_Liadd C dL_law_339 ?_
  refine z_Lld C i2 dL_law_340 ?_
  rw [c2]
  refine z_LcV C (As := [.int (xs (i + 1)), .int (xs (i + 2))]) (rest := [.int r]) (a := 57) (c_X5_look X 57 (xs (i + 1)) (xs (i + 2)) m1) h2 ⟨hb2.2.1, hb2.2.2⟩ (by omega) rfl mw_X5_look iw_X5_look z_X5 wm_L_51 rfl rfl (by decide) (Nat.le_of_ble_eq_true rfl) dL_law_341 ?_
  refine z_Leq C (tg := 780) dL_law_344 (by decide) ?_
  exact K m2 hR2
set_option maxRecDepth 100000 in
set_option maxHeartbeats 4000000 in
theorem lw_c9 {X : z_X} {p : Program} {e : Env} {s : State} {m : MethodId} {below : List Frame} {meth : Method} {c : Code} {b L : Nat} {xs : Nat → Int32} (C : z_LC X p s m meth c b L xs) {Rel : z_M → Prop} (hops : z_Ops Rel) {i : Nat} {x3 : Int32} (hx : x3 = nI i) (hi : i + 4 ≤ L) {mm : z_M} (hR : Rel mm) (K : ∀ m2 : z_M, Rel m2 → z_L X p e s m below meth c b 780 [(3, .int x3), (2, .ref (z_ad X 57)), (1, .ref (z_ad X 0)), (0, .ref b)] [] m2) : z_L X p e s m below meth c b 349 [(3, .int x3), (2, .ref (z_ad X 57)), (1, .ref (z_ad X 0)), (0, .ref b)] [] mm := by
  have hL : L ≤ 2048 := C.2.2.2.2
  obtain ⟨r, m1, m2, h1, h2, hb1, hR2⟩ := hops.2.2.2.2.2.2.2.2.2.2.1  mm hR
  have hb0 := hops.1 mm hR
  have hb2 := hops.1 m2 hR2
  refine z_Laload C dL_law_349 rfl 2 rfl ?_
  refine z_LcV C (As := []) (rest := []) (a := 0) (c_X4_undo X 0 mm) h1 ⟨hb1.2.1, hb1.2.2⟩ (by omega) rfl mw_X4_undo iw_X4_undo z_X4 wm_L_52 rfl rfl (by decide) (Nat.le_of_ble_eq_true rfl) dL_law_350 ?_
  refine z_Laload C dL_law_353 rfl 1 rfl ?_
  refine z_LcV C (As := []) (rest := [.int r]) (a := 57) (c_X5_undo X 57 m1) h2 ⟨hb2.2.1, hb2.2.2⟩ (by omega) rfl mw_X5_undo iw_X5_undo z_X5 wm_L_55 rfl rfl (by decide) (Nat.le_of_ble_eq_true rfl) dL_law_354 ?_
  refine z_Leq C (tg := 780) dL_law_357 (by decide) ?_
  exact K m2 hR2
set_option maxRecDepth 100000 in
set_option maxHeartbeats 4000000 in
theorem lw_c10 {X : z_X} {p : Program} {e : Env} {s : State} {m : MethodId} {below : List Frame} {meth : Method} {c : Code} {b L : Nat} {xs : Nat → Int32} (C : z_LC X p s m meth c b L xs) {Rel : z_M → Prop} (hops : z_Ops Rel) {i : Nat} {x3 : Int32} (hx : x3 = nI i) (hi : i + 4 ≤ L) {mm : z_M} (hR : Rel mm) (K : ∀ m2 : z_M, Rel m2 → z_L X p e s m below meth c b 780 [(3, .int x3), (2, .ref (z_ad X 57)), (1, .ref (z_ad X 0)), (0, .ref b)] [] m2) : z_L X p e s m below meth c b 362 [(3, .int x3), (2, .ref (z_ad X 57)), (1, .ref (z_ad X 0)), (0, .ref b)] [] mm := by
  have hL : L ≤ 2048 := C.2.2.2.2
  obtain ⟨r, m1, m2, h1, h2, hb1, hR2⟩ := hops.2.2.2.2.2.2.2.2.2.2.2.1 (xs (i + 1)) mm hR
  have hb0 := hops.1 mm hR
  have hb2 := hops.1 m2 hR2
  have e1 : x3 + 1 = nI (i + 1) := by rw [hx]; exact nI_add i 1
  have i1 : vp_in (x3 + 1) L := by rw [e1]; exact vp_in_nI (by omega) (by omega)
  have c1 : xs (x3 + 1).toNatClampNeg = xs (i + 1) := by rw [e1, nI_clamp (by omega)]
  refine z_Laload C dL_law_362 rfl 2 rfl ?_
  refine z_Laload C dL_law_363 rfl 3 rfl ?_
  refine z_Liload C dL_law_364 rfl 0 rfl ?_
  refine z_Liconst C (v := 1) dL_law_365 (by decide) ?_
  refine z_Liadd C dL_law_366 ?_
  refine z_Lld C i1 dL_law_367 ?_
  rw [c1]
  refine z_LcV C (As := [.int (xs (i + 1))]) (rest := []) (a := 0) (c_X4_who X 0 (xs (i + 1)) mm) h1 ⟨hb1.2.1, hb1.2.2⟩ (by omega) rfl mw_X4_who iw_X4_who z_X4 wm_L_56 rfl rfl (by decide) (Nat.le_of_ble_eq_true rfl) dL_law_368 ?_
  refine z_Laload C dL_law_371 rfl 1 rfl ?_
  refine z_Laload C dL_law_372 rfl 3 rfl ?_
  refine z_Liload C dL_law_373 rfl 0 rfl ?_
  refine z_Liconst C (v := 1) dL_law_374 (by decide) ?_
  refine z_Liadd C dL_law_375 ?_
  refine z_Lld C i1 dL_law_376 ?_
  rw [c1]
  refine z_LcV C (As := [.int (xs (i + 1))]) (rest := [.int r]) (a := 57) (c_X5_who X 57 (xs (i + 1)) m1) h2 ⟨hb2.2.1, hb2.2.2⟩ (by omega) rfl mw_X5_who iw_X5_who z_X5 wm_L_59 rfl rfl (by decide) (Nat.le_of_ble_eq_true rfl) dL_law_377 ?_
  refine z_Leq C (tg := 780) dL_law_380 (by decide) ?_
  exact K m2 hR2
set_option maxRecDepth 100000 in
set_option maxHeartbeats 4000000 in
theorem lw_c11 {X : z_X} {p : Program} {e : Env} {s : State} {m : MethodId} {below : List Frame} {meth : Method} {c : Code} {b L : Nat} {xs : Nat → Int32} (C : z_LC X p s m meth c b L xs) {Rel : z_M → Prop} (hops : z_Ops Rel) {i : Nat} {x3 : Int32} (hx : x3 = nI i) (hi : i + 4 ≤ L) {mm : z_M} (hR : Rel mm) (K : ∀ m2 : z_M, Rel m2 → z_L X p e s m below meth c b 780 [(3, .int x3), (2, .ref (z_ad X 57)), (1, .ref (z_ad X 0)), (0, .ref b)] [] m2) : z_L X p e s m below meth c b 385 [(3, .int x3), (2, .ref (z_ad X 57)), (1, .ref (z_ad X 0)), (0, .ref b)] [] mm := by
  have hL : L ≤ 2048 := C.2.2.2.2
  obtain ⟨r, m1, m2, h1, h2, hb1, hR2⟩ := hops.2.2.2.2.2.2.2.2.2.2.2.2.1 (xs (i + 1)) mm hR
  have hb0 := hops.1 mm hR
  have hb2 := hops.1 m2 hR2
  have e1 : x3 + 1 = nI (i + 1) := by rw [hx]; exact nI_add i 1
  have i1 : vp_in (x3 + 1) L := by rw [e1]; exact vp_in_nI (by omega) (by omega)
  have c1 : xs (x3 + 1).toNatClampNeg = xs (i + 1) := by rw [e1, nI_clamp (by omega)]
  refine z_Laload C dL_law_385 rfl 2 rfl ?_
  refine z_Laload C dL_law_386 rfl 3 rfl ?_
  refine z_Liload C dL_law_387 rfl 0 rfl ?_
  refine z_Liconst C (v := 1) dL_law_388 (by decide) ?_
  refine z_Liadd C dL_law_389 ?_
  refine z_Lld C i1 dL_law_390 ?_
  rw [c1]
  refine z_LcV C (As := [.int (xs (i + 1))]) (rest := []) (a := 0) (c_X4_follows X 0 (xs (i + 1)) mm) h1 ⟨hb1.2.1, hb1.2.2⟩ (by omega) rfl mw_X4_follows iw_X4_follows z_X4 wm_L_60 rfl rfl (by decide) (Nat.le_of_ble_eq_true rfl) dL_law_391 ?_
  refine z_Laload C dL_law_394 rfl 1 rfl ?_
  refine z_Laload C dL_law_395 rfl 3 rfl ?_
  refine z_Liload C dL_law_396 rfl 0 rfl ?_
  refine z_Liconst C (v := 1) dL_law_397 (by decide) ?_
  refine z_Liadd C dL_law_398 ?_
  refine z_Lld C i1 dL_law_399 ?_
  rw [c1]
  refine z_LcV C (As := [.int (xs (i + 1))]) (rest := [.int r]) (a := 57) (c_X5_follows X 57 (xs (i + 1)) m1) h2 ⟨hb2.2.1, hb2.2.2⟩ (by omega) rfl mw_X5_follows iw_X5_follows z_X5 wm_L_63 rfl rfl (by decide) (Nat.le_of_ble_eq_true rfl) dL_law_400 ?_
  refine z_Leq C (tg := 780) dL_law_403 (by decide) ?_
  exact K m2 hR2
set_option maxRecDepth 100000 in
set_option maxHeartbeats 4000000 in
theorem lw_c12 {X : z_X} {p : Program} {e : Env} {s : State} {m : MethodId} {below : List Frame} {meth : Method} {c : Code} {b L : Nat} {xs : Nat → Int32} (C : z_LC X p s m meth c b L xs) {Rel : z_M → Prop} (hops : z_Ops Rel) {i : Nat} {x3 : Int32} (hx : x3 = nI i) (hi : i + 4 ≤ L) {mm : z_M} (hR : Rel mm) (K : ∀ m2 : z_M, Rel m2 → z_L X p e s m below meth c b 780 [(3, .int x3), (2, .ref (z_ad X 57)), (1, .ref (z_ad X 0)), (0, .ref b)] [] m2) : z_L X p e s m below meth c b 408 [(3, .int x3), (2, .ref (z_ad X 57)), (1, .ref (z_ad X 0)), (0, .ref b)] [] mm := by
  have hL : L ≤ 2048 := C.2.2.2.2
  obtain ⟨r, m1, m2, h1, h2, hb1, hR2⟩ := hops.2.2.2.2.2.2.2.2.2.2.2.2.2.1 (xs (i + 1)) mm hR
  have hb0 := hops.1 mm hR
  have hb2 := hops.1 m2 hR2
  have e1 : x3 + 1 = nI (i + 1) := by rw [hx]; exact nI_add i 1
  have i1 : vp_in (x3 + 1) L := by rw [e1]; exact vp_in_nI (by omega) (by omega)
  have c1 : xs (x3 + 1).toNatClampNeg = xs (i + 1) := by rw [e1, nI_clamp (by omega)]
  refine z_Laload C dL_law_408 rfl 2 rfl ?_
  refine z_Laload C dL_law_409 rfl 3 rfl ?_
  refine z_Liload C dL_law_410 rfl 0 rfl ?_
  refine z_Liconst C (v := 1) dL_law_411 (by decide) ?_
  refine z_Liadd C dL_law_412 ?_
  refine z_Lld C i1 dL_law_413 ?_
  rw [c1]
  refine z_LcV C (As := [.int (xs (i + 1))]) (rest := []) (a := 0) (c_X4_runs X 0 (xs (i + 1)) mm) h1 ⟨hb1.2.1, hb1.2.2⟩ (by omega) rfl mw_X4_runs iw_X4_runs z_X4 wm_L_64 rfl rfl (by decide) (Nat.le_of_ble_eq_true rfl) dL_law_414 ?_
  refine z_Laload C dL_law_417 rfl 1 rfl ?_
  refine z_Laload C dL_law_418 rfl 3 rfl ?_
  refine z_Liload C dL_law_419 rfl 0 rfl ?_
  refine z_Liconst C (v := 1) dL_law_420 (by decide) ?_
  refine z_Liadd C dL_law_421 ?_
  refine z_Lld C i1 dL_law_422 ?_
  rw [c1]
  refine z_LcV C (As := [.int (xs (i + 1))]) (rest := [.int r]) (a := 57) (c_X5_runs X 57 (xs (i + 1)) m1) h2 ⟨hb2.2.1, hb2.2.2⟩ (by omega) rfl mw_X5_runs iw_X5_runs z_X5 wm_L_67 rfl rfl (by decide) (Nat.le_of_ble_eq_true rfl) dL_law_423 ?_
  refine z_Leq C (tg := 780) dL_law_426 (by decide) ?_
  exact K m2 hR2
set_option maxRecDepth 100000 in
set_option maxHeartbeats 4000000 in
theorem lw_c13 {X : z_X} {p : Program} {e : Env} {s : State} {m : MethodId} {below : List Frame} {meth : Method} {c : Code} {b L : Nat} {xs : Nat → Int32} (C : z_LC X p s m meth c b L xs) {Rel : z_M → Prop} (hops : z_Ops Rel) {i : Nat} {x3 : Int32} (hx : x3 = nI i) (hi : i + 4 ≤ L) {mm : z_M} (hR : Rel mm) (K : ∀ m2 : z_M, Rel m2 → z_L X p e s m below meth c b 780 [(3, .int x3), (2, .ref (z_ad X 57)), (1, .ref (z_ad X 0)), (0, .ref b)] [] m2) : z_L X p e s m below meth c b 431 [(3, .int x3), (2, .ref (z_ad X 57)), (1, .ref (z_ad X 0)), (0, .ref b)] [] mm := by
  have hL : L ≤ 2048 := C.2.2.2.2
  obtain ⟨r, m1, m2, h1, h2, hb1, hR2⟩ := hops.2.2.2.2.2.2.2.2.2.2.2.2.2.2.1 (xs (i + 1)) mm hR
  have hb0 := hops.1 mm hR
  have hb2 := hops.1 m2 hR2
  have e1 : x3 + 1 = nI (i + 1) := by rw [hx]; exact nI_add i 1
  have i1 : vp_in (x3 + 1) L := by rw [e1]; exact vp_in_nI (by omega) (by omega)
  have c1 : xs (x3 + 1).toNatClampNeg = xs (i + 1) := by rw [e1, nI_clamp (by omega)]
  refine z_Laload C dL_law_431 rfl 2 rfl ?_
  refine z_Laload C dL_law_432 rfl 3 rfl ?_
  refine z_Liload C dL_law_433 rfl 0 rfl ?_
  refine z_Liconst C (v := 1) dL_law_434 (by decide) ?_
  refine z_Liadd C dL_law_435 ?_
  refine z_Lld C i1 dL_law_436 ?_
  rw [c1]
  refine z_LcV C (As := [.int (xs (i + 1))]) (rest := []) (a := 0) (c_X4_most X 0 (xs (i + 1)) mm) h1 ⟨hb1.2.1, hb1.2.2⟩ (by omega) rfl mw_X4_most iw_X4_most z_X4 wm_L_68 rfl rfl (by decide) (Nat.le_of_ble_eq_true rfl) dL_law_437 ?_
  refine z_Laload C dL_law_440 rfl 1 rfl ?_
  refine z_Laload C dL_law_441 rfl 3 rfl ?_
  refine z_Liload C dL_law_442 rfl 0 rfl ?_
  refine z_Liconst C (v := 1) dL_law_443 (by decide) ?_
  refine z_Liadd C dL_law_444 ?_
  refine z_Lld C i1 dL_law_445 ?_
  rw [c1]
  refine z_LcV C (As := [.int (xs (i + 1))]) (rest := [.int r]) (a := 57) (c_X5_most X 57 (xs (i + 1)) m1) h2 ⟨hb2.2.1, hb2.2.2⟩ (by omega) rfl mw_X5_most iw_X5_most z_X5 wm_L_71 rfl rfl (by decide) (Nat.le_of_ble_eq_true rfl) dL_law_446 ?_
  refine z_Leq C (tg := 780) dL_law_449 (by decide) ?_
  exact K m2 hR2
set_option maxRecDepth 100000 in
set_option maxHeartbeats 4000000 in
theorem lw_c14 {X : z_X} {p : Program} {e : Env} {s : State} {m : MethodId} {below : List Frame} {meth : Method} {c : Code} {b L : Nat} {xs : Nat → Int32} (C : z_LC X p s m meth c b L xs) {Rel : z_M → Prop} (hops : z_Ops Rel) {i : Nat} {x3 : Int32} (hx : x3 = nI i) (hi : i + 4 ≤ L) {mm : z_M} (hR : Rel mm) (K : ∀ m2 : z_M, Rel m2 → z_L X p e s m below meth c b 780 [(3, .int x3), (2, .ref (z_ad X 57)), (1, .ref (z_ad X 0)), (0, .ref b)] [] m2) : z_L X p e s m below meth c b 454 [(3, .int x3), (2, .ref (z_ad X 57)), (1, .ref (z_ad X 0)), (0, .ref b)] [] mm := by
  have hL : L ≤ 2048 := C.2.2.2.2
  obtain ⟨r, m1, m2, h1, h2, hb1, hR2⟩ := hops.2.2.2.2.2.2.2.2.2.2.2.2.2.2.2.1 (xs (i + 1)) mm hR
  have hb0 := hops.1 mm hR
  have hb2 := hops.1 m2 hR2
  have e1 : x3 + 1 = nI (i + 1) := by rw [hx]; exact nI_add i 1
  have i1 : vp_in (x3 + 1) L := by rw [e1]; exact vp_in_nI (by omega) (by omega)
  have c1 : xs (x3 + 1).toNatClampNeg = xs (i + 1) := by rw [e1, nI_clamp (by omega)]
  refine z_Laload C dL_law_454 rfl 2 rfl ?_
  refine z_Laload C dL_law_455 rfl 3 rfl ?_
  refine z_Liload C dL_law_456 rfl 0 rfl ?_
  refine z_Liconst C (v := 1) dL_law_457 (by decide) ?_
  refine z_Liadd C dL_law_458 ?_
  refine z_Lld C i1 dL_law_459 ?_
  rw [c1]
  refine z_LcV C (As := [.int (xs (i + 1))]) (rest := []) (a := 0) (c_X4_groups X 0 (xs (i + 1)) mm) h1 ⟨hb1.2.1, hb1.2.2⟩ (by omega) rfl mw_X4_groups iw_X4_groups z_X4 wm_L_72 rfl rfl (by decide) (Nat.le_of_ble_eq_true rfl) dL_law_460 ?_
  refine z_Laload C dL_law_463 rfl 1 rfl ?_
  refine z_Laload C dL_law_464 rfl 3 rfl ?_
  refine z_Liload C dL_law_465 rfl 0 rfl ?_
  refine z_Liconst C (v := 1) dL_law_466 (by decide) ?_
  refine z_Liadd C dL_law_467 ?_
  refine z_Lld C i1 dL_law_468 ?_
  rw [c1]
  refine z_LcV C (As := [.int (xs (i + 1))]) (rest := [.int r]) (a := 57) (c_X5_groups X 57 (xs (i + 1)) m1) h2 ⟨hb2.2.1, hb2.2.2⟩ (by omega) rfl mw_X5_groups iw_X5_groups z_X5 wm_L_75 rfl rfl (by decide) (Nat.le_of_ble_eq_true rfl) dL_law_469 ?_
  refine z_Leq C (tg := 780) dL_law_472 (by decide) ?_
  exact K m2 hR2
set_option maxRecDepth 100000 in
set_option maxHeartbeats 4000000 in
theorem lw_c15 {X : z_X} {p : Program} {e : Env} {s : State} {m : MethodId} {below : List Frame} {meth : Method} {c : Code} {b L : Nat} {xs : Nat → Int32} (C : z_LC X p s m meth c b L xs) {Rel : z_M → Prop} (hops : z_Ops Rel) {i : Nat} {x3 : Int32} (hx : x3 = nI i) (hi : i + 4 ≤ L) {mm : z_M} (hR : Rel mm) (K : ∀ m2 : z_M, Rel m2 → z_L X p e s m below meth c b 780 [(3, .int x3), (2, .ref (z_ad X 57)), (1, .ref (z_ad X 0)), (0, .ref b)] [] m2) : z_L X p e s m below meth c b 477 [(3, .int x3), (2, .ref (z_ad X 57)), (1, .ref (z_ad X 0)), (0, .ref b)] [] mm := by
  have hL : L ≤ 2048 := C.2.2.2.2
  obtain ⟨r, m1, m2, h1, h2, hb1, hR2⟩ := hops.2.2.2.2.2.2.2.2.2.2.2.2.2.2.2.2.1 (xs (i + 1)) mm hR
  have hb0 := hops.1 mm hR
  have hb2 := hops.1 m2 hR2
  have e1 : x3 + 1 = nI (i + 1) := by rw [hx]; exact nI_add i 1
  have i1 : vp_in (x3 + 1) L := by rw [e1]; exact vp_in_nI (by omega) (by omega)
  have c1 : xs (x3 + 1).toNatClampNeg = xs (i + 1) := by rw [e1, nI_clamp (by omega)]
  refine z_Laload C dL_law_477 rfl 2 rfl ?_
  refine z_Laload C dL_law_478 rfl 3 rfl ?_
  refine z_Liload C dL_law_479 rfl 0 rfl ?_
  refine z_Liconst C (v := 1) dL_law_480 (by decide) ?_
  refine z_Liadd C dL_law_481 ?_
  refine z_Lld C i1 dL_law_482 ?_
  rw [c1]
  refine z_LcV C (As := [.int (xs (i + 1))]) (rest := []) (a := 0) (c_X4_plan X 0 (xs (i + 1)) mm) h1 ⟨hb1.2.1, hb1.2.2⟩ (by omega) rfl mw_X4_plan iw_X4_plan z_X4 wm_L_76 rfl rfl (by decide) (Nat.le_of_ble_eq_true rfl) dL_law_483 ?_
  refine z_Laload C dL_law_486 rfl 1 rfl ?_
  refine z_Laload C dL_law_487 rfl 3 rfl ?_
  refine z_Liload C dL_law_488 rfl 0 rfl ?_
  refine z_Liconst C (v := 1) dL_law_489 (by decide) ?_
  refine z_Liadd C dL_law_490 ?_
  refine z_Lld C i1 dL_law_491 ?_
  rw [c1]
  refine z_LcV C (As := [.int (xs (i + 1))]) (rest := [.int r]) (a := 57) (c_X5_plan X 57 (xs (i + 1)) m1) h2 ⟨hb2.2.1, hb2.2.2⟩ (by omega) rfl mw_X5_plan iw_X5_plan z_X5 wm_L_79 rfl rfl (by decide) (Nat.le_of_ble_eq_true rfl) dL_law_492 ?_
  refine z_Leq C (tg := 780) dL_law_495 (by decide) ?_
  exact K m2 hR2
set_option maxRecDepth 100000 in
set_option maxHeartbeats 4000000 in
theorem lw_c16 {X : z_X} {p : Program} {e : Env} {s : State} {m : MethodId} {below : List Frame} {meth : Method} {c : Code} {b L : Nat} {xs : Nat → Int32} (C : z_LC X p s m meth c b L xs) {Rel : z_M → Prop} (hops : z_Ops Rel) {i : Nat} {x3 : Int32} (hx : x3 = nI i) (hi : i + 4 ≤ L) {mm : z_M} (hR : Rel mm) (K : ∀ m2 : z_M, Rel m2 → z_L X p e s m below meth c b 780 [(3, .int x3), (2, .ref (z_ad X 57)), (1, .ref (z_ad X 0)), (0, .ref b)] [] m2) : z_L X p e s m below meth c b 500 [(3, .int x3), (2, .ref (z_ad X 57)), (1, .ref (z_ad X 0)), (0, .ref b)] [] mm := by
  have hL : L ≤ 2048 := C.2.2.2.2
  obtain ⟨r, m1, m2, h1, h2, hb1, hR2⟩ := hops.2.2.2.2.2.2.2.2.2.2.2.2.2.2.2.2.2.1 (xs (i + 1)) (xs (i + 2)) mm hR
  have hb0 := hops.1 mm hR
  have hb2 := hops.1 m2 hR2
  have e1 : x3 + 1 = nI (i + 1) := by rw [hx]; exact nI_add i 1
  have i1 : vp_in (x3 + 1) L := by rw [e1]; exact vp_in_nI (by omega) (by omega)
  have c1 : xs (x3 + 1).toNatClampNeg = xs (i + 1) := by rw [e1, nI_clamp (by omega)]
  have e2 : x3 + 2 = nI (i + 2) := by rw [hx]; exact nI_add i 2
  have i2 : vp_in (x3 + 2) L := by rw [e2]; exact vp_in_nI (by omega) (by omega)
  have c2 : xs (x3 + 2).toNatClampNeg = xs (i + 2) := by rw [e2, nI_clamp (by omega)]
  refine z_Laload C dL_law_500 rfl 2 rfl ?_
  refine z_Laload C dL_law_501 rfl 3 rfl ?_
  refine z_Liload C dL_law_502 rfl 0 rfl ?_
  refine z_Liconst C (v := 1) dL_law_503 (by decide) ?_
  refine z_Liadd C dL_law_504 ?_
  refine z_Lld C i1 dL_law_505 ?_
  rw [c1]
  refine z_Laload C dL_law_506 rfl 3 rfl ?_
  refine z_Liload C dL_law_507 rfl 0 rfl ?_
  refine z_Liconst C (v := 2) dL_law_508 (by decide) ?_
  refine z_Liadd C dL_law_509 ?_
  refine z_Lld C i2 dL_law_510 ?_
  rw [c2]
  refine z_LcV C (As := [.int (xs (i + 1)), .int (xs (i + 2))]) (rest := []) (a := 0) (c_X4_turn X 0 (xs (i + 1)) (xs (i + 2)) mm) h1 ⟨hb1.2.1, hb1.2.2⟩ (by omega) rfl mw_X4_turn iw_X4_turn z_X4 wm_L_80 rfl rfl (by decide) (Nat.le_of_ble_eq_true rfl) dL_law_511 ?_
  refine z_Laload C dL_law_514 rfl 1 rfl ?_
  refine z_Laload C dL_law_515 rfl 3 rfl ?_
  refine z_Liload C dL_law_516 rfl 0 rfl ?_
  refine z_Liconst C (v := 1) dL_law_517 (by decide) ?_
  refine z_Liadd C dL_law_518 ?_
  refine z_Lld C i1 dL_law_519 ?_
  rw [c1]
  refine z_Laload C dL_law_520 rfl 3 rfl ?_
  refine z_Liload C dL_law_521 rfl 0 rfl ?_
  refine z_Liconst C (v := 2) dL_law_522 (by decide) ?_
  refine z_Liadd C dL_law_523 ?_
  refine z_Lld C i2 dL_law_524 ?_
  rw [c2]
  refine z_LcV C (As := [.int (xs (i + 1)), .int (xs (i + 2))]) (rest := [.int r]) (a := 57) (c_X5_turn X 57 (xs (i + 1)) (xs (i + 2)) m1) h2 ⟨hb2.2.1, hb2.2.2⟩ (by omega) rfl mw_X5_turn iw_X5_turn z_X5 wm_L_83 rfl rfl (by decide) (Nat.le_of_ble_eq_true rfl) dL_law_525 ?_
  refine z_Leq C (tg := 780) dL_law_528 (by decide) ?_
  exact K m2 hR2
set_option maxRecDepth 100000 in
set_option maxHeartbeats 4000000 in
theorem lw_c17 {X : z_X} {p : Program} {e : Env} {s : State} {m : MethodId} {below : List Frame} {meth : Method} {c : Code} {b L : Nat} {xs : Nat → Int32} (C : z_LC X p s m meth c b L xs) {Rel : z_M → Prop} (hops : z_Ops Rel) {i : Nat} {x3 : Int32} (hx : x3 = nI i) (hi : i + 4 ≤ L) {mm : z_M} (hR : Rel mm) (K : ∀ m2 : z_M, Rel m2 → z_L X p e s m below meth c b 780 [(3, .int x3), (2, .ref (z_ad X 57)), (1, .ref (z_ad X 0)), (0, .ref b)] [] m2) : z_L X p e s m below meth c b 533 [(3, .int x3), (2, .ref (z_ad X 57)), (1, .ref (z_ad X 0)), (0, .ref b)] [] mm := by
  have hL : L ≤ 2048 := C.2.2.2.2
  obtain ⟨r, m1, m2, h1, h2, hb1, hR2⟩ := hops.2.2.2.2.2.2.2.2.2.2.2.2.2.2.2.2.2.2.1 (xs (i + 1)) (xs (i + 2)) mm hR
  have hb0 := hops.1 mm hR
  have hb2 := hops.1 m2 hR2
  have e1 : x3 + 1 = nI (i + 1) := by rw [hx]; exact nI_add i 1
  have i1 : vp_in (x3 + 1) L := by rw [e1]; exact vp_in_nI (by omega) (by omega)
  have c1 : xs (x3 + 1).toNatClampNeg = xs (i + 1) := by rw [e1, nI_clamp (by omega)]
  have e2 : x3 + 2 = nI (i + 2) := by rw [hx]; exact nI_add i 2
  have i2 : vp_in (x3 + 2) L := by rw [e2]; exact vp_in_nI (by omega) (by omega)
  have c2 : xs (x3 + 2).toNatClampNeg = xs (i + 2) := by rw [e2, nI_clamp (by omega)]
  refine z_Laload C dL_law_533 rfl 2 rfl ?_
  refine z_Laload C dL_law_534 rfl 3 rfl ?_
  refine z_Liload C dL_law_535 rfl 0 rfl ?_
  refine z_Liconst C (v := 1) dL_law_536 (by decide) ?_
  refine z_Liadd C dL_law_537 ?_
  refine z_Lld C i1 dL_law_538 ?_
  rw [c1]
  refine z_Laload C dL_law_539 rfl 3 rfl ?_
  refine z_Liload C dL_law_540 rfl 0 rfl ?_
  refine z_Liconst C (v := 2) dL_law_541 (by decide) ?_
  refine z_Liadd C dL_law_542 ?_
  refine z_Lld C i2 dL_law_543 ?_
  rw [c2]
  refine z_LcV C (As := [.int (xs (i + 1)), .int (xs (i + 2))]) (rest := []) (a := 0) (c_X4_alike X 0 (xs (i + 1)) (xs (i + 2)) mm) h1 ⟨hb1.2.1, hb1.2.2⟩ (by omega) rfl mw_X4_alike iw_X4_alike z_X4 wm_L_84 rfl rfl (by decide) (Nat.le_of_ble_eq_true rfl) dL_law_544 ?_
  refine z_Laload C dL_law_547 rfl 1 rfl ?_
  refine z_Laload C dL_law_548 rfl 3 rfl ?_
  refine z_Liload C dL_law_549 rfl 0 rfl ?_
  refine z_Liconst C (v := 1) dL_law_550 (by decide) ?_
  refine z_Liadd C dL_law_551 ?_
  refine z_Lld C i1 dL_law_552 ?_
  rw [c1]
  refine z_Laload C dL_law_553 rfl 3 rfl ?_
  refine z_Liload C dL_law_554 rfl 0 rfl ?_
  refine z_Liconst C (v := 2) dL_law_555 (by decide) ?_
  refine z_Liadd C dL_law_556 ?_
  refine z_Lld C i2 dL_law_557 ?_
  rw [c2]
  refine z_LcV C (As := [.int (xs (i + 1)), .int (xs (i + 2))]) (rest := [.int r]) (a := 57) (c_X5_alike X 57 (xs (i + 1)) (xs (i + 2)) m1) h2 ⟨hb2.2.1, hb2.2.2⟩ (by omega) rfl mw_X5_alike iw_X5_alike z_X5 wm_L_87 rfl rfl (by decide) (Nat.le_of_ble_eq_true rfl) dL_law_558 ?_
  refine z_Leq C (tg := 780) dL_law_561 (by decide) ?_
  exact K m2 hR2
set_option maxRecDepth 100000 in
set_option maxHeartbeats 4000000 in
theorem lw_c18 {X : z_X} {p : Program} {e : Env} {s : State} {m : MethodId} {below : List Frame} {meth : Method} {c : Code} {b L : Nat} {xs : Nat → Int32} (C : z_LC X p s m meth c b L xs) {Rel : z_M → Prop} (hops : z_Ops Rel) {i : Nat} {x3 : Int32} (hx : x3 = nI i) (hi : i + 4 ≤ L) {mm : z_M} (hR : Rel mm) (K : ∀ m2 : z_M, Rel m2 → z_L X p e s m below meth c b 780 [(3, .int x3), (2, .ref (z_ad X 57)), (1, .ref (z_ad X 0)), (0, .ref b)] [] m2) : z_L X p e s m below meth c b 566 [(3, .int x3), (2, .ref (z_ad X 57)), (1, .ref (z_ad X 0)), (0, .ref b)] [] mm := by
  have hL : L ≤ 2048 := C.2.2.2.2
  obtain ⟨r, m1, m2, h1, h2, hb1, hR2⟩ := hops.2.2.2.2.2.2.2.2.2.2.2.2.2.2.2.2.2.2.2.1 (xs (i + 1)) (xs (i + 2)) (xs (i + 3)) mm hR
  have hb0 := hops.1 mm hR
  have hb2 := hops.1 m2 hR2
  have e1 : x3 + 1 = nI (i + 1) := by rw [hx]; exact nI_add i 1
  have i1 : vp_in (x3 + 1) L := by rw [e1]; exact vp_in_nI (by omega) (by omega)
  have c1 : xs (x3 + 1).toNatClampNeg = xs (i + 1) := by rw [e1, nI_clamp (by omega)]
  have e2 : x3 + 2 = nI (i + 2) := by rw [hx]; exact nI_add i 2
  have i2 : vp_in (x3 + 2) L := by rw [e2]; exact vp_in_nI (by omega) (by omega)
  have c2 : xs (x3 + 2).toNatClampNeg = xs (i + 2) := by rw [e2, nI_clamp (by omega)]
  have e3 : x3 + 3 = nI (i + 3) := by rw [hx]; exact nI_add i 3
  have i3 : vp_in (x3 + 3) L := by rw [e3]; exact vp_in_nI (by omega) (by omega)
  have c3 : xs (x3 + 3).toNatClampNeg = xs (i + 3) := by rw [e3, nI_clamp (by omega)]
  refine z_Laload C dL_law_566 rfl 2 rfl ?_
  refine z_Laload C dL_law_567 rfl 3 rfl ?_
  refine z_Liload C dL_law_568 rfl 0 rfl ?_
  refine z_Liconst C (v := 1) dL_law_569 (by decide) ?_
  refine z_Liadd C dL_law_570 ?_
  refine z_Lld C i1 dL_law_571 ?_
  rw [c1]
  refine z_Laload C dL_law_572 rfl 3 rfl ?_
  refine z_Liload C dL_law_573 rfl 0 rfl ?_
  refine z_Liconst C (v := 2) dL_law_574 (by decide) ?_
  refine z_Liadd C dL_law_575 ?_
  refine z_Lld C i2 dL_law_576 ?_
  rw [c2]
  refine z_Laload C dL_law_577 rfl 3 rfl ?_
  refine z_Liload C dL_law_578 rfl 0 rfl ?_
  refine z_Liconst C (v := 3) dL_law_579 (by decide) ?_
  refine z_Liadd C dL_law_580 ?_
  refine z_Lld C i3 dL_law_581 ?_
  rw [c3]
  refine z_LcV C (As := [.int (xs (i + 1)), .int (xs (i + 2)), .int (xs (i + 3))]) (rest := []) (a := 0) (c_X4_right X 0 (xs (i + 1)) (xs (i + 2)) (xs (i + 3)) mm) h1 ⟨hb1.2.1, hb1.2.2⟩ (by omega) rfl mw_X4_right iw_X4_right z_X4 wm_L_88 rfl rfl (by decide) (Nat.le_of_ble_eq_true rfl) dL_law_582 ?_
  refine z_Laload C dL_law_585 rfl 1 rfl ?_
  refine z_Laload C dL_law_586 rfl 3 rfl ?_
  refine z_Liload C dL_law_587 rfl 0 rfl ?_
  refine z_Liconst C (v := 1) dL_law_588 (by decide) ?_
  refine z_Liadd C dL_law_589 ?_
  refine z_Lld C i1 dL_law_590 ?_
  rw [c1]
  refine z_Laload C dL_law_591 rfl 3 rfl ?_
  refine z_Liload C dL_law_592 rfl 0 rfl ?_
  refine z_Liconst C (v := 2) dL_law_593 (by decide) ?_
  refine z_Liadd C dL_law_594 ?_
  refine z_Lld C i2 dL_law_595 ?_
  rw [c2]
  refine z_Laload C dL_law_596 rfl 3 rfl ?_
  refine z_Liload C dL_law_597 rfl 0 rfl ?_
  refine z_Liconst C (v := 3) dL_law_598 (by decide) ?_
  refine z_Liadd C dL_law_599 ?_
  refine z_Lld C i3 dL_law_600 ?_
  rw [c3]
  refine z_LcV C (As := [.int (xs (i + 1)), .int (xs (i + 2)), .int (xs (i + 3))]) (rest := [.int r]) (a := 57) (c_X5_right X 57 (xs (i + 1)) (xs (i + 2)) (xs (i + 3)) m1) h2 ⟨hb2.2.1, hb2.2.2⟩ (by omega) rfl mw_X5_right iw_X5_right z_X5 wm_L_92 rfl rfl (by decide) (Nat.le_of_ble_eq_true rfl) dL_law_601 ?_
  refine z_Leq C (tg := 780) dL_law_604 (by decide) ?_
  exact K m2 hR2
set_option maxRecDepth 100000 in
set_option maxHeartbeats 4000000 in
theorem lw_c19 {X : z_X} {p : Program} {e : Env} {s : State} {m : MethodId} {below : List Frame} {meth : Method} {c : Code} {b L : Nat} {xs : Nat → Int32} (C : z_LC X p s m meth c b L xs) {Rel : z_M → Prop} (hops : z_Ops Rel) {i : Nat} {x3 : Int32} (hx : x3 = nI i) (hi : i + 4 ≤ L) {mm : z_M} (hR : Rel mm) (K : ∀ m2 : z_M, Rel m2 → z_L X p e s m below meth c b 780 [(3, .int x3), (2, .ref (z_ad X 57)), (1, .ref (z_ad X 0)), (0, .ref b)] [] m2) : z_L X p e s m below meth c b 609 [(3, .int x3), (2, .ref (z_ad X 57)), (1, .ref (z_ad X 0)), (0, .ref b)] [] mm := by
  have hL : L ≤ 2048 := C.2.2.2.2
  obtain ⟨r, m1, m2, h1, h2, hb1, hR2⟩ := hops.2.2.2.2.2.2.2.2.2.2.2.2.2.2.2.2.2.2.2.2.1 (xs (i + 1)) (xs (i + 2)) mm hR
  have hb0 := hops.1 mm hR
  have hb2 := hops.1 m2 hR2
  have e1 : x3 + 1 = nI (i + 1) := by rw [hx]; exact nI_add i 1
  have i1 : vp_in (x3 + 1) L := by rw [e1]; exact vp_in_nI (by omega) (by omega)
  have c1 : xs (x3 + 1).toNatClampNeg = xs (i + 1) := by rw [e1, nI_clamp (by omega)]
  have e2 : x3 + 2 = nI (i + 2) := by rw [hx]; exact nI_add i 2
  have i2 : vp_in (x3 + 2) L := by rw [e2]; exact vp_in_nI (by omega) (by omega)
  have c2 : xs (x3 + 2).toNatClampNeg = xs (i + 2) := by rw [e2, nI_clamp (by omega)]
  refine z_Laload C dL_law_609 rfl 2 rfl ?_
  refine z_Laload C dL_law_610 rfl 3 rfl ?_
  refine z_Liload C dL_law_611 rfl 0 rfl ?_
  refine z_Liconst C (v := 1) dL_law_612 (by decide) ?_
  refine z_Liadd C dL_law_613 ?_
  refine z_Lld C i1 dL_law_614 ?_
  rw [c1]
  refine z_Laload C dL_law_615 rfl 3 rfl ?_
  refine z_Liload C dL_law_616 rfl 0 rfl ?_
  refine z_Liconst C (v := 2) dL_law_617 (by decide) ?_
  refine z_Liadd C dL_law_618 ?_
  refine z_Lld C i2 dL_law_619 ?_
  rw [c2]
  refine z_LcV C (As := [.int (xs (i + 1)), .int (xs (i + 2))]) (rest := []) (a := 0) (c_X4_which X 0 (xs (i + 1)) (xs (i + 2)) mm) h1 ⟨hb1.2.1, hb1.2.2⟩ (by omega) rfl mw_X4_which iw_X4_which z_X4 wm_L_93 rfl rfl (by decide) (Nat.le_of_ble_eq_true rfl) dL_law_620 ?_
  refine z_Laload C dL_law_623 rfl 1 rfl ?_
  refine z_Laload C dL_law_624 rfl 3 rfl ?_
  refine z_Liload C dL_law_625 rfl 0 rfl ?_
  refine z_Liconst C (v := 1) dL_law_626 (by decide) ?_
  refine z_Liadd C dL_law_627 ?_
  refine z_Lld C i1 dL_law_628 ?_
  rw [c1]
  refine z_Laload C dL_law_629 rfl 3 rfl ?_
  refine z_Liload C dL_law_630 rfl 0 rfl ?_
  refine z_Liconst C (v := 2) dL_law_631 (by decide) ?_
  refine z_Liadd C dL_law_632 ?_
  refine z_Lld C i2 dL_law_633 ?_
  rw [c2]
  refine z_LcV C (As := [.int (xs (i + 1)), .int (xs (i + 2))]) (rest := [.int r]) (a := 57) (c_X5_which X 57 (xs (i + 1)) (xs (i + 2)) m1) h2 ⟨hb2.2.1, hb2.2.2⟩ (by omega) rfl mw_X5_which iw_X5_which z_X5 wm_L_96 rfl rfl (by decide) (Nat.le_of_ble_eq_true rfl) dL_law_634 ?_
  refine z_Leq C (tg := 780) dL_law_637 (by decide) ?_
  exact K m2 hR2
set_option maxRecDepth 100000 in
set_option maxHeartbeats 4000000 in
theorem lw_c20 {X : z_X} {p : Program} {e : Env} {s : State} {m : MethodId} {below : List Frame} {meth : Method} {c : Code} {b L : Nat} {xs : Nat → Int32} (C : z_LC X p s m meth c b L xs) {Rel : z_M → Prop} (hops : z_Ops Rel) {i : Nat} {x3 : Int32} (hx : x3 = nI i) (hi : i + 4 ≤ L) {mm : z_M} (hR : Rel mm) (K : ∀ m2 : z_M, Rel m2 → z_L X p e s m below meth c b 780 [(3, .int x3), (2, .ref (z_ad X 57)), (1, .ref (z_ad X 0)), (0, .ref b)] [] m2) : z_L X p e s m below meth c b 642 [(3, .int x3), (2, .ref (z_ad X 57)), (1, .ref (z_ad X 0)), (0, .ref b)] [] mm := by
  have hL : L ≤ 2048 := C.2.2.2.2
  obtain ⟨r, m1, m2, h1, h2, hb1, hR2⟩ := hops.2.2.2.2.2.2.2.2.2.2.2.2.2.2.2.2.2.2.2.2.2.1 (xs (i + 1)) mm hR
  have hb0 := hops.1 mm hR
  have hb2 := hops.1 m2 hR2
  have e1 : x3 + 1 = nI (i + 1) := by rw [hx]; exact nI_add i 1
  have i1 : vp_in (x3 + 1) L := by rw [e1]; exact vp_in_nI (by omega) (by omega)
  have c1 : xs (x3 + 1).toNatClampNeg = xs (i + 1) := by rw [e1, nI_clamp (by omega)]
  refine z_Laload C dL_law_642 rfl 2 rfl ?_
  refine z_Laload C dL_law_643 rfl 3 rfl ?_
  refine z_Liload C dL_law_644 rfl 0 rfl ?_
  refine z_Liconst C (v := 1) dL_law_645 (by decide) ?_
  refine z_Liadd C dL_law_646 ?_
  refine z_Lld C i1 dL_law_647 ?_
  rw [c1]
  refine z_LcV C (As := [.int (xs (i + 1))]) (rest := []) (a := 0) (c_X4_safe X 0 (xs (i + 1)) mm) h1 ⟨hb1.2.1, hb1.2.2⟩ (by omega) rfl mw_X4_safe iw_X4_safe z_X4 wm_L_97 rfl rfl (by decide) (Nat.le_of_ble_eq_true rfl) dL_law_648 ?_
  refine z_Laload C dL_law_651 rfl 1 rfl ?_
  refine z_Laload C dL_law_652 rfl 3 rfl ?_
  refine z_Liload C dL_law_653 rfl 0 rfl ?_
  refine z_Liconst C (v := 1) dL_law_654 (by decide) ?_
  refine z_Liadd C dL_law_655 ?_
  refine z_Lld C i1 dL_law_656 ?_
  rw [c1]
  refine z_LcV C (As := [.int (xs (i + 1))]) (rest := [.int r]) (a := 57) (c_X5_safe X 57 (xs (i + 1)) m1) h2 ⟨hb2.2.1, hb2.2.2⟩ (by omega) rfl mw_X5_safe iw_X5_safe z_X5 wm_L_100 rfl rfl (by decide) (Nat.le_of_ble_eq_true rfl) dL_law_657 ?_
  refine z_Leq C (tg := 780) dL_law_660 (by decide) ?_
  exact K m2 hR2
set_option maxRecDepth 100000 in
set_option maxHeartbeats 4000000 in
theorem lw_c21 {X : z_X} {p : Program} {e : Env} {s : State} {m : MethodId} {below : List Frame} {meth : Method} {c : Code} {b L : Nat} {xs : Nat → Int32} (C : z_LC X p s m meth c b L xs) {Rel : z_M → Prop} (hops : z_Ops Rel) {i : Nat} {x3 : Int32} (hx : x3 = nI i) (hi : i + 4 ≤ L) {mm : z_M} (hR : Rel mm) (K : ∀ m2 : z_M, Rel m2 → z_L X p e s m below meth c b 780 [(3, .int x3), (2, .ref (z_ad X 57)), (1, .ref (z_ad X 0)), (0, .ref b)] [] m2) : z_L X p e s m below meth c b 665 [(3, .int x3), (2, .ref (z_ad X 57)), (1, .ref (z_ad X 0)), (0, .ref b)] [] mm := by
  have hL : L ≤ 2048 := C.2.2.2.2
  obtain ⟨r, m1, m2, h1, h2, hb1, hR2⟩ := hops.2.2.2.2.2.2.2.2.2.2.2.2.2.2.2.2.2.2.2.2.2.2.1 (xs (i + 1)) mm hR
  have hb0 := hops.1 mm hR
  have hb2 := hops.1 m2 hR2
  have e1 : x3 + 1 = nI (i + 1) := by rw [hx]; exact nI_add i 1
  have i1 : vp_in (x3 + 1) L := by rw [e1]; exact vp_in_nI (by omega) (by omega)
  have c1 : xs (x3 + 1).toNatClampNeg = xs (i + 1) := by rw [e1, nI_clamp (by omega)]
  refine z_Laload C dL_law_665 rfl 2 rfl ?_
  refine z_Laload C dL_law_666 rfl 3 rfl ?_
  refine z_Liload C dL_law_667 rfl 0 rfl ?_
  refine z_Liconst C (v := 1) dL_law_668 (by decide) ?_
  refine z_Liadd C dL_law_669 ?_
  refine z_Lld C i1 dL_law_670 ?_
  rw [c1]
  refine z_LcV C (As := [.int (xs (i + 1))]) (rest := []) (a := 0) (c_X4_numbers X 0 (xs (i + 1)) mm) h1 ⟨hb1.2.1, hb1.2.2⟩ (by omega) rfl mw_X4_numbers iw_X4_numbers z_X4 wm_L_101 rfl rfl (by decide) (Nat.le_of_ble_eq_true rfl) dL_law_671 ?_
  refine z_Laload C dL_law_674 rfl 1 rfl ?_
  refine z_Laload C dL_law_675 rfl 3 rfl ?_
  refine z_Liload C dL_law_676 rfl 0 rfl ?_
  refine z_Liconst C (v := 1) dL_law_677 (by decide) ?_
  refine z_Liadd C dL_law_678 ?_
  refine z_Lld C i1 dL_law_679 ?_
  rw [c1]
  refine z_LcV C (As := [.int (xs (i + 1))]) (rest := [.int r]) (a := 57) (c_X5_numbers X 57 (xs (i + 1)) m1) h2 ⟨hb2.2.1, hb2.2.2⟩ (by omega) rfl mw_X5_numbers iw_X5_numbers z_X5 wm_L_104 rfl rfl (by decide) (Nat.le_of_ble_eq_true rfl) dL_law_680 ?_
  refine z_Leq C (tg := 780) dL_law_683 (by decide) ?_
  exact K m2 hR2
set_option maxRecDepth 100000 in
set_option maxHeartbeats 4000000 in
theorem lw_c22 {X : z_X} {p : Program} {e : Env} {s : State} {m : MethodId} {below : List Frame} {meth : Method} {c : Code} {b L : Nat} {xs : Nat → Int32} (C : z_LC X p s m meth c b L xs) {Rel : z_M → Prop} (hops : z_Ops Rel) {i : Nat} {x3 : Int32} (hx : x3 = nI i) (hi : i + 4 ≤ L) {mm : z_M} (hR : Rel mm) (K : ∀ m2 : z_M, Rel m2 → z_L X p e s m below meth c b 780 [(3, .int x3), (2, .ref (z_ad X 57)), (1, .ref (z_ad X 0)), (0, .ref b)] [] m2) : z_L X p e s m below meth c b 688 [(3, .int x3), (2, .ref (z_ad X 57)), (1, .ref (z_ad X 0)), (0, .ref b)] [] mm := by
  have hL : L ≤ 2048 := C.2.2.2.2
  obtain ⟨r, m1, m2, h1, h2, hb1, hR2⟩ := hops.2.2.2.2.2.2.2.2.2.2.2.2.2.2.2.2.2.2.2.2.2.2.2.1 (xs (i + 1)) (xs (i + 2)) (xs (i + 3)) mm hR
  have hb0 := hops.1 mm hR
  have hb2 := hops.1 m2 hR2
  have e1 : x3 + 1 = nI (i + 1) := by rw [hx]; exact nI_add i 1
  have i1 : vp_in (x3 + 1) L := by rw [e1]; exact vp_in_nI (by omega) (by omega)
  have c1 : xs (x3 + 1).toNatClampNeg = xs (i + 1) := by rw [e1, nI_clamp (by omega)]
  have e2 : x3 + 2 = nI (i + 2) := by rw [hx]; exact nI_add i 2
  have i2 : vp_in (x3 + 2) L := by rw [e2]; exact vp_in_nI (by omega) (by omega)
  have c2 : xs (x3 + 2).toNatClampNeg = xs (i + 2) := by rw [e2, nI_clamp (by omega)]
  have e3 : x3 + 3 = nI (i + 3) := by rw [hx]; exact nI_add i 3
  have i3 : vp_in (x3 + 3) L := by rw [e3]; exact vp_in_nI (by omega) (by omega)
  have c3 : xs (x3 + 3).toNatClampNeg = xs (i + 3) := by rw [e3, nI_clamp (by omega)]
  refine z_Laload C dL_law_688 rfl 2 rfl ?_
  refine z_Laload C dL_law_689 rfl 3 rfl ?_
  refine z_Liload C dL_law_690 rfl 0 rfl ?_
  refine z_Liconst C (v := 1) dL_law_691 (by decide) ?_
  refine z_Liadd C dL_law_692 ?_
  refine z_Lld C i1 dL_law_693 ?_
  rw [c1]
  refine z_Laload C dL_law_694 rfl 3 rfl ?_
  refine z_Liload C dL_law_695 rfl 0 rfl ?_
  refine z_Liconst C (v := 2) dL_law_696 (by decide) ?_
  refine z_Liadd C dL_law_697 ?_
  refine z_Lld C i2 dL_law_698 ?_
  rw [c2]
  refine z_Laload C dL_law_699 rfl 3 rfl ?_
  refine z_Liload C dL_law_700 rfl 0 rfl ?_
  refine z_Liconst C (v := 3) dL_law_701 (by decide) ?_
  refine z_Liadd C dL_law_702 ?_
  refine z_Lld C i3 dL_law_703 ?_
  rw [c3]
  refine z_LcV C (As := [.int (xs (i + 1)), .int (xs (i + 2)), .int (xs (i + 3))]) (rest := []) (a := 0) (c_X4_drill X 0 (xs (i + 1)) (xs (i + 2)) (xs (i + 3)) mm) h1 ⟨hb1.2.1, hb1.2.2⟩ (by omega) rfl mw_X4_drill iw_X4_drill z_X4 wm_L_105 rfl rfl (by decide) (Nat.le_of_ble_eq_true rfl) dL_law_704 ?_
  refine z_Laload C dL_law_707 rfl 1 rfl ?_
  refine z_Laload C dL_law_708 rfl 3 rfl ?_
  refine z_Liload C dL_law_709 rfl 0 rfl ?_
  refine z_Liconst C (v := 1) dL_law_710 (by decide) ?_
  refine z_Liadd C dL_law_711 ?_
  refine z_Lld C i1 dL_law_712 ?_
  rw [c1]
  refine z_Laload C dL_law_713 rfl 3 rfl ?_
  refine z_Liload C dL_law_714 rfl 0 rfl ?_
  refine z_Liconst C (v := 2) dL_law_715 (by decide) ?_
  refine z_Liadd C dL_law_716 ?_
  refine z_Lld C i2 dL_law_717 ?_
  rw [c2]
  refine z_Laload C dL_law_718 rfl 3 rfl ?_
  refine z_Liload C dL_law_719 rfl 0 rfl ?_
  refine z_Liconst C (v := 3) dL_law_720 (by decide) ?_
  refine z_Liadd C dL_law_721 ?_
  refine z_Lld C i3 dL_law_722 ?_
  rw [c3]
  refine z_LcV C (As := [.int (xs (i + 1)), .int (xs (i + 2)), .int (xs (i + 3))]) (rest := [.int r]) (a := 57) (c_X5_drill X 57 (xs (i + 1)) (xs (i + 2)) (xs (i + 3)) m1) h2 ⟨hb2.2.1, hb2.2.2⟩ (by omega) rfl mw_X5_drill iw_X5_drill z_X5 wm_L_108 rfl rfl (by decide) (Nat.le_of_ble_eq_true rfl) dL_law_723 ?_
  refine z_Leq C (tg := 780) dL_law_726 (by decide) ?_
  exact K m2 hR2
set_option maxRecDepth 100000 in
set_option maxHeartbeats 4000000 in
theorem lw_c23 {X : z_X} {p : Program} {e : Env} {s : State} {m : MethodId} {below : List Frame} {meth : Method} {c : Code} {b L : Nat} {xs : Nat → Int32} (C : z_LC X p s m meth c b L xs) {Rel : z_M → Prop} (hops : z_Ops Rel) {i : Nat} {x3 : Int32} (hx : x3 = nI i) (hi : i + 4 ≤ L) {mm : z_M} (hR : Rel mm) (K : ∀ m2 : z_M, Rel m2 → z_L X p e s m below meth c b 780 [(3, .int x3), (2, .ref (z_ad X 57)), (1, .ref (z_ad X 0)), (0, .ref b)] [] m2) : z_L X p e s m below meth c b 731 [(3, .int x3), (2, .ref (z_ad X 57)), (1, .ref (z_ad X 0)), (0, .ref b)] [] mm := by
  have hL : L ≤ 2048 := C.2.2.2.2
  obtain ⟨r, m1, m2, h1, h2, hb1, hR2⟩ := hops.2.2.2.2.2.2.2.2.2.2.2.2.2.2.2.2.2.2.2.2.2.2.2.2.1  mm hR
  have hb0 := hops.1 mm hR
  have hb2 := hops.1 m2 hR2
  refine z_Laload C dL_law_731 rfl 2 rfl ?_
  refine z_LcV C (As := []) (rest := []) (a := 0) (c_X4_keep X 0 mm) h1 ⟨hb1.2.1, hb1.2.2⟩ (by omega) rfl mw_X4_keep iw_X4_keep z_X4 wm_L_109 rfl rfl (by decide) (Nat.le_of_ble_eq_true rfl) dL_law_732 ?_
  refine z_Laload C dL_law_735 rfl 1 rfl ?_
  refine z_LcV C (As := []) (rest := [.int r]) (a := 57) (c_X5_keep X 57 m1) h2 ⟨hb2.2.1, hb2.2.2⟩ (by omega) rfl mw_X5_keep iw_X5_keep z_X5 wm_L_112 rfl rfl (by decide) (Nat.le_of_ble_eq_true rfl) dL_law_736 ?_
  refine z_Leq C (tg := 780) dL_law_739 (by decide) ?_
  exact K m2 hR2
set_option maxRecDepth 100000 in
set_option maxHeartbeats 4000000 in
theorem lw_c24 {X : z_X} {p : Program} {e : Env} {s : State} {m : MethodId} {below : List Frame} {meth : Method} {c : Code} {b L : Nat} {xs : Nat → Int32} (C : z_LC X p s m meth c b L xs) {Rel : z_M → Prop} (hops : z_Ops Rel) {i : Nat} {x3 : Int32} (hx : x3 = nI i) (hi : i + 4 ≤ L) {mm : z_M} (hR : Rel mm) (K : ∀ m2 : z_M, Rel m2 → z_L X p e s m below meth c b 780 [(3, .int x3), (2, .ref (z_ad X 57)), (1, .ref (z_ad X 0)), (0, .ref b)] [] m2) : z_L X p e s m below meth c b 744 [(3, .int x3), (2, .ref (z_ad X 57)), (1, .ref (z_ad X 0)), (0, .ref b)] [] mm := by
  have hL : L ≤ 2048 := C.2.2.2.2
  obtain ⟨r, m1, m2, h1, h2, hb1, hR2⟩ := hops.2.2.2.2.2.2.2.2.2.2.2.2.2.2.2.2.2.2.2.2.2.2.2.2.2.1  mm hR
  have hb0 := hops.1 mm hR
  have hb2 := hops.1 m2 hR2
  refine z_Laload C dL_law_744 rfl 2 rfl ?_
  refine z_LcV C (As := []) (rest := []) (a := 0) (c_X4_back X 0 mm) h1 ⟨hb1.2.1, hb1.2.2⟩ (by omega) rfl mw_X4_back iw_X4_back z_X4 wm_L_113 rfl rfl (by decide) (Nat.le_of_ble_eq_true rfl) dL_law_745 ?_
  refine z_Laload C dL_law_748 rfl 1 rfl ?_
  refine z_LcV C (As := []) (rest := [.int r]) (a := 57) (c_X5_back X 57 m1) h2 ⟨hb2.2.1, hb2.2.2⟩ (by omega) rfl mw_X5_back iw_X5_back z_X5 wm_L_116 rfl rfl (by decide) (Nat.le_of_ble_eq_true rfl) dL_law_749 ?_
  refine z_Leq C (tg := 780) dL_law_752 (by decide) ?_
  exact K m2 hR2
set_option maxRecDepth 100000 in
set_option maxHeartbeats 4000000 in
theorem lw_c25 {X : z_X} {p : Program} {e : Env} {s : State} {m : MethodId} {below : List Frame} {meth : Method} {c : Code} {b L : Nat} {xs : Nat → Int32} (C : z_LC X p s m meth c b L xs) {Rel : z_M → Prop} (hops : z_Ops Rel) {i : Nat} {x3 : Int32} (hx : x3 = nI i) (hi : i + 4 ≤ L) {mm : z_M} (hR : Rel mm) (K : ∀ m2 : z_M, Rel m2 → z_L X p e s m below meth c b 780 [(3, .int x3), (2, .ref (z_ad X 57)), (1, .ref (z_ad X 0)), (0, .ref b)] [] m2) : z_L X p e s m below meth c b 757 [(3, .int x3), (2, .ref (z_ad X 57)), (1, .ref (z_ad X 0)), (0, .ref b)] [] mm := by
  have hL : L ≤ 2048 := C.2.2.2.2
  obtain ⟨r, m1, m2, h1, h2, hb1, hR2⟩ := hops.2.2.2.2.2.2.2.2.2.2.2.2.2.2.2.2.2.2.2.2.2.2.2.2.2.2 (xs (i + 1)) mm hR
  have hb0 := hops.1 mm hR
  have hb2 := hops.1 m2 hR2
  have e1 : x3 + 1 = nI (i + 1) := by rw [hx]; exact nI_add i 1
  have i1 : vp_in (x3 + 1) L := by rw [e1]; exact vp_in_nI (by omega) (by omega)
  have c1 : xs (x3 + 1).toNatClampNeg = xs (i + 1) := by rw [e1, nI_clamp (by omega)]
  refine z_Laload C dL_law_757 rfl 2 rfl ?_
  refine z_Laload C dL_law_758 rfl 3 rfl ?_
  refine z_Liload C dL_law_759 rfl 0 rfl ?_
  refine z_Liconst C (v := 1) dL_law_760 (by decide) ?_
  refine z_Liadd C dL_law_761 ?_
  refine z_Lld C i1 dL_law_762 ?_
  rw [c1]
  refine z_LcV C (As := [.int (xs (i + 1))]) (rest := []) (a := 0) (c_X4_count X 0 (xs (i + 1)) mm) h1 ⟨hb1.2.1, hb1.2.2⟩ (by omega) rfl mw_X4_count iw_X4_count z_X4 wm_L_117 rfl rfl (by decide) (Nat.le_of_ble_eq_true rfl) dL_law_763 ?_
  refine z_Laload C dL_law_766 rfl 1 rfl ?_
  refine z_Laload C dL_law_767 rfl 3 rfl ?_
  refine z_Liload C dL_law_768 rfl 0 rfl ?_
  refine z_Liconst C (v := 1) dL_law_769 (by decide) ?_
  refine z_Liadd C dL_law_770 ?_
  refine z_Lld C i1 dL_law_771 ?_
  rw [c1]
  refine z_LcV C (As := [.int (xs (i + 1))]) (rest := [.int r]) (a := 57) (c_X5_count X 57 (xs (i + 1)) m1) h2 ⟨hb2.2.1, hb2.2.2⟩ (by omega) rfl mw_X5_count iw_X5_count z_X5 wm_L_120 rfl rfl (by decide) (Nat.le_of_ble_eq_true rfl) dL_law_772 ?_
  refine z_Leq C (tg := 780) dL_law_775 (by decide) ?_
  exact K m2 hR2
set_option maxRecDepth 100000 in
set_option maxHeartbeats 4000000 in
theorem lw_loop {X : z_X} {p : Program} {e : Env} {s : State} {m : MethodId} {below : List Frame} {meth : Method} {c : Code} {b L : Nat} {xs : Nat → Int32} (C : z_LC X p s m meth c b L xs) {Rel : z_M → Prop} (hops : z_Ops Rel) : ∀ (n i : Nat) (x3 : Int32), x3 = nI i → L < i + n → i ≤ L → ∀ mm : z_M, Rel mm → z_L X p e s m below meth c b 18 [(3, .int x3), (2, .ref (z_ad X 57)), (1, .ref (z_ad X 0)), (0, .ref b)] [] mm := by
  intro n
  induction n with
  | zero => intro i x3 _ h1 h2; omega
  | succ n ih =>
    intro i x3 hx hn hi mm hR
    have hL : L ≤ 2048 := C.2.2.2.2
    have hb0 := hops.1 mm hR
    refine z_Liload C dL_law_18 rfl 0 rfl ?_
    refine z_Laload C dL_law_19 rfl 3 rfl ?_
    refine z_Llen C dL_law_20 ?_
    refine z_Liconst C (v := 4) dL_law_21 (by decide) ?_
    refine z_Lisub C dL_law_22 ?_
    refine z_Lgt C (tg := 786) dL_law_23 (by decide) (fun hg => ?_) (fun hg => ?_)
    · intro H locs ls hH hS hl
      refine lv_iconst C.1.1 C.1.2.1 dL_law_786 (v := 1) (by decide) ?_
      refine va_forget (fun q hq => by have h1 : X.2.2.2.2.1 ≤ q.base := hS.2.2 q hq; rw [C.2.2.2.1] at h1; exact h1) ?_
      refine W.widen (k := 600000) (n := 7302250) hb0.2.1 hb0.2.2 ?_
      exact lw_ret C.1.1 C.1.2.1 C.1.2.2.1 C.1.2.2.2.2.2.2.2.2.1 dL_law_787
    · have hge : i + 4 ≤ L := by
        rcases Nat.lt_or_ge L (i + 4) with q | q
        · refine absurd ?_ hg
          show Int32.ofNat L - 4 < x3
          rw [hx, Int32.lt_iff_toInt_lt, show (4 : Int32) = nI 4 from rfl, show Int32.ofNat L = nI L from rfl, pk_sub_toInt (by omega) (by omega), nI_toInt (by omega)]
          omega
        · exact q
      refine z_Laload C dL_law_26 rfl 3 rfl ?_
      refine z_Liload C dL_law_27 rfl 0 rfl ?_
      refine z_Lld C (by rw [hx]; exact vp_in_nI (by omega) (by omega)) dL_law_28 ?_
      refine z_Lbipush C (v := 31) dL_law_29 (by decide) ?_
      refine z_Liand C dL_law_31 ?_
      have K : ∀ m2 : z_M, Rel m2 → z_L X p e s m below meth c b 780 [(3, .int x3), (2, .ref (z_ad X 57)), (1, .ref (z_ad X 0)), (0, .ref b)] [] m2 := by
        intro m2 hR2
        refine z_Liinc C (k := 0) (v := x3 + 4) (lv' := [(3, .int (x3 + 4)), (2, .ref (z_ad X 57)), (1, .ref (z_ad X 0)), (0, .ref b)]) dL_law_780 rfl (congrArg (x3 + ·) (show Int32.ofInt 4 = 4 by decide)) (by decide) rfl ?_
        refine z_Lgoto C (tg := 18) dL_law_783 (by decide) ?_
        exact ih (i + 4) (x3 + 4) (by rw [hx]; exact nI_add i 4) (by omega) hge m2 hR2
      have hnn := z_andb (xs x3.toNatClampNeg)
      generalize xs x3.toNatClampNeg &&& 31 = w at hnn ⊢
      by_cases h0 : w = 0
      · refine z_Lin C (tg := 152) dL_law_32 (by rw [h0]; decide) (by rw [h0]; decide) (by rw [h0]; rfl) (by decide) ?_
        exact lw_c0 C hops hx hge hR K
      by_cases h1 : w = 1
      · refine z_Lin C (tg := 175) dL_law_32 (by rw [h1]; decide) (by rw [h1]; decide) (by rw [h1]; rfl) (by decide) ?_
        exact lw_c1 C hops hx hge hR K
      by_cases h2 : w = 2
      · refine z_Lin C (tg := 188) dL_law_32 (by rw [h2]; decide) (by rw [h2]; decide) (by rw [h2]; rfl) (by decide) ?_
        exact lw_c2 C hops hx hge hR K
      by_cases h3 : w = 3
      · refine z_Lin C (tg := 201) dL_law_32 (by rw [h3]; decide) (by rw [h3]; decide) (by rw [h3]; rfl) (by decide) ?_
        exact lw_c3 C hops hx hge hR K
      by_cases h4 : w = 4
      · refine z_Lin C (tg := 214) dL_law_32 (by rw [h4]; decide) (by rw [h4]; decide) (by rw [h4]; rfl) (by decide) ?_
        exact lw_c4 C hops hx hge hR K
      by_cases h5 : w = 5
      · refine z_Lin C (tg := 247) dL_law_32 (by rw [h5]; decide) (by rw [h5]; decide) (by rw [h5]; rfl) (by decide) ?_
        exact lw_c5 C hops hx hge hR K
      by_cases h6 : w = 6
      · refine z_Lin C (tg := 270) dL_law_32 (by rw [h6]; decide) (by rw [h6]; decide) (by rw [h6]; rfl) (by decide) ?_
        exact lw_c6 C hops hx hge hR K
      by_cases h7 : w = 7
      · refine z_Lin C (tg := 293) dL_law_32 (by rw [h7]; decide) (by rw [h7]; decide) (by rw [h7]; rfl) (by decide) ?_
        exact lw_c7 C hops hx hge hR K
      by_cases h8 : w = 8
      · refine z_Lin C (tg := 316) dL_law_32 (by rw [h8]; decide) (by rw [h8]; decide) (by rw [h8]; rfl) (by decide) ?_
        exact lw_c8 C hops hx hge hR K
      by_cases h9 : w = 9
      · refine z_Lin C (tg := 349) dL_law_32 (by rw [h9]; decide) (by rw [h9]; decide) (by rw [h9]; rfl) (by decide) ?_
        exact lw_c9 C hops hx hge hR K
      by_cases h10 : w = 10
      · refine z_Lin C (tg := 362) dL_law_32 (by rw [h10]; decide) (by rw [h10]; decide) (by rw [h10]; rfl) (by decide) ?_
        exact lw_c10 C hops hx hge hR K
      by_cases h11 : w = 11
      · refine z_Lin C (tg := 385) dL_law_32 (by rw [h11]; decide) (by rw [h11]; decide) (by rw [h11]; rfl) (by decide) ?_
        exact lw_c11 C hops hx hge hR K
      by_cases h12 : w = 12
      · refine z_Lin C (tg := 408) dL_law_32 (by rw [h12]; decide) (by rw [h12]; decide) (by rw [h12]; rfl) (by decide) ?_
        exact lw_c12 C hops hx hge hR K
      by_cases h13 : w = 13
      · refine z_Lin C (tg := 431) dL_law_32 (by rw [h13]; decide) (by rw [h13]; decide) (by rw [h13]; rfl) (by decide) ?_
        exact lw_c13 C hops hx hge hR K
      by_cases h14 : w = 14
      · refine z_Lin C (tg := 454) dL_law_32 (by rw [h14]; decide) (by rw [h14]; decide) (by rw [h14]; rfl) (by decide) ?_
        exact lw_c14 C hops hx hge hR K
      by_cases h15 : w = 15
      · refine z_Lin C (tg := 477) dL_law_32 (by rw [h15]; decide) (by rw [h15]; decide) (by rw [h15]; rfl) (by decide) ?_
        exact lw_c15 C hops hx hge hR K
      by_cases h16 : w = 16
      · refine z_Lin C (tg := 500) dL_law_32 (by rw [h16]; decide) (by rw [h16]; decide) (by rw [h16]; rfl) (by decide) ?_
        exact lw_c16 C hops hx hge hR K
      by_cases h17 : w = 17
      · refine z_Lin C (tg := 533) dL_law_32 (by rw [h17]; decide) (by rw [h17]; decide) (by rw [h17]; rfl) (by decide) ?_
        exact lw_c17 C hops hx hge hR K
      by_cases h18 : w = 18
      · refine z_Lin C (tg := 566) dL_law_32 (by rw [h18]; decide) (by rw [h18]; decide) (by rw [h18]; rfl) (by decide) ?_
        exact lw_c18 C hops hx hge hR K
      by_cases h19 : w = 19
      · refine z_Lin C (tg := 609) dL_law_32 (by rw [h19]; decide) (by rw [h19]; decide) (by rw [h19]; rfl) (by decide) ?_
        exact lw_c19 C hops hx hge hR K
      by_cases h20 : w = 20
      · refine z_Lin C (tg := 642) dL_law_32 (by rw [h20]; decide) (by rw [h20]; decide) (by rw [h20]; rfl) (by decide) ?_
        exact lw_c20 C hops hx hge hR K
      by_cases h21 : w = 21
      · refine z_Lin C (tg := 665) dL_law_32 (by rw [h21]; decide) (by rw [h21]; decide) (by rw [h21]; rfl) (by decide) ?_
        exact lw_c21 C hops hx hge hR K
      by_cases h22 : w = 22
      · refine z_Lin C (tg := 688) dL_law_32 (by rw [h22]; decide) (by rw [h22]; decide) (by rw [h22]; rfl) (by decide) ?_
        exact lw_c22 C hops hx hge hR K
      by_cases h23 : w = 23
      · refine z_Lin C (tg := 731) dL_law_32 (by rw [h23]; decide) (by rw [h23]; decide) (by rw [h23]; rfl) (by decide) ?_
        exact lw_c23 C hops hx hge hR K
      by_cases h24 : w = 24
      · refine z_Lin C (tg := 744) dL_law_32 (by rw [h24]; decide) (by rw [h24]; decide) (by rw [h24]; rfl) (by decide) ?_
        exact lw_c24 C hops hx hge hR K
      by_cases h25 : w = 25
      · refine z_Lin C (tg := 757) dL_law_32 (by rw [h25]; decide) (by rw [h25]; decide) (by rw [h25]; rfl) (by decide) ?_
        exact lw_c25 C hops hx hge hR K
      refine z_Lout C (tg := 780) dL_law_32 (Or.inr ?_) (by decide) (K mm hR)
      have a0 := lv_neT h0 (a := 0) (by decide)
      have a1 := lv_neT h1 (a := 1) (by decide)
      have a2 := lv_neT h2 (a := 2) (by decide)
      have a3 := lv_neT h3 (a := 3) (by decide)
      have a4 := lv_neT h4 (a := 4) (by decide)
      have a5 := lv_neT h5 (a := 5) (by decide)
      have a6 := lv_neT h6 (a := 6) (by decide)
      have a7 := lv_neT h7 (a := 7) (by decide)
      have a8 := lv_neT h8 (a := 8) (by decide)
      have a9 := lv_neT h9 (a := 9) (by decide)
      have a10 := lv_neT h10 (a := 10) (by decide)
      have a11 := lv_neT h11 (a := 11) (by decide)
      have a12 := lv_neT h12 (a := 12) (by decide)
      have a13 := lv_neT h13 (a := 13) (by decide)
      have a14 := lv_neT h14 (a := 14) (by decide)
      have a15 := lv_neT h15 (a := 15) (by decide)
      have a16 := lv_neT h16 (a := 16) (by decide)
      have a17 := lv_neT h17 (a := 17) (by decide)
      have a18 := lv_neT h18 (a := 18) (by decide)
      have a19 := lv_neT h19 (a := 19) (by decide)
      have a20 := lv_neT h20 (a := 20) (by decide)
      have a21 := lv_neT h21 (a := 21) (by decide)
      have a22 := lv_neT h22 (a := 22) (by decide)
      have a23 := lv_neT h23 (a := 23) (by decide)
      have a24 := lv_neT h24 (a := 24) (by decide)
      have a25 := lv_neT h25 (a := 25) (by decide)
      omega
