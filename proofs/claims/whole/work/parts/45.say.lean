/-! A WORD IS SAID -/
/-- the state while the men turn one behind the other; p: the turns -/
def q_mid (tw : Nat → Nat) (t : Nat) (g : q_G) (i : Nat) : q_G := (fun j => if j < i then (g.1 j + tw j) % 4 else g.1 j, g.2.1, g.2.2.1, g.2.2.2.1, g.2.2.2.2.1, g.2.2.2.2.2.1, q_or (fun j => !decide (tw j = t)) g.2.2.2.2.2.2.1 i, g.2.2.2.2.2.2.2)
def q_fin (n : Nat) (tw : Nat → Nat) (w : Nat) (g : q_G) : q_G := (fun j => if j < n then (g.1 j + tw j) % 4 else g.1 j, g.2.1, g.2.2.1, g.2.2.2.1 + 1, w + 1, (g.2.2.2.2.2.1 + q_t (w + 1)) % 4, q_or (fun j => !decide (tw j = q_t (w + 1))) g.2.2.2.2.2.2.1 n, g.2.2.2.2.2.2.2)
def q_say (q : q_Q) (g : q_G) (w : Nat) (er : Nat → Bool) : q_G := q_fin q.1 (q_tw q g w er) w g
theorem q_say_ok {q : q_Q} {g : q_G} {w : Nat} {er : Nat → Bool} (hg : g_ok q.1 g) (hw : w < 3) (hl : g.2.2.2.1 < 2000) : g_ok q.1 (q_say q g w er) := by
  obtain ⟨h1, h2, h3, h4, h5, h6, h7⟩ := hg
  refine ⟨fun i hi => ⟨?_, (h1 i hi).2⟩, h2, ?_, ?_, ?_, q_or_lt h6 _ (Nat.le_refl _), h7⟩
  · show (if i < q.1 then (g.1 i + q_tw q g w er i) % 4 else g.1 i) < 4
    rw [if_pos hi]
    exact Nat.mod_lt _ (by decide)
  · show g.2.2.2.1 + 1 ≤ 2000
    omega
  · show w + 1 ≤ 3
    omega
  · exact Nat.mod_lt _ (by decide)
theorem p_same.o {I I' : Nat → Nat → Int32} {a j : Nat} {v : Int32} (h : p_same (fun x => x = a) I I') : p_same (fun x => x = a) I (p_w I' a j v) := h.w rfl
theorem c_G.ext {I : Nat → Nat → Int32} {t n : Nat} {g g' : q_G} (h : c_G I t n g) (h1 : ∀ i, i < n → g'.1 i = g.1 i) (h2 : g'.2 = g.2) : c_G I t n g' := by
  obtain ⟨a, b⟩ := h
  unfold c_G
  rw [h2]
  exact ⟨fun i hi => by rw [h1 i hi]; exact a i hi, b⟩
theorem m_G.ext {I : Nat → Nat → Int32} {a o n : Nat} {g g' : q_G} (h : m_G I a o n g) (h1 : ∀ i, i < n → g'.1 i = g.1 i) (h2 : g'.2 = g.2) : m_G I a o n g' := by
  obtain ⟨x, y⟩ := h
  unfold m_G
  rw [h2]
  exact ⟨fun i hi => by rw [h1 i hi]; exact x i hi, y⟩
section
variable {I : Nat → Nat → Int32} {P : Nat → Nat → Option Nat} {s t n : Nat} {q : q_Q} {g : q_G}
/-- reading and writing a standing at 14 or 17 -/
theorem c_st (hP : p_F0 P) (ht : t = 14 ∨ t = 17) : (∀ (I : Nat → Nat → Int32) (j : Nat) (k : Int32 → z_R), z_gI (p_m I P) t 3 j k = k (I t j)) ∧ (∀ (I : Nat → Nat → Int32) (j : Nat) (v : Int32) (k : z_M → z_R), z_sI (p_m I P) t 3 j v k = k (p_m (p_w I t j v) P)) ∧ (∀ (I : Nat → Nat → Int32) (k : Nat → z_R), z_gP (p_m I P) t 3 0 k = k (t + 1)) ∧ (∀ (I : Nat → Nat → Int32) (k : Nat → z_R), z_gP (p_m I P) t 3 1 k = k (t + 2)) ∧ (∀ (I : Nat → Nat → Int32) (i : Nat) (k : Int32 → z_R), i < 8 → z_al (p_m I P) (t + 1) (nI i) k = k (I (t + 1) i)) ∧ (∀ (I : Nat → Nat → Int32) (i : Nat) (v : Int32) (k : z_M → z_R), i < 8 → z_as (p_m I P) (t + 1) (nI i) v k = k (p_m (p_w I (t + 1) i v) P)) := by
  have hq := p_Q hP
  rcases ht with rfl | rfl
  · exact ⟨fun I j k => p_gI (by decide) (by decide), fun I j v k => p_sI (by decide) (by decide), fun I k => by simp only [hq], fun I k => by simp only [hq], fun I i k hi => p_al (by decide) (by decide) hi, fun I i v k hi => p_as (by decide) (by decide) hi⟩
  · exact ⟨fun I j k => p_gI (by decide) (by decide), fun I j v k => p_sI (by decide) (by decide), fun I k => by simp only [hq], fun I k => by simp only [hq], fun I i k hi => p_al (by decide) (by decide) hi, fun I i v k hi => p_as (by decide) (by decide) hi⟩
theorem c_G.fc (h : c_G I t n g) {i v : Nat} : c_G (p_w I (t + 1) i (nI v)) t n (fun j => if j = i then v else g.1 j, g.2) := by
  obtain ⟨a, b⟩ := h
  refine ⟨fun j hj => ?_, ?_⟩
  · by_cases e : j = i
    · subst e
      refine ⟨?_, ?_⟩
      · rw [p_w_eq]; simp
      · rw [p_w_ne (Or.inl (by omega))]; exact (a j hj).2
    · refine ⟨?_, ?_⟩
      · rw [p_w_ne (Or.inr e)]; simp [e]; exact (a j hj).1
      · rw [p_w_ne (Or.inr e)]; exact (a j hj).2
  · simp only [p_w_ne (I := I) (a := t + 1) (b := t) (Or.inl (by omega))]
    exact b
theorem c_G.er (h : c_G I t n g) {v : Nat} : c_G (p_w I t 6 (nI v)) t n (g.1, g.2.1, g.2.2.1, g.2.2.2.1, g.2.2.2.2.1, g.2.2.2.2.2.1, v, g.2.2.2.2.2.2.2) := by
  obtain ⟨a, b1, b2, b3, b4, b5, b6⟩ := h
  refine ⟨fun j hj => ?_, ?_, ?_, ?_, ?_, ?_, ?_⟩
  · rw [p_w_ne (Or.inl (by omega)), p_w_ne (Or.inl (by omega))]; exact a j hj
  · rw [p_w_ne (Or.inr (by omega))]; exact b1
  · rw [p_w_ne (Or.inr (by omega))]; exact b2
  · rw [p_w_ne (Or.inr (by omega))]; exact b3
  · rw [p_w_ne (Or.inr (by omega))]; exact b4
  · rw [p_w_eq]
  · rw [p_w_ne (Or.inr (by omega))]; exact b6
theorem c_sayL (hP : p_F0 P) (ht : t = 14 ∨ t = 17) {er : Nat → Bool} {w : Nat} (hw : w < 3) (hg : g_ok q.1 g) (hl : g.2.2.2.1 ≤ 2000) (her : ∀ a, a < q.1 → er a = q_er q g.2.2.2.1 a) :
    ∀ (f i : Nat) (I : Nat → Nat → Int32), c_K I P s q → (∀ j, j < q.1 → I 54 j = nI (q_ld q g j)) → c_G I t q.1 (q_mid (q_tw q g w er) (q_t (w + 1)) g i) → i ≤ q.1 → q.1 - i < f →
      ∃ I', f_X4_say_L9 f 0 t (nI (q_t (w + 1))) (nI i) (p_m I P) = some (nI 0, p_m I' P) ∧ p_same (fun a => a = t ∨ a = t + 1) I I' ∧ c_G I' t q.1 (q_say q g w er) := by
  intro f
  induction f with
  | zero => intro i I _ _ _ _ h; omega
  | succ f ih =>
    intro i I hK hL hG hi hf
    have hx := hK.x
    have h8 := hK.2.2.1.2.1
    have htd := hg.2.2.2.2.1
    have ht4 := q_t4 (w + 1)
    have hst := c_st hP ht
    unfold f_X4_say_L9 f_X4_say_L99 z_lt
    simp (disch := omega) only [p_Q hP, c_sq1 hK.2.1, c_sqI hK.2.1, hst, p_N, hx, p_A]
    by_cases h1 : q.1 ≤ i
    · have hin : i = q.1 := by omega
      subst hin
      rw [if_pos h1]
      obtain ⟨a, b1, b2, b3, b4, b5, b6⟩ := hG
      have e3 : I t 3 = nI g.2.2.2.1 := b2
      have e5 : I t 5 = nI g.2.2.2.2.2.1 := b4
      rw [p_w_ne (b := t) (k := 5) (Or.inr (by omega)), p_w_ne (b := t) (k := 5) (Or.inr (by omega)), e3, e5]
      simp (disch := omega) only [p_A, p_mo]
      refine ⟨_, rfl, ((p_same.rf.w (Or.inl rfl)).w (Or.inl rfl)).w (Or.inl rfl), fun j hj => ?_, ?_, ?_, ?_, ?_, ?_, ?_⟩
      · rw [p_w_ne (Or.inl (by omega)), p_w_ne (Or.inl (by omega)), p_w_ne (Or.inl (by omega)), p_w_ne (Or.inl (by omega)), p_w_ne (Or.inl (by omega)), p_w_ne (Or.inl (by omega))]
        exact a j hj
      · rw [p_w_ne (Or.inr (by omega)), p_w_ne (Or.inr (by omega)), p_w_ne (Or.inr (by omega))]; exact b1
      · rw [p_w_ne (Or.inr (by omega)), p_w_ne (Or.inr (by omega)), p_w_eq]; rfl
      · rw [p_w_ne (Or.inr (by omega)), p_w_eq]; rfl
      · rw [p_w_eq]; rfl
      · rw [p_w_ne (Or.inr (by omega)), p_w_ne (Or.inr (by omega)), p_w_ne (Or.inr (by omega))]; exact b5
      · rw [p_w_ne (Or.inr (by omega)), p_w_ne (Or.inr (by omega)), p_w_ne (Or.inr (by omega))]; exact b6
    · rw [if_neg h1]
      have hin : i < q.1 := by omega
      have hld := q_ld_lt hg hK.2.2.1 hin
      have e3 : I t 3 = nI g.2.2.2.1 := hG.2.2.1
      have e4 : I t 4 = nI (q_t g.2.2.2.2.1) := hG.2.2.2.1
      have e6 : I t 6 = nI (q_or (fun j => !decide (q_tw q g w er j = q_t (w + 1))) g.2.2.2.2.2.2.1 i) := hG.2.2.2.2.2.1
      have e1 : I (t + 1) i = nI (g.1 i) := by
        have := (hG.1 i hin).1
        rw [this]
        show nI (if i < i then _ else g.1 i) = _
        rw [if_neg (by omega)]
      have hfc := (hg.1 i hin).1
      have htw := q_tw_lt q g w er i
      have htwe : q_tb (q_mn q (q_ld q g i) (q_er q g.2.2.2.1 (q_ld q g i))) (q_t (w + 1)) (q_t g.2.2.2.2.1) = q_tw q g w er i := by
        unfold q_tw; rw [her _ hld]
      simp (disch := omega) only [p_L, p_C, hL i hin, e3, c_errs hK hld hl, p_b, p_Q hP, hst, c_manner hK hld, e4, c_turnBy (q_mn3 _ _ _) ht4, htwe, e1, p_A, p_mo, p_w_ne]
      have hG2 := hG.fc (i := i) (v := (g.1 i + q_tw q g w er i) % 4)
      have hK2 : c_K (p_w I (t + 1) i (nI ((g.1 i + q_tw q g w er i) % 4))) P s q := hK.keep (S := fun a => 14 ≤ a) (p_same.rf.w (by omega)) (fun a h => h)
      have hL2 : ∀ j, j < q.1 → p_w I (t + 1) i (nI ((g.1 i + q_tw q g w er i) % 4)) 54 j = nI (q_ld q g j) := fun j hj => by rw [p_w_ne (Or.inl (by omega))]; exact hL j hj
      have hor : q_or (fun j => !decide (q_tw q g w er j = q_t (w + 1))) g.2.2.2.2.2.2.1 (i + 1) = if q_tw q g w er i = q_t (w + 1) then q_or (fun j => !decide (q_tw q g w er j = q_t (w + 1))) g.2.2.2.2.2.2.1 i else q_or (fun j => !decide (q_tw q g w er j = q_t (w + 1))) g.2.2.2.2.2.2.1 i ||| 2 ^ i := by
        show (if (!decide (q_tw q g w er i = q_t (w + 1))) = true then _ else _) = _
        by_cases hc : q_tw q g w er i = q_t (w + 1)
        · simp [hc]
        · simp [hc]
      have hm1 : ∀ j, j < q.1 → (q_mid (q_tw q g w er) (q_t (w + 1)) g (i + 1)).1 j = if j = i then (g.1 i + q_tw q g w er i) % 4 else (q_mid (q_tw q g w er) (q_t (w + 1)) g i).1 j := by
        intro j hj
        show (if j < i + 1 then (g.1 j + q_tw q g w er j) % 4 else g.1 j) = if j = i then (g.1 i + q_tw q g w er i) % 4 else if j < i then (g.1 j + q_tw q g w er j) % 4 else g.1 j
        by_cases e : j = i
        · subst e; rw [if_pos (by omega), if_pos rfl]
        · rw [if_neg e]
          by_cases e2 : j < i
          · rw [if_pos (by omega), if_pos e2]
          · rw [if_neg (by omega), if_neg e2]
      by_cases hc : q_tw q g w er i = q_t (w + 1)
      · rw [if_pos hc]
        rw [if_pos hc] at hor
        obtain ⟨I', a1, a2, a3⟩ := ih (i + 1) _ hK2 hL2 (hG2.ext hm1 (by show (_, _, _, _, _, _, _) = (_, _, _, _, _, _, _); rw [hor]; try rfl)) (by omega) (by omega)
        exact ⟨I', a1, (p_same.w (S := fun a => a = t ∨ a = t + 1) p_same.rf (Or.inr rfl)).tr a2, a3⟩
      · rw [if_neg hc]
        rw [if_neg hc] at hor
        rw [e6, p_sh i (by omega), p_or]
        have hG3 := hG2.er (v := q_or (fun j => !decide (q_tw q g w er j = q_t (w + 1))) g.2.2.2.2.2.2.1 i ||| 2 ^ i)
        obtain ⟨I', a1, a2, a3⟩ := ih (i + 1) _ (hK2.keep (S := fun a => 14 ≤ a) (p_same.rf.w (by omega)) (fun a h => h)) (fun j hj => by rw [p_w_ne (Or.inl (by omega))]; exact hL2 j hj) (hG3.ext hm1 (by show (_, _, _, _, _, _, _) = (_, _, _, _, _, _, _); rw [hor]; try rfl)) (by omega) (by omega)
        exact ⟨I', a1, (p_same.w (S := fun a => a = t ∨ a = t + 1) (p_same.w p_same.rf (Or.inr rfl)) (Or.inl rfl)).tr a2, a3⟩
theorem c_say (ht : t = 14 ∨ t = 17) {w : Nat} (hw : w < 3) (hg : g_ok q.1 g) (hK : c_K I P s q) (hL : ∀ j, j < q.1 → I 54 j = nI (q_ld q g j)) (hG : c_G I t q.1 g) :
    ∃ I', f_X4_say 0 t (nI w) (p_m I P) = some (nI 0, p_m I' P) ∧ p_same (fun a => a = t ∨ a = t + 1) I I' ∧ c_G I' t q.1 (q_say q g w (q_er q g.2.2.2.1)) := by
  unfold f_X4_say
  rw [p_tl (t := 0) (i := w) hw, show z_tb 0 w = nI (q_t (w + 1)) by rcases (show w = 0 ∨ w = 1 ∨ w = 2 by omega) with rfl | rfl | rfl <;> rfl]
  have h8 := hK.2.2.1.2.1
  refine c_sayL (g := g) hK.1 ht hw hg hg.2.2.1 (fun _ _ => rfl) 400 0 I hK hL (hG.ext (fun i _ => rfl) rfl) (by omega) (by omega)

/-! the reference -/
theorem m_G.fc {a : Nat} (h : m_G I a 0 n g) (hn : n ≤ 8) {i v : Nat} (hi : i < n) : m_G (p_w I a i (nI v)) a 0 n (fun j => if j = i then v else g.1 j, g.2) := by
  obtain ⟨x, b1, b2, b3, b4, b5, b6⟩ := h
  refine ⟨fun j hj => ?_, ?_, ?_, ?_, ?_, ?_, ?_⟩
  · refine ⟨?_, ?_⟩
    · by_cases e : j = i
      · subst e; rw [Nat.zero_add, p_w_eq]; simp
      · rw [p_w_ne (Or.inr (by omega))]; simp [e]; have := (x j hj).1; rw [Nat.zero_add] at this; exact this
    · rw [p_w_ne (Or.inr (by omega))]; exact (x j hj).2
  · rw [p_w_ne (Or.inr (by omega))]; exact b1
  · rw [p_w_ne (Or.inr (by omega))]; exact b2
  · rw [p_w_ne (Or.inr (by omega))]; exact b3
  · rw [p_w_ne (Or.inr (by omega))]; exact b4
  · rw [p_w_ne (Or.inr (by omega))]; exact b5
  · rw [p_w_ne (Or.inr (by omega))]; exact b6
theorem m_G.er {a : Nat} (h : m_G I a 0 n g) (hn : n ≤ 8) {v : Nat} : m_G (p_w I a 20 (nI v)) a 0 n (g.1, g.2.1, g.2.2.1, g.2.2.2.1, g.2.2.2.2.1, g.2.2.2.2.2.1, v, g.2.2.2.2.2.2.2) := by
  obtain ⟨x, b1, b2, b3, b4, b5, b6⟩ := h
  refine ⟨fun j hj => ?_, ?_, ?_, ?_, ?_, ?_, ?_⟩
  · rw [p_w_ne (Or.inr (by omega)), p_w_ne (Or.inr (by omega))]; exact x j hj
  · rw [p_w_ne (Or.inr (by omega))]; exact b1
  · rw [p_w_ne (Or.inr (by omega))]; exact b2
  · rw [p_w_ne (Or.inr (by omega))]; exact b3
  · rw [p_w_ne (Or.inr (by omega))]; exact b4
  · rw [Nat.zero_add, p_w_eq]
  · rw [p_w_ne (Or.inr (by omega))]; exact b6
theorem q_mid_ld (tw : Nat → Nat) (t i j : Nat) : q_ld q (q_mid tw t g i) j = q_ld q g j := rfl
theorem q_mid_tw (tw : Nat → Nat) (t w i j : Nat) (er : Nat → Bool) : q_tw q (q_mid tw t g i) w er j = q_tw q g w er j := rfl
theorem m_sayL (hP : p_F0 P) {er : Nat → Bool} {w e : Nat} (hw : w < 3) (he : e < 256) (hq : q_ok q) (hg : g_ok q.1 g) (her : ∀ a, a < q.1 → er a = e.testBit a) :
    ∀ (f i : Nat) (I : Nat → Nat → Int32), m_Q I q → I 57 10 = -nI 1 → m_G I 61 0 q.1 (q_mid (q_tw q g w er) (q_t (w + 1)) g i) → i ≤ q.1 → q.1 - i < f →
      ∃ I', f_X5_says_L2 f 57 (nI w) (nI e) (nI i) (p_m I P) = some (nI 0, p_m I' P) ∧ p_same (fun a => a = 61) I I' ∧ m_G I' 61 0 q.1 (q_say q g w er) := by
  intro f
  induction f with
  | zero => intro i I _ _ _ _ h; omega
  | succ f ih =>
    intro i I hQ hT hG hi hf
    have h8 := hq.2.1
    have htd := hg.2.2.2.2.1
    have ht4 := q_t4 (w + 1)
    have hmid : g_ok q.1 (q_mid (q_tw q g w er) (q_t (w + 1)) g i) := by
      obtain ⟨h1, h2, h3, h4, h5, h6, h7⟩ := hg
      refine ⟨fun j hj => ⟨?_, (h1 j hj).2⟩, h2, h3, h4, h5, q_or_lt h6 _ hi, h7⟩
      show (if j < i then _ else g.1 j) < 4
      split
      · exact Nat.mod_lt _ (by decide)
      · exact (h1 j hj).1
    have hB : m_B I P q (q_mid (q_tw q g w er) (q_t (w + 1)) g i) := ⟨hP, hq, hmid, hQ, hG, hT⟩
    have hx := hB.x
    unfold f_X5_says_L2 f_X5_says_L45 z_lt
    simp (disch := omega) only [p_Q hP, p_L, p_N, hx, p_A]
    by_cases h1 : q.1 ≤ i
    · have hin : i = q.1 := by omega
      subst hin
      rw [if_pos h1]
      obtain ⟨x, b1, b2, b3, b4, b5, b6⟩ := hG
      have e17 : I 61 17 = nI g.2.2.2.1 := b2
      have e19 : I 61 19 = nI g.2.2.2.2.2.1 := b4
      simp (disch := omega) only [p_Q hP, p_L, p_S, p_b, m_turnW hw, p_w_ne, e17, e19, p_A, p_mo]
      refine ⟨_, rfl, ((p_same.rf.o).o).o, fun j hj => ?_, ?_, ?_, ?_, ?_, ?_, ?_⟩
      · simp (disch := omega) only [p_w_ne]
        exact x j hj
      · simp (disch := omega) only [p_w_ne]; exact b1
      · rw [Nat.zero_add, p_w_eq]; rfl
      · rw [p_w_ne (Or.inr (by omega)), p_w_ne (Or.inr (by omega)), Nat.zero_add, p_w_eq]; exact (q_aw w).symm
      · rw [p_w_ne (Or.inr (by omega)), Nat.zero_add, p_w_eq]; rfl
      · simp (disch := omega) only [p_w_ne]; exact b5
      · simp (disch := omega) only [p_w_ne]; exact b6
    · rw [if_neg h1]
      have hin : i < q.1 := by omega
      have hld := q_ld_lt hg hq hin
      have e20 : I 61 20 = nI (q_or (fun j => !decide (q_tw q g w er j = q_t (w + 1))) g.2.2.2.2.2.2.1 i) := hx.2.2.2.2.2.2.2.2.2.2.1
      have e1 : I 61 i = nI (g.1 i) := by
        rw [hx.2.2.2.2.1 i hin]
        show nI (if i < i then _ else g.1 i) = _
        rw [if_neg (by omega)]
      have hfc := (hg.1 i hin).1
      have htw := q_tw_lt q g w er i
      have htwe : q_tw q (q_mid (q_tw q g w er) (q_t (w + 1)) g i) w (fun a => e.testBit a) i = q_tw q g w er i := by
        rw [q_mid_tw]
        unfold q_tw; rw [her _ hld]
      simp (disch := omega) only [p_Q hP, p_L, p_S, p_C, p_b, m_turnBy hB hin hw he, htwe, e20, m_turnW hw, p_A]
      have hm1 : ∀ j, j < q.1 → (q_mid (q_tw q g w er) (q_t (w + 1)) g (i + 1)).1 j = if j = i then (g.1 i + q_tw q g w er i) % 4 else (q_mid (q_tw q g w er) (q_t (w + 1)) g i).1 j := by
        intro j hj
        show (if j < i + 1 then (g.1 j + q_tw q g w er j) % 4 else g.1 j) = if j = i then (g.1 i + q_tw q g w er i) % 4 else if j < i then (g.1 j + q_tw q g w er j) % 4 else g.1 j
        by_cases e : j = i
        · subst e; rw [if_pos (by omega), if_pos rfl]
        · rw [if_neg e]
          by_cases e2 : j < i
          · rw [if_pos (by omega), if_pos e2]
          · rw [if_neg (by omega), if_neg e2]
      have hor : q_or (fun j => !decide (q_tw q g w er j = q_t (w + 1))) g.2.2.2.2.2.2.1 (i + 1) = if q_tw q g w er i = q_t (w + 1) then q_or (fun j => !decide (q_tw q g w er j = q_t (w + 1))) g.2.2.2.2.2.2.1 i else q_or (fun j => !decide (q_tw q g w er j = q_t (w + 1))) g.2.2.2.2.2.2.1 i ||| 2 ^ i := by
        show (if (!decide (q_tw q g w er i = q_t (w + 1))) = true then _ else _) = _
        by_cases hc : q_tw q g w er i = q_t (w + 1)
        · simp [hc]
        · simp [hc]
      have K : ∀ v : Nat, v = q_or (fun j => !decide (q_tw q g w er j = q_t (w + 1))) g.2.2.2.2.2.2.1 (i + 1) → ∃ I', f_X5_says_L2 f 57 (nI w) (nI e) (nI (i + 1)) (p_m (p_w (p_w I 61 20 (nI v)) 61 i (nI ((g.1 i + q_tw q g w er i) % 4))) P) = some (nI 0, p_m I' P) ∧ p_same (fun a => a = 61) I I' ∧ m_G I' 61 0 q.1 (q_say q g w er) := by
        intro v hv
        have hG2 := (hG.er h8 (v := v)).fc h8 (v := (g.1 i + q_tw q g w er i) % 4) hin
        obtain ⟨I', a1, a2, a3⟩ := ih (i + 1) _ (hQ.keep (S := fun a => a = 61) ((p_same.rf.o).o) (by omega)) (by rw [p_w_ne (Or.inl (by omega)), p_w_ne (Or.inl (by omega))]; exact hT) (hG2.ext hm1 (by show (_, _, _, _, _, _, _) = (_, _, _, _, _, _, _); rw [hv]; try rfl)) (by omega) (by omega)
        exact ⟨I', a1, (p_same.w (S := fun a => a = 61) (p_same.w p_same.rf rfl) rfl).tr a2, a3⟩
      by_cases hc : q_tw q g w er i = q_t (w + 1)
      · rw [if_pos hc]
        rw [if_pos hc] at hor
        rw [p_or, Nat.or_zero]
        simp (disch := omega) only [p_w_ne, e1, p_A, p_mo]
        exact K _ hor.symm
      · rw [if_neg hc]
        rw [if_neg hc] at hor
        rw [p_sh i (by omega), p_or]
        simp (disch := omega) only [p_w_ne, e1, p_A, p_mo]
        exact K _ hor.symm
theorem m_say {w e : Nat} {er : Nat → Bool} (hw : w < 3) (he : e < 256) (h : m_B I P q g) (her : ∀ a, a < q.1 → er a = e.testBit a) :
    ∃ I', f_X5_says 57 (nI w) (nI e) (p_m I P) = some (nI 0, p_m I' P) ∧ p_same (fun a => a = 61) I I' ∧ m_G I' 61 0 q.1 (q_say q g w er) := by
  unfold f_X5_says
  have h8 := h.2.1.2.1
  exact m_sayL h.1 hw he h.2.1 h.2.2.1 her 400 0 I h.2.2.2.1 h.2.2.2.2.2 (h.2.2.2.2.1.ext (fun i _ => rfl) rfl) (by omega) (by omega)
/-- the errors of the reference, as bits -/
theorem m_errL (h : m_B I P q g) (fo : Nat) (hfo : fo < 2) {p : Nat → Bool} (hp : ∀ i, i < q.1 → p i = if fo = 1 then q_ef q i else q_er q g.2.2.2.1 i) :
    ∀ (f i : Nat), i ≤ q.1 → q.1 - i < f → f_X5_errors_L4 f 57 (nI fo) (nI (q_or p 0 i)) (nI i) (p_m I P) = some (nI (q_or p 0 q.1), p_m I P) := by
  intro f
  induction f with
  | zero => intro i _ h; omega
  | succ f ih =>
    intro i hi hf
    have hx := h.x
    have h8 := h.2.1.2.1
    have hsd := h.2.1.2.2.1
    have hwd := h.2.2.1.2.2.1
    unfold f_X5_errors_L4 f_X5_errors_L73 f_X5_errors_L91 f_X5_errors_L97 f_X5_errors_L98 z_lt
    simp (disch := omega) only [p_Q h.1, p_L, p_N, hx, p_A]
    by_cases h1 : q.1 ≤ i
    · rw [if_pos h1, show i = q.1 by omega]
    · rw [if_neg h1]
      have hin : i < q.1 := by omega
      have her := (h.2.1.2.2.2 i hin).2.2
      have hd := q_d_lt (q_x q.2.1 g.2.2.2.1 i)
      have hxx : 7919 * (nI q.2.1).toInt64 + 6151 * (nI g.2.2.2.1).toInt64 + 3571 * (nI i).toInt64 + 1 = lN (q_x q.2.1 g.2.2.2.1 i) := q_xL hsd hwd (by omega)
      rw [hxx, m_draw (q_x_lt hsd hwd (by omega))]
      simp (disch := omega) only [p_Q h.1, p_L, p_b, hx, p_A, p_mo, p_sh, p_or, Nat.or_zero]
      have hs : q_or p 0 (i + 1) = if p i then q_or p 0 i ||| 2 ^ i else q_or p 0 i := rfl
      have hpi := hp i hin
      rcases (show fo = 0 ∨ fo = 1 by omega) with rfl | rfl
      · simp only [if_true]
        rw [if_neg (by decide)] at hpi
        unfold q_er at hpi
        by_cases hc : q_d (q_x q.2.1 g.2.2.2.1 i) % 10 < q.2.2.2.2 i
        · rw [if_neg (by omega)]
          rw [hpi, if_pos (by simp [hc])] at hs
          rw [← hs]
          exact ih (i + 1) (by omega) (by omega)
        · rw [if_pos (by omega)]
          rw [hpi, if_neg (by simp [hc])] at hs
          rw [← hs]
          exact ih (i + 1) (by omega) (by omega)
      · rw [if_neg (by decide)]
        rw [if_pos rfl] at hpi
        unfold q_ef at hpi
        by_cases hc : 5 ≤ q.2.2.2.2 i
        · rw [if_pos hc]
          rw [hpi, if_pos (by simp [hc])] at hs
          rw [← hs]
          exact ih (i + 1) (by omega) (by omega)
        · rw [if_neg hc, if_neg (by decide)]
          rw [hpi, if_neg (by simp [hc])] at hs
          rw [← hs]
          exact ih (i + 1) (by omega) (by omega)
theorem m_errs (h : m_B I P q g) (fo : Nat) (hfo : fo < 2) : ∃ e, e < 256 ∧ f_X5_errors 57 (nI fo) (p_m I P) = some (nI e, p_m I P) ∧ ∀ a, a < q.1 → (if fo = 1 then q_ef q a else q_er q g.2.2.2.1 a) = e.testBit a := by
  have h8 := h.2.1.2.1
  refine ⟨q_or (fun i => if fo = 1 then q_ef q i else q_er q g.2.2.2.1 i) 0 q.1, ?_, ?_, fun a ha => ?_⟩
  · have := q_or_lt (p := fun i => if fo = 1 then q_ef q i else q_er q g.2.2.2.1 i) (e := 0) (n := 8) (by decide) q.1 h8
    exact this
  · unfold f_X5_errors
    exact m_errL h fo hfo (fun i hi => rfl) 400 0 (by omega) (by omega)
  · rw [q_or_bit]
    simp [ha]
end
