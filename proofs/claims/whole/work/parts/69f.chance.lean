/-! ALL ALIKE: THE TWO COUNTS ARE ONE -/
theorem r_ce_k {kd lk : Nat → Nat} {b : Nat} : ∀ (k a : Nat), q_ce kd lk b k a ≠ 99 → kd (q_ce kd lk b k a) ≠ 2
  | 0, a, h => absurd rfl h
  | k + 1, a, h => by
    unfold q_ce at h ⊢
    by_cases h1 : a = b
    · rw [if_pos h1] at h; exact absurd rfl h
    · rw [if_neg h1] at h ⊢
      by_cases h2 : kd a = 2
      · rw [if_pos h2] at h ⊢
        exact r_ce_k k (lk a) h
      · rw [if_neg h2]; exact h2
theorem r_ld_ld (q : q_Q) (g : q_G) (i : Nat) : q_ld q g (q_ld q g i) = q_ld q g i := by
  by_cases h1 : g.2.2.1 = 1
  · have : ∀ j, q_ld q g j = j := fun j => by unfold q_ld; rw [if_pos h1]
    rw [this, this]
  · by_cases h2 : q_ce q.2.2.1 g.2.1 99 9 i = 99
    · have : q_ld q g i = i := by unfold q_ld; rw [if_neg h1, if_pos h2]
      rw [this, this]
    · have e : q_ld q g i = q_ce q.2.2.1 g.2.1 99 9 i := by unfold q_ld; rw [if_neg h1, if_neg h2]
      have hk := r_ce_k 9 i h2
      rw [e]
      generalize q_ce q.2.2.1 g.2.1 99 9 i = x at h2 hk
      have e2 : q_ce q.2.2.1 g.2.1 99 9 x = x := by
        show (if x = 99 then 99 else if q.2.2.1 x = 2 then _ else x) = x
        rw [if_neg h2, if_neg hk]
      unfold q_ld
      rw [if_neg h1, e2, if_neg h2]
/-- those who lead and may err -/
def r_wh (q : q_Q) (g : q_G) (c : Nat) : Bool := decide (c < q.1 ∧ q_ld q g c = c ∧ q_ch q c)
theorem r_wh_iff {q : q_Q} {g : q_G} {c : Nat} : r_wh q g c = true ↔ c < q.1 ∧ q_ld q g c = c ∧ q_ch q c := decide_eq_true_iff
def r_wt (q : q_Q) (g : q_G) (c : Nat) (b : Bool) : Nat := if r_wh q g c then (if b then q.2.2.2.2 c else 10 - q.2.2.2.2 c) else 1
def r_F (q : q_Q) (g : q_G) (w : Nat) (e : Nat → Bool) (i : Nat) : Nat := (g.1 i + q_tw q g w e i) % 4
/-- would all whom c leads face D, he turning in the manner mn -/
def r_le (q : q_Q) (g : q_G) (t D c mn : Nat) (k : Nat) : Bool := r_at (fun i => !decide (q_ld q g i = c) || decide ((g.1 i + q_tb mn t (q_t g.2.2.2.2.1)) % 4 = D)) k
theorem r_le_iff {q : q_Q} {g : q_G} {t D c mn k : Nat} : r_le q g t D c mn k = true ↔ ∀ i, i < k → q_ld q g i = c → (g.1 i + q_tb mn t (q_t g.2.2.2.2.1)) % 4 = D := by
  unfold r_le
  rw [r_at_iff]
  constructor
  · intro h i hi hl
    have := h i hi
    simpa [hl] using this
  · intro h i hi
    by_cases hl : q_ld q g i = c
    · simp [hl, h i hi hl]
    · simp [hl]
def r_lw (q : q_Q) (g : q_G) (t D c : Nat) (k : Nat) : Nat := r_su (fun m => if r_le q g t D c m q.1 then q_ways q c m else 0) k
def r_aw (q : q_Q) (g : q_G) (t D : Nat) (k : Nat) : Nat := r_pr (fun c => if q_ld q g c = c then r_lw q g t D c 3 else 1) k
/-- one set's share -/
def r_sh (q : q_Q) (g : q_G) (w x : Nat) : Nat := if r_ok (r_wh q g) x 8 then (if q_al (r_F q g w (fun a => x.testBit a)) q.1 then r_pr (fun c => r_wt q g c (x.testBit c)) q.1 else 0) else 0
section
variable {q : q_Q} {g : q_G} {t D w : Nat}
theorem r_X (hq : q_ok q) (hg : g_ok q.1 g) {c : Nat} (hc : c < q.1) : (if q_ld q g c = c then r_lw q g t D c 3 else 1) = (if r_le q g t D c (q_mn q c false) q.1 then r_wt q g c false else 0) + (if r_wh q g c then (if r_le q g t D c (q_mn q c true) q.1 then r_wt q g c true else 0) else 0) := by
  by_cases hl : q_ld q g c = c
  · rw [if_pos hl]
    have hs : r_lw q g t D c 3 = ((0 + (if r_le q g t D c 0 q.1 then q_ways q c 0 else 0)) + (if r_le q g t D c 1 q.1 then q_ways q c 1 else 0)) + (if r_le q g t D c 2 q.1 then q_ways q c 2 else 0) := rfl
    rw [hs]
    by_cases hch : q_ch q c
    · have hw : r_wh q g c = true := r_wh_iff.mpr ⟨hc, hl, hch⟩
      have m0 : q_mn q c false = 0 := by unfold q_mn; rw [if_neg (by unfold q_ch at hch; omega), if_neg (by simp)]
      have m1 : q_mn q c true = 1 := by unfold q_mn; rw [if_neg (by unfold q_ch at hch; omega), if_pos ⟨hch, rfl⟩]
      have w0 : q_ways q c 0 = 10 - q.2.2.2.2 c := by unfold q_ways; rw [if_pos hch]; rfl
      have w1 : q_ways q c 1 = q.2.2.2.2 c := by unfold q_ways; rw [if_pos hch]; rfl
      have w2 : q_ways q c 2 = 0 := by unfold q_ways; rw [if_pos hch]; rfl
      unfold r_wt
      rw [hw, m0, m1, w0, w1, w2]
      simp
    · have hw : r_wh q g c = false := by
        cases h : r_wh q g c
        · rfl
        · exact absurd (r_wh_iff.mp h).2.2 hch
      have w' : ∀ k, q_ways q c k = if k = q_mn q c false then 1 else 0 := fun k => by unfold q_ways; rw [if_neg hch]
      have hm := q_mn3 q c false
      unfold r_wt
      rw [hw, w', w', w']
      generalize q_mn q c false = mn at hm ⊢
      rcases (show mn = 0 ∨ mn = 1 ∨ mn = 2 by omega) with rfl | rfl | rfl <;> simp
  · have hw : r_wh q g c = false := by
      cases h : r_wh q g c
      · rfl
      · exact absurd (r_wh_iff.mp h).2.1 hl
    have hv : r_le q g t D c (q_mn q c false) q.1 = true := r_le_iff.mpr (fun i hi e => absurd (by rw [← e]; exact r_ld_ld q g i) hl)
    unfold r_wt
    rw [if_neg hl, hw, hv]
    rfl
theorem r_up (hq : q_ok q) (hg : g_ok q.1 g) {c : Nat} (hc : q.1 ≤ c) : r_wh q g c = false ∧ ∀ b, r_wt q g c b = 1 ∧ ∀ mn, r_le q g t D c mn q.1 = true := by
  have hw : r_wh q g c = false := by
    cases h : r_wh q g c
    · rfl
    · exact absurd (r_wh_iff.mp h).1 (by omega)
  refine ⟨hw, fun b => ⟨by unfold r_wt; rw [hw]; rfl, fun mn => r_le_iff.mpr (fun i hi e => ?_)⟩⟩
  have := q_ld_lt hg hq hi
  omega
theorem r_one (hq : q_ok q) (hg : g_ok q.1 g) (hw : w < 3) : r_su (fun D => r_aw q g (q_t (w + 1)) D q.1) 4 = r_su (r_sh q g w) 256 := by
  have h8 := hq.2.1
  have e1 : ∀ D, r_aw q g (q_t (w + 1)) D q.1 = r_su (fun x => if r_ok (r_wh q g) x 8 then r_pr (fun c => if r_le q g (q_t (w + 1)) D c (q_mn q c (x.testBit c)) q.1 then r_wt q g c (x.testBit c) else 0) 8 else 0) 256 := by
    intro D
    have := r_dist (r_wh q g) (fun c b => if r_le q g (q_t (w + 1)) D c (q_mn q c b) q.1 then r_wt q g c b else 0) 8
    rw [show (256 : Nat) = 2 ^ 8 from rfl, this, r_pr_8 h8]
    · exact r_pr_ext (fun c hc => r_X hq hg hc)
    · intro c hc
      obtain ⟨a, b⟩ := r_up (t := q_t (w + 1)) (D := D) hq hg hc
      rw [a, (b false).2, (b false).1]
      rfl
  rw [r_su_ext (fun D _ => e1 D), r_su_sw (fun D x => if r_ok (r_wh q g) x 8 then r_pr (fun c => if r_le q g (q_t (w + 1)) D c (q_mn q c (x.testBit c)) q.1 then r_wt q g c (x.testBit c) else 0) 8 else 0)]
  refine r_su_ext (fun x hx => ?_)
  unfold r_sh
  cases hok : r_ok (r_wh q g) x 8 with
  | false => simp only [Bool.false_eq_true, if_false]; exact r_su_0 4
  | true =>
    simp only [if_true]
    have hp : r_pr (fun c => r_wt q g c (x.testBit c)) 8 = r_pr (fun c => r_wt q g c (x.testBit c)) q.1 := r_pr_8 h8 (fun c hc => ((r_up (t := 0) (D := 0) hq hg hc).2 _).1)
    rw [← r_four (fc := r_F q g w (fun a => x.testBit a)) hq.1 (Nat.mod_lt _ (by decide)) (fun D => r_at (fun c => r_le q g (q_t (w + 1)) D c (q_mn q c (x.testBit c)) q.1) 8) (fun D hD => ?_)]
    · refine r_su_ext (fun D hD => ?_)
      rw [r_pr_at, hp]
    · rw [r_at_iff]
      constructor
      · intro h i hi
        have hl := q_ld_lt hg hq hi
        exact r_le_iff.mp (h (q_ld q g i) (by omega)) i hi rfl
      · intro h c hc
        refine r_le_iff.mpr (fun i hi e => ?_)
        have := h i hi
        unfold r_F q_tw at this
        rw [e] at this
        exact this
theorem r_lw_le (hq : q_ok q) (hg : g_ok q.1 g) {c : Nat} (hc : c < q.1) : (if q_ld q g c = c then r_lw q g t D c 3 else 1) ≤ 10 := by
  rw [r_X hq hg hc]
  have h10 := (hq.2.2.2 c hc).2.2
  unfold r_wt
  cases r_wh q g c <;> cases r_le q g t D c (q_mn q c false) q.1 <;> cases r_le q g t D c (q_mn q c true) q.1 <;> simp <;> omega
theorem r_aw_le (hq : q_ok q) (hg : g_ok q.1 g) : r_aw q g t D q.1 ≤ 100000000 := by
  have h8 := hq.2.1
  exact Nat.le_trans (r_pr_le q.1 (fun c hc => r_lw_le hq hg hc)) (Nat.le_trans (Nat.pow_le_pow_right (by decide) h8) (by decide))
end
