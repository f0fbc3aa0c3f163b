def f_X5_adds (v0 : Nat) (v1 : Int32) (v2 : Int32) (v3 : Int32) (v4 : Int32) (m : z_M) : z_R := z_gP m v0 5 3 fun a1 => z_al m a1 0 fun x2 => z_gP m v0 5 3 fun a3 => z_as m a3 (3 + x2) v1 fun m4 => z_gP m4 v0 5 3 fun a5 => z_as m4 a5 (11 + x2) v2 fun m6 => z_gP m6 v0 5 3 fun a7 => z_as m6 a7 (19 + x2) v3 fun m8 => z_gP m8 v0 5 3 fun a9 => z_as m8 a9 (27 + x2) v4 fun m10 => z_gP m10 v0 5 3 fun a11 => z_al m10 a11 0 fun x12 => z_lt (x12 + 1) fun x13 => z_as m10 a11 0 x13 fun m14 => some (0, m14)
def f_X5_common_L4 : Nat → Int32 → Int32 → z_M → z_R
  | 0, _, _, _ => none
  | n + 1, v2, v3, m => if v3 ≤ 0 then (some (v2, m)) else (z_rm' v2 v3 fun x1 => f_X5_common_L4 n v3 x1 m)
def f_X5_common (v0 : Int32) (v1 : Int32) (m : z_M) : z_R := f_X5_common_L4 400 v0 v1 m
def f_X5_mayErr (v0 : Nat) (v1 : Int32) (m : z_M) : z_R := z_gP m v0 5 2 fun a1 => z_al m a1 (3 + v1) fun x2 => if x2 = 0 then (some (0, m)) else (z_gP m v0 5 2 fun a3 => z_al m a3 (3 + v1) fun x4 => if x4 = 3 then (some (0, m)) else (some (1, m)))
def f_X5_isLooking_L20 (m : z_M) : z_R := some (1, m)
def f_X5_isLooking (v0 : Nat) (v1 : Int32) (m : z_M) : z_R := z_gI m v0 5 10 fun x1 => if v1 = x1 then (f_X5_isLooking_L20 m) else (z_gP m v0 5 2 fun a2 => z_al m a2 (3 + v1) fun x3 => if x3 = 2 then (f_X5_isLooking_L20 m) else (some (0, m)))
def f_X5_leader_L44 (h4 : Nat → Int32 → Int32 → z_M → z_R) (v0 : Nat) (v3 : Int32) (s0 : Int32) (m : z_M) : z_R := h4 v0 s0 (v3 + 1) m
def f_X5_leader_L4 : Nat → Nat → Int32 → Int32 → z_M → z_R
  | 0, _, _, _, _ => none
  | n + 1, v0, v2, v3, m => if 8 < v3 then (some ((-4), m)) else (z_cv m v0 5 (f_X5_isLooking v0 v2 m) fun x1 m2 => if x1 = 0 then (some (v2, m2)) else (z_gI m2 v0 5 10 fun x3 => if v2 = x3 then (z_gI m2 v0 5 11 fun x6 => f_X5_leader_L44 (f_X5_leader_L4 n) v0 v3 x6 m2) else (z_gP m2 v0 5 4 fun a4 => z_al m2 a4 (8 + v2) fun x5 => f_X5_leader_L44 (f_X5_leader_L4 n) v0 v3 x5 m2)))
def f_X5_leader (v0 : Nat) (v1 : Int32) (m : z_M) : z_R := f_X5_leader_L4 400 v0 v1 0 m
def f_X5_turnsAs_L20 (v1 : Int32) (s0 : Int32) (m : z_M) : z_R := if s0 = (-4) then (some (v1, m)) else (some (s0, m))
def f_X5_turnsAs (v0 : Nat) (v1 : Int32) (m : z_M) : z_R := z_gP m v0 5 4 fun a1 => z_al m a1 16 fun x2 => if x2 = 1 then (f_X5_turnsAs_L20 v1 v1 m) else (z_cv m v0 5 (f_X5_leader v0 v1 m) fun x3 m4 => f_X5_turnsAs_L20 v1 x3 m4)
def f_X5_doubtful_L39 (h4 : Nat → Int32 → Int32 → z_M → z_R) (v0 : Nat) (v2 : Int32) (s0 : Int32) (s1 : Int32) (m : z_M) : z_R := z_lt (s1 ||| s0) fun x1 => h4 v0 x1 (v2 + 1) m
def f_X5_doubtful_L38 (h4 : Nat → Int32 → Int32 → z_M → z_R) (v0 : Nat) (v2 : Int32) (s0 : Int32) (m : z_M) : z_R := f_X5_doubtful_L39 h4 v0 v2 0 s0 m
def f_X5_doubtful_L4 : Nat → Nat → Int32 → Int32 → z_M → z_R
  | 0, _, _, _, _ => none
  | n + 1, v0, v1, v2, m => z_gP m v0 5 2 fun a2 => z_al m a2 0 fun x3 => if x3 ≤ v2 then (some (v1, m)) else (z_cv m v0 5 (f_X5_turnsAs v0 v2 m) fun x4 m5 => if x4 = v2 then (z_cv m5 v0 5 (f_X5_mayErr v0 v2 m5) fun x6 m7 => if x6 = 0 then (f_X5_doubtful_L38 (f_X5_doubtful_L4 n) v0 v2 v1 m7) else (f_X5_doubtful_L39 (f_X5_doubtful_L4 n) v0 v2 (1 <<< (v2 &&& 31)) v1 m7)) else (f_X5_doubtful_L38 (f_X5_doubtful_L4 n) v0 v2 v1 m5))
def f_X5_doubtful (v0 : Nat) (m : z_M) : z_R := f_X5_doubtful_L4 400 v0 0 0 m
def f_X5_in (v0 : Int32) (v1 : Int32) (v2 : Int32) (m : z_M) : z_R := if v0 < v1 then (some (0, m)) else (if v2 < v0 then (some (0, m)) else (some (1, m)))
def f_X5_isWord (v0 : Int32) (m : z_M) : z_R := z_b (f_X5_in v0 0 2 m) fun x1 m2 => z_rz x1 m2
def f_X5_ones_L4 : Nat → Int32 → Int32 → Int32 → z_M → z_R
  | 0, _, _, _, _ => none
  | n + 1, v0, v1, v2, m => if 8 ≤ v2 then (some (v1, m)) else (z_lt (v1 + ((v0 >>> (v2 &&& 31)) &&& 1)) fun x1 => f_X5_ones_L4 n v0 x1 (v2 + 1) m)
def f_X5_ones (v0 : Int32) (m : z_M) : z_R := f_X5_ones_L4 400 v0 0 0 m
def f_X5_turnOf (v0 : Int32) (m : z_M) : z_R := if 0 ≤ v0 then (if v0 = 0 then (some (3, m)) else (some (v0, m))) else (some (0, m))
def f_X5_wrongly (v0 : Int32) (m : z_M) : z_R := if v0 = 2 then (some (2, m)) else (some (1 - v0, m))
def f_X5_turnBy_L70 (s0 : Int32) (m : z_M) : z_R := z_b (f_X5_turnOf s0 m) fun x1 m2 => some (x1, m2)
def f_X5_turnBy_L55 (v2 : Int32) (s0 : Int32) (m : z_M) : z_R := if s0 = 0 then (f_X5_turnBy_L70 v2 m) else (z_b (f_X5_wrongly v2 m) fun x3 m4 => f_X5_turnBy_L70 x3 m4)
def f_X5_turnBy_L54 (v2 : Int32) (m : z_M) : z_R := f_X5_turnBy_L55 v2 0 m
def f_X5_turnBy (v0 : Nat) (v1 : Int32) (v2 : Int32) (v3 : Int32) (m : z_M) : z_R := z_cv m v0 5 (f_X5_turnsAs v0 v1 m) fun x5 m6 => z_gP m6 v0 5 2 fun a7 => z_al m6 a7 (3 + x5) fun x8 => if x8 = 3 then (z_gP m6 v0 5 4 fun a11 => z_al m6 a11 18 fun x12 => z_b (f_X5_turnOf x12 m6) fun x13 m14 => some (x13, m14)) else (z_cv m6 v0 5 (f_X5_mayErr v0 x5 m6) fun x9 m10 => if x9 = 0 then (f_X5_turnBy_L54 v2 m10) else (if ((v3 >>> (x5 &&& 31)) &&& 1) = 1 then (f_X5_turnBy_L55 v2 1 m10) else (f_X5_turnBy_L54 v2 m10)))
def f_X5_alike_L222 (h57 : Nat → Int32 → Int32 → Int32 → Int32 → Int32 → Int32 → z_M → z_R) (v0 : Nat) (v1 : Int32) (v2 : Int32) (v3 : Int32) (v4 : Int32) (v5 : Int32) (v6 : Int32) (m : z_M) : z_R := h57 v0 v1 v2 v3 v4 v5 (v6 + 1) m
def f_X5_alike_L219 (h57 : Nat → Int32 → Int32 → Int32 → Int32 → Int32 → Int32 → z_M → z_R) (v0 : Nat) (v1 : Int32) (v2 : Int32) (v3 : Int32) (v5 : Int32) (v6 : Int32) (s0 : Int32) (s1 : Int32) (m : z_M) : z_R := z_lt (s1 + s0) fun x1 => f_X5_alike_L222 h57 v0 v1 v2 v3 x1 v5 v6 m
def f_X5_alike_L198 (h83 : Nat → Int32 → Int32 → Int32 → Int32 → Int32 → Int32 → Int32 → Int32 → Int32 → z_M → z_R) (v0 : Nat) (v1 : Int32) (v2 : Int32) (v3 : Int32) (v4 : Int32) (v5 : Int32) (v6 : Int32) (v7 : Int32) (v9 : Int32) (s0 : Int32) (m : z_M) : z_R := h83 v0 v1 v2 v3 v4 v5 v6 v7 s0 (v9 + 1) m
def f_X5_alike_L197 (h83 : Nat → Int32 → Int32 → Int32 → Int32 → Int32 → Int32 → Int32 → Int32 → Int32 → z_M → z_R) (v0 : Nat) (v1 : Int32) (v2 : Int32) (v3 : Int32) (v4 : Int32) (v5 : Int32) (v6 : Int32) (v7 : Int32) (v9 : Int32) (m : z_M) : z_R := f_X5_alike_L198 h83 v0 v1 v2 v3 v4 v5 v6 v7 v9 0 m
def f_X5_alike_L146 (h83 : Nat → Int32 → Int32 → Int32 → Int32 → Int32 → Int32 → Int32 → Int32 → Int32 → z_M → z_R) (v0 : Nat) (v1 : Int32) (v2 : Int32) (v3 : Int32) (v4 : Int32) (v5 : Int32) (v6 : Int32) (v8 : Int32) (v9 : Int32) (s0 : Int32) (s1 : Int32) (m : z_M) : z_R := z_lt (s1 * s0) fun x2 => if v8 = 0 then (f_X5_alike_L197 h83 v0 v1 v2 v3 v4 v5 v6 x2 v9 m) else (z_gP m v0 5 4 fun a3 => z_al m a3 v9 fun x4 => z_cv m v0 5 (f_X5_turnBy v0 v9 v1 v6 m) fun x5 m6 => z_gP m6 v0 5 4 fun a7 => z_al m6 a7 0 fun x8 => z_cv m6 v0 5 (f_X5_turnBy v0 0 v1 v6 m6) fun x9 m10 => if (z_mI (x4 + x5) 4) = (z_mI (x8 + x9) 4) then (f_X5_alike_L198 h83 v0 v1 v2 v3 v4 v5 v6 x2 v9 1 m10) else (f_X5_alike_L197 h83 v0 v1 v2 v3 v4 v5 v6 x2 v9 m10))
def f_X5_alike_L83 (h57 : Nat → Int32 → Int32 → Int32 → Int32 → Int32 → Int32 → z_M → z_R) : Nat → Nat → Int32 → Int32 → Int32 → Int32 → Int32 → Int32 → Int32 → Int32 → Int32 → z_M → z_R
  | 0, _, _, _, _, _, _, _, _, _, _, _ => none
  | n + 1, v0, v1, v2, v3, v4, v5, v6, v7, v8, v9, m => z_gP m v0 5 2 fun a11 => z_al m a11 0 fun x12 => if x12 ≤ v9 then (if v8 = 0 then (f_X5_alike_L219 h57 v0 v1 v2 v3 v5 v6 0 v4 m) else (f_X5_alike_L219 h57 v0 v1 v2 v3 v5 v6 v7 v4 m)) else (if ((v3 >>> (v9 &&& 31)) &&& 1) = 0 then (f_X5_alike_L146 (f_X5_alike_L83 h57 n) v0 v1 v2 v3 v4 v5 v6 v8 v9 1 v7 m) else (if ((v6 >>> (v9 &&& 31)) &&& 1) = 1 then (z_gP m v0 5 2 fun a15 => z_al m a15 (27 + v9) fun x16 => f_X5_alike_L146 (f_X5_alike_L83 h57 n) v0 v1 v2 v3 v4 v5 v6 v8 v9 x16 v7 m) else (z_gP m v0 5 2 fun a13 => z_al m a13 (27 + v9) fun x14 => f_X5_alike_L146 (f_X5_alike_L83 h57 n) v0 v1 v2 v3 v4 v5 v6 v8 v9 (10 - x14) v7 m)))
def f_X5_alike_L57 : Nat → Nat → Int32 → Int32 → Int32 → Int32 → Int32 → Int32 → z_M → z_R
  | 0, _, _, _, _, _, _, _, _ => none
  | n + 1, v0, v1, v2, v3, v4, v5, v6, m => if 256 ≤ v6 then (z_b (f_X5_common v4 v5 m) fun x17 m18 => if v2 = 0 then (z_dv v4 x17 fun x20 => some (x20, m18)) else (z_dv v5 x17 fun x19 => some (x19, m18))) else (if (v6 &&& (v3 ^^^ (-1))) = 0 then (f_X5_alike_L83 (f_X5_alike_L57 n) 400 v0 v1 v2 v3 v4 v5 v6 1 1 0 m) else (f_X5_alike_L222 (f_X5_alike_L57 n) v0 v1 v2 v3 v4 v5 v6 m))
def f_X5_alike_L32 : Nat → Nat → Int32 → Int32 → Int32 → Int32 → Int32 → Int32 → z_M → z_R
  | 0, _, _, _, _, _, _, _, _ => none
  | n + 1, v0, v1, v2, v3, v4, v5, v6, m => z_b (f_X5_ones v3 m) fun x21 m22 => if x21 ≤ v6 then (f_X5_alike_L57 400 v0 v1 v2 v3 v4 v5 0 m22) else (z_lt (v5 * 10) fun x23 => f_X5_alike_L32 n v0 v1 v2 v3 v4 x23 (v6 + 1) m22)
def f_X5_alike (v0 : Nat) (v1 : Int32) (v2 : Int32) (m : z_M) : z_R := z_b (f_X5_isWord v1 m) fun x24 m25 => if x24 = 0 then (some ((-1), m25)) else (z_b (f_X5_in v2 0 1 m25) fun x26 m27 => if x26 = 0 then (some ((-1), m27)) else (z_cv m27 v0 5 (f_X5_doubtful v0 m27) fun x28 m29 => f_X5_alike_L32 400 v0 v1 v2 x28 0 1 0 m29))
def f_X5_back_L22 : Nat → Nat → Int32 → z_M → z_R
  | 0, _, _, _ => none
  | n + 1, v0, v1, m => if 22 ≤ v1 then (z_sI m v0 5 6 0 fun m1 => z_gI m1 v0 5 8 fun x2 => some (x2, m1)) else (z_gP m v0 5 4 fun a3 => z_gP m v0 5 7 fun a4 => z_gI m v0 5 8 fun x5 => z_al m a4 ((22 * x5) + v1) fun x6 => z_as m a3 v1 x6 fun m7 => f_X5_back_L22 n v0 (v1 + 1) m7)
def f_X5_back (v0 : Nat) (m : z_M) : z_R := z_gI m v0 5 8 fun x8 => if x8 = 0 then (some ((-2), m)) else (z_gI m v0 5 8 fun x9 => z_lt (x9 - 1) fun x10 => z_sI m v0 5 8 x10 fun m11 => f_X5_back_L22 400 v0 0 m11)
def f_X5_begins_L2 : Nat → Nat → Int32 → z_M → z_R
  | 0, _, _, _ => none
  | n + 1, v0, v1, m => if 35 ≤ v1 then (some (0, m)) else (z_gP m v0 5 3 fun a1 => z_as m a1 v1 0 fun m2 => f_X5_begins_L2 n v0 (v1 + 1) m2)
def f_X5_begins (v0 : Nat) (m : z_M) : z_R := f_X5_begins_L2 400 v0 0 m
def f_X5_comesBy_L53 (h8 : Nat → Int32 → Int32 → Int32 → Int32 → z_M → z_R) (v0 : Nat) (v2 : Int32) (v4 : Int32) (v5 : Int32) (s0 : Int32) (m : z_M) : z_R := h8 v0 v2 s0 v4 (v5 + 1) m
def f_X5_comesBy_L30 (h8 : Nat → Int32 → Int32 → Int32 → Int32 → z_M → z_R) (v0 : Nat) (v2 : Int32) (v3 : Int32) (v5 : Int32) (s0 : Int32) (m : z_M) : z_R := z_cv m v0 5 (f_X5_isLooking v0 v3 m) fun x1 m2 => if x1 = 0 then (f_X5_comesBy_L53 h8 v0 v2 s0 v5 v3 m2) else (z_gP m2 v0 5 4 fun a3 => z_al m2 a3 (8 + v3) fun x4 => f_X5_comesBy_L53 h8 v0 v2 s0 v5 x4 m2)
def f_X5_comesBy_L25 (h8 : Nat → Int32 → Int32 → Int32 → Int32 → z_M → z_R) (v0 : Nat) (v2 : Int32) (v3 : Int32) (v5 : Int32) (m : z_M) : z_R := f_X5_comesBy_L30 h8 v0 v2 v3 v5 1 m
def f_X5_comesBy_L8 : Nat → Nat → Int32 → Int32 → Int32 → Int32 → z_M → z_R
  | 0, _, _, _, _, _, _ => none
  | n + 1, v0, v2, v3, v4, v5, m => if 8 < v5 then (z_rz v4 m) else (if v4 = 0 then (if v3 = v2 then (f_X5_comesBy_L25 (f_X5_comesBy_L8 n) v0 v2 v3 v5 m) else (f_X5_comesBy_L30 (f_X5_comesBy_L8 n) v0 v2 v3 v5 0 m)) else (f_X5_comesBy_L25 (f_X5_comesBy_L8 n) v0 v2 v3 v5 m))
def f_X5_comesBy (v0 : Nat) (v1 : Int32) (v2 : Int32) (m : z_M) : z_R := f_X5_comesBy_L8 400 v0 v2 v1 0 0 m
def f_X5_count (v0 : Nat) (v1 : Int32) (m : z_M) : z_R := if v1 = 0 then (z_gP m v0 5 2 fun a1 => z_al m a1 0 fun x2 => some (x2, m)) else if v1 = 1 then (z_gP m v0 5 4 fun a3 => z_al m a3 17 fun x4 => some (x4, m)) else if v1 = 2 then (z_gP m v0 5 4 fun a5 => z_al m a5 16 fun x6 => some (x6, m)) else if v1 = 3 then (z_gI m v0 5 6 fun x7 => some (x7, m)) else if v1 = 4 then (z_gI m v0 5 8 fun x8 => some (x8, m)) else if v1 = 5 then (z_gI m v0 5 1 fun x9 => some (x9, m)) else (some ((-1), m))
def f_X5_drawOf (v0 : Int64) (m : z_M) : z_R := some ((Int64.toInt32 (z_mL (v0 * v0) 65521)) / 8, m)
def f_X5_errors_L98 (h4 : Nat → Int32 → Int32 → Int32 → z_M → z_R) (v0 : Nat) (v1 : Int32) (v3 : Int32) (s0 : Int32) (s1 : Int32) (m : z_M) : z_R := z_lt (s1 ||| s0) fun x1 => h4 v0 v1 x1 (v3 + 1) m
def f_X5_errors_L97 (h4 : Nat → Int32 → Int32 → Int32 → z_M → z_R) (v0 : Nat) (v1 : Int32) (v3 : Int32) (s0 : Int32) (m : z_M) : z_R := f_X5_errors_L98 h4 v0 v1 v3 0 s0 m
def f_X5_errors_L91 (h4 : Nat → Int32 → Int32 → Int32 → z_M → z_R) (v0 : Nat) (v1 : Int32) (v3 : Int32) (s0 : Int32) (m : z_M) : z_R := f_X5_errors_L98 h4 v0 v1 v3 (1 <<< (v3 &&& 31)) s0 m
def f_X5_errors_L73 (h4 : Nat → Int32 → Int32 → Int32 → z_M → z_R) (v0 : Nat) (v1 : Int32) (v3 : Int32) (v4 : Int32) (s0 : Int32) (m : z_M) : z_R := if v1 = 0 then (z_gP m v0 5 2 fun a2 => z_al m a2 (27 + v3) fun x3 => if x3 ≤ v4 then (f_X5_errors_L97 h4 v0 v1 v3 s0 m) else (f_X5_errors_L91 h4 v0 v1 v3 s0 m)) else (f_X5_errors_L97 h4 v0 v1 v3 s0 m)
def f_X5_errors_L4 : Nat → Nat → Int32 → Int32 → Int32 → z_M → z_R
  | 0, _, _, _, _, _ => none
  | n + 1, v0, v1, v2, v3, m => z_gP m v0 5 2 fun a4 => z_al m a4 0 fun x5 => if x5 ≤ v3 then (some (v2, m)) else (z_gP m v0 5 2 fun a6 => z_al m a6 1 fun x7 => z_gP m v0 5 4 fun a8 => z_al m a8 17 fun x9 => z_b (f_X5_drawOf ((((7919 * (Int32.toInt64 x7)) + (6151 * (Int32.toInt64 x9))) + (3571 * (Int32.toInt64 v3))) + 1) m) fun x10 m11 => z_lt (z_mI x10 10) fun x12 => if v1 = 0 then (f_X5_errors_L73 (f_X5_errors_L4 n) v0 v1 v3 x12 v2 m11) else (z_gP m11 v0 5 2 fun a13 => z_al m11 a13 (27 + v3) fun x14 => if 5 ≤ x14 then (f_X5_errors_L91 (f_X5_errors_L4 n) v0 v1 v3 v2 m11) else (f_X5_errors_L73 (f_X5_errors_L4 n) v0 v1 v3 x12 v2 m11)))
def f_X5_errors (v0 : Nat) (v1 : Int32) (m : z_M) : z_R := f_X5_errors_L4 400 v0 v1 0 0 m
def f_X5_holds_L2 : Nat → Nat → Int32 → z_M → z_R
  | 0, _, _, _ => none
  | n + 1, v0, v1, m => if 22 ≤ v1 then (some (0, m)) else (z_gP m v0 5 12 fun a1 => z_gP m v0 5 4 fun a2 => z_al m a2 v1 fun x3 => z_as m a1 v1 x3 fun m4 => f_X5_holds_L2 n v0 (v1 + 1) m4)
def f_X5_holds (v0 : Nat) (m : z_M) : z_R := f_X5_holds_L2 400 v0 0 m
def f_X5_isOneWay_L38 (h4 : Nat → Int32 → Int32 → z_M → z_R) (v0 : Nat) (v2 : Int32) (s0 : Int32) (m : z_M) : z_R := h4 v0 s0 (v2 + 1) m
def f_X5_isOneWay_L37 (h4 : Nat → Int32 → Int32 → z_M → z_R) (v0 : Nat) (v2 : Int32) (m : z_M) : z_R := f_X5_isOneWay_L38 h4 v0 v2 0 m
def f_X5_isOneWay_L4 : Nat → Nat → Int32 → Int32 → z_M → z_R
  | 0, _, _, _, _ => none
  | n + 1, v0, v1, v2, m => z_gP m v0 5 2 fun a1 => z_al m a1 0 fun x2 => if x2 ≤ v2 then (z_rz v1 m) else (if v1 = 0 then (f_X5_isOneWay_L37 (f_X5_isOneWay_L4 n) v0 v2 m) else (z_gP m v0 5 4 fun a3 => z_al m a3 v2 fun x4 => z_gP m v0 5 4 fun a5 => z_al m a5 0 fun x6 => if x4 = x6 then (f_X5_isOneWay_L38 (f_X5_isOneWay_L4 n) v0 v2 1 m) else (f_X5_isOneWay_L37 (f_X5_isOneWay_L4 n) v0 v2 m)))
def f_X5_isOneWay (v0 : Nat) (m : z_M) : z_R := f_X5_isOneWay_L4 400 v0 1 1 m
def f_X5_lets_L2 : Nat → Nat → Int32 → z_M → z_R
  | 0, _, _, _ => none
  | n + 1, v0, v1, m => if 22 ≤ v1 then (some (0, m)) else (z_gP m v0 5 4 fun a1 => z_gP m v0 5 12 fun a2 => z_al m a2 v1 fun x3 => z_as m a1 v1 x3 fun m4 => f_X5_lets_L2 n v0 (v1 + 1) m4)
def f_X5_lets (v0 : Nat) (m : z_M) : z_R := f_X5_lets_L2 400 v0 0 m
def f_X5_says_L45 (h2 : Nat → Int32 → Int32 → Int32 → z_M → z_R) (v0 : Nat) (v1 : Int32) (v2 : Int32) (v3 : Int32) (v4 : Int32) (s0 : Int32) (s1 : Int32) (s2 : Int32) (s3 : Nat) (m : z_M) : z_R := z_lt (s1 ||| s0) fun x1 => z_as m s3 s2 x1 fun m2 => z_gP m2 v0 5 4 fun a3 => z_gP m2 v0 5 4 fun a4 => z_al m2 a4 v3 fun x5 => z_lt (z_mI (x5 + v4) 4) fun x6 => z_as m2 a3 v3 x6 fun m7 => h2 v0 v1 v2 (v3 + 1) m7
def f_X5_says_L2 : Nat → Nat → Int32 → Int32 → Int32 → z_M → z_R
  | 0, _, _, _, _, _ => none
  | n + 1, v0, v1, v2, v3, m => z_gP m v0 5 2 fun a8 => z_al m a8 0 fun x9 => if x9 ≤ v3 then (z_gP m v0 5 4 fun a10 => z_as m a10 18 v1 fun m11 => z_gP m11 v0 5 4 fun a12 => z_gP m11 v0 5 4 fun a13 => z_al m11 a13 19 fun x14 => z_b (f_X5_turnOf v1 m11) fun x15 m16 => z_lt (z_mI (x14 + x15) 4) fun x17 => z_as m16 a12 19 x17 fun m18 => z_gP m18 v0 5 4 fun a19 => z_al m18 a19 17 fun x20 => z_lt (x20 + 1) fun x21 => z_as m18 a19 17 x21 fun m22 => some (0, m22)) else (z_cv m v0 5 (f_X5_turnBy v0 v3 v1 v2 m) fun x23 m24 => z_gP m24 v0 5 4 fun a25 => z_al m24 a25 20 fun x26 => z_b (f_X5_turnOf v1 m24) fun x27 m28 => if x23 = x27 then (f_X5_says_L45 (f_X5_says_L2 n) v0 v1 v2 v3 x23 0 x26 20 a25 m28) else (f_X5_says_L45 (f_X5_says_L2 n) v0 v1 v2 v3 x23 (1 <<< (v3 &&& 31)) x26 20 a25 m28))
def f_X5_says (v0 : Nat) (v1 : Int32) (v2 : Int32) (m : z_M) : z_R := f_X5_says_L2 400 v0 v1 v2 0 m
def f_X5_dueOf (v0 : Nat) (v1 : Int32) (m : z_M) : z_R := z_gP m v0 5 2 fun a1 => z_al m a1 (11 + v1) fun x2 => z_gP m v0 5 4 fun a3 => z_al m a3 19 fun x4 => some (z_mI (x2 + x4) 4, m)
def f_X5_wrong_L36 (h4 : Nat → Int32 → Int32 → z_M → z_R) (v0 : Nat) (v2 : Int32) (s0 : Int32) (s1 : Int32) (m : z_M) : z_R := z_lt (s1 ||| s0) fun x1 => h4 v0 x1 (v2 + 1) m
def f_X5_wrong_L4 : Nat → Nat → Int32 → Int32 → z_M → z_R
  | 0, _, _, _, _ => none
  | n + 1, v0, v1, v2, m => z_gP m v0 5 2 fun a2 => z_al m a2 0 fun x3 => if x3 ≤ v2 then (some (v1, m)) else (z_gP m v0 5 4 fun a4 => z_al m a4 v2 fun x5 => z_cv m v0 5 (f_X5_dueOf v0 v2 m) fun x6 m7 => if x5 = x6 then (f_X5_wrong_L36 (f_X5_wrong_L4 n) v0 v2 0 v1 m7) else (f_X5_wrong_L36 (f_X5_wrong_L4 n) v0 v2 (1 <<< (v2 &&& 31)) v1 m7))
def f_X5_wrong (v0 : Nat) (m : z_M) : z_R := f_X5_wrong_L4 400 v0 0 0 m
def f_X5_drill_L92 (h42 : Nat → Int32 → Int32 → Int32 → Int32 → Int32 → z_M → z_R) (v0 : Nat) (v1 : Int32) (v2 : Int32) (v3 : Int32) (v5 : Int32) (s0 : Int32) (s1 : Int32) (m : z_M) : z_R := z_lt (s1 + s0) fun x1 => h42 v0 v1 v2 v3 x1 (v5 + 1) m
def f_X5_drill_L42 : Nat → Nat → Int32 → Int32 → Int32 → Int32 → Int32 → z_M → z_R
  | 0, _, _, _, _, _, _, _ => none
  | n + 1, v0, v1, v2, v3, v4, v5, m => if v2 ≤ v5 then (z_cv m v0 5 (f_X5_wrong v0 m) fun x2 m3 => z_b (f_X5_ones x2 m3) fun x4 m5 => z_cv m5 v0 5 (f_X5_lets v0 m5) fun _ m6 => if v3 = 0 then (some (x4, m6)) else (some (v4, m6))) else (z_b (f_X5_drawOf (((7919 * (Int32.toInt64 v1)) + (6151 * (Int32.toInt64 v5))) + 1) m) fun x7 m8 => z_cv m8 v0 5 (f_X5_errors v0 0 m8) fun x9 m10 => z_cv m10 v0 5 (f_X5_says v0 (z_mI x7 3) x9 m10) fun _ m11 => z_cv m11 v0 5 (f_X5_isOneWay v0 m11) fun x12 m13 => if x12 = 0 then (f_X5_drill_L92 (f_X5_drill_L42 n) v0 v1 v2 v3 v5 0 v4 m13) else (f_X5_drill_L92 (f_X5_drill_L42 n) v0 v1 v2 v3 v5 1 v4 m13))
def f_X5_drill (v0 : Nat) (v1 : Int32) (v2 : Int32) (v3 : Int32) (m : z_M) : z_R := z_b (f_X5_in v1 0 9999 m) fun x14 m15 => if x14 = 0 then (some ((-1), m15)) else (z_b (f_X5_in v2 1 60 m15) fun x16 m17 => if x16 = 0 then (some ((-1), m17)) else (z_b (f_X5_in v3 0 1 m17) fun x18 m19 => if x18 = 0 then (some ((-1), m19)) else (z_cv m19 v0 5 (f_X5_holds v0 m19) fun _ m20 => f_X5_drill_L42 400 v0 v1 v2 v3 0 0 m20)))
def f_X5_keeps_L51 : Nat → Nat → Int32 → z_M → z_R
  | 0, _, _, _ => none
  | n + 1, v0, v1, m => if 22 ≤ v1 then (z_gI m v0 5 6 fun x1 => z_lt (x1 + 1) fun x2 => z_sI m v0 5 6 x2 fun m3 => some (0, m3)) else (z_gP m v0 5 5 fun a4 => z_gI m v0 5 6 fun x5 => z_gP m v0 5 4 fun a6 => z_al m a6 v1 fun x7 => z_as m a4 ((22 * x5) + v1) x7 fun m8 => f_X5_keeps_L51 n v0 (v1 + 1) m8)
def f_X5_keeps_L49 (v0 : Nat) (m : z_M) : z_R := f_X5_keeps_L51 400 v0 0 m
def f_X5_keeps_L11 : Nat → Nat → Int32 → z_M → z_R
  | 0, _, _, _ => none
  | n + 1, v0, v1, m => if 154 ≤ v1 then (z_gI m v0 5 6 fun x9 => z_lt (x9 - 1) fun x10 => z_sI m v0 5 6 x10 fun m11 => f_X5_keeps_L49 v0 m11) else (z_gP m v0 5 5 fun a12 => z_gP m v0 5 5 fun a13 => z_al m a13 (v1 + 22) fun x14 => z_as m a12 v1 x14 fun m15 => f_X5_keeps_L11 n v0 (v1 + 1) m15)
def f_X5_keeps (v0 : Nat) (m : z_M) : z_R := z_gI m v0 5 6 fun x16 => if x16 = 8 then (f_X5_keeps_L11 400 v0 0 m) else (f_X5_keeps_L49 v0 m)
def f_X5_eyes (v0 : Nat) (v1 : Int32) (m : z_M) : z_R := z_b (f_X5_in v1 0 1 m) fun x1 m2 => if x1 = 0 then (some ((-1), m2)) else (z_cv m2 v0 5 (f_X5_keeps v0 m2) fun _ m3 => z_gP m3 v0 5 4 fun a4 => z_al m3 a4 16 fun x5 => z_gP m3 v0 5 4 fun a6 => z_as m3 a6 16 v1 fun m7 => some (x5, m7))
def f_X5_isFigure (v0 : Int32) (m : z_M) : z_R := z_b (f_X5_in v0 48 57 m) fun x1 m2 => z_rz x1 m2
def f_X5_letterAt (v0 : Nat) (v1 : Int32) (m : z_M) : z_R := z_gI m v0 5 1 fun x1 => if x1 ≤ v1 then (some ((-1), m)) else (z_gP m v0 5 0 fun a2 => z_al m a2 v1 fun x3 => some (x3, m))
def f_X5_number (v0 : Nat) (m : z_M) : z_R := z_gI m v0 5 9 fun x1 => z_cv m v0 5 (f_X5_letterAt v0 x1 m) fun x2 m3 => z_b (f_X5_isFigure x2 m3) fun x4 m5 => if x4 = 0 then (some ((-1), m5)) else (z_gI m5 v0 5 9 fun x6 => z_cv m5 v0 5 (f_X5_letterAt v0 x6 m5) fun x7 m8 => z_lt (x7 - 48) fun x9 => z_gI m8 v0 5 9 fun x10 => z_lt (x10 + 1) fun x11 => z_sI m8 v0 5 9 x11 fun m12 => z_gI m12 v0 5 9 fun x13 => z_cv m12 v0 5 (f_X5_letterAt v0 x13 m12) fun x14 m15 => z_b (f_X5_isFigure x14 m15) fun x16 m17 => if x16 = 0 then (some (x9, m17)) else (z_gI m17 v0 5 9 fun x18 => z_cv m17 v0 5 (f_X5_letterAt v0 x18 m17) fun x19 m20 => z_lt (((10 * x9) + x19) - 48) fun x21 => z_gI m20 v0 5 9 fun x22 => z_lt (x22 + 1) fun x23 => z_sI m20 v0 5 9 x23 fun m24 => some (x21, m24)))
def f_X5_sign_L32 (v2 : Int32) (s0 : Int32) (s1 : Int32) (s2 : Nat) (m : z_M) : z_R := z_lt (s1 + s0) fun x1 => z_sI m s2 5 9 x1 fun m2 => z_rz v2 m2
def f_X5_sign_L17 (v0 : Nat) (s0 : Int32) (m : z_M) : z_R := z_gI m v0 5 9 fun x3 => if s0 = 0 then (f_X5_sign_L32 s0 0 x3 v0 m) else (f_X5_sign_L32 s0 1 x3 v0 m)
def f_X5_sign (v0 : Nat) (v1 : Int32) (m : z_M) : z_R := z_gI m v0 5 9 fun x4 => z_cv m v0 5 (f_X5_letterAt v0 x4 m) fun x5 m6 => if x5 = v1 then (f_X5_sign_L17 v0 1 m6) else (f_X5_sign_L17 v0 0 m6)
def f_X5_readsMan (v0 : Nat) (m : z_M) : z_R := z_cv m v0 5 (f_X5_number v0 m) fun x1 m2 => z_b (f_X5_in x1 0 3 m2) fun x3 m4 => if x3 = 0 then (some (0, m4)) else (z_cv m4 v0 5 (f_X5_sign v0 44 m4) fun x5 m6 => if x5 = 0 then (some (0, m6)) else (z_cv m6 v0 5 (f_X5_number v0 m6) fun x7 m8 => z_b (f_X5_in x7 0 3 m8) fun x9 m10 => if x9 = 0 then (some (0, m10)) else (z_cv m10 v0 5 (f_X5_sign v0 44 m10) fun x11 m12 => if x11 = 0 then (some (0, m12)) else (z_cv m12 v0 5 (f_X5_number v0 m12) fun x13 m14 => z_b (f_X5_in x13 0 7 m14) fun x15 m16 => if x15 = 0 then (some (0, m16)) else (z_cv m16 v0 5 (f_X5_sign v0 44 m16) fun x17 m18 => if x17 = 0 then (some (0, m18)) else (z_cv m18 v0 5 (f_X5_number v0 m18) fun x19 m20 => z_b (f_X5_in x19 0 10 m20) fun x21 m22 => if x21 = 0 then (some (0, m22)) else (z_cv m22 v0 5 (f_X5_sign v0 59 m22) fun x23 m24 => if x23 = 0 then (some (0, m24)) else (z_gP m24 v0 5 3 fun a25 => z_al m24 a25 0 fun x26 => if x26 = 8 then (some (0, m24)) else (z_cv m24 v0 5 (f_X5_adds v0 x1 x7 x13 x19 m24) fun _ m27 => some (1, m27))))))))))
def f_X5_readsOne (v0 : Nat) (v1 : Int32) (v2 : Int32) (m : z_M) : z_R := z_gP m v0 5 3 fun a1 => z_cv m v0 5 (f_X5_number v0 m) fun x2 m3 => z_as m3 a1 v1 x2 fun m4 => z_gP m4 v0 5 3 fun a5 => z_al m4 a5 v1 fun x6 => z_b (f_X5_in x6 0 v2 m4) fun x7 m8 => if x7 = 0 then (some (0, m8)) else (z_cv m8 v0 5 (f_X5_sign v0 59 m8) fun x9 m10 => if x9 = 0 then (some (0, m10)) else (some (1, m10)))
def f_X5_reads_L94 (h9 : Nat → z_M → z_R) (v0 : Nat) (v1 : Int32) (s0 : Int32) (m : z_M) : z_R := if s0 = 0 then (some (v1, m)) else (h9 v0 m)
def f_X5_reads_L93 (h9 : Nat → z_M → z_R) (v0 : Nat) (v1 : Int32) (m : z_M) : z_R := f_X5_reads_L94 h9 v0 v1 0 m
def f_X5_reads_L9 : Nat → Nat → z_M → z_R
  | 0, _, _ => none
  | n + 1, v0, m => z_gI m v0 5 9 fun x1 => z_gI m v0 5 1 fun x2 => if x2 ≤ x1 then (some ((-4), m)) else (z_gI m v0 5 9 fun x3 => z_gP m v0 5 0 fun a4 => z_gI m v0 5 9 fun x5 => z_al m a4 x5 fun x6 => z_gI m v0 5 9 fun x7 => z_lt (x7 + 1) fun x8 => z_sI m v0 5 9 x8 fun m9 => if x6 = 109 then (z_cv m9 v0 5 (f_X5_readsMan v0 m9) fun x14 m15 => f_X5_reads_L94 (f_X5_reads_L9 n) v0 x3 x14 m15) else (if x6 = 122 then (z_cv m9 v0 5 (f_X5_readsOne v0 1 99 m9) fun x12 m13 => f_X5_reads_L94 (f_X5_reads_L9 n) v0 x3 x12 m13) else (if x6 = 101 then (z_cv m9 v0 5 (f_X5_readsOne v0 2 1 m9) fun x10 m11 => if x10 = 0 then (f_X5_reads_L93 (f_X5_reads_L9 n) v0 x3 m11) else (f_X5_reads_L94 (f_X5_reads_L9 n) v0 x3 1 m11)) else (f_X5_reads_L93 (f_X5_reads_L9 n) v0 x3 m9))))
def f_X5_reads (v0 : Nat) (m : z_M) : z_R := z_cv m v0 5 (f_X5_begins v0 m) fun _ m16 => z_sI m16 v0 5 9 0 fun m17 => f_X5_reads_L9 400 v0 m17
def f_X5_fault (v0 : Nat) (m : z_M) : z_R := z_cv m v0 5 (f_X5_reads v0 m) fun x1 m2 => some (x1, m2)
def f_X5_isMan (v0 : Nat) (v1 : Int32) (m : z_M) : z_R := z_gP m v0 5 2 fun a1 => z_al m a1 0 fun x2 => z_b (f_X5_in v1 0 (x2 - 1) m) fun x3 m4 => z_rz x3 m4
def f_X5_follows (v0 : Nat) (v1 : Int32) (m : z_M) : z_R := z_cv m v0 5 (f_X5_isMan v0 v1 m) fun x1 m2 => if x1 = 0 then (some ((-1), m2)) else (z_gP m2 v0 5 4 fun a3 => z_al m2 a3 16 fun x4 => if x4 = 1 then (some (v1, m2)) else (z_cv m2 v0 5 (f_X5_leader v0 v1 m2) fun x5 m6 => some (x5, m6)))
def f_X5_groups_L92 (h21 : Nat → Int32 → Int32 → Int32 → Int32 → Int32 → z_M → z_R) (v0 : Nat) (v1 : Int32) (v2 : Int32) (v4 : Int32) (v5 : Int32) (s0 : Int32) (m : z_M) : z_R := h21 v0 v1 v2 s0 v4 (v5 + 1) m
def f_X5_groups_L78 (h21 : Nat → Int32 → Int32 → Int32 → Int32 → Int32 → z_M → z_R) (v0 : Nat) (v1 : Int32) (v3 : Int32) (v4 : Int32) (v5 : Int32) (s0 : Int32) (s1 : Int32) (m : z_M) : z_R := z_lt (s1 + s0) fun x1 => if v4 ≤ v3 then (f_X5_groups_L92 h21 v0 v1 x1 v4 v5 v3 m) else (f_X5_groups_L92 h21 v0 v1 x1 v4 v5 v4 m)
def f_X5_groups_L64 (h21 : Nat → Int32 → Int32 → Int32 → Int32 → Int32 → z_M → z_R) (v0 : Nat) (v1 : Int32) (v2 : Int32) (v3 : Int32) (v5 : Int32) (s0 : Int32) (m : z_M) : z_R := if s0 = 1 then (f_X5_groups_L78 h21 v0 v1 v3 s0 v5 1 v2 m) else (f_X5_groups_L78 h21 v0 v1 v3 s0 v5 0 v2 m)
def f_X5_groups_L63 (h21 : Nat → Int32 → Int32 → Int32 → Int32 → Int32 → z_M → z_R) (v0 : Nat) (v1 : Int32) (v2 : Int32) (v3 : Int32) (v5 : Int32) (m : z_M) : z_R := f_X5_groups_L64 h21 v0 v1 v2 v3 v5 1 m
def f_X5_groups_L21 : Nat → Nat → Int32 → Int32 → Int32 → Int32 → Int32 → z_M → z_R
  | 0, _, _, _, _, _, _, _ => none
  | n + 1, v0, v1, v2, v3, v4, v5, m => z_gP m v0 5 2 fun a2 => z_al m a2 0 fun x3 => if x3 ≤ v5 then (if v1 = 0 then (some (v2, m)) else (some (v3, m))) else (if v5 ≤ 0 then (f_X5_groups_L63 (f_X5_groups_L21 n) v0 v1 v2 v3 v5 m) else (z_gP m v0 5 4 fun a4 => z_al m a4 v5 fun x5 => z_gP m v0 5 4 fun a6 => z_al m a6 (v5 - 1) fun x7 => if x5 = x7 then (f_X5_groups_L64 (f_X5_groups_L21 n) v0 v1 v2 v3 v5 (v4 + 1) m) else (f_X5_groups_L63 (f_X5_groups_L21 n) v0 v1 v2 v3 v5 m)))
def f_X5_groups (v0 : Nat) (v1 : Int32) (m : z_M) : z_R := z_b (f_X5_in v1 0 1 m) fun x8 m9 => if x8 = 0 then (some ((-1), m9)) else (f_X5_groups_L21 400 v0 v1 0 0 0 0 m9)
def f_X5_lays_L79 (h28 : Nat → Int32 → z_M → z_R) (v0 : Nat) (v1 : Int32) (s0 : Int32) (s1 : Int32) (s2 : Nat) (m : z_M) : z_R := z_as m s2 s1 s0 fun m1 => h28 v0 (v1 + 1) m1
def f_X5_lays_L28 : Nat → Nat → Int32 → z_M → z_R
  | 0, _, _, _ => none
  | n + 1, v0, v1, m => if 22 ≤ v1 then (z_gP m v0 5 4 fun a2 => z_gP m v0 5 2 fun a3 => z_al m a3 2 fun x4 => z_as m a2 16 x4 fun m5 => z_gP m5 v0 5 4 fun a6 => z_as m5 a6 18 (-1) fun m7 => z_sI m7 v0 5 6 0 fun m8 => z_sI m8 v0 5 8 0 fun m9 => some (0, m9)) else (z_gP m v0 5 4 fun a10 => if 8 ≤ v1 then (if 16 ≤ v1 then (f_X5_lays_L79 (f_X5_lays_L28 n) v0 v1 0 v1 a10 m) else (z_gP m v0 5 2 fun a11 => z_al m a11 ((19 + v1) - 8) fun x12 => f_X5_lays_L79 (f_X5_lays_L28 n) v0 v1 x12 v1 a10 m)) else (z_gP m v0 5 2 fun a13 => z_al m a13 (11 + v1) fun x14 => f_X5_lays_L79 (f_X5_lays_L28 n) v0 v1 x14 v1 a10 m))
def f_X5_lays_L2 : Nat → Nat → Int32 → z_M → z_R
  | 0, _, _, _ => none
  | n + 1, v0, v1, m => if 35 ≤ v1 then (f_X5_lays_L28 400 v0 0 m) else (z_gP m v0 5 2 fun a15 => z_gP m v0 5 3 fun a16 => z_al m a16 v1 fun x17 => z_as m a15 v1 x17 fun m18 => f_X5_lays_L2 n v0 (v1 + 1) m18)
def f_X5_lays (v0 : Nat) (m : z_M) : z_R := f_X5_lays_L2 400 v0 0 m
def f_X5_init (v0 : Nat) (m : z_M) : z_R := z_na m 6 200 fun a1 m2 => z_sP m2 v0 5 0 a1 fun m3 => z_na m3 6 35 fun a4 m5 => z_sP m5 v0 5 2 a4 fun m6 => z_na m6 6 35 fun a7 m8 => z_sP m8 v0 5 3 a7 fun m9 => z_na m9 6 22 fun a10 m11 => z_sP m11 v0 5 4 a10 fun m12 => z_na m12 6 176 fun a13 m14 => z_sP m14 v0 5 5 a13 fun m15 => z_na m15 6 44 fun a16 m17 => z_sP m17 v0 5 7 a16 fun m18 => z_sI m18 v0 5 10 (-1) fun m19 => z_na m19 6 22 fun a20 m21 => z_sP m21 v0 5 12 a20 fun m22 => z_cv m22 v0 5 (f_X5_begins v0 m22) fun _ m23 => z_cv m23 v0 5 (f_X5_adds v0 0 0 0 0 m23) fun _ m24 => z_cv m24 v0 5 (f_X5_adds v0 1 0 0 10 m24) fun _ m25 => z_cv m25 v0 5 (f_X5_adds v0 2 0 1 0 m25) fun _ m26 => z_cv m26 v0 5 (f_X5_adds v0 2 0 2 3 m26) fun _ m27 => z_cv m27 v0 5 (f_X5_adds v0 3 0 0 0 m27) fun _ m28 => z_cv m28 v0 5 (f_X5_adds v0 1 0 5 5 m28) fun _ m29 => z_cv m29 v0 5 (f_X5_adds v0 2 0 3 6 m29) fun _ m30 => z_gP m30 v0 5 3 fun a31 => z_as m30 a31 1 4 fun m32 => z_cv m32 v0 5 (f_X5_lays v0 m32) fun _ m33 => some (0, m33)
def f_X5_keep_L13 : Nat → Nat → Int32 → z_M → z_R
  | 0, _, _, _ => none
  | n + 1, v0, v1, m => if 22 ≤ v1 then (z_gI m v0 5 8 fun x1 => z_lt (x1 + 1) fun x2 => z_sI m v0 5 8 x2 fun m3 => z_gI m3 v0 5 8 fun x4 => some (x4, m3)) else (z_gP m v0 5 7 fun a5 => z_gI m v0 5 8 fun x6 => z_gP m v0 5 4 fun a7 => z_al m a7 v1 fun x8 => z_as m a5 ((22 * x6) + v1) x8 fun m9 => f_X5_keep_L13 n v0 (v1 + 1) m9)
def f_X5_keep (v0 : Nat) (m : z_M) : z_R := z_gI m v0 5 8 fun x10 => if x10 = 2 then (some ((-3), m)) else (f_X5_keep_L13 400 v0 0 m)
def f_X5_lay_L70 (v0 : Nat) (v1 : Int32) (m : z_M) : z_R := if v1 = 0 then (some ((-2), m)) else (z_cv m v0 5 (f_X5_lays v0 m) fun _ m1 => z_gP m1 v0 5 2 fun a2 => z_al m1 a2 0 fun x3 => some (x3, m1))
def f_X5_lay_L63 (h26 : Nat → Int32 → Int32 → z_M → z_R) (v0 : Nat) (v2 : Int32) (s0 : Int32) (m : z_M) : z_R := h26 v0 s0 (v2 + 1) m
def f_X5_lay_L26 : Nat → Nat → Int32 → Int32 → z_M → z_R
  | 0, _, _, _, _ => none
  | n + 1, v0, v1, v2, m => z_gP m v0 5 3 fun a4 => z_al m a4 0 fun x5 => if x5 ≤ v2 then (f_X5_lay_L70 v0 v1 m) else (if v1 = 0 then (f_X5_lay_L70 v0 v1 m) else (z_gP m v0 5 3 fun a6 => z_al m a6 (19 + v2) fun x7 => z_gP m v0 5 3 fun a8 => z_al m a8 0 fun x9 => if x9 ≤ x7 then (f_X5_lay_L63 (f_X5_lay_L26 n) v0 v2 0 m) else (f_X5_lay_L63 (f_X5_lay_L26 n) v0 v2 1 m)))
def f_X5_lay_L23 (v0 : Nat) (s0 : Int32) (m : z_M) : z_R := f_X5_lay_L26 400 v0 s0 0 m
def f_X5_lay_L22 (v0 : Nat) (m : z_M) : z_R := f_X5_lay_L23 v0 0 m
def f_X5_lay (v0 : Nat) (m : z_M) : z_R := z_cv m v0 5 (f_X5_reads v0 m) fun x10 m11 => if x10 = (-4) then (z_gP m11 v0 5 3 fun a12 => z_al m11 a12 0 fun x13 => if x13 ≤ 0 then (f_X5_lay_L22 v0 m11) else (f_X5_lay_L23 v0 1 m11)) else (f_X5_lay_L22 v0 m11)
def f_X5_look (v0 : Nat) (v1 : Int32) (v2 : Int32) (m : z_M) : z_R := z_cv m v0 5 (f_X5_isMan v0 v1 m) fun x1 m2 => if x1 = 0 then (some ((-1), m2)) else (z_cv m2 v0 5 (f_X5_isMan v0 v2 m2) fun x3 m4 => if x3 = 0 then (some ((-1), m4)) else (z_cv m4 v0 5 (f_X5_keeps v0 m4) fun _ m5 => z_gP m5 v0 5 4 fun a6 => z_al m5 a6 (8 + v1) fun x7 => z_gP m5 v0 5 4 fun a8 => z_as m5 a8 (8 + v1) v2 fun m9 => some (x7, m9)))
def f_X5_man (v0 : Nat) (v1 : Int32) (v2 : Int32) (m : z_M) : z_R := z_cv m v0 5 (f_X5_isMan v0 v1 m) fun x1 m2 => if x1 = 0 then (some ((-1), m2)) else (if v2 = 0 then (z_gP m2 v0 5 2 fun a3 => z_al m2 a3 (3 + v1) fun x4 => some (x4, m2)) else if v2 = 1 then (z_gP m2 v0 5 4 fun a5 => z_al m2 a5 v1 fun x6 => some (x6, m2)) else if v2 = 2 then (z_gP m2 v0 5 4 fun a7 => z_al m2 a7 (8 + v1) fun x8 => some (x8, m2)) else if v2 = 3 then (z_gP m2 v0 5 2 fun a9 => z_al m2 a9 (27 + v1) fun x10 => some (x10, m2)) else if v2 = 4 then (z_cv m2 v0 5 (f_X5_dueOf v0 v1 m2) fun x11 m12 => some (x11, m12)) else (some ((-1), m2)))
def f_X5_most_L94 (h18 : Nat → Int32 → Int32 → Int32 → Int32 → z_M → z_R) (v0 : Nat) (v1 : Int32) (v2 : Int32) (v4 : Int32) (s0 : Int32) (m : z_M) : z_R := h18 v0 v1 v2 s0 (v4 + 1) m
def f_X5_most_L81 (h18 : Nat → Int32 → Int32 → Int32 → Int32 → z_M → z_R) (v0 : Nat) (v1 : Int32) (v3 : Int32) (v4 : Int32) (v5 : Int32) (s0 : Int32) (m : z_M) : z_R := if v5 ≤ v3 then (f_X5_most_L94 h18 v0 v1 s0 v4 v3 m) else (f_X5_most_L94 h18 v0 v1 s0 v4 v5 m)
def f_X5_most_L60 (h30 : Nat → Int32 → Int32 → Int32 → Int32 → Int32 → Int32 → z_M → z_R) (v0 : Nat) (v1 : Int32) (v2 : Int32) (v3 : Int32) (v4 : Int32) (v6 : Int32) (s0 : Int32) (s1 : Int32) (m : z_M) : z_R := z_lt (s1 + s0) fun x1 => h30 v0 v1 v2 v3 v4 x1 (v6 + 1) m
def f_X5_most_L30 (h18 : Nat → Int32 → Int32 → Int32 → Int32 → z_M → z_R) : Nat → Nat → Int32 → Int32 → Int32 → Int32 → Int32 → Int32 → z_M → z_R
  | 0, _, _, _, _, _, _, _, _ => none
  | n + 1, v0, v1, v2, v3, v4, v5, v6, m => z_gP m v0 5 2 fun a2 => z_al m a2 0 fun x3 => if x3 ≤ v6 then (if v5 ≤ v3 then (f_X5_most_L81 h18 v0 v1 v3 v4 v5 v2 m) else (f_X5_most_L81 h18 v0 v1 v3 v4 v5 v4 m)) else (z_gP m v0 5 4 fun a4 => z_al m a4 v6 fun x5 => if x5 = v4 then (f_X5_most_L60 (f_X5_most_L30 h18 n) v0 v1 v2 v3 v4 v6 1 v5 m) else (f_X5_most_L60 (f_X5_most_L30 h18 n) v0 v1 v2 v3 v4 v6 0 v5 m))
def f_X5_most_L18 : Nat → Nat → Int32 → Int32 → Int32 → Int32 → z_M → z_R
  | 0, _, _, _, _, _, _ => none
  | n + 1, v0, v1, v2, v3, v4, m => if 4 ≤ v4 then (if v1 = 0 then (some (v2, m)) else (some (v3, m))) else (f_X5_most_L30 (f_X5_most_L18 n) 400 v0 v1 v2 v3 v4 0 0 m)
def f_X5_most (v0 : Nat) (v1 : Int32) (m : z_M) : z_R := z_b (f_X5_in v1 0 1 m) fun x6 m7 => if x6 = 0 then (some ((-1), m7)) else (f_X5_most_L18 400 v0 v1 0 (-1) 0 m7)
def f_X5_rows_L115 (h30 : Nat → Int32 → Int32 → Int32 → Int32 → z_M → z_R) (v0 : Nat) (v1 : Int32) (v3 : Int32) (v4 : Int32) (s0 : Int32) (s1 : Int32) (m : z_M) : z_R := z_lt (s1 + s0) fun x1 => z_cv m v0 5 (f_X5_lets v0 m) fun _ m2 => h30 v0 v1 x1 v3 (v4 + 1) m2
def f_X5_rows_L101 (h30 : Nat → Int32 → Int32 → Int32 → Int32 → z_M → z_R) (v0 : Nat) (v1 : Int32) (v2 : Int32) (v3 : Int32) (v4 : Int32) (v6 : Int32) (s0 : Int32) (s1 : Nat) (m : z_M) : z_R := z_sI m s1 5 13 s0 fun m3 => if v6 = 0 then (f_X5_rows_L115 h30 v0 v1 v3 v4 0 v2 m3) else (f_X5_rows_L115 h30 v0 v1 v3 v4 1 v2 m3)
def f_X5_rows_L97 (h30 : Nat → Int32 → Int32 → Int32 → Int32 → z_M → z_R) (v0 : Nat) (v1 : Int32) (v2 : Int32) (v3 : Int32) (v4 : Int32) (v6 : Int32) (s0 : Nat) (m : z_M) : z_R := z_gI m v0 5 13 fun x4 => f_X5_rows_L101 h30 v0 v1 v2 v3 v4 v6 x4 s0 m
def f_X5_rows_L42 (h30 : Nat → Int32 → Int32 → Int32 → Int32 → z_M → z_R) : Nat → Nat → Int32 → Int32 → Int32 → Int32 → Int32 → Int32 → z_M → z_R
  | 0, _, _, _, _, _, _, _, _ => none
  | n + 1, v0, v1, v2, v3, v4, v5, v6, m => if v1 ≤ v6 then (z_cv m v0 5 (f_X5_isOneWay v0 m) fun x5 m6 => if x5 = 0 then (f_X5_rows_L97 h30 v0 v1 v2 v3 v4 x5 v0 m6) else (if v2 = 0 then (f_X5_rows_L101 h30 v0 v1 v2 v3 v4 x5 v4 v0 m6) else (f_X5_rows_L97 h30 v0 v1 v2 v3 v4 x5 v0 m6))) else (z_lt (v5 / 3) fun x7 => z_dv v4 x7 fun x8 => z_cv m v0 5 (f_X5_errors v0 1 m) fun x9 m10 => z_cv m10 v0 5 (f_X5_says v0 (z_mI x8 3) x9 m10) fun _ m11 => f_X5_rows_L42 h30 n v0 v1 v2 v3 v4 x7 (v6 + 1) m11)
def f_X5_rows_L30 : Nat → Nat → Int32 → Int32 → Int32 → Int32 → z_M → z_R
  | 0, _, _, _, _, _, _ => none
  | n + 1, v0, v1, v2, v3, v4, m => if v3 ≤ v4 then (some (v2, m)) else (f_X5_rows_L42 (f_X5_rows_L30 n) 400 v0 v1 v2 v3 v4 v3 0 m)
def f_X5_rows_L11 : Nat → Nat → Int32 → Int32 → Int32 → Int32 → z_M → z_R
  | 0, _, _, _, _, _, _ => none
  | n + 1, v0, v1, v2, v3, v4, m => if v1 ≤ v4 then (f_X5_rows_L30 400 v0 v1 v2 v3 0 m) else (z_lt (v3 * 3) fun x12 => f_X5_rows_L11 n v0 v1 v2 x12 (v4 + 1) m)
def f_X5_rows (v0 : Nat) (v1 : Int32) (m : z_M) : z_R := z_cv m v0 5 (f_X5_holds v0 m) fun _ m13 => f_X5_rows_L11 400 v0 v1 0 1 0 m13
def f_X5_numbers (v0 : Nat) (v1 : Int32) (m : z_M) : z_R := z_b (f_X5_in v1 1 5 m) fun x1 m2 => if x1 = 0 then (some ((-1), m2)) else (z_cv m2 v0 5 (f_X5_rows v0 v1 m2) fun x3 m4 => some (x3, m4))
def f_X5_plan_L36 : Nat → Int32 → Int32 → Int32 → Int32 → z_M → z_R
  | 0, _, _, _, _, _ => none
  | n + 1, v1, v2, v3, v4, m => if v4 ≤ v1 then (if v1 = (-1) then (some (v2, m)) else (if v2 ≤ v1 then (some ((-4), m)) else (some (z_mI v3 3, m)))) else (z_lt (v3 / 3) fun x1 => f_X5_plan_L36 n v1 v2 x1 (v4 + (-1)) m)
def f_X5_plan_L13 : Nat → Nat → Int32 → Int32 → z_M → z_R
  | 0, _, _, _, _ => none
  | n + 1, v0, v1, v2, m => if 5 < v2 then (some ((-4), m)) else (z_cv m v0 5 (f_X5_rows v0 v2 m) fun x2 m3 => if x2 ≤ 0 then (f_X5_plan_L13 n v0 v1 (v2 + 1) m3) else (z_gI m3 v0 5 13 fun x4 => z_lt (v2 - 1) fun x5 => f_X5_plan_L36 400 v1 v2 x4 x5 m3))
def f_X5_plan (v0 : Nat) (v1 : Int32) (m : z_M) : z_R := z_b (f_X5_in v1 (-1) 4 m) fun x6 m7 => if x6 = 0 then (some ((-1), m7)) else (f_X5_plan_L13 400 v0 v1 0 m7)
def f_X5_right_L135 (v3 : Int32) (s0 : Int32) (s1 : Int32) (m : z_M) : z_R := z_lt (s1 + s0) fun x1 => z_b (f_X5_common x1 10 m) fun x2 m3 => if v3 = 0 then (z_dv x1 x2 fun x5 => some (x5, m3)) else (z_dv 10 x2 fun x4 => some (x4, m3))
def f_X5_right_L102 (v0 : Nat) (v1 : Int32) (v2 : Int32) (v3 : Int32) (v5 : Int32) (v6 : Int32) (s0 : Int32) (m : z_M) : z_R := z_gP m v0 5 4 fun a6 => z_al m a6 v1 fun x7 => z_cv m v0 5 (f_X5_turnBy v0 v1 v2 255 m) fun x8 m9 => if (z_mI (x7 + x8) 4) = v5 then (f_X5_right_L135 v3 v6 s0 m9) else (f_X5_right_L135 v3 0 s0 m9)
def f_X5_right_L70 (v0 : Nat) (v1 : Int32) (v2 : Int32) (v3 : Int32) (v5 : Int32) (s0 : Int32) (m : z_M) : z_R := z_gP m v0 5 4 fun a10 => z_al m a10 v1 fun x11 => z_cv m v0 5 (f_X5_turnBy v0 v1 v2 0 m) fun x12 m13 => if (z_mI (x11 + x12) 4) = v5 then (f_X5_right_L102 v0 v1 v2 v3 v5 s0 (10 - s0) m13) else (f_X5_right_L102 v0 v1 v2 v3 v5 s0 0 m13)
def f_X5_right (v0 : Nat) (v1 : Int32) (v2 : Int32) (v3 : Int32) (m : z_M) : z_R := z_cv m v0 5 (f_X5_isMan v0 v1 m) fun x14 m15 => if x14 = 0 then (some ((-1), m15)) else (z_b (f_X5_isWord v2 m15) fun x16 m17 => if x16 = 0 then (some ((-1), m17)) else (z_b (f_X5_in v3 0 1 m17) fun x18 m19 => if x18 = 0 then (some ((-1), m19)) else (z_cv m19 v0 5 (f_X5_turnsAs v0 v1 m19) fun x20 m21 => z_cv m21 v0 5 (f_X5_dueOf v0 v1 m21) fun x22 m23 => z_b (f_X5_turnOf v2 m23) fun x24 m25 => z_lt (z_mI (x22 + x24) 4) fun x26 => z_cv m25 v0 5 (f_X5_mayErr v0 x20 m25) fun x27 m28 => if x27 = 0 then (f_X5_right_L70 v0 v1 v2 v3 x26 0 m28) else (z_gP m28 v0 5 2 fun a29 => z_al m28 a29 (27 + x20) fun x30 => f_X5_right_L70 v0 v1 v2 v3 x26 x30 m28))))
def f_X5_runs_L44 (h14 : Nat → Int32 → Int32 → Int32 → z_M → z_R) (v0 : Nat) (v1 : Int32) (v3 : Int32) (s0 : Int32) (s1 : Int32) (m : z_M) : z_R := z_lt (s1 + s0) fun x1 => h14 v0 v1 x1 (v3 + 1) m
def f_X5_runs_L43 (h14 : Nat → Int32 → Int32 → Int32 → z_M → z_R) (v0 : Nat) (v1 : Int32) (v3 : Int32) (s0 : Int32) (m : z_M) : z_R := f_X5_runs_L44 h14 v0 v1 v3 0 s0 m
def f_X5_runs_L14 : Nat → Nat → Int32 → Int32 → Int32 → z_M → z_R
  | 0, _, _, _, _, _ => none
  | n + 1, v0, v1, v2, v3, m => z_gP m v0 5 2 fun a2 => z_al m a2 0 fun x3 => if x3 ≤ v3 then (some (v2, m)) else (if v3 = v1 then (f_X5_runs_L43 (f_X5_runs_L14 n) v0 v1 v3 v2 m) else (z_cv m v0 5 (f_X5_leader v0 v3 m) fun x4 m5 => if x4 = v1 then (f_X5_runs_L44 (f_X5_runs_L14 n) v0 v1 v3 1 v2 m5) else (f_X5_runs_L43 (f_X5_runs_L14 n) v0 v1 v3 v2 m5)))
def f_X5_runs (v0 : Nat) (v1 : Int32) (m : z_M) : z_R := z_cv m v0 5 (f_X5_isMan v0 v1 m) fun x6 m7 => if x6 = 0 then (some ((-1), m7)) else (f_X5_runs_L14 400 v0 v1 0 0 m7)
def f_X5_safe_L83 (h27 : Nat → Int32 → Int32 → Int32 → z_M → z_R) (v0 : Nat) (v1 : Int32) (v3 : Int32) (s0 : Int32) (m : z_M) : z_R := h27 v0 v1 s0 (v3 + (-1)) m
def f_X5_safe_L82 (h27 : Nat → Int32 → Int32 → Int32 → z_M → z_R) (v0 : Nat) (v1 : Int32) (v2 : Int32) (v3 : Int32) (m : z_M) : z_R := f_X5_safe_L83 h27 v0 v1 v3 v2 m
def f_X5_safe_L51 (h27 : Nat → Int32 → Int32 → Int32 → z_M → z_R) (v0 : Nat) (v1 : Int32) (v2 : Int32) (v3 : Int32) (s0 : Int32) (m : z_M) : z_R := if s0 = (-4) then (f_X5_safe_L82 h27 v0 v1 v2 v3 m) else (if s0 = v1 then (f_X5_safe_L82 h27 v0 v1 v2 v3 m) else (z_gP m v0 5 2 fun a1 => z_al m a1 (3 + s0) fun x2 => if x2 = 0 then (f_X5_safe_L83 h27 v0 v1 v3 v3 m) else (f_X5_safe_L82 h27 v0 v1 v2 v3 m)))
def f_X5_safe_L27 : Nat → Nat → Int32 → Int32 → Int32 → z_M → z_R
  | 0, _, _, _, _, _ => none
  | n + 1, v0, v1, v2, v3, m => if v3 < 0 then (z_sI m v0 5 10 (-1) fun m3 => some (v2, m3)) else (z_sI m v0 5 11 v3 fun m4 => if v3 = v1 then (f_X5_safe_L51 (f_X5_safe_L27 n) v0 v1 v2 v3 (-4) m4) else (z_cv m4 v0 5 (f_X5_leader v0 v1 m4) fun x5 m6 => f_X5_safe_L51 (f_X5_safe_L27 n) v0 v1 v2 v3 x5 m6))
def f_X5_safe (v0 : Nat) (v1 : Int32) (m : z_M) : z_R := z_cv m v0 5 (f_X5_isMan v0 v1 m) fun x7 m8 => if x7 = 0 then (some ((-1), m8)) else (z_sI m8 v0 5 10 v1 fun m9 => z_gP m9 v0 5 2 fun a10 => z_al m9 a10 0 fun x11 => z_lt (x11 - 1) fun x12 => f_X5_safe_L27 400 v0 v1 (-4) x12 m9)
def f_X5_shout_L94 (h18 : Nat → Int32 → Int32 → Int32 → z_M → z_R) (v0 : Nat) (v1 : Int32) (v2 : Int32) (v3 : Int32) (m : z_M) : z_R := h18 v0 v1 v2 (v3 + 1) m
def f_X5_shout_L62 (h18 : Nat → Int32 → Int32 → Int32 → z_M → z_R) (v0 : Nat) (v1 : Int32) (v2 : Int32) (v3 : Int32) (m : z_M) : z_R := z_gP m v0 5 4 fun a1 => z_gP m v0 5 4 fun a2 => z_al m a2 v3 fun x3 => z_lt (z_mI (x3 + 2) 4) fun x4 => z_as m a1 v3 x4 fun m5 => z_gP m5 v0 5 4 fun a6 => z_al m5 a6 21 fun x7 => z_lt (x7 ||| (1 <<< (v3 &&& 31))) fun x8 => z_as m5 a6 21 x8 fun m9 => f_X5_shout_L94 h18 v0 v1 (v2 + 1) v3 m9
def f_X5_shout_L18 : Nat → Nat → Int32 → Int32 → Int32 → z_M → z_R
  | 0, _, _, _, _, _ => none
  | n + 1, v0, v1, v2, v3, m => z_gP m v0 5 2 fun a10 => z_al m a10 0 fun x11 => if x11 ≤ v3 then (some (v2, m)) else (if v3 = v1 then (f_X5_shout_L62 (f_X5_shout_L18 n) v0 v1 v2 v3 m) else (z_gP m v0 5 4 fun a12 => z_al m a12 16 fun x13 => if x13 = 0 then (z_cv m v0 5 (f_X5_leader v0 v3 m) fun x14 m15 => if x14 = (-4) then (f_X5_shout_L94 (f_X5_shout_L18 n) v0 v1 v2 v3 m15) else (z_cv m15 v0 5 (f_X5_comesBy v0 v3 v1 m15) fun x16 m17 => if x16 = 0 then (f_X5_shout_L94 (f_X5_shout_L18 n) v0 v1 v2 v3 m17) else (f_X5_shout_L62 (f_X5_shout_L18 n) v0 v1 v2 v3 m17))) else (f_X5_shout_L94 (f_X5_shout_L18 n) v0 v1 v2 v3 m)))
def f_X5_shout (v0 : Nat) (v1 : Int32) (m : z_M) : z_R := z_cv m v0 5 (f_X5_isMan v0 v1 m) fun x18 m19 => if x18 = 0 then (some ((-1), m19)) else (z_cv m19 v0 5 (f_X5_keeps v0 m19) fun _ m20 => f_X5_shout_L18 400 v0 v1 0 0 m20)
def f_X5_turn (v0 : Nat) (v1 : Int32) (v2 : Int32) (m : z_M) : z_R := z_cv m v0 5 (f_X5_isMan v0 v1 m) fun x1 m2 => if x1 = 0 then (some ((-1), m2)) else (z_b (f_X5_isWord v2 m2) fun x3 m4 => if x3 = 0 then (some ((-1), m4)) else (z_gP m4 v0 5 4 fun a5 => z_al m4 a5 v1 fun x6 => z_cv m4 v0 5 (f_X5_errors v0 1 m4) fun x7 m8 => z_cv m8 v0 5 (f_X5_turnBy v0 v1 v2 x7 m8) fun x9 m10 => some (z_mI (x6 + x9) 4, m10)))
def f_X5_undo_L22 : Nat → Nat → Int32 → z_M → z_R
  | 0, _, _, _ => none
  | n + 1, v0, v1, m => if 22 ≤ v1 then (z_gI m v0 5 6 fun x1 => some (x1, m)) else (z_gP m v0 5 4 fun a2 => z_gP m v0 5 5 fun a3 => z_gI m v0 5 6 fun x4 => z_al m a3 ((22 * x4) + v1) fun x5 => z_as m a2 v1 x5 fun m6 => f_X5_undo_L22 n v0 (v1 + 1) m6)
def f_X5_undo (v0 : Nat) (m : z_M) : z_R := z_gI m v0 5 6 fun x7 => if x7 = 0 then (some ((-2), m)) else (z_gI m v0 5 6 fun x8 => z_lt (x8 - 1) fun x9 => z_sI m v0 5 6 x9 fun m10 => f_X5_undo_L22 400 v0 0 m10)
def f_X5_which_L50 (h24 : Nat → Int32 → Int32 → Int32 → Int32 → z_M → z_R) (v0 : Nat) (v1 : Int32) (v2 : Int32) (v4 : Int32) (s0 : Int32) (s1 : Int32) (m : z_M) : z_R := z_lt (s1 ||| s0) fun x1 => h24 v0 v1 v2 x1 (v4 + 1) m
def f_X5_which_L24 : Nat → Nat → Int32 → Int32 → Int32 → Int32 → z_M → z_R
  | 0, _, _, _, _, _, _ => none
  | n + 1, v0, v1, v2, v3, v4, m => if 3 ≤ v4 then (some (v3, m)) else (z_cv m v0 5 (f_X5_turn v0 v1 v4 m) fun x2 m3 => if x2 = v2 then (f_X5_which_L50 (f_X5_which_L24 n) v0 v1 v2 v4 (1 <<< (v4 &&& 31)) v3 m3) else (f_X5_which_L50 (f_X5_which_L24 n) v0 v1 v2 v4 0 v3 m3))
def f_X5_which (v0 : Nat) (v1 : Int32) (v2 : Int32) (m : z_M) : z_R := z_cv m v0 5 (f_X5_isMan v0 v1 m) fun x4 m5 => if x4 = 0 then (some ((-1), m5)) else (z_b (f_X5_in v2 0 3 m5) fun x6 m7 => if x6 = 0 then (some ((-1), m7)) else (f_X5_which_L24 400 v0 v1 v2 0 0 m7))
def f_X5_who (v0 : Nat) (v1 : Int32) (m : z_M) : z_R := z_b (f_X5_in v1 0 2 m) fun x1 m2 => if x1 = 0 then (some ((-1), m2)) else (z_gP m2 v0 5 2 fun a3 => z_al m2 a3 0 fun x4 => z_lt ((1 <<< (x4 &&& 31)) - 1) fun x5 => if v1 = 0 then (z_cv m2 v0 5 (f_X5_wrong v0 m2) fun x14 m15 => some (x14, m15)) else (if v1 = 1 then (z_gP m2 v0 5 4 fun a8 => z_al m2 a8 20 fun x9 => z_gP m2 v0 5 4 fun a10 => z_al m2 a10 21 fun x11 => z_cv m2 v0 5 (f_X5_wrong v0 m2) fun x12 m13 => some (((x9 ||| x11) &&& x5) &&& (x12 ^^^ (-1)), m13)) else (z_gP m2 v0 5 4 fun a6 => z_al m2 a6 20 fun x7 => some (x7, m2))))
def f_X5_wipe (v0 : Nat) (m : z_M) : z_R := z_gI m v0 5 1 fun x1 => z_sI m v0 5 1 0 fun m2 => some (x1, m2)
def f_X5_word (v0 : Nat) (v1 : Int32) (m : z_M) : z_R := z_b (f_X5_isWord v1 m) fun x1 m2 => if x1 = 0 then (some ((-1), m2)) else (z_gP m2 v0 5 4 fun a3 => z_al m2 a3 17 fun x4 => if x4 = 999 then (some ((-2), m2)) else (z_cv m2 v0 5 (f_X5_keeps v0 m2) fun _ m5 => z_cv m5 v0 5 (f_X5_errors v0 0 m5) fun x6 m7 => z_cv m7 v0 5 (f_X5_says v0 v1 x6 m7) fun _ m8 => z_cv m8 v0 5 (f_X5_wrong v0 m8) fun x9 m10 => z_b (f_X5_ones x9 m10) fun x11 m12 => some (x11, m12)))
def f_X5_write (v0 : Nat) (v1 : Int32) (m : z_M) : z_R := z_b (f_X5_in v1 32 126 m) fun x1 m2 => if x1 = 0 then (some ((-1), m2)) else (z_gI m2 v0 5 1 fun x3 => if x3 = 200 then (some ((-3), m2)) else (z_gP m2 v0 5 0 fun a4 => z_gI m2 v0 5 1 fun x5 => z_as m2 a4 x5 v1 fun m6 => z_gI m6 v0 5 1 fun x7 => z_lt (x7 + 1) fun x8 => z_sI m6 v0 5 1 x8 fun m9 => z_gI m9 v0 5 1 fun x10 => some (x10, m9)))
