/-! ===== retiming: a frame by two points ===== -/
def pts (u v x y : Int32) : Prop := inL u ∧ inL v ∧ inL x ∧ inL y ∧ u ≠ x ∧ v ≠ y ∧ (u < x ↔ v < y)
def iAb (a b : Int) : Int := if b ≤ a then a - b else b - a
def rtI (u v x y f : Int) : Int := v + (2 * ((f - u) * iAb y v) + iAb x u) / (2 * iAb x u)
def sRt (u v x y f : Int32) : Int32 := Int32.ofInt (rtI u.toInt v.toInt x.toInt y.toInt f.toInt)
theorem mul_bd {a b A B : Int} (ha : -A ≤ a ∧ a ≤ A) (hb : 0 ≤ b ∧ b ≤ B) : -(A * B) ≤ a * b ∧ a * b ≤ A * B := by
  have h0 : 0 ≤ A := by omega
  have h1 : a * b ≤ A * b := Int.mul_le_mul_of_nonneg_right ha.2 hb.1
  have h2 : A * b ≤ A * B := Int.mul_le_mul_of_nonneg_left hb.2 h0
  have h3 : -A * b ≤ a * b := Int.mul_le_mul_of_nonneg_right ha.1 hb.1
  have h4 : -A * b = -(A * b) := Int.neg_mul A b
  omega
theorem fl_bd {n d m : Int} (hd : 0 < d) (hm : 0 ≤ m) (h : -m ≤ n ∧ n ≤ m) : -m ≤ n / d ∧ n / d ≤ m := by
  have e := Int.emod_add_mul_ediv n d
  have p := Int.emod_nonneg n (show d ≠ 0 by omega)
  have q := Int.emod_lt_of_pos n hd
  refine ⟨?_, ?_⟩
  · rw [Int.le_ediv_iff_mul_le hd]
    have h1 : (-m) * d ≤ (-m) * 1 := Int.mul_le_mul_of_nonpos_left (by omega) (by omega)
    omega
  · by_cases h0 : n / d ≤ 0
    · omega
    · have h1 : 1 * (n / d) ≤ d * (n / d) := Int.mul_le_mul_of_nonneg_right (by omega) (by omega)
      omega
theorem ab_i {a b : Int32} (ha : inL a) (hb : inL b) : (dst a b).toInt = iAb a.toInt b.toInt := by
  have h1 := inL_i ha
  have h2 := inL_i hb
  have e : (a - b).toInt = a.toInt - b.toInt := sub_i (by omega) (by omega)
  have z : (0 : Int32).toInt = 0 := rfl
  unfold dst iAb
  by_cases h : 0 ≤ a - b
  · have h' := Int32.le_iff_toInt_le.mp h
    rw [if_pos h, if_pos (by omega), e]
  · have h' : ¬ (0 : Int32).toInt ≤ (a - b).toInt := fun hh => h (Int32.le_iff_toInt_le.mpr hh)
    rw [if_neg h, if_neg (by omega), sub_i (by omega) (by omega)]
    omega
theorem iAb_pos {a b : Int} (h : a ≠ b) : 0 < iAb a b := by unfold iAb; split <;> omega
theorem iAb_le {a b : Int} (ha : 0 ≤ a ∧ a ≤ 9999) (hb : 0 ≤ b ∧ b ≤ 9999) : 0 ≤ iAb a b ∧ iAb a b ≤ 9999 := by unfold iAb; split <;> omega
theorem mul_i {a b : Int32} (h : -2000000000 ≤ a.toInt * b.toInt ∧ a.toInt * b.toInt ≤ 2000000000) : (a * b).toInt = a.toInt * b.toInt := by
  rw [Int32.toInt_mul, Int.bmod_eq_of_le (by omega) (by omega)]
theorem addb_i {a b : Int32} (h : -2000000000 ≤ a.toInt + b.toInt ∧ a.toInt + b.toInt ≤ 2000000000) : (a + b).toInt = a.toInt + b.toInt := by
  rw [Int32.toInt_add, Int.bmod_eq_of_le (by omega) (by omega)]
theorem subb_i {a b : Int32} (h : -2000000000 ≤ a.toInt - b.toInt ∧ a.toInt - b.toInt ≤ 2000000000) : (a - b).toInt = a.toInt - b.toInt := by
  rw [Int32.toInt_sub, Int.bmod_eq_of_le (by omega) (by omega)]
theorem tdiv_bd {n d m : Int} (hd : 0 < d) (h : -m ≤ n ∧ n ≤ m) : -m ≤ n.tdiv d ∧ n.tdiv d ≤ m := by
  by_cases h0 : 0 ≤ n
  · have h1 := Int.tdiv_nonneg h0 (show 0 ≤ d by omega)
    have h2 : n.tdiv d ≤ n := Int.tdiv_le_self _ h0
    omega
  · have e : n.tdiv d = -((-n).tdiv d) := by rw [Int.neg_tdiv, Int.neg_neg]
    have h1 := Int.tdiv_nonneg (show 0 ≤ -n by omega) (show 0 ≤ d by omega)
    have h2 : (-n).tdiv d ≤ -n := Int.tdiv_le_self _ (by omega)
    omega
theorem div_i {a b : Int32} (h : -2000000000 ≤ a.toInt ∧ a.toInt ≤ 2000000000) (hb : 0 < b.toInt) : (a / b).toInt = a.toInt.tdiv b.toInt := by
  have h1 := tdiv_bd (m := 2000000000) hb h
  rw [Int32.toInt_div, Int.bmod_eq_of_le (by omega) (by omega)]
/-- the floor of the division out of the quotient that is cut -/
theorem fl_of_t {n d : Int} (hd : 0 < d) : n / d = if 0 ≤ n then n.tdiv d else if n.tdiv d * d = n then n.tdiv d else n.tdiv d - 1 := by
  by_cases h0 : 0 ≤ n
  · rw [if_pos h0, Int.tdiv_eq_ediv_of_nonneg h0]
  · rw [if_neg h0]
    have e : n.tdiv d = -((-n) / d) := by rw [← Int.tdiv_eq_ediv_of_nonneg (show 0 ≤ -n by omega), Int.neg_tdiv, Int.neg_neg]
    have p := Int.emod_add_mul_ediv (-n) d
    have p0 := Int.emod_nonneg (-n) (show d ≠ 0 by omega)
    have p1 := Int.emod_lt_of_pos (-n) hd
    rw [e]
    generalize (-n) / d = q at *
    generalize (-n) % d = r at *
    have en : n = d * (-q) + -r := by rw [Int.mul_neg]; omega
    have e2 : -q * d = d * -q := Int.mul_comm _ _
    by_cases hr : r = 0
    · rw [if_pos (by omega), en, hr, Int.neg_zero, Int.add_zero, Int.mul_ediv_cancel_left _ (by omega)]
    · rw [if_neg (by omega), en, show d * -q + -r = (d - r) + d * (-q - 1) by rw [Int.mul_sub]; omega, Int.add_mul_ediv_left _ _ (by omega), Int.ediv_eq_zero_of_lt (by omega) (by omega)]
      omega
theorem xor_s {a b : Int32} (hb : 0 ≤ b.toInt) : 0 ≤ a ^^^ b ↔ 0 ≤ a.toInt := by
  have hz : (0 : Int32).toInt = 0 := rfl
  rw [Int32.le_iff_toInt_le, hz]
  have e1 : (a ^^^ b).toBitVec.msb = (a.toBitVec.msb ^^ b.toBitVec.msb) := by rw [Int32.toBitVec_xor, BitVec.msb_xor]
  rw [BitVec.msb_eq_toInt, BitVec.msb_eq_toInt, BitVec.msb_eq_toInt] at e1
  have i1 : (a ^^^ b).toBitVec.toInt = (a ^^^ b).toInt := rfl
  have i2 : a.toBitVec.toInt = a.toInt := rfl
  have i3 : b.toBitVec.toInt = b.toInt := rfl
  rw [i1, i2, i3, decide_eq_false (show ¬ b.toInt < 0 by omega), Bool.xor_false, decide_eq_decide] at e1
  omega
theorem c_floorDiv (σ : gSt) {a b : Int32} (ha : -1000000000 ≤ a.toInt ∧ a.toInt ≤ 1000000000) (hb : 0 < b.toInt) : ∃ r, f_J9_floorDiv_7cf53 σ a b = some r ∧ r.toInt = a.toInt / b.toInt := by
  have hb0 : ¬ b = 0 := fun h => by rw [h] at hb; exact absurd hb (by decide)
  have hd := div_i (a := a) (b := b) (by omega) hb
  have hbd := tdiv_bd (m := 1000000000) hb ha
  have one : (1 : Int32).toInt = 1 := rfl
  refine ⟨if 0 ≤ a ^^^ b then a / b else if a / b * b = a then a / b else a / b - 1, ?_, ?_⟩
  · unfold f_J9_floorDiv_7cf53 gdiv
    rw [if_neg hb0, k1s, ite_some, ite_some]
  · rw [fl_of_t hb]
    by_cases h0 : 0 ≤ a.toInt
    · rw [if_pos ((xor_s (by omega)).mpr h0), if_pos h0, hd]
    · rw [if_neg (fun hh => h0 ((xor_s (by omega)).mp hh)), if_neg h0]
      have e : a.toInt.tdiv b.toInt = -((-a.toInt) / b.toInt) := by rw [← Int.tdiv_eq_ediv_of_nonneg (show 0 ≤ -a.toInt by omega), Int.neg_tdiv, Int.neg_neg]
      have p := Int.emod_add_mul_ediv (-a.toInt) b.toInt
      have p0 := Int.emod_nonneg (-a.toInt) (show b.toInt ≠ 0 by omega)
      have p1 := Int.emod_lt_of_pos (-a.toInt) hb
      have p2 : 0 ≤ b.toInt * (-a.toInt / b.toInt) := Int.mul_nonneg (by omega) (Int.ediv_nonneg (by omega) (by omega))
      have e2 : a.toInt.tdiv b.toInt * b.toInt = -(b.toInt * (-a.toInt / b.toInt)) := by rw [e, Int.neg_mul, Int.mul_comm]
      have em : (a / b * b).toInt = a.toInt.tdiv b.toInt * b.toInt := by rw [mul_i (by rw [hd]; omega), hd]
      by_cases h1 : a / b * b = a
      · rw [if_pos h1, if_pos (by rw [← em, h1]), hd]
      · rw [if_neg h1, if_neg (fun hh => h1 (Int32.toInt_inj.mp (em.trans hh))), subb_i (by rw [hd, one]; omega), hd, one]
theorem fl_neg {n d : Int} (hd : 0 < d) : -((d - 1 - n) / d) = n / d := by
  have p := Int.emod_add_mul_ediv n d
  have p0 := Int.emod_nonneg n (show d ≠ 0 by omega)
  have p1 := Int.emod_lt_of_pos n hd
  generalize n / d = q at *
  generalize n % d = r at *
  rw [show d - 1 - n = (d - 1 - r) + d * (-q) by rw [Int.mul_neg]; omega, Int.add_mul_ediv_left _ _ (by omega), Int.ediv_eq_zero_of_lt (by omega) (by omega)]
  omega
theorem m_floor (σ : gSt) {a b : Int32} (ha : -1000000000 ≤ a.toInt ∧ a.toInt ≤ 1000000000) (hb : 0 < b.toInt) (hb2 : b.toInt ≤ 1000000) : ∃ r, f_X10_floor σ a b = some r ∧ r.toInt = a.toInt / b.toInt := by
  have hb0 : ¬ b = 0 := fun h => by rw [h] at hb; exact absurd hb (by decide)
  have one : (1 : Int32).toInt = 1 := rfl
  have z : (0 : Int32).toInt = 0 := rfl
  by_cases h0 : a < 0
  · have h0' := Int32.lt_iff_toInt_lt.mp h0
    have e1 : (b - 1).toInt = b.toInt - 1 := by rw [subb_i (by rw [one]; omega), one]
    have e2 : (b - 1 - a).toInt = b.toInt - 1 - a.toInt := by rw [subb_i (by rw [e1]; omega), e1]
    have e3 : ((b - 1 - a) / b).toInt = (b.toInt - 1 - a.toInt) / b.toInt := by rw [div_i (by omega) hb, e2, Int.tdiv_eq_ediv_of_nonneg (by omega)]
    have e4 := fl_bd (n := b.toInt - 1 - a.toInt) (m := 1001000000) hb (by omega) (by omega)
    refine ⟨-((b - 1 - a) / b), ?_, ?_⟩
    · unfold f_X10_floor gdiv
      rw [if_pos h0, if_neg hb0, k1s, k1s]
    · rw [Int32.toInt_neg, e3, Int.bmod_eq_of_le (by omega) (by omega), fl_neg hb]
  · have h0' : ¬ a.toInt < (0 : Int32).toInt := fun hh => h0 (Int32.lt_iff_toInt_lt.mpr hh)
    refine ⟨a / b, ?_, ?_⟩
    · unfold f_X10_floor gdiv
      rw [if_neg h0, if_neg hb0, k1s, k1s]
    · rw [div_i (by omega) hb, Int.tdiv_eq_ediv_of_nonneg (by omega)]
theorem sRt_i {u v x y f : Int32} (P : pts u v x y) (hf : inL f) : (sRt u v x y f).toInt = rtI u.toInt v.toInt x.toInt y.toInt f.toInt ∧ -200000000 ≤ (sRt u v x y f).toInt ∧ (sRt u v x y f).toInt ≤ 200000000 := by
  obtain ⟨h1, h2, h3, h4, h5, h6, h7⟩ := P
  have i1 := inL_i h1
  have i2 := inL_i h2
  have i3 := inL_i h3
  have i4 := inL_i h4
  have i5 := inL_i hf
  have a1 := iAb_le i4 i2
  have a2 := iAb_le i3 i1
  have a3 := iAb_pos (fun h => h5 (Int32.toInt_inj.mp h).symm : x.toInt ≠ u.toInt)
  have m1 := mul_bd (a := f.toInt - u.toInt) (b := iAb y.toInt v.toInt) (A := 9999) (B := 9999) (by omega) a1
  have b1 := fl_bd (n := 2 * ((f.toInt - u.toInt) * iAb y.toInt v.toInt) + iAb x.toInt u.toInt) (d := 2 * iAb x.toInt u.toInt) (m := 199990000) (by omega) (by omega) (by omega)
  have e : (sRt u v x y f).toInt = rtI u.toInt v.toInt x.toInt y.toInt f.toInt := by
    unfold sRt
    rw [Int32.toInt_ofInt]
    unfold rtI
    have hs : Int32.size = 4294967296 := rfl
    exact Int.bmod_eq_of_le (by omega) (by omega)
  refine ⟨e, ?_⟩
  rw [e]
  unfold rtI
  omega
theorem sRt_mono {u v x y f f' : Int32} (P : pts u v x y) (hf : inL f) (hf' : inL f') (h : f ≤ f') : sRt u v x y f ≤ sRt u v x y f' := by
  have e := (sRt_i P hf).1
  have e' := (sRt_i P hf').1
  obtain ⟨h1, h2, h3, h4, h5, h6, h7⟩ := P
  have i1 := inL_i h1
  have i2 := inL_i h2
  have i3 := inL_i h3
  have i4 := inL_i h4
  have a1 := iAb_le i4 i2
  have a3 := iAb_pos (fun h => h5 (Int32.toInt_inj.mp h).symm : x.toInt ≠ u.toInt)
  have hh := Int32.le_iff_toInt_le.mp h
  rw [Int32.le_iff_toInt_le, e, e']
  unfold rtI
  have m1 : (f.toInt - u.toInt) * iAb y.toInt v.toInt ≤ (f'.toInt - u.toInt) * iAb y.toInt v.toInt := Int.mul_le_mul_of_nonneg_right (by omega) a1.1
  have := Int.ediv_le_ediv (show 0 < 2 * iAb x.toInt u.toInt by omega) (show 2 * ((f.toInt - u.toInt) * iAb y.toInt v.toInt) + iAb x.toInt u.toInt ≤ 2 * ((f'.toInt - u.toInt) * iAb y.toInt v.toInt) + iAb x.toInt u.toInt by omega)
  omega
theorem c_frameFor {σ : gSt} {k : Nat} {u v x y f : Int32} (P : pts u v x y) (hf : inL f) (e0 : σ k 0 = u) (e1 : σ k 1 = v) (e2 : σ k 2 = dst y v) (e3 : σ k 3 = dst x u) : f_X6_frameFor σ k f = some (sRt u v x y f) := by
  have sr := sRt_i P hf
  obtain ⟨h1, h2, h3, h4, h5, h6, h7⟩ := P
  have i1 := inL_i h1
  have i2 := inL_i h2
  have i3 := inL_i h3
  have i4 := inL_i h4
  have i5 := inL_i hf
  have d1 := ab_i h4 h2
  have d2 := ab_i h3 h1
  have a1 := iAb_le i4 i2
  have a2 := iAb_le i3 i1
  have a3 := iAb_pos (fun h => h5 (Int32.toInt_inj.mp h).symm : x.toInt ≠ u.toInt)
  have m1 := mul_bd (a := f.toInt - u.toInt) (b := iAb y.toInt v.toInt) (A := 9999) (B := 9999) (by omega) a1
  have two : (2 : Int32).toInt = 2 := rfl
  have z : (0 : Int32).toInt = 0 := rfl
  have g1 : (f - u).toInt = f.toInt - u.toInt := subb_i (by omega)
  have g2 : (2 * (f - u)).toInt = 2 * (f.toInt - u.toInt) := by rw [mul_i (by rw [two, g1]; omega), two, g1]
  have g3 : (2 * (f - u) * dst y v).toInt = 2 * ((f.toInt - u.toInt) * iAb y.toInt v.toInt) := by
    have e : 2 * (f.toInt - u.toInt) * iAb y.toInt v.toInt = 2 * ((f.toInt - u.toInt) * iAb y.toInt v.toInt) := Int.mul_assoc _ _ _
    rw [mul_i (by rw [g2, d1, e]; omega), g2, d1, e]
  have g4 : (2 * (f - u) * dst y v + dst x u).toInt = 2 * ((f.toInt - u.toInt) * iAb y.toInt v.toInt) + iAb x.toInt u.toInt := by rw [addb_i (by rw [g3, d2]; omega), g3, d2]
  have g5 : (2 * dst x u).toInt = 2 * iAb x.toInt u.toInt := by rw [mul_i (by rw [two, d2]; omega), two, d2]
  obtain ⟨r, r1, r2⟩ := c_floorDiv σ (a := 2 * (f - u) * dst y v + dst x u) (b := 2 * dst x u) (by omega) (by omega)
  have b1 := fl_bd (n := 2 * ((f.toInt - u.toInt) * iAb y.toInt v.toInt) + iAb x.toInt u.toInt) (d := 2 * iAb x.toInt u.toInt) (m := 199990000) (by omega) (by omega) (by omega)
  unfold f_X6_frameFor
  rw [e0, e1, e2, e3, if_pos (Int32.lt_iff_toInt_lt.mpr (by omega)), r1, k1s]
  congr 1
  rw [g4, g5] at r2
  refine Int32.toInt_inj.mp ?_
  rw [sr.1, addb_i (by omega), r2]
  rfl
theorem m_retimed {σ : gSt} {u v x y f : Int32} (P : pts u v x y) (hf : inL f) : f_X10_retimed σ f u v x y = some (sRt u v x y f) := by
  have sr := sRt_i P hf
  obtain ⟨h1, h2, h3, h4, h5, h6, h7⟩ := P
  have i1 := inL_i h1
  have i2 := inL_i h2
  have i3 := inL_i h3
  have i4 := inL_i h4
  have i5 := inL_i hf
  have a1 := iAb_le i4 i2
  have a2 := iAb_le i3 i1
  have a3 := iAb_pos (fun h => h5 (Int32.toInt_inj.mp h).symm : x.toInt ≠ u.toInt)
  have m1 := mul_bd (a := f.toInt - u.toInt) (b := iAb y.toInt v.toInt) (A := 9999) (B := 9999) (by omega) a1
  have b1 := fl_bd (n := 2 * ((f.toInt - u.toInt) * iAb y.toInt v.toInt) + iAb x.toInt u.toInt) (d := 2 * iAb x.toInt u.toInt) (m := 199990000) (by omega) (by omega) (by omega)
  have two : (2 : Int32).toInt = 2 := rfl
  have mtwo : (-2 : Int32).toInt = -2 := rfl
  have z : (0 : Int32).toInt = 0 := rfl
  have hlt : u < x ↔ u.toInt < x.toInt := Int32.lt_iff_toInt_lt
  have hlt2 : v < y ↔ v.toInt < y.toInt := Int32.lt_iff_toInt_lt
  have ne1 : u.toInt ≠ x.toInt := fun h => h5 (Int32.toInt_inj.mp h)
  have ne2 : v.toInt ≠ y.toInt := fun h => h6 (Int32.toInt_inj.mp h)
  have g0 : (x - u).toInt = x.toInt - u.toInt := subb_i (by omega)
  have g1 : (f - u).toInt = f.toInt - u.toInt := subb_i (by omega)
  have g2 : (y - v).toInt = y.toInt - v.toInt := subb_i (by omega)
  unfold f_X10_retimed
  by_cases hux : u.toInt < x.toInt
  · have hvy : v.toInt < y.toInt := hlt2.mp (h7.mp (hlt.mpr hux))
    have q1 : iAb y.toInt v.toInt = y.toInt - v.toInt := by unfold iAb; rw [if_pos (by omega)]
    have q2 : iAb x.toInt u.toInt = x.toInt - u.toInt := by unfold iAb; rw [if_pos (by omega)]
    rw [q1] at m1
    have g3 : ((f - u) * (y - v)).toInt = (f.toInt - u.toInt) * (y.toInt - v.toInt) := by rw [mul_i (by rw [g1, g2]; omega), g1, g2]
    have g4 : (2 * ((f - u) * (y - v))).toInt = 2 * ((f.toInt - u.toInt) * (y.toInt - v.toInt)) := by rw [mul_i (by rw [two, g3]; omega), two, g3]
    have g5 : (2 * ((f - u) * (y - v)) + (x - u)).toInt = 2 * ((f.toInt - u.toInt) * (y.toInt - v.toInt)) + (x.toInt - u.toInt) := by rw [addb_i (by rw [g4, g0]; omega), g4, g0]
    have g6 : (2 * (x - u)).toInt = 2 * (x.toInt - u.toInt) := by rw [mul_i (by rw [two, g0]; omega), two, g0]
    obtain ⟨r, r1, r2⟩ := m_floor σ (a := 2 * ((f - u) * (y - v)) + (x - u)) (b := 2 * (x - u)) (by omega) (by omega) (by omega)
    rw [if_neg (fun h => by have := Int32.le_iff_toInt_le.mp h; omega), r1, k1s, k1s]
    congr 1
    rw [g5, g6, ← q1, ← q2] at r2
    refine Int32.toInt_inj.mp ?_
    rw [sr.1, addb_i (by omega), r2]
    rfl
  · have hvy : ¬ v.toInt < y.toInt := fun h => hux (hlt.mp (h7.mpr (hlt2.mpr h)))
    have q1 : iAb y.toInt v.toInt = v.toInt - y.toInt := by unfold iAb; rw [if_neg (by omega)]
    have q2 : iAb x.toInt u.toInt = u.toInt - x.toInt := by unfold iAb; rw [if_neg (by omega)]
    have q3 : (f.toInt - u.toInt) * (y.toInt - v.toInt) = -((f.toInt - u.toInt) * (v.toInt - y.toInt)) := by rw [← Int.mul_neg]; congr 1; omega
    rw [q1] at m1
    have g3 : ((f - u) * (y - v)).toInt = (f.toInt - u.toInt) * (y.toInt - v.toInt) := by rw [mul_i (by rw [g1, g2]; omega), g1, g2]
    have g4 : (-2 * ((f - u) * (y - v))).toInt = -2 * ((f.toInt - u.toInt) * (y.toInt - v.toInt)) := by rw [mul_i (by rw [mtwo, g3]; omega), mtwo, g3]
    have g5 : (-2 * ((f - u) * (y - v)) - (x - u)).toInt = 2 * ((f.toInt - u.toInt) * (v.toInt - y.toInt)) + (u.toInt - x.toInt) := by rw [subb_i (by rw [g4, g0]; omega), g4, g0]; omega
    have g6 : (-2 * (x - u)).toInt = 2 * (u.toInt - x.toInt) := by rw [mul_i (by rw [mtwo, g0]; omega), mtwo, g0]; omega
    obtain ⟨r, r1, r2⟩ := m_floor σ (a := -2 * ((f - u) * (y - v)) - (x - u)) (b := -2 * (x - u)) (by omega) (by omega) (by omega)
    rw [if_pos (Int32.le_iff_toInt_le.mpr (by omega)), r1, k1s, k1s]
    congr 1
    rw [g5, g6, ← q1, ← q2] at r2
    refine Int32.toInt_inj.mp ?_
    rw [sr.1, addb_i (by omega), r2]
    rfl
