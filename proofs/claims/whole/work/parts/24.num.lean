/-! ===== nearest cuts ===== -/
def dst (a b : Int32) : Int32 := if 0 ≤ a - b then a - b else 0 - (a - b)
theorem c_dist (σ : gSt) (a b : Int32) : f_X9_distance σ a b = some (dst a b) := rfl
theorem inL_i {a : Int32} (h : inL a) : 0 ≤ a.toInt ∧ a.toInt ≤ 9999 := ⟨Int32.le_iff_toInt_le.mp h.1, Int32.le_iff_toInt_le.mp h.2⟩
theorem sub_i {a b : Int32} (ha : -100000000 ≤ a.toInt ∧ a.toInt ≤ 100000000) (hb : -100000000 ≤ b.toInt ∧ b.toInt ≤ 100000000) : (a - b).toInt = a.toInt - b.toInt := by
  rw [Int32.toInt_sub, Int.bmod_eq_of_le (by omega) (by omega)]
theorem m_far {a b : Int32} (ha : inL a) (hb : inL b) (σ : gSt) : f_X10_far σ a b = some (dst a b) := by
  unfold f_X10_far
  rw [k1i, k1s, k1s]
  have a1 := inL_i ha
  have b1 := inL_i hb
  have e1 := sub_i (a := a) (b := b) (by omega) (by omega)
  have e2 := sub_i (a := b) (b := a) (by omega) (by omega)
  unfold dst
  by_cases h : a ≤ b
  · rw [if_pos h]
    have h' := Int32.le_iff_toInt_le.mp h
    by_cases h2 : 0 ≤ a - b
    · have h2' : 0 ≤ (a - b).toInt := Int32.le_iff_toInt_le.mp h2
      obtain rfl : a = b := Int32.toInt_inj.mp (by omega)
      rw [if_pos h2]
    · rw [if_neg h2]; congr 1; grind
  · rw [if_neg h]
    have h' : ¬ a.toInt ≤ b.toInt := fun hh => h (Int32.le_iff_toInt_le.mpr hh)
    have h2 : 0 ≤ a - b := Int32.le_iff_toInt_le.mpr (show 0 ≤ (a - b).toInt by omega)
    rw [if_pos h2]
theorem dst_0 {a b : Int32} (ha : inL a) (hb : inL b) (h : dst a b ≤ 0) : a = b := by
  unfold inL at *
  unfold dst at h
  grind
theorem dst_self (a : Int32) : dst a a = 0 := by unfold dst; grind
theorem dst_in {a b z : Int32} (ha : inL a) (hb : inL b) (hz : inL z) : (-z ≤ a - b ∧ a - b ≤ z) ↔ dst a b ≤ z := by
  have a1 := inL_i ha
  have b1 := inL_i hb
  have z1 := inL_i hz
  have e1 := sub_i (a := a) (b := b) (by omega) (by omega)
  have e3 : (-z).toInt = - z.toInt := by rw [Int32.toInt_neg, Int.bmod_eq_of_le (by omega) (by omega)]
  have e4 : (0 - (a - b)).toInt = 0 - (a - b).toInt := sub_i (a := 0) (show -100000000 ≤ (0 : Int) ∧ (0 : Int) ≤ 100000000 by omega) (by omega)
  rw [Int32.le_iff_toInt_le, Int32.le_iff_toInt_le, Int32.le_iff_toInt_le, e3]
  unfold dst
  by_cases h2 : 0 ≤ a - b
  · have h2' : 0 ≤ (a - b).toInt := Int32.le_iff_toInt_le.mp h2
    rw [if_pos h2]; omega
  · have h2' : ¬ 0 ≤ (a - b).toInt := fun hh => h2 (Int32.le_iff_toInt_le.mpr hh)
    rw [if_neg h2, e4]; omega
def sNr (cut : Nat → Int32) (x : Int32) : Nat → Option Int32
  | 0 => none
  | i + 1 => (sNr cut x i).elim (some (cut i)) (fun r => if dst r x ≤ dst (cut i) x then some r else some (cut i))
theorem sNr_1 (cut : Nat → Int32) (x : Int32) : sNr cut x 1 = some (cut 0) := rfl
theorem sNr_congr {cut cut' : Nat → Int32} {x : Int32} {n : Nat} (h : ∀ i, i < n → cut i = cut' i) : sNr cut x n = sNr cut' x n := by
  induction n with
  | zero => rfl
  | succ n ih => rw [sNr, sNr, ih (fun i hi => h i (by omega)), h n (by omega)]
theorem sNr_spec {cut : Nat → Int32} {x : Int32} {n : Nat} (hn : 0 < n) : ∃ r, sNr cut x n = some r ∧ (∃ i, i < n ∧ cut i = r) ∧ ∀ i, i < n → dst r x ≤ dst (cut i) x := by
  induction n with
  | zero => omega
  | succ n ih =>
    rcases Nat.eq_zero_or_pos n with rfl | h0
    · exact ⟨cut 0, rfl, ⟨0, by omega, rfl⟩, fun i hi => by obtain rfl : i = 0 := by omega
                                                            exact Int32.le_refl _⟩
    · obtain ⟨r, e, ⟨j, hj, hr⟩, hm⟩ := ih h0
      rw [sNr, e]
      show ∃ r', (if dst r x ≤ dst (cut n) x then some r else some (cut n)) = some r' ∧ _
      by_cases hx : dst r x ≤ dst (cut n) x
      · rw [if_pos hx]
        refine ⟨r, rfl, ⟨j, by omega, hr⟩, fun i hi => ?_⟩
        by_cases h : i = n
        · subst h; exact hx
        · exact hm i (by omega)
      · rw [if_neg hx]
        refine ⟨cut n, rfl, ⟨n, by omega, rfl⟩, fun i hi => ?_⟩
        by_cases h : i = n
        · subst h; exact Int32.le_refl _
        · have := hm i (by omega)
          grind
def oC (o : Option Int32) : Int32 := o.elim (-1) id
theorem c_nearest_l {σ : gSt} {K nc : Nat} {cut : Nat → Int32} (F : FC σ K nc cut) (hne : ∀ i, i < nc → inL (cut i)) (x : Int32) : ∀ (d i n : Nat), i + d = nc → d < n → f_X0_nearest_l1 σ K x n (nI i) (oC (sNr cut x i)) = some (oC (sNr cut x nc)) := by
  have h1 := F.1
  have h2 := F.2.1
  intro d
  induction d with
  | zero =>
    intro i n hi hn
    obtain ⟨n, rfl⟩ : ∃ m, n = m + 1 := ⟨n - 1, by omega⟩
    rw [f_X0_nearest_l1, h1, if_pos (nI_le (by omega) (by omega)), show i = nc by omega]
  | succ d ih =>
    intro i n hi hn
    obtain ⟨n, rfl⟩ : ∃ m, n = m + 1 := ⟨n - 1, by omega⟩
    have := ih (i + 1) n (by omega) (by omega)
    rw [f_X0_nearest_l1, h1, if_neg (nI_ge (by omega) (by omega)), c_cutAt F (by omega), nI_s1]
    rcases Nat.eq_zero_or_pos i with rfl | h0
    · rw [if_pos (show oC (sNr cut x 0) = -1 from rfl), k1s, k1s]
      exact this
    · obtain ⟨r, e, ⟨j, hj, hr⟩, hm⟩ := sNr_spec (cut := cut) (x := x) h0
      rw [sNr, e] at this
      rw [e]
      have hr1 : ¬ oC (some r) = -1 := by
        have := hne j (by omega)
        rw [hr] at this
        show ¬ r = -1
        unfold inL at this
        grind
      rw [if_neg hr1, k1s, c_dist, k1s, c_dist, k1s]
      change f_X0_nearest_l1 σ K x n (nI (i + 1)) (oC (if dst r x ≤ dst (cut i) x then some r else some (cut i))) = _ at this
      show g_k1 (if dst r x ≤ dst (cut i) x then some r else g_k1 (some (cut i)) fun v14 => some v14) (fun x5 => f_X0_nearest_l1 σ K x n (nI (i + 1)) x5) = _
      by_cases hx : dst r x ≤ dst (cut i) x
      · rw [if_pos hx] at this ⊢; exact this
      · rw [if_neg hx] at this ⊢; exact this
theorem c_nearest {σ : gSt} {K nc : Nat} {cut : Nat → Int32} (F : FC σ K nc cut) (hne : ∀ i, i < nc → inL (cut i)) (x : Int32) : f_X0_nearest σ K x = some (oC (sNr cut x nc)) := by
  have hF := FU_ge
  have h2 := F.2.1
  unfold f_X0_nearest
  rw [show f_X0_nearest_l1 σ K x FU 0 (-1) = _ from c_nearest_l F hne x nc 0 FU (by omega) (by omega), k1s]
def sLo (nc : Nat) (cut : Nat → Int32) (z x : Int32) : Prop := (∃ i, i < nc ∧ dst (cut i) x ≤ z) ∧ ¬ ∃ i, i < nc ∧ cut i = x
def hCut (h : fH) : Nat → Int32 := fun i => h (8 + i)
def cutL (h : fH) : Prop := h 7 = nI (nC h) ∧ nC h ≤ 20 ∧ ∀ i, i < nC h → inL (hCut h i)
theorem Inv.cutL {h : fH} {k : fK} (I : Inv h k) : cutL h := by
  obtain ⟨h1, h2, h3, -⟩ := I.2.1
  have hl := I.1.1
  refine ⟨h1, h2, fun i hi => ?_⟩
  obtain ⟨a, b⟩ := h3 i hi
  unfold inL hCut
  exact ⟨by grind, by grind⟩
theorem c_setting {σ : gSt} {f : Nat} {h : fH} {k : fK} (F : FR σ f h k) {j : Nat} (hj : j < 6) : f_X3_setting σ f (nI j) = some (h (1 + j)) := by
  have e : f_X9_isSetting σ (nI j) = some 1 := by
    unfold f_X9_isSetting
    rw [if_neg (nI_pos (by omega)), if_neg (show ¬ (6 : Int32) ≤ nI j from nI_ge (b := 6) (a := j) (by omega) (by omega))]
    rfl
  unfold f_X3_setting
  rw [e, k1s, if_neg (by decide), gald_n (by omega) (by omega), k1s, k1s, F.2.1 j hj]
theorem c_set0 {σ : gSt} {f : Nat} {h : fH} {k : fK} (F : FR σ f h k) : f_X3_setting σ f 0 = some (h 1) := c_setting F (j := 0) (by omega)
theorem c_set1 {σ : gSt} {f : Nat} {h : fH} {k : fK} (F : FR σ f h k) : f_X3_setting σ f 1 = some (h 2) := c_setting F (j := 1) (by omega)
theorem c_set2 {σ : gSt} {f : Nat} {h : fH} {k : fK} (F : FR σ f h k) : f_X3_setting σ f 2 = some (h 3) := c_setting F (j := 2) (by omega)
theorem c_set3 {σ : gSt} {f : Nat} {h : fH} {k : fK} (F : FR σ f h k) : f_X3_setting σ f 3 = some (h 4) := c_setting F (j := 3) (by omega)
theorem c_set4 {σ : gSt} {f : Nat} {h : fH} {k : fK} (F : FR σ f h k) : f_X3_setting σ f 4 = some (h 5) := c_setting F (j := 4) (by omega)
theorem c_set5 {σ : gSt} {f : Nat} {h : fH} {k : fK} (F : FR σ f h k) : f_X3_setting σ f 5 = some (h 6) := c_setting F (j := 5) (by omega)
theorem FR.fc {σ : gSt} {f : Nat} {h : fH} {k : fK} (F : FR σ f h k) (C : cutL h) : FC σ (f + 2) (nC h) (hCut h) :=
  ⟨F.2.2.1.trans C.1, C.2.1, F.2.2.2.1⟩
def hLo (h : fH) (x : Int32) : Prop := sLo (nC h) (hCut h) (h 2) x
theorem c_isLoose {σ : gSt} {f : Nat} {h : fH} {k : fK} (F : FR σ f h k) (C : cutL h) {x : Int32} (hx : inL x) : f_X3_isLoose σ f x = some (b01 (hLo h x)) := by
  unfold f_X3_isLoose
  rw [c_nearest (F.fc C) C.2.2, k1s, c_set1 F, c_dist]
  simp only [k1i, k1s, gz0, gz1]
  rcases Nat.eq_zero_or_pos (nC h) with h0 | h0
  · rw [h0]
    rw [if_pos (show oC (sNr (hCut h) x 0) = -1 from rfl), b01_f]
    rintro ⟨⟨i, hi, -⟩, -⟩
    omega
  · obtain ⟨r, e, ⟨j, hj, hr⟩, hm⟩ := sNr_spec (cut := hCut h) (x := x) h0
    have hrL := C.2.2 j hj
    rw [hr] at hrL
    rw [e, show oC (some r) = r from rfl, if_neg (show ¬ r = -1 by unfold inL at hrL; grind)]
    by_cases h1 : r = x
    · rw [if_pos h1, b01_f]
      rintro ⟨-, h2⟩
      exact h2 ⟨j, hj, hr.trans h1⟩
    · rw [if_neg h1]
      by_cases h2 : h 2 < dst r x
      · rw [if_pos h2, b01_f]
        rintro ⟨⟨i, hi, h3⟩, -⟩
        have := hm i hi
        grind
      · rw [if_neg h2, b01_t]
        refine ⟨⟨j, hj, ?_⟩, ?_⟩
        · rw [hr]; exact Int32.not_lt.mp h2
        · rintro ⟨i, hi, h3⟩
          have h4 := hm i hi
          rw [h3, dst_self] at h4
          exact h1 (dst_0 hrL hx h4)
/-! the reference's cuts -/
theorem m_cutG {σ : gSt} {i : Nat} (hi : i < 20) : gald σ 1 926 (8 + nI i) = some (hCut (σ 1) i) := by
  rw [show (8 : Int32) = nI 8 from rfl, nI_add, gald_n (by omega) (by omega)]; rfl
theorem m_isCut_l {σ : gSt} (C : cutL (σ 1)) (x : Int32) : ∀ (d i n : Nat), i + d = nC (σ 1) → d < n → (∀ j, j < i → hCut (σ 1) j ≠ x) → f_X10_isCut_l1 σ x n (nI i) = some (b01 (∃ i, i < nC (σ 1) ∧ hCut (σ 1) i = x)) := by
  obtain ⟨h1, h2, h3⟩ := C
  intro d
  induction d with
  | zero =>
    intro i n hi hn hj
    obtain ⟨n, rfl⟩ : ∃ m, n = m + 1 := ⟨n - 1, by omega⟩
    rw [f_X10_isCut_l1, h1, if_pos (nI_le (by omega) (by omega)), b01_f]
    rintro ⟨j, hjn, he⟩
    exact hj j (by omega) he
  | succ d ih =>
    intro i n hi hn hj
    obtain ⟨n, rfl⟩ : ∃ m, n = m + 1 := ⟨n - 1, by omega⟩
    rw [f_X10_isCut_l1, h1, if_neg (nI_ge (by omega) (by omega)), m_cutG (by omega), k1s]
    by_cases hx : hCut (σ 1) i = x
    · rw [if_pos hx, b01_t ⟨i, by omega, hx⟩]
    · rw [if_neg hx, nI_s1]
      exact ih (i + 1) n (by omega) (by omega) (fun j hj' => by
        by_cases h : j = i
        · subst h; exact hx
        · exact hj j (by omega))
theorem m_isCut {σ : gSt} (C : cutL (σ 1)) (x : Int32) : f_X10_isCut σ x = some (b01 (∃ i, i < nC (σ 1) ∧ hCut (σ 1) i = x)) := by
  have hF := FU_ge
  have h2 := C.2.1
  unfold f_X10_isCut
  exact m_isCut_l C x (nC (σ 1)) 0 FU (by omega) (by omega) (fun j hj => by omega)
theorem m_isLoose_l {σ : gSt} (C : cutL (σ 1)) (hz : inL (σ 1 2)) {x : Int32} (hx : inL x) : ∀ (d i n : Nat), i + d = nC (σ 1) → d < n → f_X10_isLoose_l1 σ x n (nI i) (b01 (∃ j, j < i ∧ dst (hCut (σ 1) j) x ≤ σ 1 2)) = some (b01 (∃ j, j < nC (σ 1) ∧ dst (hCut (σ 1) j) x ≤ σ 1 2)) := by
  obtain ⟨h1, h2, h3⟩ := C
  intro d
  induction d with
  | zero =>
    intro i n hi hn
    obtain ⟨n, rfl⟩ : ∃ m, n = m + 1 := ⟨n - 1, by omega⟩
    rw [f_X10_isLoose_l1, h1, if_pos (nI_le (by omega) (by omega)), show i = nC (σ 1) by omega]
  | succ d ih =>
    intro i n hi hn
    obtain ⟨n, rfl⟩ : ∃ m, n = m + 1 := ⟨n - 1, by omega⟩
    have := ih (i + 1) n (by omega) (by omega)
    rw [f_X10_isLoose_l1, h1, if_neg (nI_ge (by omega) (by omega)), m_cutG (by omega), k1s, m_in, k1s, nI_s1]
    by_cases hp : ∃ j, j < i ∧ dst (hCut (σ 1) j) x ≤ σ 1 2
    · rw [b01_t hp, if_neg (by decide), k1s]
      rw [b01_t (by obtain ⟨j, hj, he⟩ := hp; exact ⟨j, by omega, he⟩)] at this
      exact this
    · rw [b01_f hp, if_pos rfl, b01_c (dst_in (h3 i (by omega)) hx hz)]
      by_cases hq : dst (hCut (σ 1) i) x ≤ σ 1 2
      · rw [b01_t hq, if_neg (by decide), k1s]
        rw [b01_t ⟨i, by omega, hq⟩] at this
        exact this
      · rw [b01_f hq, if_pos rfl, k1s]
        rw [b01_f (by
          rintro ⟨j, hj, he⟩
          by_cases h : j = i
          · subst h; exact hq he
          · exact hp ⟨j, by omega, he⟩)] at this
        exact this
theorem m_isLoose {σ : gSt} (C : cutL (σ 1)) (hz : inL (σ 1 2)) {x : Int32} (hx : inL x) : f_X10_isLoose σ x = some (b01 (hLo (σ 1) x)) := by
  have hF := FU_ge
  have h2 := C.2.1
  unfold f_X10_isLoose
  have e : f_X10_isLoose_l1 σ x FU 0 0 = some (b01 (∃ j, j < nC (σ 1) ∧ dst (hCut (σ 1) j) x ≤ σ 1 2)) := by
    have := m_isLoose_l C hz hx (nC (σ 1)) 0 FU (by omega) (by omega)
    rw [b01_f (P := ∃ j, j < 0 ∧ dst (hCut (σ 1) j) x ≤ σ 1 2) (by rintro ⟨j, hj, -⟩; omega)] at this
    exact this
  rw [e, k1s, m_isCut C, k1s]
  by_cases h1 : ∃ j, j < nC (σ 1) ∧ dst (hCut (σ 1) j) x ≤ σ 1 2
  · rw [b01_t h1, if_neg (by decide)]
    by_cases h3 : ∃ i, i < nC (σ 1) ∧ hCut (σ 1) i = x
    · rw [b01_t h3, if_neg (by decide), b01_f (fun h => h.2 h3)]; rfl
    · rw [b01_f h3, if_pos rfl, b01_t (P := hLo (σ 1) x) ⟨h1, h3⟩]; rfl
  · rw [b01_f h1, if_pos rfl, b01_f (fun h => h1 h.1)]; rfl
theorem m_nearest_l {σ : gSt} (C : cutL (σ 1)) {x : Int32} (hx : inL x) : ∀ (d i n : Nat), i + d = nC (σ 1) → 0 < i → d < n → f_X10_nearest_l1 σ x n (nI i) (oC (sNr (hCut (σ 1)) x i)) = some (oC (sNr (hCut (σ 1)) x (nC (σ 1)))) := by
  obtain ⟨h1, h2, h3⟩ := C
  intro d
  induction d with
  | zero =>
    intro i n hi h0 hn
    obtain ⟨n, rfl⟩ : ∃ m, n = m + 1 := ⟨n - 1, by omega⟩
    rw [f_X10_nearest_l1, h1, if_pos (nI_le (by omega) (by omega)), show i = nC (σ 1) by omega]
  | succ d ih =>
    intro i n hi h0 hn
    obtain ⟨n, rfl⟩ : ∃ m, n = m + 1 := ⟨n - 1, by omega⟩
    have := ih (i + 1) n (by omega) (by omega) (by omega)
    obtain ⟨r, e, ⟨j, hj, hr⟩, hm⟩ := sNr_spec (cut := hCut (σ 1)) (x := x) h0
    have hrL := h3 j (by omega)
    rw [hr] at hrL
    rw [sNr, e] at this
    rw [f_X10_nearest_l1, h1, if_neg (nI_ge (by omega) (by omega)), m_cutG (by omega), k1s, m_far (h3 i (by omega)) hx, k1s, nI_s1, e, show oC (some r) = r from rfl, m_far hrL hx, k1s]
    change f_X10_nearest_l1 σ x n (nI (i + 1)) (oC (if dst r x ≤ dst (hCut (σ 1) i) x then some r else some (hCut (σ 1) i))) = _ at this
    by_cases hq : dst r x ≤ dst (hCut (σ 1) i) x
    · rw [if_pos hq] at this ⊢; exact this
    · rw [if_neg hq] at this ⊢; exact this
theorem m_nearest {σ : gSt} (C : cutL (σ 1)) {x : Int32} (hx : inL x) (h0 : 0 < nC (σ 1)) : f_X10_nearest σ x = some (oC (sNr (hCut (σ 1)) x (nC (σ 1)))) := by
  have hF := FU_ge
  have h2 := C.2.1
  unfold f_X10_nearest
  rw [show f_X10_nearest_l1 σ x FU 1 (σ 1 8) = _ from m_nearest_l C hx (nC (σ 1) - 1) 1 FU (by omega) (by omega) (by omega), k1s]
/-! counts of cuts -/
def inB (cut : Nat → Int32) (a b : Int32) : Nat → Bool := fun i => decide (a < cut i ∧ cut i < b)
theorem c_cutsWithin {σ : gSt} {h : fH} {k : fK} (F : FR σ 1 h k) (C : cutL h) (L : trkL h k) {t c : Nat} (ht : t < 2) (hc : c < nT h t) (hfe : k t c 0 < k t c 1) : f_X2_cutsWithin σ (nI t) (nI c) = some (nI (cB (inB (hCut h) (k t c 0) (k t c 1)) (nC h))) := by
  obtain ⟨-, -, l3⟩ := L t ht
  obtain ⟨-, q1, q2⟩ := l3 c hc
  unfold f_X2_cutsWithin
  rw [c_trackOf σ 1 ht, k1s, c_end (F.trk ht) hc, k1s, c_first (F.trk ht) hc]
  rw [show f_X0_upTo σ (1 + 2) (k t c 1 - 1) = _ from c_upTo (F.fc C) _, k1s, k1s, show f_X0_upTo σ (1 + 2) (k t c 0) = _ from c_upTo (F.fc C) _, k1s]
  have e : cB (upB (hCut h) (k t c 1 - 1)) (nC h) = cB (upB (hCut h) (k t c 0)) (nC h) + cB (inB (hCut h) (k t c 0) (k t c 1)) (nC h) := by
    apply cB_sub
    intro i hi
    unfold inL at q1 q2
    simp only [upB, inB, decide_eq_true_eq]
    grind
  rw [e, ← nI_add]
  congr 1
  grind
theorem m_cutsWithin_l {σ : gSt} (C : cutL (σ 1)) {t c : Nat} (ht : t < 2) (hc : c < 16) (q1 : inL (gK (σ 1) t c 0)) (q2 : inL (gK (σ 1) t c 1)) : ∀ (d i n : Nat), i + d = nC (σ 1) → d < n → f_X10_cutsWithin_l1 σ (nI t) (nI c) n (nI i) (nI (cB (inB (hCut (σ 1)) (gK (σ 1) t c 0) (gK (σ 1) t c 1)) i)) = some (nI (cB (inB (hCut (σ 1)) (gK (σ 1) t c 0) (gK (σ 1) t c 1)) (nC (σ 1)))) := by
  obtain ⟨h1, h2, h3⟩ := C
  intro d
  induction d with
  | zero =>
    intro i n hi hn
    obtain ⟨n, rfl⟩ : ∃ m, n = m + 1 := ⟨n - 1, by omega⟩
    rw [f_X10_cutsWithin_l1, h1, if_pos (nI_le (by omega) (by omega)), show i = nC (σ 1) by omega]
  | succ d ih =>
    intro i n hi hn
    obtain ⟨n, rfl⟩ : ∃ m, n = m + 1 := ⟨n - 1, by omega⟩
    have := ih (i + 1) n (by omega) (by omega)
    rw [cB_s] at this
    rw [f_X10_cutsWithin_l1, h1, if_neg (nI_ge (by omega) (by omega)), m_cutG (by omega), k1s, m_first ht hc, k1s, m_end ht hc, k1s, m_in, k1s, nI_s1 i]
    have hcL := h3 i (by omega)
    rw [b01_c (show (gK (σ 1) t c 0 + 1 ≤ hCut (σ 1) i ∧ hCut (σ 1) i ≤ gK (σ 1) t c 1 - 1) ↔ (gK (σ 1) t c 0 < hCut (σ 1) i ∧ hCut (σ 1) i < gK (σ 1) t c 1) by
      unfold inL at q1 q2 hcL
      grind)]
    by_cases hp : gK (σ 1) t c 0 < hCut (σ 1) i ∧ hCut (σ 1) i < gK (σ 1) t c 1
    · rw [b01_t hp, if_neg (by decide), k1s, nI_s1]
      rw [if_pos (by simp only [inB, decide_eq_true_eq]; exact hp)] at this
      exact this
    · rw [b01_f hp, if_pos rfl, k1s, Int32.add_zero]
      rw [if_neg (by simp only [inB, decide_eq_true_eq]; exact hp)] at this
      exact this
theorem m_cutsWithin {σ : gSt} (C : cutL (σ 1)) {t c : Nat} (ht : t < 2) (hc : c < 16) (q1 : inL (gK (σ 1) t c 0)) (q2 : inL (gK (σ 1) t c 1)) : f_X10_cutsWithin σ (nI t) (nI c) = some (nI (cB (inB (hCut (σ 1)) (gK (σ 1) t c 0) (gK (σ 1) t c 1)) (nC (σ 1)))) := by
  have hF := FU_ge
  have h2 := C.2.1
  unfold f_X10_cutsWithin
  rw [show f_X10_cutsWithin_l1 σ (nI t) (nI c) FU 0 0 = _ from m_cutsWithin_l C ht hc q1 q2 (nC (σ 1)) 0 FU (by omega) (by omega), k1s]
