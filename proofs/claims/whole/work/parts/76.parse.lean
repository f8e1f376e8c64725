/-! ===== reading a text of items: its pieces, on both sides ===== -/
def sg (m : Nat) (u : Nat → Int32) (p : Nat) : Int32 := if p < m then u p else -1
def CB (σ : gSt) (m : Nat) (u : Nat → Int32) : Prop := σ 191 9 = nI 187 ∧ TX σ 187 m u
def MB (τ : gSt) (m : Nat) (u : Nat → Int32) : Prop := τ 0 12 = nI m ∧ m ≤ 60 ∧ τ 6 = u
def cs (σ : gSt) (p : Nat) : gSt := up2 σ 191 8 (nI p)
def ms (τ : gSt) (p : Nat) : gSt := up2 τ 0 13 (nI p)
theorem up2_up2 (σ : gSt) (k j : Nat) (x y : Int32) : up2 (up2 σ k j x) k j y = up2 σ k j y := by
  funext a b; rw [up2_ap, up2_ap, up2_ap]; by_cases h : a = k ∧ b = j <;> simp [h]
theorem up2_sw {σ : gSt} {k j k' j' : Nat} {x y : Int32} (h : ¬ (k = k' ∧ j = j')) : up2 (up2 σ k j x) k' j' y = up2 (up2 σ k' j' y) k j x := by
  funext a b; rw [up2_ap, up2_ap, up2_ap, up2_ap]
  by_cases h1 : a = k' ∧ b = j'
  · by_cases h2 : a = k ∧ b = j
    · exact absurd ⟨h2.1.symm.trans h1.1, h2.2.symm.trans h1.2⟩ h
    · simp [h1, h2]
      intro h3 h4
      exact absurd ⟨h3.symm, h4.symm⟩ h
  · by_cases h2 : a = k ∧ b = j
    · simp [h1, h2]
      exact fun e1 e2 => absurd ⟨e1, e2⟩ h
    · simp [h1, h2]
theorem up2_id {σ : gSt} {k j : Nat} {x : Int32} (h : σ k j = x) : up2 σ k j x = σ := by
  funext a b; rw [up2_ap]
  by_cases h1 : a = k ∧ b = j
  · rw [if_pos h1, h1.1, h1.2, h]
  · rw [if_neg h1]
theorem cs_s (σ : gSt) (p : Nat) : cs σ p 191 8 = nI p := up2_s ..
theorem cs_cs (σ : gSt) (p q : Nat) : up2 (cs σ p) 191 8 (nI q) = cs σ q := up2_up2 ..
theorem ms_s (τ : gSt) (p : Nat) : ms τ p 0 13 = nI p := up2_s ..
theorem ms_ms (τ : gSt) (p q : Nat) : up2 (ms τ p) 0 13 (nI q) = ms τ q := up2_up2 ..
theorem CB.of {σ σ' : gSt} {m : Nat} {u : Nat → Int32} (h : CB σ m u) (h1 : σ' 191 9 = σ 191 9) (h2 : σ' 187 = σ 187) (h3 : σ' 188 = σ 188) : CB σ' m u := ⟨h1.trans h.1, h.2.frame h2 h3⟩
theorem CB.cs {σ : gSt} {m : Nat} {u : Nat → Int32} (h : CB σ m u) (p : Nat) : CB (cs σ p) m u := h.of (up2_j (by omega)) (up2_k (by omega)) (up2_k (by omega))
theorem CB.up {σ : gSt} {m k j : Nat} {u : Nat → Int32} {x : Int32} (h : CB σ m u) (hk : 192 ≤ k ∨ (k = 191 ∧ j = 7)) : CB (up2 σ k j x) m u := h.of (by rw [up2_ap, if_neg (by omega)]) (up2_k (by omega)) (up2_k (by omega))
theorem MB.up {τ : gSt} {m k j : Nat} {u : Nat → Int32} {x : Int32} (h : MB τ m u) (hk : k = 7 ∨ (k = 0 ∧ j ≠ 12)) : MB (up2 τ k j x) m u := ⟨by rw [up2_ap, if_neg (by omega)]; exact h.1, h.2.1, by rw [up2_k (by omega)]; exact h.2.2⟩
theorem n187 : (nI 187).toNatClampNeg = 187 := nI_clamp (by omega)
theorem g187 : gkd 187 = 7 := by decide +kernel
theorem c_sg {σ : gSt} {m p : Nat} {u : Nat → Int32} (B : CB σ m u) (hp : p ≤ 60) : f_X7_signAt (cs σ p) ((cs σ p) 191 9).toNatClampNeg ((cs σ p) 191 8) = some (sg m u p) := by
  have B1 := B.cs p
  rw [B1.1, n187, cs_s]
  unfold sg
  by_cases h : p < m
  · rw [if_pos h]; exact c_tSign B1.2 h
  · rw [if_neg h]; exact c_tSign_out B1.2 (Or.inr (nI_le (by omega) (by omega)))
theorem c_gk {σ : gSt} {m p : Nat} {u : Nat → Int32} (B : CB σ m u) : gkd ((cs σ p) 191 9).toNatClampNeg = 7 := by
  rw [(B.cs p).1, n187]; exact g187
theorem c_step {σ : gSt} {p : Nat} : gset (cs σ p) 191 8 ((cs σ p) 191 8 + 1) = some (cs σ (p + 1)) := by
  rw [gset_n, cs_s, nI_s1, cs_cs]
theorem c_takeSign {σ : gSt} {m p : Nat} {u : Nat → Int32} (B : CB σ m u) (hp : p ≤ 60) (a : Int32) : f_X5_takeSign (cs σ p) a = some (if sg m u p = a then (1, cs σ (p + 1)) else (0, cs σ p)) := by
  unfold f_X5_takeSign
  rw [if_pos (c_gk B), c_sg B hp, k1s]
  by_cases h : sg m u p = a
  · rw [if_pos h, if_pos h, c_step, k1s]
  · rw [if_neg h, if_neg h]
/-- the digits from p on, k at most: where they end, what they say -/
def pnum (m : Nat) (u : Nat → Int32) : Nat → Nat → Int32 → Nat × Int32
  | 0, p, a => (p, a)
  | k + 1, p, a => if 48 ≤ sg m u p ∧ sg m u p ≤ 57 then pnum m u k (p + 1) (a * 10 + sg m u p - 48) else (p, a)
theorem sg_lt {m p : Nat} {u : Nat → Int32} (h : sg m u p ≠ -1) : p < m := by
  unfold sg at h
  by_cases h1 : p < m
  · exact h1
  · rw [if_neg h1] at h; exact absurd rfl h
theorem pnum_b {m : Nat} {u : Nat → Int32} : ∀ (k p : Nat) (a : Int32), p ≤ m → p ≤ (pnum m u k p a).1 ∧ (pnum m u k p a).1 ≤ p + k ∧ (pnum m u k p a).1 ≤ m := by
  intro k
  induction k with
  | zero => intro p a h; exact ⟨Nat.le_refl _, Nat.le_refl _, h⟩
  | succ k ih =>
    intro p a h
    rw [pnum]
    by_cases hd : 48 ≤ sg m u p ∧ sg m u p ≤ 57
    · rw [if_pos hd]
      have hlt : p < m := sg_lt (fun e => by rw [e] at hd; exact absurd hd.1 (by decide))
      obtain ⟨h1, h2, h3⟩ := ih (p + 1) (a * 10 + sg m u p - 48) hlt
      exact ⟨by omega, by omega, h3⟩
    · rw [if_neg hd]; exact ⟨Nat.le_refl _, by show p ≤ _; omega, h⟩
theorem pnum_v {m : Nat} {u : Nat → Int32} : ∀ (k : Nat) (j p : Nat) (a : Int32), k + j = 4 → 0 ≤ a.toInt → a.toInt < 10 ^ j → 0 ≤ (pnum m u k p a).2.toInt ∧ (pnum m u k p a).2.toInt < 10000 := by
  intro k
  induction k with
  | zero =>
    intro j p a hj h0 h1
    have : j = 4 := by omega
    subst this
    exact ⟨h0, h1⟩
  | succ k ih =>
    intro j p a hj h0 h1
    have h4 : (10 : Int) ^ j ≤ 1000 := by
      rcases (show j = 0 ∨ j = 1 ∨ j = 2 ∨ j = 3 by omega) with rfl | rfl | rfl | rfl <;> decide
    rw [pnum]
    by_cases hd : 48 ≤ sg m u p ∧ sg m u p ≤ 57
    · rw [if_pos hd]
      have d1 : (48 : Int32).toInt ≤ (sg m u p).toInt := Int32.le_iff_toInt_le.mp hd.1
      have d2 : (sg m u p).toInt ≤ (57 : Int32).toInt := Int32.le_iff_toInt_le.mp hd.2
      have z48 : (48 : Int32).toInt = 48 := rfl
      have z57 : (57 : Int32).toInt = 57 := rfl
      have z10 : (10 : Int32).toInt = 10 := rfl
      have e1 : (a * 10).toInt = a.toInt * 10 := by rw [mul_i (by rw [z10]; omega), z10]
      have e2 : (a * 10 + sg m u p).toInt = a.toInt * 10 + (sg m u p).toInt := by rw [add_i (by rw [e1]; omega) (by omega), e1]
      have e3 : (a * 10 + sg m u p - 48).toInt = a.toInt * 10 + (sg m u p).toInt - 48 := by rw [sub_i (by rw [e2]; omega) (by rw [z48]; omega), e2, z48]
      refine ih (j + 1) (p + 1) _ (by omega) (by rw [e3]; omega) ?_
      rw [e3, Int.pow_succ]
      omega
    · rw [if_neg hd]
      exact ⟨h0, by show a.toInt < 10000; omega⟩
theorem pnum_n1 {m p : Nat} {u : Nat → Int32} : (pnum m u 4 p 0).2 ≠ -1 := by
  intro h
  have := (pnum_v (m := m) (u := u) 4 0 p 0 rfl (by decide) (by decide)).1
  rw [h] at this
  exact absurd this (by decide)
theorem c_isDigit (σ : gSt) (x : Int32) : f_X5_isDigit σ x = some (b01 (48 ≤ x ∧ x ≤ 57)) := by
  unfold f_X5_isDigit
  simp only [k1i, k1s, gz0, gz1]
  by_cases h : 48 ≤ x ∧ x ≤ 57
  · rw [b01_t h]; grind
  · rw [b01_f h]; grind
theorem c_num_l {σ σ0 : gSt} {m : Nat} {u : Nat → Int32} (B : CB σ m u) (hm : m ≤ 60) : ∀ (k i p f : Nat) (a : Int32), i + k = 4 → k < f → p ≤ m → f_X5_readNumber_l1 σ0 f (nI i) a (cs σ p) = some (nI (i + ((pnum m u k p a).1 - p)), (pnum m u k p a).2, cs σ (pnum m u k p a).1) := by
  intro k
  induction k with
  | zero =>
    intro i p f a hi hf hp
    obtain ⟨n, rfl⟩ : ∃ n, f = n + 1 := ⟨f - 1, by omega⟩
    obtain rfl : i = 4 := by omega
    rw [f_X5_readNumber_l1, if_pos (by decide)]
    show _ = some (nI (4 + (p - p)), a, cs σ p)
    rw [Nat.sub_self]
  | succ k ih =>
    intro i p f a hi hf hp
    obtain ⟨n, rfl⟩ : ∃ n, f = n + 1 := ⟨f - 1, by omega⟩
    rw [f_X5_readNumber_l1, if_neg (show ¬ (4 : Int32) ≤ nI i from nI_ge (b := 4) (by omega) (by omega)), if_pos (c_gk B), c_sg B (by omega), k1s, c_isDigit, k1s, pnum]
    by_cases hd : 48 ≤ sg m u p ∧ sg m u p ≤ 57
    · have hlt : p < m := sg_lt (fun e => by rw [e] at hd; exact absurd hd.1 (by decide))
      rw [b01_t hd, if_neg (by decide), if_pos (c_gk B), k1s, c_step, k1s, nI_s1, if_pos hd, ih (i + 1) (p + 1) n _ (by omega) (by omega) (by omega)]
      have := pnum_b (m := m) (u := u) k (p + 1) (a * 10 + sg m u p - 48) hlt
      rw [show i + 1 + ((pnum m u k (p + 1) (a * 10 + sg m u p - 48)).1 - (p + 1)) = i + ((pnum m u k (p + 1) (a * 10 + sg m u p - 48)).1 - p) by omega]
    · rw [b01_f hd, if_pos rfl, if_neg hd]
      show _ = some (nI (i + (p - p)), a, cs σ p)
      rw [Nat.sub_self]; rfl
theorem c_num {σ : gSt} {m p : Nat} {u : Nat → Int32} (B : CB σ m u) (hm : m ≤ 60) (hp : p ≤ m) : f_X5_readNumber (cs σ p) = some (if (pnum m u 4 p 0).1 = p then -1 else (pnum m u 4 p 0).2, cs σ (pnum m u 4 p 0).1) := by
  have hF := FU_ge
  have hb := pnum_b (m := m) (u := u) 4 p 0 hp
  unfold f_X5_readNumber
  rw [show (0 : Int32) = nI 0 from rfl, c_num_l B hm 4 0 p FU _ rfl (by omega) hp, k3s, show (nI 0 : Int32) = 0 from rfl]
  by_cases h : (pnum m u 4 p 0).1 = p
  · rw [if_pos h, if_pos (by rw [h]; exact nI_le (a := 0 + (p - p)) (b := 0) (by omega) (by omega)), k1s]
  · rw [if_neg h, if_neg (nI_nle (by omega) (by omega)), k1s]
/-- the letters and bars from p on, k at most: where they end -/
noncomputable def pw (m : Nat) (u : Nat → Int32) : Nat → Nat → Nat
  | 0, p => p
  | k + 1, p => @ite Nat (isW (sg m u p)) (Classical.propDecidable _) (pw m u k (p + 1)) p
theorem pw_b {m : Nat} {u : Nat → Int32} : ∀ (k p : Nat), p ≤ m → p ≤ pw m u k p ∧ pw m u k p ≤ p + k ∧ pw m u k p ≤ m := by
  intro k
  induction k with
  | zero => intro p h; exact ⟨Nat.le_refl _, Nat.le_refl _, h⟩
  | succ k ih =>
    intro p h
    rw [pw]
    by_cases hd : isW (sg m u p)
    · rw [if_pos hd]
      have hlt : p < m := sg_lt (fun e => by rw [e] at hd; revert hd; unfold isW; decide)
      obtain ⟨h1, h2, h3⟩ := ih (p + 1) hlt
      exact ⟨by omega, by omega, h3⟩
    · rw [if_neg hd]; exact ⟨Nat.le_refl _, by omega, h⟩
theorem c_skip_l {σ σ0 : gSt} {m : Nat} {u : Nat → Int32} (B : CB σ m u) (hm : m ≤ 60) : ∀ (k i p f : Nat), i + k = 24 → k < f → p ≤ m → f_X5_skipWords_l1 σ0 f (nI i) (cs σ p) = some (cs σ (pw m u k p)) := by
  intro k
  induction k with
  | zero =>
    intro i p f hi hf hp
    obtain ⟨n, rfl⟩ : ∃ n, f = n + 1 := ⟨f - 1, by omega⟩
    obtain rfl : i = 24 := by omega
    rw [f_X5_skipWords_l1, if_pos (by decide)]; rfl
  | succ k ih =>
    intro i p f hi hf hp
    obtain ⟨n, rfl⟩ : ∃ n, f = n + 1 := ⟨f - 1, by omega⟩
    rw [f_X5_skipWords_l1, if_neg (show ¬ (24 : Int32) ≤ nI i from nI_ge (b := 24) (by omega) (by omega)), if_pos (c_gk B), c_sg B (by omega), k1s, c_isWord, k1s, pw]
    by_cases hd : isW (sg m u p)
    · have hlt : p < m := sg_lt (fun e => by rw [e] at hd; revert hd; unfold isW; decide)
      rw [b01_t hd, if_neg (by decide), c_step, k1s, nI_s1, if_pos hd, ih (i + 1) (p + 1) n (by omega) (by omega) (by omega)]
    · rw [b01_f hd, if_pos rfl, if_neg hd]
theorem c_skip {σ : gSt} {m p : Nat} {u : Nat → Int32} (B : CB σ m u) (hm : m ≤ 60) (hp : p ≤ m) : f_X5_skipWords (cs σ p) = some (cs σ (pw m u 24 p)) := by
  have hF := FU_ge
  unfold f_X5_skipWords
  rw [show (0 : Int32) = nI 0 from rfl, c_skip_l B hm 24 0 p FU rfl (by omega) hp, k1s]
theorem c_oneOf {σ : gSt} {m p : Nat} {u : Nat → Int32} (B : CB σ m u) (hp : p ≤ 60) (a b d : Int32) : f_X5_takeOneOf (cs σ p) a b d = some (if sg m u p = -1 then (-1, cs σ p) else if sg m u p = a then (0, cs σ (p + 1)) else if sg m u p = b then (1, cs σ (p + 1)) else if sg m u p = d then (2, cs σ (p + 1)) else (-1, cs σ p)) := by
  unfold f_X5_takeOneOf
  rw [if_pos (c_gk B), c_sg B hp, k1s]
  by_cases h : sg m u p = -1
  · rw [if_pos h, if_pos h]
  · rw [if_neg h, if_neg h]
    by_cases ha : sg m u p = a
    · rw [if_pos ha, if_pos ha, k1s, if_neg (by decide), c_step, k1s, k1s]
    · rw [if_neg ha, if_neg ha]
      by_cases hb : sg m u p = b
      · rw [if_pos hb, if_pos hb, k1s, if_neg (by decide), c_step, k1s, k1s]
      · rw [if_neg hb, if_neg hb]
        by_cases hd : sg m u p = d
        · rw [if_pos hd, if_pos hd, k1s, if_neg (by decide), c_step, k1s, k1s]
        · rw [if_neg hd, if_neg hd, k1s, if_pos rfl, k1s]
/-! ===== the reference's pieces ===== -/
theorem m_here {τ : gSt} {m p : Nat} {u : Nat → Int32} (B : MB τ m u) (hp : p ≤ 60) : f_X10_here (ms τ p) = some (sg m u p) := by
  have e12 : ms τ p 0 12 = nI m := by unfold ms; rw [up2_j (by omega)]; exact B.1
  have e6 : ms τ p 6 = u := by unfold ms; rw [up2_k (by omega)]; exact B.2.2
  have hm := B.2.1
  unfold f_X10_here sg
  rw [e12, ms_s]
  by_cases h : p < m
  · rw [if_neg (nI_ge h (by omega)), if_pos h, gald_n (by omega) (by omega), k1s, k1s, e6]
  · rw [if_pos (nI_le (by omega) (by omega)), if_neg h, k1s]
theorem m_step {τ : gSt} {p : Nat} : gset (ms τ p) 0 13 ((ms τ p) 0 13 + 1) = some (ms τ (p + 1)) := by
  rw [gset_n, ms_s, nI_s1, ms_ms]
theorem m_skips {τ : gSt} {m p : Nat} {u : Nat → Int32} (B : MB τ m u) (hp : p ≤ 60) (a : Int32) : f_X10_skips (ms τ p) a = some (if sg m u p = a then (1, ms τ (p + 1)) else (0, ms τ p)) := by
  unfold f_X10_skips
  rw [m_here B hp, k1s]
  by_cases h : sg m u p = a
  · rw [if_pos h, if_pos h, k1s, if_neg (by decide), k1s, m_step, k1s]; rfl
  · rw [if_neg h, if_neg h, k1s, if_pos rfl, k1s, gset_n, ms_s, show nI p + 0 = nI p by rw [show (0 : Int32) = nI 0 from rfl, nI_add]; rfl, ms_ms, k1s]; rfl
theorem m_digits_l {τ σ4 : gSt} {m : Nat} {u : Nat → Int32} {a0 : Int32} (B : MB τ m u) : ∀ (k i p f : Nat) (a : Int32), i + k = 4 → k < f → p ≤ m → f_X10_digits_l1 a0 σ4 f (nI i) (ms (up2 τ 0 14 a) p) = some (ms (up2 τ 0 14 (pnum m u k p a).2) (pnum m u k p a).1) := by
  have hm := B.2.1
  intro k
  induction k with
  | zero =>
    intro i p f a hi hf hp
    obtain ⟨n, rfl⟩ : ∃ n, f = n + 1 := ⟨f - 1, by omega⟩
    obtain rfl : i = 4 := by omega
    rw [f_X10_digits_l1, if_pos (by decide)]; rfl
  | succ k ih =>
    intro i p f a hi hf hp
    obtain ⟨n, rfl⟩ : ∃ n, f = n + 1 := ⟨f - 1, by omega⟩
    have Ba : ∀ x, MB (up2 τ 0 14 x) m u := fun x => B.up (Or.inr ⟨rfl, by omega⟩)
    rw [f_X10_digits_l1, if_neg (show ¬ (4 : Int32) ≤ nI i from nI_ge (b := 4) (by omega) (by omega)), m_here (Ba a) (by omega), k1s, m_in, k1s, pnum]
    by_cases hd : 48 ≤ sg m u p ∧ sg m u p ≤ 57
    · have hlt : p < m := sg_lt (fun e => by rw [e] at hd; exact absurd hd.1 (by decide))
      have e14 : ms (up2 τ 0 14 a) p 0 14 = a := by unfold ms; rw [up2_j (by omega), up2_s]
      rw [b01_t hd, if_neg (by decide), k1s, e14, gset_n, k1s]
      have e1 : ∀ x, up2 (ms (up2 τ 0 14 a) p) 0 14 x = ms (up2 τ 0 14 x) p := fun x => by unfold ms; rw [up2_sw (by omega), up2_up2]
      rw [e1, m_step, k1s, nI_s1, if_pos hd, show (10 : Int32) * a = a * 10 from Int32.mul_comm .., ih (i + 1) (p + 1) n _ (by omega) (by omega) (by omega)]
    · rw [b01_f hd, if_pos rfl, if_neg hd]
theorem m_digits {τ : gSt} {m p a0 : Nat} {u : Nat → Int32} (B : MB τ m u) (hp : p ≤ m) (ha : a0 < 180) : f_X10_digits (ms τ p) (nI a0) = some (if (pnum m u 4 p 0).1 = p then (0, ms τ p) else (1, ms (up2 (up2 τ 0 14 (pnum m u 4 p 0).2) 7 a0 (pnum m u 4 p 0).2) (pnum m u 4 p 0).1)) := by
  have hm := B.2.1
  have hF := FU_ge
  unfold f_X10_digits
  rw [m_here B (by omega), k1s, m_in, k1s]
  by_cases hd : 48 ≤ sg m u p ∧ sg m u p ≤ 57
  · have hlt : p < m := sg_lt (fun e => by rw [e] at hd; exact absurd hd.1 (by decide))
    have hne : (pnum m u 4 p 0).1 ≠ p := by
      rw [pnum, if_pos hd]
      have := pnum_b (m := m) (u := u) 3 (p + 1) (0 * 10 + sg m u p - 48) hlt
      omega
    rw [b01_t hd, if_neg (by decide), gset_n, k1s, if_neg hne]
    have e1 : up2 (ms τ p) 0 14 0 = ms (up2 τ 0 14 0) p := up2_sw (by omega)
    rw [e1, show (0 : Int32) = nI 0 from rfl, m_digits_l B 4 0 p FU (nI 0) rfl (by omega) hp, k1s, gast_n ha (by omega), k1s]
    have e14 : ∀ (q : Nat) (x : Int32), ms (up2 τ 0 14 x) q 0 14 = x := fun q x => by unfold ms; rw [up2_j (by omega), up2_s]
    rw [e14]
    unfold ms
    rw [up2_sw (k' := 7) (by omega)]
  · rw [b01_f hd, if_pos rfl, if_pos (by rw [pnum, if_neg hd])]
theorem m_words_l {τ σ1 : gSt} {m a0 p0 : Nat} {u : Nat → Int32} (B : MB τ m u) (ha : a0 + 5 < 180) (h4 : τ 7 (a0 + 4) = nI p0) (hp0 : p0 ≤ 60) : ∀ (k p f : Nat), p0 ≤ p → p - p0 + k = 24 → k < f → p ≤ m → f_X10_words_l1 (nI a0) σ1 f (ms τ p) = some (ms τ (pw m u k p)) := by
  have hm := B.2.1
  have g4 : ∀ q, gald (ms τ q) 7 180 (nI a0 + 4) = some (nI p0) := fun q => by
    rw [show (4 : Int32) = nI 4 from rfl, nI_add, gald_n (by omega) (by omega)]
    unfold ms; rw [up2_k (by omega), h4]
  have sb : ∀ a b : Nat, b ≤ a → a ≤ 60 → nI a - nI b = nI (a - b) := fun a b h1 h2 => by
    apply Int32.toInt_inj.mp
    rw [sub_i (by rw [nI_toInt (by omega)]; omega) (by rw [nI_toInt (by omega)]; omega), nI_toInt (by omega), nI_toInt (by omega), nI_toInt (by omega)]
    omega
  intro k
  induction k with
  | zero =>
    intro p f h0 hi hf hp
    obtain ⟨n, rfl⟩ : ∃ n, f = n + 1 := ⟨f - 1, by omega⟩
    rw [f_X10_words_l1, m_here B (by omega), k1s, m_isLetter, k1s]
    by_cases hd : isW (sg m u p)
    · rw [b01_t hd, if_neg (by decide), g4, k1s, ms_s, sb p p0 h0 (by omega), if_pos (show (24 : Int32) ≤ _ from nI_le (a := 24) (by omega) (by omega))]; rfl
    · rw [b01_f hd, if_pos rfl]; rfl
  | succ k ih =>
    intro p f h0 hi hf hp
    obtain ⟨n, rfl⟩ : ∃ n, f = n + 1 := ⟨f - 1, by omega⟩
    rw [f_X10_words_l1, m_here B (by omega), k1s, m_isLetter, k1s, pw]
    by_cases hd : isW (sg m u p)
    · have hlt : p < m := sg_lt (fun e => by rw [e] at hd; revert hd; unfold isW; decide)
      rw [b01_t hd, if_neg (by decide), g4, k1s, ms_s, sb p p0 h0 (by omega), if_neg (show ¬ (24 : Int32) ≤ _ from nI_ge (b := 24) (by omega) (by omega)), ← ms_s τ p, m_step, k1s, if_pos hd]
      exact ih (p + 1) n (by omega) (by omega) (by omega) (by omega)
    · rw [b01_f hd, if_pos rfl, if_neg hd]
theorem m_words {τ : gSt} {m p a0 : Nat} {u : Nat → Int32} (B : MB τ m u) (hp : p ≤ m) (ha : a0 + 5 < 180) : f_X10_words (ms τ p) (nI a0) = some (if pw m u 24 p = p then 0 else 1, ms (up2 (up2 τ 7 (a0 + 4) (nI p)) 7 (a0 + 5) (nI (pw m u 24 p - p))) (pw m u 24 p)) := by
  have hm := B.2.1
  have hF := FU_ge
  have hb := pw_b (m := m) (u := u) 24 p hp
  have i4 : nI a0 + 4 = nI (a0 + 4) := nI_add a0 4
  have i5 : nI a0 + 5 = nI (a0 + 5) := nI_add a0 5
  have e1 : up2 (ms τ p) 7 (a0 + 4) (nI p) = ms (up2 τ 7 (a0 + 4) (nI p)) p := up2_sw (by omega)
  have B1 : MB (up2 τ 7 (a0 + 4) (nI p)) m u := B.up (Or.inl rfl)
  unfold f_X10_words
  rw [i4, ms_s, gast_n (by omega) (by omega), k1s, e1, m_words_l B1 ha (up2_s ..) (by omega) 24 p FU (Nat.le_refl _) (by omega) (by omega) hp, k1s, gald_n (by omega) (by omega), k1s, i5, ms_s]
  have g4 : ms (up2 τ 7 (a0 + 4) (nI p)) (pw m u 24 p) 7 (a0 + 4) = nI p := by unfold ms; rw [up2_k (by omega), up2_s]
  have sb : nI (pw m u 24 p) - nI p = nI (pw m u 24 p - p) := by
    apply Int32.toInt_inj.mp
    rw [sub_i (by rw [nI_toInt (by omega)]; omega) (by rw [nI_toInt (by omega)]; omega), nI_toInt (by omega), nI_toInt (by omega), nI_toInt (by omega)]
    omega
  have e2 : ∀ (t : gSt) (q : Nat) (x : Int32), up2 (ms t q) 7 (a0 + 5) x = ms (up2 t 7 (a0 + 5) x) q := fun t q x => up2_sw (by omega)
  rw [g4, sb, gast_n (by omega) (by omega), k1s, e2, gald_n (by omega) (by omega), k1s]
  have g5 : ms (up2 (up2 τ 7 (a0 + 4) (nI p)) 7 (a0 + 5) (nI (pw m u 24 p - p))) (pw m u 24 p) 7 (a0 + 5) = nI (pw m u 24 p - p) := by unfold ms; rw [up2_k (by omega), up2_s]
  rw [g5]
  by_cases h : pw m u 24 p = p
  · rw [if_pos (show nI (pw m u 24 p - p) ≤ 0 from nI_le (b := 0) (by omega) (by omega)), k1s, if_pos h]; rfl
  · rw [if_neg (nI_nle (by omega) (by omega)), k1s, if_neg h]; rfl
