/-! ===== the longest line ===== -/
theorem nB_bar {u : Nat → Int32} {m : Nat} : (nB u m = 0 → ∀ i, i < m → u i ≠ 124) ∧ (nB u m ≤ 1 → ∃ p, p ≤ m ∧ (∀ i, i < m → i ≠ p → u i ≠ 124) ∧ (p < m → u p = 124)) := by
  induction m with
  | zero => exact ⟨fun _ i hi => by omega, fun _ => ⟨0, by omega, fun i hi => by omega, fun h => by omega⟩⟩
  | succ m ih =>
    obtain ⟨i1, i2⟩ := ih
    rw [nB_s]
    by_cases hx : u m = 124
    · rw [if_pos hx]
      refine ⟨fun h => by omega, fun h => ?_⟩
      have h0 := i1 (by omega)
      refine ⟨m, by omega, fun i hi hne => h0 i (by omega), fun _ => hx⟩
    · rw [if_neg hx]
      refine ⟨fun h i hi => ?_, fun h => ?_⟩
      · by_cases h2 : i = m
        · subst h2; exact hx
        · exact i1 (by omega) i (by omega)
      · obtain ⟨p, hp, h1, h2⟩ := i2 (by omega)
        by_cases hpm : p < m
        · refine ⟨p, by omega, fun i hi hne => ?_, fun _ => h2 hpm⟩
          by_cases h3 : i = m
          · subst h3; exact hx
          · exact h1 i (by omega) hne
        · refine ⟨m + 1, by omega, fun i hi hne => ?_, fun h => by omega⟩
          by_cases h3 : i = m
          · subst h3; exact hx
          · exact h1 i (by omega) (by omega)
theorem c_sizeN {σ : gSt} {T n c : Nat} {kp : Nat → Nat → Int32} (F : FT σ T n kp) (hc : c < n) (hs : szOK (kp c)) : f_X8_size σ T (nI c) = some (nI (nN (kp c 3))) := (c_size F hc).trans (congrArg some hs.1)
theorem m_g3 {σ : gSt} {t c : Nat} (ht : t < 2) (hc : c < 16) (hs : szOK (gK (σ 1) t c)) : gald σ 1 926 (nI (30 + 28 * (16 * t + c) + 3)) = some (nI (nN (gK (σ 1) t c 3))) := (m_gK ht hc (by omega)).trans (congrArg some hs.1)
/-- how long the line at letter i is, and the longest so far, when the bar stands at p -/
def lA (p i : Nat) : Nat := if i ≤ p then i else i - p - 1
def lB (p i : Nat) : Nat := if i ≤ p then i else if p ≤ i - p - 1 then i - p - 1 else p
theorem c_long_l {σ : gSt} {T n c p : Nat} {kp : Nat → Nat → Int32} (F : FT σ T n kp) (hc : c < n) (hs : szOK (kp c)) (h1 : ∀ i, i < nN (kp c 3) → i ≠ p → kp c (4 + i) ≠ 124) (h2 : p < nN (kp c 3) → kp c (4 + p) = 124) :
    ∀ (d i f : Nat), i + d = nN (kp c 3) → d < f → f_X8_longestLine_l1 σ T (nI c) f (nI i) (nI (lA p i)) (nI (lB p i)) = some (nI (lB p (nN (kp c 3)))) := by
  have hs2 := hs.2
  intro d
  induction d with
  | zero =>
    intro i f hi hf
    obtain ⟨f, rfl⟩ : ∃ m, f = m + 1 := ⟨f - 1, by omega⟩
    rw [f_X8_longestLine_l1, c_sizeN F hc hs, k1s, if_pos (nI_le (by omega) (by omega)), show i = nN (kp c 3) by omega]
  | succ d ih =>
    intro i f hi hf
    obtain ⟨f, rfl⟩ : ∃ m, f = m + 1 := ⟨f - 1, by omega⟩
    have := ih (i + 1) f (by omega) (by omega)
    rw [f_X8_longestLine_l1, c_sizeN F hc hs, k1s, if_neg (nI_ge (by omega) (by omega)), c_signAt F hc hs.1 hs.2 (by omega), k1s, nI_s1 i]
    by_cases hx : i = p
    · subst hx
      rw [if_pos (h2 (by omega)), k1s]
      have e1 : nI (lA i (i + 1)) = 0 := by unfold lA; rw [if_neg (by omega), show i + 1 - i - 1 = 0 by omega]; rfl
      have e2 : lB i (i + 1) = i := by
        unfold lB; rw [if_neg (by omega)]; split <;> omega
      have e3 : lB i i = i := by unfold lB; rw [if_pos (by omega)]
      rw [e1, e2] at this
      rw [e3, if_neg (show ¬ nI i < 0 from nI_nlt (a := i) (b := 0) (by omega) (by omega))]
      exact this
    · rw [if_neg (h1 i (by omega) hx), k1s, nI_s1]
      have e1 : lA p (i + 1) = lA p i + 1 := by unfold lA; split <;> split <;> omega
      have e2 : lB p (i + 1) = if lB p i < lA p i + 1 then lA p i + 1 else lB p i := by
        unfold lB lA; repeat' split
        all_goals omega
      rw [e1, e2] at this
      by_cases hy : lB p i < lA p i + 1
      · rw [if_pos (nI_lt hy (by unfold lA; split <;> omega))]
        rw [if_pos hy] at this; exact this
      · rw [if_neg (nI_nlt (by omega) (by unfold lB; split <;> (try split) <;> omega))]
        rw [if_neg hy] at this; exact this
theorem c_long {σ : gSt} {T n c p : Nat} {kp : Nat → Nat → Int32} (F : FT σ T n kp) (hc : c < n) (hs : szOK (kp c)) (h1 : ∀ i, i < nN (kp c 3) → i ≠ p → kp c (4 + i) ≠ 124) (h2 : p < nN (kp c 3) → kp c (4 + p) = 124) : f_X8_longestLine σ T (nI c) = some (nI (lB p (nN (kp c 3)))) := by
  have hF := FU_ge
  have hs2 := hs.2
  unfold f_X8_longestLine
  rw [show f_X8_longestLine_l1 σ T (nI c) FU 0 0 0 = f_X8_longestLine_l1 σ T (nI c) FU (nI 0) (nI (lA p 0)) (nI (lB p 0)) by
    rw [show lA p 0 = 0 by unfold lA; rw [if_pos (by omega)], show lB p 0 = 0 by unfold lB; rw [if_pos (by omega)]]; rfl, c_long_l F hc hs h1 h2 (nN (kp c 3)) 0 FU (by omega) (by omega), k1s]
theorem m_long_l {σ : gSt} {t c p : Nat} (ht : t < 2) (hc : c < 16) (hs : szOK (gK (σ 1) t c)) (hp : p ≤ nN (gK (σ 1) t c 3)) (h1 : ∀ i, i < nN (gK (σ 1) t c 3) → i ≠ p → gK (σ 1) t c (4 + i) ≠ 124) (h2 : p < nN (gK (σ 1) t c 3) → gK (σ 1) t c (4 + p) = 124) :
    ∀ (d i f : Nat), i + d = p → d < f → f_X10_longest_l1 σ (nI t) (nI c) (nI (nN (gK (σ 1) t c 3))) f (nI i) = some (nI p) := by
  have hs2 := hs.2
  intro d
  induction d with
  | zero =>
    intro i f hi hf
    obtain ⟨f, rfl⟩ : ∃ m, f = m + 1 := ⟨f - 1, by omega⟩
    obtain rfl : i = p := by omega
    rw [f_X10_longest_l1]
    by_cases hm : i < nN (gK (σ 1) t c 3)
    · rw [if_neg (nI_ge hm (by omega)), show (4 : Int32) = nI 4 from rfl, nI_add, m_at, k1s, m_gK ht hc (by omega), k1s, if_pos (h2 hm)]
    · rw [if_pos (nI_le (by omega) (by omega))]
  | succ d ih =>
    intro i f hi hf
    obtain ⟨f, rfl⟩ : ∃ m, f = m + 1 := ⟨f - 1, by omega⟩
    have := ih (i + 1) f (by omega) (by omega)
    rw [f_X10_longest_l1, if_neg (nI_ge (by omega) (by omega)), show (4 : Int32) = nI 4 from rfl, nI_add, m_at, k1s, m_gK ht hc (by omega), k1s, if_neg (h1 i (by omega) (by omega)), nI_s1]
    exact this
theorem m_long {σ : gSt} {t c p : Nat} (ht : t < 2) (hc : c < 16) (hs : szOK (gK (σ 1) t c)) (hp : p ≤ nN (gK (σ 1) t c 3)) (h1 : ∀ i, i < nN (gK (σ 1) t c 3) → i ≠ p → gK (σ 1) t c (4 + i) ≠ 124) (h2 : p < nN (gK (σ 1) t c 3) → gK (σ 1) t c (4 + p) = 124) : f_X10_longest σ (nI t) (nI c) = some (nI (lB p (nN (gK (σ 1) t c 3)))) := by
  have hF := FU_ge
  have hs2 := hs.2
  unfold f_X10_longest
  rw [m_at3, k1s, m_g3 ht hc hs, k1s, show f_X10_longest_l1 σ (nI t) (nI c) (nI (nN (gK (σ 1) t c 3))) FU 0 = some (nI p) from m_long_l ht hc hs hp h1 h2 p 0 FU (by omega) (by omega), k1s, k1i, k1s, k1i, k1s, k1s]
  by_cases hm : p = nN (gK (σ 1) t c 3)
  · rw [← hm, if_pos rfl]; unfold lB; rw [if_pos (Nat.le_refl _)]
  · have hne : ¬ (nI p = nI (nN (gK (σ 1) t c 3))) := fun h => hm ((nI_eq (by omega) (by omega)).mp h)
    rw [if_neg hne, pk_sub (by omega), nI_sub1 (by omega)]
    unfold lB
    rw [if_neg (show ¬ nN (gK (σ 1) t c 3) ≤ p by omega)]
    by_cases hy : p ≤ nN (gK (σ 1) t c 3) - p - 1
    · rw [if_pos hy, if_pos (nI_le hy (by omega))]
    · rw [if_neg hy, if_neg (nI_ge (by omega) (by omega))]
/-! ===== what a caption needs ===== -/
def sNd (q : Nat → Int32) (rd : Int32) : Int32 := if q 2 = 1 then (((if q 2 = 2 then (20 : Int32) else 25) * sLd q + rd - 1) / rd + 2 - 1) / 2 else ((if q 2 = 2 then (20 : Int32) else 25) * sLd q + rd - 1) / rd
theorem c_dividedUp (σ : gSt) {a b : Int32} (hb : 0 < b) : f_X9_dividedUp σ a b = some ((a + b - 1) / b) := by
  unfold f_X9_dividedUp gdiv
  rw [if_neg (Int32.not_le.mpr hb), if_neg (by grind)]; rfl
theorem m_up (σ : gSt) {a b : Int32} (hb : 0 < b) : f_X10_up σ a b = some ((a + b - 1) / b) := by
  unfold f_X10_up gdiv
  rw [if_neg (by grind)]; rfl
theorem c_needs {σ : gSt} {h : fH} {k : fK} (F : FR σ 1 h k) {t c : Nat} (ht : t < 2) (hc : c < nT h t) (hs : szOK (k t c)) (hr : 0 < h 1) : f_X2_needs σ (nI t) (nI c) = some (sNd (k t c) (h 1)) := by
  unfold f_X2_needs
  rw [c_trackOf σ 1 ht, k1s, c_kind (F.trk ht) hc, k1s, c_load (F.trk ht) hc hs, c_set0 F]
  unfold sNd
  by_cases h1 : k t c 2 = 1
  · have h2 : ¬ k t c 2 = 2 := by rw [h1]; decide
    rw [if_neg h2, k1s, k1s, k1s, c_dividedUp σ hr, k1s, k1s, if_pos h1, if_pos h1, if_neg h2, c_dividedUp σ (by decide)]; rfl
  · rw [if_neg h1]
    by_cases h2 : k t c 2 = 2
    · rw [if_pos h2, k1s, k1s, k1s, c_dividedUp σ hr, k1s, k1s, if_neg h1, if_pos h2]; rfl
    · rw [if_neg h2, k1s, k1s, k1s, c_dividedUp σ hr, k1s, k1s, if_neg h1, if_neg h2]; rfl
theorem m_needs {σ : gSt} {t c : Nat} (ht : t < 2) (hc : c < 16) (hs : szOK (gK (σ 1) t c)) (hr : 0 < σ 1 1) : f_X10_needs σ (nI t) (nI c) = some (sNd (gK (σ 1) t c) (σ 1 1)) := by
  unfold f_X10_needs
  rw [m_at2, k1s, m_gK ht hc (by omega), k1s, m_load ht hc hs]
  unfold sNd
  by_cases h1 : gK (σ 1) t c 2 = 1
  · have h2 : ¬ gK (σ 1) t c 2 = 2 := by rw [h1]; decide
    rw [if_neg h2, k1s, k1s, m_up σ hr, k1s, if_pos h1, if_pos h1, if_neg h2, m_up σ (by decide)]; rfl
  · rw [if_neg h1]
    by_cases h2 : gK (σ 1) t c 2 = 2
    · rw [if_pos h2, k1s, k1s, m_up σ hr, k1s, if_neg h1, if_pos h2]; rfl
    · rw [if_neg h2, k1s, k1s, m_up σ hr, k1s, if_neg h1, if_neg h2]; rfl
/-! ===== gaps and steps ===== -/
theorem c_gap {σ : gSt} {T n c : Nat} {kp : Nat → Nat → Int32} (F : FT σ T n kp) (hc : c < n) : f_X8_gapBefore σ T (nI c) = some (if c = 0 then -1 else kp c 0 - kp (c - 1) 1) := by
  have h2 := F.2.1
  unfold f_X8_gapBefore
  by_cases h0 : c = 0
  · subst h0
    rw [if_pos rfl, c_has_f F.1 (Or.inl (by decide))]; rfl
  · rw [if_neg h0, nI_sub1 (by omega), c_has_t F.1 F.2.1 (by omega), c_first F hc, c_end F (by omega)]; rfl
theorem m_before {σ : gSt} {t c : Nat} (ht : t < 2) (hc : c < 16) (h0 : 0 < c) : f_X10_before σ (nI t) (nI c) = some (gK (σ 1) t c 0 - gK (σ 1) t (c - 1) 1) := by
  unfold f_X10_before
  rw [m_first ht hc, k1s, nI_sub1 h0, m_end ht (by omega), k1s]
def sTi (k : fK) (t c : Nat) (z : Int32) : Prop := c ≠ 0 ∧ 1 ≤ k t c 0 - k t (c - 1) 1 ∧ k t c 0 - k t (c - 1) 1 < z
theorem c_isTight {σ : gSt} {h : fH} {k : fK} (F : FR σ 1 h k) {t c : Nat} (ht : t < 2) (hc : c < nT h t) : f_X2_isTight σ (nI t) (nI c) = some (b01 (sTi k t c (h 3))) := by
  unfold f_X2_isTight
  rw [c_trackOf σ 1 ht, k1s, c_gap (F.trk ht) hc, k1s, c_set2 F]
  simp only [k1i, k1s, gz0, gz1]
  by_cases h0 : c = 0
  · rw [if_pos h0, if_pos (by decide), b01_f (fun hh => hh.1 h0)]
  · rw [if_neg h0]
    by_cases h1 : sTi k t c (h 3)
    · rw [b01_t h1]; obtain ⟨-, h2, h3⟩ := h1; grind
    · rw [b01_f h1]
      by_cases h2 : k t c 0 - k t (c - 1) 1 ≤ 0
      · rw [if_pos h2]
      · rw [if_neg h2, if_pos]
        have : ¬ (1 ≤ k t c 0 - k t (c - 1) 1 ∧ k t c 0 - k t (c - 1) 1 < h 3) := fun hh => h1 ⟨h0, hh.1, hh.2⟩
        grind
def sSt (k : fK) (t c : Nat) (z : Int32) (o : Option Nat) : Prop := ∃ b, o = some b ∧ dst (k t c 0) (k (1 - t) b 0) ≤ z ∧ dst (k t c 1) (k (1 - t) b 1) ≤ z
theorem c_isInStep {σ : gSt} {h : fH} {k : fK} (F : FR σ 1 h k) {t c : Nat} (ht : t < 2) (hc : c < nT h t) : f_X2_isInStep σ (nI t) (nI c) = some (b01 (sSt k t c (h 5) (sPt (sShs k t c) (nT h (1 - t))))) := by
  unfold f_X2_isInStep
  rw [c_partner F ht hc, k1s]
  cases hb : sPt (sShs k t c) (nT h (1 - t)) with
  | none => rw [if_pos (show oI none = -1 from rfl), b01_f (by rintro ⟨b, h, -⟩; cases h)]
  | some b =>
    have hlt := sPt_lt hb
    have hm := (F.trk (t := 1 - t) (by omega)).2.1
    rw [show oI (some b) = nI b from rfl, if_neg (show ¬ nI b = -1 from fun e => nI_pos (n := b) (by omega) (by rw [e]; decide))]
    rw [c_trackOf σ 1 ht, k1s, c_trackBeside σ 1 ht, k1s, c_set4 F, k1s, c_first (F.trk ht) hc, k1s, c_first (F.trk (t := 1 - t) (by omega)) hlt, k1s, c_end (F.trk ht) hc, c_end (F.trk (t := 1 - t) (by omega)) hlt]
    simp only [c_dist, k1i, k1s, gz0, gz1]
    by_cases h1 : h 5 < dst (k t c 0) (k (1 - t) b 0)
    · rw [if_pos h1, b01_f]
      rintro ⟨b', e, h2, -⟩
      cases e; grind
    · rw [if_neg h1]
      by_cases h3 : h 5 < dst (k t c 1) (k (1 - t) b 1)
      · rw [if_pos h3, b01_f]
        rintro ⟨b', e, -, h2⟩
        cases e; grind
      · rw [if_neg h3, b01_t ⟨b, rfl, Int32.not_lt.mp h1, Int32.not_lt.mp h3⟩]
theorem m_isInStep {σ : gSt} (L : trkL (σ 1) (gK (σ 1))) {t c : Nat} (ht : t < 2) (hc : c < nT (σ 1) t) : f_X10_isInStep σ (nI t) (nI c) = some (b01 (sSt (gK (σ 1)) t c (σ 1 5) (sPt (sShs (gK (σ 1)) t c) (nT (σ 1) (1 - t))))) := by
  obtain ⟨a1, a2, a3⟩ := L t ht
  obtain ⟨b1, b2, b3⟩ := L (1 - t) (by omega)
  unfold f_X10_isInStep
  rw [m_partner L ht hc, k1s]
  cases hb : sPt (sShs (gK (σ 1)) t c) (nT (σ 1) (1 - t)) with
  | none => rw [if_pos (show oI none < 0 from by decide), b01_f (by rintro ⟨b, h, -⟩; cases h)]; rfl
  | some b =>
    have hlt := sPt_lt hb
    rw [show oI (some b) = nI b from rfl, if_neg (nI_pos (by omega)), n1s ht, m_first ht (by omega), k1s, m_first (by omega) (by omega), k1s, m_end ht (by omega), m_end (by omega) (by omega), m_far (a3 c hc).2.1 (b3 b hlt).2.1, k1s, k1s, k1s, m_far (a3 c hc).2.2 (b3 b hlt).2.2, k1s]
    simp only [k1i, k1s, gz0, gz1]
    by_cases h1 : σ 1 5 < dst (gK (σ 1) t c 0) (gK (σ 1) (1 - t) b 0)
    · rw [if_pos h1, b01_f]
      rintro ⟨b', e, h2, -⟩
      cases e; grind
    · rw [if_neg h1]
      by_cases h3 : σ 1 5 < dst (gK (σ 1) t c 1) (gK (σ 1) (1 - t) b 1)
      · rw [if_pos h3, b01_f]
        rintro ⟨b', e, -, h2⟩
        cases e; grind
      · rw [if_neg h3, b01_t ⟨b, rfl, Int32.not_lt.mp h1, Int32.not_lt.mp h3⟩]
