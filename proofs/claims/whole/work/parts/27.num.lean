/-! ===== searching a track ===== -/
def sFd (P : Nat → Bool) : Nat → Nat → Option Nat
  | 0, _ => none
  | d + 1, i => if P i = true then some i else sFd P d (i + 1)
def onB (kp : Nat → Nat → Int32) (x : Int32) : Nat → Bool := fun i => decide (kp i 0 ≤ x ∧ x < kp i 1)
theorem sFd_lt {P : Nat → Bool} {d i b : Nat} (h : sFd P d i = some b) : i ≤ b ∧ b < i + d ∧ P b = true := by
  induction d generalizing i with
  | zero => cases h
  | succ d ih =>
    rw [sFd] at h
    by_cases hp : P i = true
    · rw [if_pos hp] at h; cases h; exact ⟨Nat.le_refl _, by omega, hp⟩
    · rw [if_neg hp] at h; have := ih h; exact ⟨by omega, by omega, this.2.2⟩
theorem c_captionOn {σ : gSt} {T n : Nat} {kp : Nat → Nat → Int32} (F : FT σ T n kp) (x : Int32) : f_X8_captionOn σ T x = some (oI (sFd (onB kp x) n 0)) := by
  have hF := FU_ge
  have hn := F.2.1
  have loop : ∀ (d i f : Nat), i + d = n → d < f → f_X8_captionOn_l1 σ T x f (nI i) = some (oI (sFd (onB kp x) d i)) := by
    intro d
    induction d with
    | zero =>
      intro i f hi hf
      obtain ⟨f, rfl⟩ : ∃ m, f = m + 1 := ⟨f - 1, by omega⟩
      rw [f_X8_captionOn_l1, F.1, if_pos (nI_le (by omega) (by omega))]; rfl
    | succ d ih =>
      intro i f hi hf
      obtain ⟨f, rfl⟩ : ∃ m, f = m + 1 := ⟨f - 1, by omega⟩
      rw [f_X8_captionOn_l1, F.1, if_neg (nI_ge (by omega) (by omega)), c_first F (by omega), k1s, c_end F (by omega), k1s, nI_s1, ih (i + 1) f (by omega) (by omega), sFd]
      by_cases h1 : x < kp i 0
      · rw [if_pos h1, if_neg (by simp only [onB, decide_eq_true_eq]; grind)]
      · rw [if_neg h1]
        by_cases h2 : kp i 1 ≤ x
        · rw [if_pos h2, if_neg (by simp only [onB, decide_eq_true_eq]; grind)]
        · rw [if_neg h2, if_pos (by simp only [onB, decide_eq_true_eq]; grind)]; rfl
  exact loop n 0 FU (by omega) (by omega)
theorem m_shown_l {σ : gSt} (I : Inv (σ 1) (gK (σ 1))) {t : Nat} (ht : t < 2) {x : Int32} : ∀ (d i f : Nat), i + d = nT (σ 1) t → d < f →
    f_X10_shown_l1 (nI t) x σ f (nI i) = match sFd (onB (gK (σ 1) t) x) d i with | none => some (0, up2 σ 0 10 2) | some b => some (nI b, σ) := by
  have hn := I.n16 ht
  intro d
  induction d with
  | zero =>
    intro i f hi hf
    obtain ⟨f, rfl⟩ : ∃ m, f = m + 1 := ⟨f - 1, by omega⟩
    rw [f_X10_shown_l1, m_cnt ht, k1s, I.nT_eq ht, if_pos (nI_le (by omega) (by omega))]; rfl
  | succ d ih =>
    intro i f hi hf
    obtain ⟨f, rfl⟩ : ∃ m, f = m + 1 := ⟨f - 1, by omega⟩
    have q1 := I.in1 ht (c := i) (by omega)
    rw [f_X10_shown_l1, m_cnt ht, k1s, I.nT_eq ht, if_neg (nI_ge (by omega) (by omega)), m_first ht (by omega), k1s, m_end ht (by omega), k1s, m_in, k1s, nI_s1, ih (i + 1) f (by omega) (by omega), sFd]
    rw [b01_c (show (gK (σ 1) t i 0 ≤ x ∧ x ≤ gK (σ 1) t i 1 - 1) ↔ (gK (σ 1) t i 0 ≤ x ∧ x < gK (σ 1) t i 1) by unfold inL at q1; grind)]
    by_cases h1 : gK (σ 1) t i 0 ≤ x ∧ x < gK (σ 1) t i 1
    · rw [b01_t h1, if_neg (by decide), if_pos (by simp only [onB, decide_eq_true_eq]; exact h1)]
    · rw [b01_f h1, if_pos rfl, if_neg (by simp only [onB, decide_eq_true_eq]; exact h1)]
/-! the fastest caption -/
def sDn (kp : Nat → Nat → Int32) : Nat → Option Nat
  | 0 => none
  | i + 1 => (sDn kp i).elim (some i) (fun b => if sLd (kp i) * (kp b 1 - kp b 0) ≤ sLd (kp b) * (kp i 1 - kp i 0) then some b else some i)
theorem sDn_s {kp : Nat → Nat → Int32} {n : Nat} (hn : 0 < n) : ∃ b, sDn kp n = some b ∧ b < n := by
  induction n with
  | zero => omega
  | succ n ih =>
    rcases Nat.eq_zero_or_pos n with rfl | h0
    · exact ⟨0, rfl, by omega⟩
    · obtain ⟨b, e, hb⟩ := ih h0
      rw [sDn, e]
      show ∃ b', (if sLd (kp n) * (kp b 1 - kp b 0) ≤ sLd (kp b) * (kp n 1 - kp n 0) then some b else some n) = some b' ∧ b' < n + 1
      split
      · exact ⟨b, rfl, by omega⟩
      · exact ⟨n, rfl, by omega⟩
theorem c_densest {σ : gSt} {T n : Nat} {kp : Nat → Nat → Int32} (F : FT σ T n kp) (hs : ∀ c, c < n → szOK (kp c)) : f_X8_densest σ T = some (oI (sDn kp n)) := by
  have hF := FU_ge
  have hn := F.2.1
  have loop : ∀ (d i f : Nat), i + d = n → d < f → f_X8_densest_l1 σ T f (nI i) (oI (sDn kp i)) = some (oI (sDn kp n)) := by
    intro d
    induction d with
    | zero =>
      intro i f hi hf
      obtain ⟨f, rfl⟩ : ∃ m, f = m + 1 := ⟨f - 1, by omega⟩
      rw [f_X8_densest_l1, F.1, if_pos (nI_le (by omega) (by omega)), show i = n by omega]
    | succ d ih =>
      intro i f hi hf
      obtain ⟨f, rfl⟩ : ∃ m, f = m + 1 := ⟨f - 1, by omega⟩
      have := ih (i + 1) f (by omega) (by omega)
      rw [f_X8_densest_l1, F.1, if_neg (nI_ge (by omega) (by omega)), nI_s1]
      rcases Nat.eq_zero_or_pos i with rfl | h0
      · rw [if_pos (show oI (sDn kp 0) = -1 from rfl), k1s]; exact this
      · obtain ⟨b, e, hb⟩ := sDn_s (kp := kp) h0
        rw [sDn, e] at this
        rw [e, show oI (some b) = nI b from rfl, if_neg (show ¬ nI b = -1 from fun e => nI_pos (n := b) (by omega) (by rw [e]; decide)), c_load F (by omega) (hs i (by omega)), k1s, c_frames F (by omega), k1s, c_load F (by omega) (hs b (by omega)), k1s, c_frames F (by omega), k1s]
        change f_X8_densest_l1 σ T f (nI (i + 1)) (oI (if sLd (kp i) * (kp b 1 - kp b 0) ≤ sLd (kp b) * (kp i 1 - kp i 0) then some b else some i)) = _ at this
        by_cases hx : sLd (kp i) * (kp b 1 - kp b 0) ≤ sLd (kp b) * (kp i 1 - kp i 0)
        · rw [if_pos hx] at this ⊢; exact this
        · rw [if_neg hx] at this ⊢; exact this
  unfold f_X8_densest
  rw [show f_X8_densest_l1 σ T FU 0 (-1) = _ from loop n 0 FU (by omega) (by omega), k1s]
theorem m_fastest_l {σ : gSt} (I : Inv (σ 1) (gK (σ 1))) {t : Nat} (ht : t < 2) (h10 : σ 0 10 = 0) : ∀ (d i f : Nat), i + d = nT (σ 1) t → 0 < i → d < f → f_X10_fastest_l1 (nI t) σ f (nI i) (oI (sDn (gK (σ 1) t) i)) = some (oI (sDn (gK (σ 1) t) (nT (σ 1) t))) := by
  have hn := I.n16 ht
  intro d
  induction d with
  | zero =>
    intro i f hi h0 hf
    obtain ⟨f, rfl⟩ : ∃ m, f = m + 1 := ⟨f - 1, by omega⟩
    rw [f_X10_fastest_l1, if_pos h10, m_cnt ht, k1s, I.nT_eq ht, if_pos (nI_le (by omega) (by omega)), show i = nT (σ 1) t by omega]
  | succ d ih =>
    intro i f hi h0 hf
    obtain ⟨f, rfl⟩ : ∃ m, f = m + 1 := ⟨f - 1, by omega⟩
    have := ih (i + 1) f (by omega) (by omega) (by omega)
    obtain ⟨b, e, hb⟩ := sDn_s (kp := gK (σ 1) t) h0
    rw [sDn, e] at this
    rw [f_X10_fastest_l1, if_pos h10, m_cnt ht, k1s, I.nT_eq ht, if_neg (nI_ge (by omega) (by omega)), nI_s1, e, show oI (some b) = nI b from rfl, m_load ht (by omega) (I.cap ht (c := i) (by omega)).sz, k1s, m_end ht (by omega), k1s, m_first ht (by omega), k1s, m_load ht (by omega) (I.cap ht (c := b) (by omega)).sz, k1s, m_end ht (by omega), k1s, m_first ht (by omega), k1s]
    change f_X10_fastest_l1 (nI t) σ f (nI (i + 1)) (oI (if sLd (gK (σ 1) t i) * (gK (σ 1) t b 1 - gK (σ 1) t b 0) ≤ sLd (gK (σ 1) t b) * (gK (σ 1) t i 1 - gK (σ 1) t i 0) then some b else some i)) = _ at this
    by_cases hx : sLd (gK (σ 1) t i) * (gK (σ 1) t b 1 - gK (σ 1) t b 0) ≤ sLd (gK (σ 1) t b) * (gK (σ 1) t i 1 - gK (σ 1) t i 0)
    · rw [if_pos hx] at this ⊢; exact this
    · rw [if_neg hx] at this ⊢; exact this
/-! frames under both tracks -/
def sO (f : Nat → Nat → Int32) (m : Nat) : Nat → Int32
  | 0 => 0
  | i + 1 => sA (f i) (sO f m i) m
theorem c_both {σ : gSt} {h : fH} {k : fK} (F : FR σ 1 h k) : f_X2_framesOfBoth σ = some (sO (sShs k 0) (nT h 1) (nT h 0)) := by
  have hF := FU_ge
  have F0 : FT σ 5 (nT h 0) (k 0) := F.trk (t := 0) (by omega)
  have F1 : FT σ 11 (nT h 1) (k 1) := F.trk (t := 1) (by omega)
  have n0 := F0.2.1
  have n1 := F1.2.1
  have inner : ∀ (c : Nat) (a : Int32) (hc : c < nT h 0) (d i f : Nat), i + d = nT h 1 → d < f → f_X2_framesOfBoth_l2 σ 5 11 (nI c) f (nI i) (sA (sShs k 0 c) a i) = some (sA (sShs k 0 c) a (nT h 1)) := by
    intro c a hc d
    induction d with
    | zero =>
      intro i f hi hf
      obtain ⟨f, rfl⟩ : ∃ m, f = m + 1 := ⟨f - 1, by omega⟩
      rw [f_X2_framesOfBoth_l2, F1.1, if_pos (nI_le (by omega) (by omega)), show i = nT h 1 by omega]
    | succ d ih =>
      intro i f hi hf
      obtain ⟨f, rfl⟩ : ∃ m, f = m + 1 := ⟨f - 1, by omega⟩
      rw [f_X2_framesOfBoth_l2, F1.1, if_neg (nI_ge (by omega) (by omega)), c_first F0 hc, k1s, c_end F0 hc, k1s, c_shared F1 (by omega), k1s, nI_s1]
      exact ih (i + 1) f (by omega) (by omega)
  have outer : ∀ (d i f : Nat), i + d = nT h 0 → d < f → f_X2_framesOfBoth_l1 σ 5 11 f (nI i) (sO (sShs k 0) (nT h 1) i) = some (sO (sShs k 0) (nT h 1) (nT h 0)) := by
    intro d
    induction d with
    | zero =>
      intro i f hi hf
      obtain ⟨f, rfl⟩ : ∃ m, f = m + 1 := ⟨f - 1, by omega⟩
      rw [f_X2_framesOfBoth_l1, F0.1, if_pos (nI_le (by omega) (by omega)), show i = nT h 0 by omega]
    | succ d ih =>
      intro i f hi hf
      obtain ⟨f, rfl⟩ : ∃ m, f = m + 1 := ⟨f - 1, by omega⟩
      rw [f_X2_framesOfBoth_l1, F0.1, if_neg (nI_ge (by omega) (by omega)), show f_X2_framesOfBoth_l2 σ 5 11 (nI i) FU 0 (sO (sShs k 0) (nT h 1) i) = _ from inner i _ (by omega) (nT h 1) 0 FU (by omega) (by omega), k1s, nI_s1]
      exact ih (i + 1) f (by omega) (by omega)
  unfold f_X2_framesOfBoth
  rw [show f_X3_trackOf σ 1 0 = some 5 from rfl, k1s, show f_X3_trackBeside σ 1 0 = some 11 from rfl, k1s, show f_X2_framesOfBoth_l1 σ 5 11 FU 0 0 = _ from outer (nT h 0) 0 FU (by omega) (by omega), k1s]
theorem m_both {σ : gSt} (I : Inv (σ 1) (gK (σ 1))) : f_X10_both σ = some (sO (sShs (gK (σ 1)) 0) (nT (σ 1) 1) (nT (σ 1) 0)) := by
  have hF := FU_ge
  have n0 := I.n16 (t := 0) (by omega)
  have n1 := I.n16 (t := 1) (by omega)
  have e0 : σ 1 28 = nI (nT (σ 1) 0) := I.nT_eq (t := 0) (by omega)
  have e1 : σ 1 29 = nI (nT (σ 1) 1) := I.nT_eq (t := 1) (by omega)
  have inner : ∀ (c : Nat) (a : Int32) (hc : c < nT (σ 1) 0) (d i f : Nat), i + d = nT (σ 1) 1 → d < f → f_X10_both_l2 σ (nI c) f (nI i) (sA (sShs (gK (σ 1)) 0 c) a i) = some (sA (sShs (gK (σ 1)) 0 c) a (nT (σ 1) 1)) := by
    intro c a hc d
    induction d with
    | zero =>
      intro i f hi hf
      obtain ⟨f, rfl⟩ : ∃ m, f = m + 1 := ⟨f - 1, by omega⟩
      rw [f_X10_both_l2, e1, if_pos (nI_le (by omega) (by omega)), show i = nT (σ 1) 1 by omega]
    | succ d ih =>
      intro i f hi hf
      obtain ⟨f, rfl⟩ : ∃ m, f = m + 1 := ⟨f - 1, by omega⟩
      rw [f_X10_both_l2, e1, if_neg (nI_ge (by omega) (by omega)), show f_X10_shared σ 0 (nI c) (nI i) = _ from m_shared (t := 0) (by omega) (by omega) (by omega) (I.in0 (t := 1) (by omega) (by omega)) (I.in1 (t := 1) (by omega) (by omega)) (I.in0 (by omega) hc) (I.in1 (by omega) hc), k1s, nI_s1]
      exact ih (i + 1) f (by omega) (by omega)
  have outer : ∀ (d i f : Nat), i + d = nT (σ 1) 0 → d < f → f_X10_both_l1 σ f (nI i) (sO (sShs (gK (σ 1)) 0) (nT (σ 1) 1) i) = some (sO (sShs (gK (σ 1)) 0) (nT (σ 1) 1) (nT (σ 1) 0)) := by
    intro d
    induction d with
    | zero =>
      intro i f hi hf
      obtain ⟨f, rfl⟩ : ∃ m, f = m + 1 := ⟨f - 1, by omega⟩
      rw [f_X10_both_l1, e0, if_pos (nI_le (by omega) (by omega)), show i = nT (σ 1) 0 by omega]
    | succ d ih =>
      intro i f hi hf
      obtain ⟨f, rfl⟩ : ∃ m, f = m + 1 := ⟨f - 1, by omega⟩
      rw [f_X10_both_l1, e0, if_neg (nI_ge (by omega) (by omega)), show f_X10_both_l2 σ (nI i) FU 0 (sO (sShs (gK (σ 1)) 0) (nT (σ 1) 1) i) = _ from inner i _ (by omega) (nT (σ 1) 1) 0 FU (by omega) (by omega), k1s, nI_s1]
      exact ih (i + 1) f (by omega) (by omega)
  unfold f_X10_both
  rw [show f_X10_both_l1 σ FU 0 0 = _ from outer (nT (σ 1) 0) 0 FU (by omega) (by omega), k1s]
/-! ===== where a caption may stand ===== -/
def sOth (h : fH) (k : fK) (t : Nat) (skip a b : Int32) : Prop := ∃ i, i < nT h t ∧ nI i ≠ skip ∧ a < k t i 1 ∧ k t i 0 < b
noncomputable def sPlc (h : fH) (k : fK) (t : Nat) (skip a b : Int32) : Int32 := if a < 0 then 1 else if b ≤ h 0 then (if a < b then (if b01 (sOth h k t skip a b) = 0 then 0 else 3) else 2) else 1
theorem sSh_pos {f e a b : Int32} (h1 : inL f) (h2 : inL e) (h3 : inL a) (h4 : inL b) (h5 : f < e) (h6 : a < b) : ¬ sSh f e a b ≤ 0 ↔ (a < e ∧ f < b) := by
  rw [sSh_far h1 h2 h3 h4]
  have f1 := inL_i h1
  have e1 := inL_i h2
  have a1 := inL_i h3
  have b1 := inL_i h4
  have s1 := sub_i (a := e) (b := f) (by omega) (by omega)
  have s2 := sub_i (a := e) (b := a) (by omega) (by omega)
  have s3 := sub_i (a := b) (b := f) (by omega) (by omega)
  have s4 := sub_i (a := b) (b := a) (by omega) (by omega)
  rw [Int32.lt_iff_toInt_lt] at h5 h6
  have z : (0 : Int32).toInt = 0 := rfl
  simp only [Int32.lt_iff_toInt_lt, Int32.le_iff_toInt_le]
  repeat' split
  all_goals (simp only [z] at *; omega)
theorem c_others {σ : gSt} {T n : Nat} {kp : Nat → Nat → Int32} (F : FT σ T n kp) (s a b : Int32) : f_X8_sharesWithOthers σ T s a b = some (b01 (∃ i, i < n ∧ nI i ≠ s ∧ ¬ sSh (kp i 0) (kp i 1) a b ≤ 0)) := by
  have hF := FU_ge
  have hn := F.2.1
  have loop : ∀ (d i f : Nat), i + d = n → d < f → (∀ j, j < i → ¬ (nI j ≠ s ∧ ¬ sSh (kp j 0) (kp j 1) a b ≤ 0)) → f_X8_sharesWithOthers_l1 σ T s a b f (nI i) = some (b01 (∃ i, i < n ∧ nI i ≠ s ∧ ¬ sSh (kp i 0) (kp i 1) a b ≤ 0)) := by
    intro d
    induction d with
    | zero =>
      intro i f hi hf hj
      obtain ⟨f, rfl⟩ : ∃ m, f = m + 1 := ⟨f - 1, by omega⟩
      rw [f_X8_sharesWithOthers_l1, F.1, if_pos (nI_le (by omega) (by omega)), b01_f]
      rintro ⟨j, hjn, he⟩
      exact hj j (by omega) he
    | succ d ih =>
      intro i f hi hf hj
      obtain ⟨f, rfl⟩ : ∃ m, f = m + 1 := ⟨f - 1, by omega⟩
      have step : ¬ (nI i ≠ s ∧ ¬ sSh (kp i 0) (kp i 1) a b ≤ 0) → f_X8_sharesWithOthers_l1 σ T s a b f (nI (i + 1)) = some (b01 (∃ i, i < n ∧ nI i ≠ s ∧ ¬ sSh (kp i 0) (kp i 1) a b ≤ 0)) := fun hi' => ih (i + 1) f (by omega) (by omega) (fun j hj' => by
        by_cases h : j = i
        · subst h; exact hi'
        · exact hj j (by omega))
      rw [f_X8_sharesWithOthers_l1, F.1, if_neg (nI_ge (by omega) (by omega)), nI_s1, c_shared F (by omega), k1s]
      by_cases h1 : nI i = s
      · rw [if_pos h1]; exact step (fun hh => hh.1 h1)
      · rw [if_neg h1]
        by_cases h2 : sSh (kp i 0) (kp i 1) a b ≤ 0
        · rw [if_pos h2]; exact step (fun hh => hh.2 h2)
        · rw [if_neg h2, b01_t ⟨i, by omega, h1, h2⟩]
  exact loop n 0 FU (by omega) (by omega) (fun j hj => by omega)
theorem c_place {σ : gSt} {h : fH} {k : fK} (F : FR σ 1 h k) (I : Inv h k) {t : Nat} (ht : t < 2) (s a b : Int32) : f_X3_placeRefusal σ 1 (nI t) s a b = some (sPlc h k t s a b) := by
  have hl := I.1.1
  unfold f_X3_placeRefusal f_X3_spanRefusal sPlc
  rw [F.1, c_trackOf σ 1 ht]
  simp only [k1s, c_others (F.trk ht)]
  by_cases h1 : a < 0
  · rw [if_pos h1, if_pos h1]; rfl
  · rw [if_neg h1, if_neg h1]
    by_cases h2 : b ≤ h 0
    · rw [if_pos h2, if_pos h2]
      by_cases h3 : a < b
      · rw [if_pos h3, if_pos h3, k1s, k1s, if_pos rfl, ite_some, k1s]
        rw [b01_c (show (∃ i, i < nT h t ∧ nI i ≠ s ∧ ¬ sSh (k t i 0) (k t i 1) a b ≤ 0) ↔ sOth h k t s a b from ?_)]
        have aL : inL a := ⟨by grind, by grind⟩
        have bL : inL b := ⟨by grind, by grind⟩
        constructor
        · rintro ⟨i, hi, h4, h5⟩
          exact ⟨i, hi, h4, (sSh_pos (I.in0 ht hi) (I.in1 ht hi) aL bL (I.cap ht hi).2.1 h3).mp h5⟩
        · rintro ⟨i, hi, h4, h5⟩
          exact ⟨i, hi, h4, (sSh_pos (I.in0 ht hi) (I.in1 ht hi) aL bL (I.cap ht hi).2.1 h3).mpr h5⟩
      · rw [if_neg h3, if_neg h3]; rfl
    · rw [if_neg h2, if_neg h2]; rfl
theorem m_place {σ : gSt} (I : Inv (σ 1) (gK (σ 1))) {t : Nat} (ht : t < 2) (s a b : Int32) : f_X10_againstPlace σ (nI t) s a b = some (sPlc (σ 1) (gK (σ 1)) t s a b) := by
  have hF := FU_ge
  have hn := I.n16 ht
  have loop : ∀ (d i f : Nat), i + d = nT (σ 1) t → d < f → (∀ j, j < i → ¬ (nI j ≠ s ∧ a < gK (σ 1) t j 1 ∧ gK (σ 1) t j 0 < b)) → f_X10_againstPlace_l1 σ (nI t) s a b f (nI i) = some (if b01 (sOth (σ 1) (gK (σ 1)) t s a b) = 0 then 0 else 3) := by
    intro d
    induction d with
    | zero =>
      intro i f hi hf hj
      obtain ⟨f, rfl⟩ : ∃ m, f = m + 1 := ⟨f - 1, by omega⟩
      rw [f_X10_againstPlace_l1, m_cnt ht, k1s, I.nT_eq ht, if_pos (nI_le (by omega) (by omega)), b01_f, if_pos rfl]
      rintro ⟨j, hjn, he⟩
      exact hj j (by omega) he
    | succ d ih =>
      intro i f hi hf hj
      obtain ⟨f, rfl⟩ : ∃ m, f = m + 1 := ⟨f - 1, by omega⟩
      have step : ¬ (nI i ≠ s ∧ a < gK (σ 1) t i 1 ∧ gK (σ 1) t i 0 < b) → f_X10_againstPlace_l1 σ (nI t) s a b f (nI (i + 1)) = some (if b01 (sOth (σ 1) (gK (σ 1)) t s a b) = 0 then 0 else 3) := fun hi' => ih (i + 1) f (by omega) (by omega) (fun j hj' => by
        by_cases h : j = i
        · subst h; exact hi'
        · exact hj j (by omega))
      rw [f_X10_againstPlace_l1, m_cnt ht, k1s, I.nT_eq ht, if_neg (nI_ge (by omega) (by omega)), nI_s1, m_end ht (by omega), k1s, m_first ht (by omega), k1s]
      by_cases h1 : nI i = s
      · rw [if_pos h1]; exact step (fun hh => hh.1 h1)
      · rw [if_neg h1]
        by_cases h2 : gK (σ 1) t i 1 ≤ a
        · rw [if_pos h2]; exact step (fun hh => by grind)
        · rw [if_neg h2]
          by_cases h3 : b ≤ gK (σ 1) t i 0
          · rw [if_pos h3]; exact step (fun hh => by grind)
          · rw [if_neg h3, b01_t ⟨i, by omega, h1, Int32.not_le.mp h2, Int32.not_le.mp h3⟩, if_neg (by decide)]
  unfold f_X10_againstPlace sPlc
  by_cases h1 : a < 0
  · rw [if_pos h1, if_pos h1]
  · rw [if_neg h1, if_neg h1]
    by_cases h2 : b ≤ σ 1 0
    · rw [if_pos h2, if_pos h2]
      by_cases h3 : a < b
      · rw [if_pos h3, if_pos h3]
        exact loop _ 0 FU (Nat.zero_add _) (by omega) (fun j hj => by omega)
      · rw [if_neg h3, if_neg h3]
    · rw [if_neg h2, if_neg h2]
noncomputable def sAdd (h : fH) (k : fK) (t : Nat) (a b : Int32) (m : Nat) (u : Nat → Int32) : Int32 :=
  if sPlc h k t (-1) a b = 0 then (if b01 (txtOK m u) = 0 then 4 else if nT h t < 16 then 0 else 8) else sPlc h k t (-1) a b
theorem sPlc_nn (h : fH) (k : fK) (t : Nat) (s a b : Int32) : 0 ≤ sPlc h k t s a b := by
  unfold sPlc
  repeat' split
  all_goals decide
theorem le0 {x : Int32} (h : 0 ≤ x) : x ≤ 0 ↔ x = 0 := by
  constructor
  · intro h2; exact Int32.le_antisymm h2 h
  · rintro rfl; exact Int32.le_refl _
theorem c_addRef {σ : gSt} {h : fH} {k : fK} (F : FR σ 1 h k) (I : Inv h k) {t : Nat} (ht : t < 2) (a b : Int32) {K m : Nat} {u : Nat → Int32} (T : TX σ K m u) : f_X3_addRefusal σ 1 (nI t) a b K = some (sAdd h k t a b m u) := by
  have hn := I.n16 ht
  unfold f_X3_addRefusal sAdd
  rw [c_place F I ht, k1s, c_isValid T, k1s, c_trackOf σ 1 ht, k1s, (F.trk ht).1]
  by_cases h1 : sPlc h k t (-1) a b = 0
  · rw [if_pos h1, if_pos h1]
    by_cases h2 : b01 (txtOK m u) = 0
    · rw [if_pos h2, if_pos h2]
    · rw [if_neg h2, if_neg h2]
      by_cases h3 : nT h t < 16
      · rw [if_pos h3, if_pos (show nI (nT h t) < 16 from nI_lt (b := 16) h3 (by omega))]; rfl
      · rw [if_neg h3, if_neg (show ¬ nI (nT h t) < 16 from nI_nlt (b := 16) (by omega) (by omega))]; rfl
  · rw [if_neg h1, if_neg h1]
theorem m_addRef {σ : gSt} (I : Inv (σ 1) (gK (σ 1))) {t : Nat} (ht : t < 2) (a b : Int32) {p m : Nat} (hp : p + m ≤ 60) : f_X10_againstAdd σ (nI t) a b (nI p) (nI m) = some (sAdd (σ 1) (gK (σ 1)) t a b m (fun i => σ 6 (p + i))) := by
  have hn := I.n16 ht
  unfold f_X10_againstAdd sAdd
  rw [m_place I ht, k1s, m_isText (fun _ _ => by show _ ≤ 60; omega) (by omega) (by omega) (by decide), k1s, m_cnt ht, k1s, I.nT_eq ht]
  by_cases h1 : sPlc (σ 1) (gK (σ 1)) t (-1) a b = 0
  · rw [if_pos h1, if_pos ((le0 (sPlc_nn ..)).mpr h1)]
    by_cases h2 : b01 (txtOK m (fun i => σ 6 (p + i))) = 0
    · rw [if_pos h2, if_pos h2]; rfl
    · rw [if_neg h2, if_neg h2]
      by_cases h3 : nT (σ 1) t < 16
      · rw [if_pos h3, if_neg (show ¬ nI (nT (σ 1) t) = 16 from fun e => by
          have := (nI_eq (a := nT (σ 1) t) (b := 16) (by omega) (by omega)).mp e; omega)]; rfl
      · rw [if_neg h3, if_pos (show nI (nT (σ 1) t) = 16 by rw [show nT (σ 1) t = 16 by omega]; rfl)]; rfl
  · rw [if_neg h1, if_neg (fun hh => h1 ((le0 (sPlc_nn ..)).mp hh))]; rfl
