/-! ===== the reference's film ===== -/
def gK (g : Nat → Int32) : fK := fun t c w => g (30 + 28 * (16 * t + c) + w)
theorem m_at (σ : gSt) (t c w : Nat) : f_X10_at σ (nI t) (nI c) (nI w) = some (nI (30 + 28 * (16 * t + c) + w)) := by
  unfold f_X10_at
  rw [show (30 : Int32) = nI 30 from rfl, show (28 : Int32) = nI 28 from rfl, show (16 : Int32) = nI 16 from rfl, pk_mul, nI_add, pk_mul, nI_add, nI_add]
theorem m_at0 (σ : gSt) (t c : Nat) : f_X10_at σ (nI t) (nI c) 0 = some (nI (30 + 28 * (16 * t + c) + 0)) := m_at σ t c 0
theorem m_at1 (σ : gSt) (t c : Nat) : f_X10_at σ (nI t) (nI c) 1 = some (nI (30 + 28 * (16 * t + c) + 1)) := m_at σ t c 1
theorem m_at2 (σ : gSt) (t c : Nat) : f_X10_at σ (nI t) (nI c) 2 = some (nI (30 + 28 * (16 * t + c) + 2)) := m_at σ t c 2
theorem m_at3 (σ : gSt) (t c : Nat) : f_X10_at σ (nI t) (nI c) 3 = some (nI (30 + 28 * (16 * t + c) + 3)) := m_at σ t c 3
theorem m_at4 (σ : gSt) (t c : Nat) : f_X10_at σ (nI t) (nI c) 4 = some (nI (30 + 28 * (16 * t + c) + 4)) := m_at σ t c 4
theorem m_gK {σ : gSt} {t c w : Nat} (ht : t < 2) (hc : c < 16) (hw : w < 28) : gald σ 1 926 (nI (30 + 28 * (16 * t + c) + w)) = some (gK (σ 1) t c w) := gald_n (by omega) (by omega)
theorem m_first {σ : gSt} {t c : Nat} (ht : t < 2) (hc : c < 16) : f_X10_first σ (nI t) (nI c) = some (gK (σ 1) t c 0) := by
  unfold f_X10_first
  rw [m_at0, k1s, m_gK ht hc (by omega), k1s]
theorem m_end {σ : gSt} {t c : Nat} (ht : t < 2) (hc : c < 16) : f_X10_end σ (nI t) (nI c) = some (gK (σ 1) t c 1) := by
  unfold f_X10_end
  rw [m_at1, k1s, m_gK ht hc (by omega), k1s]
theorem m_cnt {σ : gSt} {t : Nat} (ht : t < 2) : gald σ 1 926 (28 + nI t) = some (σ 1 (28 + t)) := by
  rw [show (28 : Int32) = nI 28 from rfl, nI_add, gald_n (by omega) (by omega)]
theorem n1s {t : Nat} (ht : t < 2) : 1 - nI t = nI (1 - t) := by
  rcases (show t = 0 ∨ t = 1 by omega) with rfl | rfl <;> rfl
/-! ===== loads ===== -/
def sLd (q : Nat → Int32) : Int32 := q 3 - nI (nB (fun i => q (4 + i)) (nN (q 3)))
def szOK (q : Nat → Int32) : Prop := q 3 = nI (nN (q 3)) ∧ nN (q 3) ≤ 24
theorem capOK.sz {len : Int32} {q : Nat → Int32} (h : capOK len q) : szOK q := ⟨h.2.2.2.2.1, h.2.2.2.2.2.2.1⟩
theorem c_lB_l {σ : gSt} {T n c a b m : Nat} {kp : Nat → Nat → Int32} (F : FT σ T n kp) (hc : c < n) (hs : szOK (kp c)) (hb : b ≤ nN (kp c 3)) (hab : a + m = b) :
    ∀ (d i f : Nat), i + d = m → d < f → f_X8_loadBetween_l1 σ T (nI c) (nI b) f (nI (a + i)) (nI (i - nB (fun j => kp c (4 + (a + j))) i)) = some (nI (m - nB (fun j => kp c (4 + (a + j))) m)) := by
  have hs2 := hs.2
  intro d
  induction d with
  | zero =>
    intro i f hi hf
    obtain ⟨f, rfl⟩ : ∃ m, f = m + 1 := ⟨f - 1, by omega⟩
    rw [f_X8_loadBetween_l1, if_pos (nI_le (by omega) (by omega)), show i = m by omega]
  | succ d ih =>
    intro i f hi hf
    obtain ⟨f, rfl⟩ : ∃ m, f = m + 1 := ⟨f - 1, by omega⟩
    have := ih (i + 1) f (by omega) (by omega)
    have hle := nB_le (fun j => kp c (4 + (a + j))) i
    rw [nB_s] at this
    rw [f_X8_loadBetween_l1, if_neg (nI_ge (by omega) (by omega)), c_signAt F hc hs.1 hs.2 (by omega), k1s, nI_s1 (a + i)]
    by_cases hx : kp c (4 + (a + i)) = 124
    · rw [if_pos hx] at this ⊢
      rw [k1s, ← this]; congr 2; omega
    · rw [if_neg hx] at this ⊢
      rw [k1s, nI_s1, ← this]; congr 2; omega
theorem c_loadBetween {σ : gSt} {T n c a b : Nat} {kp : Nat → Nat → Int32} (F : FT σ T n kp) (hc : c < n) (hs : szOK (kp c)) (hb : b ≤ nN (kp c 3)) (hab : a ≤ b) : f_X8_loadBetween σ T (nI c) (nI a) (nI b) = some (nI (b - a - nB (fun j => kp c (4 + (a + j))) (b - a))) := by
  have hs2 := hs.2
  have hF := FU_ge
  unfold f_X8_loadBetween
  rw [show f_X8_loadBetween_l1 σ T (nI c) (nI b) FU (nI a) 0 = _ from c_lB_l F hc hs hb (m := b - a) (by omega) (b - a) 0 FU (by omega) (by omega), k1s]
theorem c_load {σ : gSt} {T n c : Nat} {kp : Nat → Nat → Int32} (F : FT σ T n kp) (hc : c < n) (hs : szOK (kp c)) : f_X8_load σ T (nI c) = some (sLd (kp c)) := by
  have hs2 := hs.2
  have hle := nB_le (fun j => kp c (4 + j)) (nN (kp c 3))
  unfold f_X8_load
  have e : (nI (nN (kp c 3)) : Int32) = kp c 3 := hs.1.symm
  rw [c_size F hc, k1s, ← e, show f_X8_loadBetween σ T (nI c) 0 (nI (nN (kp c 3))) = _ from c_loadBetween F hc hs (Nat.le_refl _) (a := 0) (Nat.zero_le _), k1s]
  unfold sLd
  simp only [Nat.zero_add, Nat.sub_zero]
  rw [← pk_sub hle, e]
theorem m_load {σ : gSt} {t c : Nat} (ht : t < 2) (hc : c < 16) (hs : szOK (gK (σ 1) t c)) : f_X10_load σ (nI t) (nI c) = some (sLd (gK (σ 1) t c)) := by
  have hs2 := hs.2
  unfold f_X10_load
  rw [m_at3, m_at4, k1s, m_gK ht hc (by omega), k1s, k1s, k1s, m_gK ht hc (by omega), k1s, hs.1, m_bars (by show _ ≤ 926; omega) (by decide), k1s]
  unfold sLd
  rw [← hs.1]
  rw [nB_congr (v := fun i => gK (σ 1) t c (4 + i)) (fun i _ => by unfold gK; rw [Nat.add_assoc _ 4 i])]
/-! ===== shares ===== -/
def sSh (f e a b : Int32) : Int32 := if (0 : Int32) < ((if e < b then e else b) - (if a < f then f else a)) then ((if e < b then e else b) - (if a < f then f else a)) else 0
theorem c_shared {σ : gSt} {T n c : Nat} {kp : Nat → Nat → Int32} (F : FT σ T n kp) (hc : c < n) (a b : Int32) : f_X8_shared σ T (nI c) a b = some (sSh (kp c 0) (kp c 1) a b) := by
  have h2 := F.2.1
  unfold f_X8_shared
  rw [c_has_t F.1 F.2.1 hc, k1s, if_neg (by decide), gald_n (by omega) (by omega), k1s, gald_n (by omega) (by omega), k1s, (F.2.2 c hc).1, (F.2.2 c hc).2.1]
  rfl
def inL (x : Int32) : Prop := 0 ≤ x ∧ x ≤ 9999
theorem sSh_far {f e a b : Int32} (h1 : inL f) (h2 : inL e) (h3 : inL a) (h4 : inL b) : sSh f e a b = if (if e ≤ b then e else b) ≤ (if a ≤ f then f else a) then 0 else (if e ≤ b then e else b) - (if a ≤ f then f else a) := by
  unfold inL at *
  unfold sSh
  grind
theorem m_shared {σ : gSt} {t c c2 : Nat} (ht : t < 2) (hc : c < 16) (hc2 : c2 < 16) (h1 : inL (gK (σ 1) (1 - t) c2 0)) (h2 : inL (gK (σ 1) (1 - t) c2 1)) (h3 : inL (gK (σ 1) t c 0)) (h4 : inL (gK (σ 1) t c 1)) :
    f_X10_shared σ (nI t) (nI c) (nI c2) = some (sSh (gK (σ 1) (1 - t) c2 0) (gK (σ 1) (1 - t) c2 1) (gK (σ 1) t c 0) (gK (σ 1) t c 1)) := by
  unfold f_X10_shared
  rw [n1s ht, m_first ht hc, m_first (by omega) hc2, m_end ht hc, m_end (by omega) hc2, sSh_far h1 h2 h3 h4]
  simp only [k1i, k1s]
  grind
def sPt (sh : Nat → Int32) : Nat → Option Nat
  | 0 => none
  | c + 1 => if sh c ≤ (sPt sh c).elim 0 sh then sPt sh c else some c
theorem sPt_lt {sh : Nat → Int32} {n b : Nat} (h : sPt sh n = some b) : b < n := by
  induction n with
  | zero => cases h
  | succ n ih =>
    rw [sPt] at h
    split at h
    · have := ih h; omega
    · cases h; omega
def oI (o : Option Nat) : Int32 := o.elim (-1) nI
theorem sPt_congr {sh sh' : Nat → Int32} {n : Nat} (h : ∀ c, c < n → sh c = sh' c) : sPt sh n = sPt sh' n := by
  induction n with
  | zero => rfl
  | succ n ih =>
    have e := ih (fun c hc => h c (by omega))
    rw [sPt, sPt, e, h n (by omega)]
    have e2 : (sPt sh' n).elim 0 sh = (sPt sh' n).elim 0 sh' := by
      cases hh : sPt sh' n with
      | none => rfl
      | some b => exact h b (by have := sPt_lt hh; omega)
    rw [e2]
def sShs (k : fK) (t c : Nat) : Nat → Int32 := fun j => sSh (k (1 - t) j 0) (k (1 - t) j 1) (k t c 0) (k t c 1)
theorem c_partner_l {σ : gSt} {T U n m c : Nat} {kp kq : Nat → Nat → Int32} (F : FT σ T n kp) (G : FT σ U m kq) (hc : c < n) :
    ∀ (d i f : Nat), i + d = m → d < f → f_X2_partner_l1 σ (nI c) T U f (nI i) ((sPt (fun j => sSh (kq j 0) (kq j 1) (kp c 0) (kp c 1)) i).elim 0 (fun j => sSh (kq j 0) (kq j 1) (kp c 0) (kp c 1))) (oI (sPt (fun j => sSh (kq j 0) (kq j 1) (kp c 0) (kp c 1)) i)) = some (oI (sPt (fun j => sSh (kq j 0) (kq j 1) (kp c 0) (kp c 1)) m)) := by
  have hm := G.2.1
  have h5 := G.1
  intro d
  induction d with
  | zero =>
    intro i f hi hf
    obtain ⟨f, rfl⟩ : ∃ m, f = m + 1 := ⟨f - 1, by omega⟩
    rw [f_X2_partner_l1, h5, if_pos (nI_le (by omega) (by omega)), show i = m by omega]
  | succ d ih =>
    intro i f hi hf
    obtain ⟨f, rfl⟩ : ∃ m, f = m + 1 := ⟨f - 1, by omega⟩
    have := ih (i + 1) f (by omega) (by omega)
    rw [sPt] at this
    rw [f_X2_partner_l1, h5, if_neg (nI_ge (by omega) (by omega)), c_first F hc, k1s, c_end F hc, k1s, c_shared G (by omega), k1s, nI_s1 i]
    by_cases hx : sSh (kq i 0) (kq i 1) (kp c 0) (kp c 1) ≤ (sPt (fun j => sSh (kq j 0) (kq j 1) (kp c 0) (kp c 1)) i).elim 0 (fun j => sSh (kq j 0) (kq j 1) (kp c 0) (kp c 1))
    · rw [if_pos hx] at this ⊢
      rw [k2s]; exact this
    · rw [if_neg hx] at this ⊢
      rw [k2s]; exact this
theorem FR.trk {σ : gSt} {f : Nat} {h : fH} {k : fK} (F : FR σ f h k) {t : Nat} (ht : t < 2) : FT σ (tB f t) (nT h t) (k t) := F.2.2.2.2 t ht
theorem c_partner {σ : gSt} {h : fH} {k : fK} (F : FR σ 1 h k) {t c : Nat} (ht : t < 2) (hc : c < nT h t) : f_X2_partner σ (nI t) (nI c) = some (oI (sPt (sShs k t c) (nT h (1 - t)))) := by
  have hF := FU_ge
  have hm := (F.trk (t := 1 - t) (by omega)).2.1
  unfold f_X2_partner
  rw [c_trackOf σ 1 ht, k1s, c_trackBeside σ 1 ht, k1s, show f_X2_partner_l1 σ (nI c) (tB 1 t) (tB 1 (1 - t)) FU 0 0 (-1) = _ from c_partner_l (F.trk ht) (F.trk (t := 1 - t) (by omega)) hc (nT h (1 - t)) 0 FU (by omega) (by omega), k1s]
  rfl
def trkL (h : fH) (k : fK) : Prop := ∀ t, t < 2 → h (28 + t) = nI (nT h t) ∧ nT h t ≤ 16 ∧ ∀ c, c < nT h t → szOK (k t c) ∧ inL (k t c 0) ∧ inL (k t c 1)
theorem Inv.trkL {h : fH} {k : fK} (I : Inv h k) : trkL h k := by
  intro t ht
  obtain ⟨h1, h2, h3, -⟩ := I.2.2 t ht
  have hl := I.1.1
  refine ⟨h1, h2, fun c hc => ?_⟩
  have h4 := h3 c hc
  obtain ⟨a1, a2, a3, -⟩ := h4
  exact ⟨capOK.sz (h3 c hc), ⟨a1, by grind⟩, by grind, by grind⟩
theorem m_partner_l {σ : gSt} (L : trkL (σ 1) (gK (σ 1))) {t c : Nat} (ht : t < 2) (hc : c < nT (σ 1) t) :
    ∀ (d i f : Nat), i + d = nT (σ 1) (1 - t) → d < f → f_X10_partner_l1 σ (nI t) (nI c) f (nI i) (oI (sPt (sShs (gK (σ 1)) t c) i)) = some (oI (sPt (sShs (gK (σ 1)) t c) (nT (σ 1) (1 - t)))) := by
  obtain ⟨a1, a2, a3⟩ := L t ht
  obtain ⟨b1, b2, b3⟩ := L (1 - t) (by omega)
  have e29 : (29 : Int32) - nI t = nI (28 + (1 - t)) := by
    rcases (show t = 0 ∨ t = 1 by omega) with rfl | rfl <;> rfl
  have hsh : ∀ j, j < nT (σ 1) (1 - t) → f_X10_shared σ (nI t) (nI c) (nI j) = some (sShs (gK (σ 1)) t c j) := fun j hj =>
    m_shared ht (by omega) (by omega) (b3 j hj).2.1 (b3 j hj).2.2 (a3 c hc).2.1 (a3 c hc).2.2
  intro d
  induction d with
  | zero =>
    intro i f hi hf
    obtain ⟨f, rfl⟩ : ∃ m, f = m + 1 := ⟨f - 1, by omega⟩
    rw [f_X10_partner_l1, e29, gald_n (by omega) (by omega), k1s, b1, if_pos (nI_le (by omega) (by omega)), show i = nT (σ 1) (1 - t) by omega]
  | succ d ih =>
    intro i f hi hf
    obtain ⟨f, rfl⟩ : ∃ m, f = m + 1 := ⟨f - 1, by omega⟩
    have := ih (i + 1) f (by omega) (by omega)
    rw [sPt] at this
    rw [f_X10_partner_l1, e29, gald_n (by omega) (by omega), k1s, b1, if_neg (nI_ge (by omega) (by omega)), hsh i (by omega), k1s, nI_s1 i]
    cases hb : sPt (sShs (gK (σ 1)) t c) i with
    | none =>
      rw [hb] at this
      rw [if_neg (by decide), k1s]
      by_cases hx : sShs (gK (σ 1)) t c i ≤ 0
      · rw [if_pos hx, k1s]
        rw [if_pos (show sShs (gK (σ 1)) t c i ≤ (none : Option Nat).elim 0 (sShs (gK (σ 1)) t c) from hx)] at this
        exact this
      · rw [if_neg hx, k1s]
        rw [if_neg (show ¬ sShs (gK (σ 1)) t c i ≤ (none : Option Nat).elim 0 (sShs (gK (σ 1)) t c) from hx)] at this
        exact this
    | some b =>
      have hlt := sPt_lt hb
      rw [hb] at this
      rw [if_pos (show (0 : Int32) ≤ oI (some b) from nI_pos' (by omega)), show oI (some b) = nI b from rfl, hsh b (by omega), k1s, k1s]
      by_cases hx : sShs (gK (σ 1)) t c i ≤ sShs (gK (σ 1)) t c b
      · rw [if_pos hx, k1s]
        rw [if_pos (show sShs (gK (σ 1)) t c i ≤ (some b).elim 0 (sShs (gK (σ 1)) t c) from hx)] at this
        exact this
      · rw [if_neg hx, k1s]
        rw [if_neg (show ¬ sShs (gK (σ 1)) t c i ≤ (some b).elim 0 (sShs (gK (σ 1)) t c) from hx)] at this
        exact this
theorem m_partner {σ : gSt} (L : trkL (σ 1) (gK (σ 1))) {t c : Nat} (ht : t < 2) (hc : c < nT (σ 1) t) : f_X10_partner σ (nI t) (nI c) = some (oI (sPt (sShs (gK (σ 1)) t c) (nT (σ 1) (1 - t)))) := by
  have hF := FU_ge
  have b2 := (L (1 - t) (by omega)).2.1
  unfold f_X10_partner
  rw [show f_X10_partner_l1 σ (nI t) (nI c) FU 0 (-1) = _ from m_partner_l L ht hc (nT (σ 1) (1 - t)) 0 FU (by omega) (by omega), k1s]
