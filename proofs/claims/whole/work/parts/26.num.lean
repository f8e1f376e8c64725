/-! ===== problems ===== -/
theorem ite_some {α : Type} {c : Prop} [Decidable c] (a b : α) : (if c then some a else some b) = some (if c then a else b) := by split <;> rfl
theorem ite_acc {c : Prop} [Decidable c] (x v : Int32) : (if c then x else x + v) = x + (if c then 0 else v) := by
  split
  · rw [Int32.add_zero]
  · rfl
theorem ite_acc' {c : Prop} [Decidable c] (x v : Int32) : (if c then x + v else x) = x + (if c then v else 0) := by
  split
  · rfl
  · rw [Int32.add_zero]
theorem ite_acc2 {c : Prop} [Decidable c] (x w : Int32) : (if c then x else x + w) = x + (if c then 0 else w) := ite_acc x w
def barAt (q : Nat → Int32) (p : Nat) : Prop := p ≤ nN (q 3) ∧ (∀ i, i < nN (q 3) → i ≠ p → q (4 + i) ≠ 124) ∧ (p < nN (q 3) → q (4 + p) = 124)
noncomputable def sBp (q : Nat → Int32) : Nat := @dite Nat (∃ p, barAt q p) (Classical.propDecidable _) (fun h => Classical.choose h) (fun _ => 0)
theorem sBp_spec {q : Nat → Int32} (h : nB (fun i => q (4 + i)) (nN (q 3)) ≤ 1) : barAt q (sBp q) := by
  obtain ⟨p, hp⟩ := nB_bar.2 h
  have hex : ∃ p, barAt q p := ⟨p, hp⟩
  unfold sBp
  rw [dif_pos hex]
  exact Classical.choose_spec hex
noncomputable def sLg (q : Nat → Int32) : Int32 := nI (lB (sBp q) (nN (q 3)))
theorem capOK.bar {len : Int32} {q : Nat → Int32} (h : capOK len q) : nB (fun i => q (4 + i)) (nN (q 3)) ≤ 1 := h.2.2.2.2.2.2.2.2.1
theorem c_longS {σ : gSt} {T n c : Nat} {kp : Nat → Nat → Int32} {len : Int32} (F : FT σ T n kp) (hc : c < n) (hs : capOK len (kp c)) : f_X8_longestLine σ T (nI c) = some (sLg (kp c)) := by
  obtain ⟨-, b, d⟩ := sBp_spec hs.bar
  exact c_long F hc hs.sz b d
theorem m_longS {σ : gSt} {t c : Nat} {len : Int32} (ht : t < 2) (hc : c < 16) (hs : capOK len (gK (σ 1) t c)) : f_X10_longest σ (nI t) (nI c) = some (sLg (gK (σ 1) t c)) := by
  obtain ⟨a, b, d⟩ := sBp_spec hs.bar
  exact m_long ht hc hs.sz a b d
theorem Inv.cap {h : fH} {k : fK} (I : Inv h k) {t c : Nat} (ht : t < 2) (hc : c < nT h t) : capOK (h 0) (k t c) := (I.2.2 t ht).2.2.1 c hc
theorem Inv.n16 {h : fH} {k : fK} (I : Inv h k) {t : Nat} (ht : t < 2) : nT h t ≤ 16 := (I.2.2 t ht).2.1
theorem Inv.nT_eq {h : fH} {k : fK} (I : Inv h k) {t : Nat} (ht : t < 2) : h (28 + t) = nI (nT h t) := (I.2.2 t ht).1
theorem Inv.in0 {h : fH} {k : fK} (I : Inv h k) {t c : Nat} (ht : t < 2) (hc : c < nT h t) : inL (k t c 0) := ((I.trkL t ht).2.2 c hc).2.1
theorem Inv.in1 {h : fH} {k : fK} (I : Inv h k) {t c : Nat} (ht : t < 2) (hc : c < nT h t) : inL (k t c 1) := ((I.trkL t ht).2.2 c hc).2.2
theorem Inv.rd {h : fH} {k : fK} (I : Inv h k) : 0 < h 1 := by
  have := I.1.2.1
  grind
theorem Inv.zone {h : fH} {k : fK} (I : Inv h k) : inL (h 2) := by
  have := I.1.2.2.1
  unfold inL
  grind
noncomputable def sPr (h : fH) (k : fK) (t c : Nat) : Int32 :=
  (((((if sNd (k t c) (h 1) ≤ k t c 1 - k t c 0 then 0 else 1) + (if b01 (hLo h (k t c 0)) = 0 then 0 else 2)) + (if b01 (hLo h (k t c 1)) = 0 then 0 else 4)) + (if b01 (sTi k t c (h 3)) = 0 then 0 else 8)) + (if sLg (k t c) ≤ h 6 then 0 else 16)) + (if k t c 2 = 1 then 0 else if b01 (sSt k t c (h 5) (sPt (sShs k t c) (nT h (1 - t)))) = 0 then 32 else 0)
theorem c_problems {σ : gSt} {h : fH} {k : fK} (F : FR σ 1 h k) (I : Inv h k) {t c : Nat} (ht : t < 2) (hc : c < nT h t) : f_X2_problems σ (nI t) (nI c) = some (sPr h k t c) := by
  have hcap := I.cap ht hc
  unfold f_X2_problems
  rw [c_trackOf σ 1 ht, k1s, c_frames (F.trk ht) hc, k1s, c_needs F ht hc hcap.sz I.rd, k1s, c_first (F.trk ht) hc, c_end (F.trk ht) hc, c_isTight F ht hc, c_longS (F.trk ht) hc hcap, c_set5 F, c_kind (F.trk ht) hc, c_isInStep F ht hc]
  simp only [ite_some, k1s, c_isLoose F I.cutL (I.in0 ht hc), c_isLoose F I.cutL (I.in1 ht hc), ite_acc, ite_acc', Int32.zero_add]
  rfl
theorem m_problems {σ : gSt} (I : Inv (σ 1) (gK (σ 1))) {t c : Nat} (ht : t < 2) (hc : c < nT (σ 1) t) : f_X10_problems σ (nI t) (nI c) = some (sPr (σ 1) (gK (σ 1)) t c) := by
  have hcap := I.cap ht hc
  have h16 := I.n16 ht
  have hc6 : c < 16 := by omega
  have eT : (if nI c ≤ 0 then some (0 : Int32) else (g_k1 (f_X10_before σ (nI t) (nI c)) fun v34 => (g_k1 (f_X10_in σ v34 (1 : Int32) ((σ 1 3) - (1 : Int32))) fun v35 => (if v35 = 0 then some (0 : Int32) else some (8 : Int32))))) = some (if b01 (sTi (gK (σ 1)) t c (σ 1 3)) = 0 then 0 else 8) := by
    by_cases h0 : c = 0
    · subst h0
      rw [if_pos (by decide), b01_f (fun hh => hh.1 rfl), if_pos rfl]
    · rw [if_neg (show ¬ nI c ≤ 0 from nI_ge (a := 0) (by omega) (by omega)), m_before ht hc6 (by omega), k1s, m_in, k1s, ite_some]
      rw [b01_c (show (1 ≤ gK (σ 1) t c 0 - gK (σ 1) t (c - 1) 1 ∧ gK (σ 1) t c 0 - gK (σ 1) t (c - 1) 1 ≤ σ 1 3 - 1) ↔ sTi (gK (σ 1)) t c (σ 1 3) from ?_)]
      have hz := I.1.2.2.2.1
      unfold sTi
      constructor
      · rintro ⟨a, b⟩; exact ⟨h0, a, by grind⟩
      · rintro ⟨-, a, b⟩; exact ⟨a, by grind⟩
  unfold f_X10_problems
  rw [eT, m_end ht hc6, k1s, m_first ht hc6, k1s, m_needs ht hc6 hcap.sz I.rd, k1s, m_longS ht hc6 hcap, m_at2, m_isInStep I.trkL ht hc]
  simp only [ite_some, k1s, m_isLoose I.cutL I.zone (I.in0 ht hc), m_isLoose I.cutL I.zone (I.in1 ht hc), m_gK ht hc6 (show 2 < 28 by omega)]
  rfl
/-! ===== sums over captions ===== -/
def sA (f : Nat → Int32) (a : Int32) : Nat → Int32
  | 0 => a
  | i + 1 => sA f a i + f i
theorem sA_congr {f g : Nat → Int32} {a : Int32} {n : Nat} (h : ∀ i, i < n → f i = g i) : sA f a n = sA g a n := by
  induction n with
  | zero => rfl
  | succ n ih => rw [sA, sA, ih (fun i hi => h i (by omega)), h n (by omega)]
theorem c_allFrames {σ : gSt} {T n : Nat} {kp : Nat → Nat → Int32} (F : FT σ T n kp) : f_X8_allFrames σ T = some (sA (fun c => kp c 1 - kp c 0) 0 n) := by
  have hF := FU_ge
  have hn := F.2.1
  have loop : ∀ (d i f : Nat), i + d = n → d < f → f_X8_allFrames_l1 σ T f (nI i) (sA (fun c => kp c 1 - kp c 0) 0 i) = some (sA (fun c => kp c 1 - kp c 0) 0 n) := by
    intro d
    induction d with
    | zero =>
      intro i f hi hf
      obtain ⟨f, rfl⟩ : ∃ m, f = m + 1 := ⟨f - 1, by omega⟩
      rw [f_X8_allFrames_l1, F.1, if_pos (nI_le (by omega) (by omega)), show i = n by omega]
    | succ d ih =>
      intro i f hi hf
      obtain ⟨f, rfl⟩ : ∃ m, f = m + 1 := ⟨f - 1, by omega⟩
      rw [f_X8_allFrames_l1, F.1, if_neg (nI_ge (by omega) (by omega)), c_frames F (by omega), k1s, nI_s1]
      exact ih (i + 1) f (by omega) (by omega)
  unfold f_X8_allFrames
  rw [show f_X8_allFrames_l1 σ T FU 0 0 = _ from loop n 0 FU (by omega) (by omega), k1s]
theorem m_frames {σ : gSt} (I : Inv (σ 1) (gK (σ 1))) {t : Nat} (ht : t < 2) : f_X10_frames σ (nI t) = some (sA (fun c => gK (σ 1) t c 1 - gK (σ 1) t c 0) 0 (nT (σ 1) t)) := by
  have hF := FU_ge
  have hn := I.n16 ht
  have loop : ∀ (d i f : Nat), i + d = nT (σ 1) t → d < f → f_X10_frames_l1 σ (nI t) f (nI i) (sA (fun c => gK (σ 1) t c 1 - gK (σ 1) t c 0) 0 i) = some (sA (fun c => gK (σ 1) t c 1 - gK (σ 1) t c 0) 0 (nT (σ 1) t)) := by
    intro d
    induction d with
    | zero =>
      intro i f hi hf
      obtain ⟨f, rfl⟩ : ∃ m, f = m + 1 := ⟨f - 1, by omega⟩
      rw [f_X10_frames_l1, m_cnt ht, k1s, I.nT_eq ht, if_pos (nI_le (by omega) (by omega)), show i = nT (σ 1) t by omega]
    | succ d ih =>
      intro i f hi hf
      obtain ⟨f, rfl⟩ : ∃ m, f = m + 1 := ⟨f - 1, by omega⟩
      rw [f_X10_frames_l1, m_cnt ht, k1s, I.nT_eq ht, if_neg (nI_ge (by omega) (by omega)), m_end ht (by omega), k1s, m_first ht (by omega), k1s, nI_s1]
      exact ih (i + 1) f (by omega) (by omega)
  unfold f_X10_frames
  rw [show f_X10_frames_l1 σ (nI t) FU 0 0 = _ from loop (nT (σ 1) t) 0 FU (by omega) (by omega), k1s]
theorem c_allLoad {σ : gSt} {T n : Nat} {kp : Nat → Nat → Int32} (F : FT σ T n kp) (hs : ∀ c, c < n → szOK (kp c)) : f_X8_allLoad σ T = some (sA (fun c => sLd (kp c)) 0 n) := by
  have hF := FU_ge
  have hn := F.2.1
  have loop : ∀ (d i f : Nat), i + d = n → d < f → f_X8_allLoad_l1 σ T f (nI i) (sA (fun c => sLd (kp c)) 0 i) = some (sA (fun c => sLd (kp c)) 0 n) := by
    intro d
    induction d with
    | zero =>
      intro i f hi hf
      obtain ⟨f, rfl⟩ : ∃ m, f = m + 1 := ⟨f - 1, by omega⟩
      rw [f_X8_allLoad_l1, F.1, if_pos (nI_le (by omega) (by omega)), show i = n by omega]
    | succ d ih =>
      intro i f hi hf
      obtain ⟨f, rfl⟩ : ∃ m, f = m + 1 := ⟨f - 1, by omega⟩
      rw [f_X8_allLoad_l1, F.1, if_neg (nI_ge (by omega) (by omega)), c_load F (by omega) (hs i (by omega)), k1s, nI_s1]
      exact ih (i + 1) f (by omega) (by omega)
  unfold f_X8_allLoad
  rw [show f_X8_allLoad_l1 σ T FU 0 0 = _ from loop n 0 FU (by omega) (by omega), k1s]
theorem m_loads {σ : gSt} (I : Inv (σ 1) (gK (σ 1))) {t : Nat} (ht : t < 2) : f_X10_loads σ (nI t) = some (sA (fun c => sLd (gK (σ 1) t c)) 0 (nT (σ 1) t)) := by
  have hF := FU_ge
  have hn := I.n16 ht
  have loop : ∀ (d i f : Nat), i + d = nT (σ 1) t → d < f → f_X10_loads_l1 σ (nI t) f (nI i) (sA (fun c => sLd (gK (σ 1) t c)) 0 i) = some (sA (fun c => sLd (gK (σ 1) t c)) 0 (nT (σ 1) t)) := by
    intro d
    induction d with
    | zero =>
      intro i f hi hf
      obtain ⟨f, rfl⟩ : ∃ m, f = m + 1 := ⟨f - 1, by omega⟩
      rw [f_X10_loads_l1, m_cnt ht, k1s, I.nT_eq ht, if_pos (nI_le (by omega) (by omega)), show i = nT (σ 1) t by omega]
    | succ d ih =>
      intro i f hi hf
      obtain ⟨f, rfl⟩ : ∃ m, f = m + 1 := ⟨f - 1, by omega⟩
      rw [f_X10_loads_l1, m_cnt ht, k1s, I.nT_eq ht, if_neg (nI_ge (by omega) (by omega)), m_load ht (by omega) (I.cap ht (c := i) (by omega)).sz, k1s, nI_s1]
      exact ih (i + 1) f (by omega) (by omega)
  unfold f_X10_loads
  rw [show f_X10_loads_l1 σ (nI t) FU 0 0 = _ from loop (nT (σ 1) t) 0 FU (by omega) (by omega), k1s]
theorem c_with {σ : gSt} {h : fH} {k : fK} (F : FR σ 1 h k) (I : Inv h k) {t : Nat} (ht : t < 2) (m : Int32) : f_X2_captionsWith σ (nI t) m = some (sA (fun c => if sPr h k t c &&& m = 0 then 0 else 1) 0 (nT h t)) := by
  have hF := FU_ge
  have hn := I.n16 ht
  have h5 := (F.trk ht).1
  have loop : ∀ (d i f : Nat), i + d = nT h t → d < f → f_X2_captionsWith_l1 σ (nI t) m f (nI i) (sA (fun c => if sPr h k t c &&& m = 0 then 0 else 1) 0 i) = some (sA (fun c => if sPr h k t c &&& m = 0 then 0 else 1) 0 (nT h t)) := by
    intro d
    induction d with
    | zero =>
      intro i f hi hf
      obtain ⟨f, rfl⟩ : ∃ m, f = m + 1 := ⟨f - 1, by omega⟩
      rw [f_X2_captionsWith_l1, c_trackOf σ 1 ht, k1s, h5, if_pos (nI_le (by omega) (by omega)), show i = nT h t by omega]
    | succ d ih =>
      intro i f hi hf
      obtain ⟨f, rfl⟩ : ∃ m, f = m + 1 := ⟨f - 1, by omega⟩
      rw [f_X2_captionsWith_l1, c_trackOf σ 1 ht, k1s, h5, if_neg (nI_ge (by omega) (by omega)), c_problems F I ht (by omega), k1s, ite_some, k1s, ite_acc, nI_s1]
      exact ih (i + 1) f (by omega) (by omega)
  unfold f_X2_captionsWith
  rw [show f_X2_captionsWith_l1 σ (nI t) m FU 0 0 = _ from loop (nT h t) 0 FU (by omega) (by omega), k1s]
theorem m_with {σ : gSt} (I : Inv (σ 1) (gK (σ 1))) {t : Nat} (ht : t < 2) (m : Int32) : f_X10_with σ (nI t) m = some (sA (fun c => if sPr (σ 1) (gK (σ 1)) t c &&& m = 0 then 0 else 1) 0 (nT (σ 1) t)) := by
  have hF := FU_ge
  have hn := I.n16 ht
  have loop : ∀ (d i f : Nat), i + d = nT (σ 1) t → d < f → f_X10_with_l1 σ (nI t) m f (nI i) (sA (fun c => if sPr (σ 1) (gK (σ 1)) t c &&& m = 0 then 0 else 1) 0 i) = some (sA (fun c => if sPr (σ 1) (gK (σ 1)) t c &&& m = 0 then 0 else 1) 0 (nT (σ 1) t)) := by
    intro d
    induction d with
    | zero =>
      intro i f hi hf
      obtain ⟨f, rfl⟩ : ∃ m, f = m + 1 := ⟨f - 1, by omega⟩
      rw [f_X10_with_l1, m_cnt ht, k1s, I.nT_eq ht, if_pos (nI_le (by omega) (by omega)), show i = nT (σ 1) t by omega]
    | succ d ih =>
      intro i f hi hf
      obtain ⟨f, rfl⟩ : ∃ m, f = m + 1 := ⟨f - 1, by omega⟩
      rw [f_X10_with_l1, m_cnt ht, k1s, I.nT_eq ht, if_neg (nI_ge (by omega) (by omega)), m_problems I ht (by omega), k1s, ite_some, k1s, nI_s1]
      exact ih (i + 1) f (by omega) (by omega)
  unfold f_X10_with
  rw [show f_X10_with_l1 σ (nI t) m FU 0 0 = _ from loop (nT (σ 1) t) 0 FU (by omega) (by omega), k1s]
def sCw (h : fH) (k : fK) (t c : Nat) : Nat := cB (inB (hCut h) (k t c 0) (k t c 1)) (nC h)
theorem c_over {σ : gSt} {h : fH} {k : fK} (F : FR σ 1 h k) (I : Inv h k) {t : Nat} (ht : t < 2) : f_X2_captionsOverCuts σ (nI t) = some (sA (fun c => if nI (sCw h k t c) ≤ 0 then 0 else 1) 0 (nT h t)) := by
  have hF := FU_ge
  have hn := I.n16 ht
  have h5 := (F.trk ht).1
  have loop : ∀ (d i f : Nat), i + d = nT h t → d < f → f_X2_captionsOverCuts_l1 σ (nI t) f (nI i) (sA (fun c => if nI (sCw h k t c) ≤ 0 then 0 else 1) 0 i) = some (sA (fun c => if nI (sCw h k t c) ≤ 0 then 0 else 1) 0 (nT h t)) := by
    intro d
    induction d with
    | zero =>
      intro i f hi hf
      obtain ⟨f, rfl⟩ : ∃ m, f = m + 1 := ⟨f - 1, by omega⟩
      rw [f_X2_captionsOverCuts_l1, c_trackOf σ 1 ht, k1s, h5, if_pos (nI_le (by omega) (by omega)), show i = nT h t by omega]
    | succ d ih =>
      intro i f hi hf
      obtain ⟨f, rfl⟩ : ∃ m, f = m + 1 := ⟨f - 1, by omega⟩
      rw [f_X2_captionsOverCuts_l1, c_trackOf σ 1 ht, k1s, h5, if_neg (nI_ge (by omega) (by omega)), c_cutsWithin F I.cutL I.trkL ht (by omega) (I.cap ht (c := i) (by omega)).2.1, k1s, ite_some, k1s, ite_acc, nI_s1 i]
      exact ih (i + 1) f (by omega) (by omega)
  unfold f_X2_captionsOverCuts
  rw [show f_X2_captionsOverCuts_l1 σ (nI t) FU 0 0 = _ from loop (nT h t) 0 FU (by omega) (by omega), k1s]
theorem m_over {σ : gSt} (I : Inv (σ 1) (gK (σ 1))) {t : Nat} (ht : t < 2) : f_X10_overCuts σ (nI t) = some (sA (fun c => if nI (sCw (σ 1) (gK (σ 1)) t c) ≤ 0 then 0 else 1) 0 (nT (σ 1) t)) := by
  have hF := FU_ge
  have hn := I.n16 ht
  have loop : ∀ (d i f : Nat), i + d = nT (σ 1) t → d < f → f_X10_overCuts_l1 σ (nI t) f (nI i) (sA (fun c => if nI (sCw (σ 1) (gK (σ 1)) t c) ≤ 0 then 0 else 1) 0 i) = some (sA (fun c => if nI (sCw (σ 1) (gK (σ 1)) t c) ≤ 0 then 0 else 1) 0 (nT (σ 1) t)) := by
    intro d
    induction d with
    | zero =>
      intro i f hi hf
      obtain ⟨f, rfl⟩ : ∃ m, f = m + 1 := ⟨f - 1, by omega⟩
      rw [f_X10_overCuts_l1, m_cnt ht, k1s, I.nT_eq ht, if_pos (nI_le (by omega) (by omega)), show i = nT (σ 1) t by omega]
    | succ d ih =>
      intro i f hi hf
      obtain ⟨f, rfl⟩ : ∃ m, f = m + 1 := ⟨f - 1, by omega⟩
      rw [f_X10_overCuts_l1, m_cnt ht, k1s, I.nT_eq ht, if_neg (nI_ge (by omega) (by omega)), m_cutsWithin I.cutL ht (by omega) (I.in0 ht (by omega)) (I.in1 ht (by omega)), k1s, ite_some, k1s, nI_s1 i]
      exact ih (i + 1) f (by omega) (by omega)
  unfold f_X10_overCuts
  rw [show f_X10_overCuts_l1 σ (nI t) FU 0 0 = _ from loop (nT (σ 1) t) 0 FU (by omega) (by omega), k1s]
