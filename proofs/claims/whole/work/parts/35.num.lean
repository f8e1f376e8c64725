/-! ===== joining two captions ===== -/
def joinU (q1 q2 : Nat → Int32) (m1 : Nat) : Nat → Int32 := fun i => if i < m1 then q1 (4 + i) else if i = m1 then 95 else q2 (4 + (i - (m1 + 1)))
theorem nB_app (u : Nat → Int32) (m d : Nat) : nB u (m + d) = nB u m + nB (fun i => u (m + i)) d := by
  induction d with
  | zero => rfl
  | succ d ih => rw [show m + (d + 1) = m + d + 1 by omega, nB_s, nB_s, ih, Nat.add_assoc]
theorem nB_join (q1 q2 : Nat → Int32) (m1 m2 : Nat) : nB (joinU q1 q2 m1) (m1 + 1 + m2) = nB (fun i => q1 (4 + i)) m1 + nB (fun i => q2 (4 + i)) m2 := by
  rw [nB_app, nB_s]
  have e1 : nB (joinU q1 q2 m1) m1 = nB (fun i => q1 (4 + i)) m1 := nB_congr (fun i hi => by unfold joinU; rw [if_pos hi])
  have e2 : nB (fun i => joinU q1 q2 m1 (m1 + 1 + i)) m2 = nB (fun i => q2 (4 + i)) m2 := nB_congr (fun i hi => by
    unfold joinU
    rw [if_neg (by omega), if_neg (by omega), show m1 + 1 + i - (m1 + 1) = i by omega])
  have e3 : joinU q1 q2 m1 m1 = 95 := by unfold joinU; rw [if_neg (by omega), if_pos rfl]
  rw [e1, e2, e3, if_neg (by decide), Nat.add_zero]
theorem txtOK_join {q1 q2 : Nat → Int32} {m1 m2 : Nat} (h1 : txtOK m1 (fun i => q1 (4 + i))) (h2 : txtOK m2 (fun i => q2 (4 + i))) : txtOK (m1 + 1 + m2) (joinU q1 q2 m1) ↔ (m1 + m2 + 1 ≤ 24 ∧ nB (fun i => q1 (4 + i)) m1 + nB (fun i => q2 (4 + i)) m2 ≤ 1) := by
  obtain ⟨a1, a2, a3, a4, a5, a6⟩ := h1
  obtain ⟨b1, b2, b3, b4, b5, b6⟩ := h2
  constructor
  · rintro ⟨c1, c2, c3, c4, c5, c6⟩
    rw [nB_join] at c4
    exact ⟨by omega, c4⟩
  · rintro ⟨d1, d2⟩
    refine ⟨by omega, by omega, fun i hi => ?_, by rw [nB_join]; exact d2, ?_, ?_⟩
    · unfold joinU
      by_cases h : i < m1
      · rw [if_pos h]; exact a3 i h
      · rw [if_neg h]
        by_cases h' : i = m1
        · rw [if_pos h']; exact Or.inl rfl
        · rw [if_neg h']; exact b3 _ (by omega)
    · unfold joinU; rw [if_pos (by omega)]; exact a5
    · unfold joinU
      rw [if_neg (by omega), if_neg (by omega), show m1 + 1 + m2 - 1 - (m1 + 1) = m2 - 1 by omega]; exact b6
theorem capOK.ne {len : Int32} {q : Nat → Int32} (h : capOK len q) : ∀ i, i < nN (q 3) → q (4 + i) ≠ -1 := by
  intro i hi e
  have := h.2.2.2.2.2.2.2.1 i hi
  rw [show (fun i => q (4 + i)) i = q (4 + i) from rfl, e] at this
  unfold isW at this
  revert this
  decide
theorem tB_le {t : Nat} (ht : t < 2) : tB 1 t = 5 + 6 * t ∧ tB 1 t + 5 ≤ 16 := by unfold tB; omega
theorem c_join {σ : gSt} {h : fH} {k : fK} (F : FR σ 1 h k) (I : Inv h k) {t c : Nat} (ht : t < 2) (hc : c + 1 < nT h t) :
    ∃ σ', f_X2_joinWithNext σ (nI t) (nI c) = some (18, σ') ∧ TX σ' 18 (nN (k t c 3) + 1 + nN (k t (c + 1) 3)) (joinU (k t c) (k t (c + 1)) (nN (k t c 3))) ∧ ∀ c, c ≠ 18 → c ≠ 19 → σ' c = σ c := by
  have hT := (tB_le ht).2
  have cp1 := I.cap ht (c := c) (by omega)
  have cp2 := I.cap ht hc
  have s1 := cp1.sz.2
  have s2 := cp2.sz.2
  have F0 := F.trk ht
  have hd : ∀ j, j ≤ 5 → tB 1 t + j ≠ 18 ∧ tB 1 t + j ≠ 18 + 1 := fun j hj => ⟨by omega, by omega⟩
  obtain ⟨σ2, e2, T2, f2⟩ := c_clear (σ := σ) 18
  have F2 : FT σ2 (tB 1 t) (nT h t) (k t) := F0.frame (fun j hj => f2 _ (by omega))
  obtain ⟨σ4, e4, T4, f4⟩ := c_textTo (c := c) (p := 0) (q := nN (k t c 3)) F2 (T2 (fun _ => 0)) (by omega) cp1.sz.1 cp1.sz.2 (by omega) (Nat.le_refl _) (by omega) hd cp1.ne
  have F4 : FT σ4 (tB 1 t) (nT h t) (k t) := F2.frame (fun j hj => f4 _ (hd j hj).1 (hd j hj).2)
  obtain ⟨σ6, e6, T6, f6⟩ := c_append T4 (by omega) 95
  have F6 : FT σ6 (tB 1 t) (nT h t) (k t) := F4.frame (fun j hj => f6 _ (hd j hj).1 (hd j hj).2)
  obtain ⟨σ8, e8, T8, f8⟩ := c_textTo (c := c + 1) (p := 0) (q := nN (k t (c + 1) 3)) F6 T6 hc cp2.sz.1 cp2.sz.2 (by omega) (Nat.le_refl _) (by omega) hd cp2.ne
  refine ⟨σ8, ?_, ?_, fun c h1 h2 => by rw [f8 c h1 h2, f6 c h1 h2, f4 c h1 h2, f2 c h1]⟩
  · unfold f_X2_joinWithNext
    rw [c_trackOf σ 1 ht, k1s, e2, k1s, c_sizeN F2 (by omega) cp1.sz, k1s, show f_X8_appendTextTo σ2 (tB 1 t) 18 (nI c) 0 (nI (nN (k t c 3))) = _ from e4, k1s, e6, k2s, nI_s1 c, c_sizeN F6 hc cp2.sz, k1s, show f_X8_appendTextTo σ6 (tB 1 t) 18 (nI (c + 1)) 0 (nI (nN (k t (c + 1) 3))) = _ from e8, k1s]
  · have hm : 0 + (nN (k t c 3) - 0) + 1 + (nN (k t (c + 1) 3) - 0) = nN (k t c 3) + 1 + nN (k t (c + 1) 3) := by omega
    rw [hm] at T8
    refine T8.congr (fun i hi => ?_)
    unfold joinU
    have hz : 0 + (nN (k t c 3) - 0) = nN (k t c 3) := by omega
    simp only [hz, Nat.zero_add, Nat.sub_zero, Nat.not_lt_zero, if_false]
    by_cases h1 : i < nN (k t c 3)
    · rw [if_pos (by omega), if_neg (by omega), if_pos h1]
    · rw [if_neg h1]
      by_cases h2 : i = nN (k t c 3)
      · rw [if_pos (by omega), if_pos h2, if_pos h2]
      · rw [if_neg (by omega), if_neg h2]
noncomputable def sMg (h : fH) (k : fK) (t c : Nat) : Int32 :=
  if c + 1 = nT h t then 5 else if k t c 2 = k t (c + 1) 2 then (if k t (c + 1) 0 - k t c 1 ≤ h 4 then (if b01 (nN (k t c 3) + nN (k t (c + 1) 3) + 1 ≤ 24 ∧ nB (fun i => k t c (4 + i)) (nN (k t c 3)) + nB (fun i => k t (c + 1) (4 + i)) (nN (k t (c + 1) 3)) ≤ 1) = 0 then 4 else 0) else 7) else 6
theorem c_mergeRef {σ : gSt} {h : fH} {k : fK} (F : FR σ 1 h k) (I : Inv h k) {t c : Nat} (ht : t < 2) (hc : c < nT h t) :
    ∃ σ', f_X2_mergeRefusal σ (nI t) (nI c) = some (sMg h k t c, σ') ∧ ∀ c, c ≠ 18 → c ≠ 19 → σ' c = σ c := by
  have F0 := F.trk ht
  have h16 := I.n16 ht
  unfold f_X2_mergeRefusal sMg
  rw [c_trackOf σ 1 ht, k1s, nI_s1]
  by_cases h1 : c + 1 = nT h t
  · rw [if_pos h1, c_has_f F0.1 (Or.inr (nI_le (by omega) (by omega))), k1s, if_pos rfl]
    exact ⟨σ, rfl, fun _ _ _ => rfl⟩
  · rw [if_neg h1, c_has_t F0.1 F0.2.1 (by omega), k1s, if_neg (by decide), c_kind F0 hc, k1s, c_kind F0 (by omega), k1s]
    by_cases h2 : k t c 2 = k t (c + 1) 2
    · rw [if_pos h2, if_pos h2, c_gap F0 (by omega), if_neg (by omega), k1s, c_set3 F, k1s, show c + 1 - 1 = c from rfl]
      by_cases h3 : k t (c + 1) 0 - k t c 1 ≤ h 4
      · rw [if_pos h3, if_pos h3]
        obtain ⟨σ', e, T, fr⟩ := c_join F I ht (show c + 1 < nT h t by omega)
        rw [e, k2s, c_isValid T, k1s, ite_some, k1s, b01_c (txtOK_join (I.cap ht hc).2.2.2.2.2 (I.cap ht (c := c + 1) (by omega)).2.2.2.2.2)]
        exact ⟨σ', rfl, fr⟩
      · rw [if_neg h3, if_neg h3]; exact ⟨σ, rfl, fun _ _ _ => rfl⟩
    · rw [if_neg h2, if_neg h2]; exact ⟨σ, rfl, fun _ _ _ => rfl⟩
theorem m_barsK {σ : gSt} {t c : Nat} (ht : t < 2) (hc : c < 16) (hs : szOK (gK (σ 1) t c)) : f_X10_bars σ 1 (nI (30 + 28 * (16 * t + c) + 4)) (nI (nN (gK (σ 1) t c 3))) = some (nI (nB (fun i => gK (σ 1) t c (4 + i)) (nN (gK (σ 1) t c 3)))) := by
  have hs2 := hs.2
  rw [m_bars (by show _ ≤ 926; omega) (by decide)]
  rw [nB_congr (v := fun i => gK (σ 1) t c (4 + i)) (fun i _ => by unfold gK; rw [Nat.add_assoc _ 4 i])]
theorem m_mergeRef {σ : gSt} (I : Inv (σ 1) (gK (σ 1))) {t c : Nat} (ht : t < 2) (hc : c < nT (σ 1) t) : f_X10_againstMerge σ (nI t) (nI c) = some (sMg (σ 1) (gK (σ 1)) t c) := by
  have h16 := I.n16 ht
  unfold f_X10_againstMerge sMg
  rw [m_cnt ht, k1s, I.nT_eq ht, nI_s1]
  by_cases h1 : c + 1 = nT (σ 1) t
  · rw [if_pos h1, h1, if_pos rfl]
  · have hne : ¬ nI (c + 1) = nI (nT (σ 1) t) := fun hh => h1 ((nI_eq (by omega) (by omega)).mp hh)
    have cp1 := I.cap ht hc
    have cp2 := I.cap ht (c := c + 1) (by omega)
    have s1 := cp1.sz.2
    have s2 := cp2.sz.2
    rw [if_neg h1, if_neg hne, m_at2, k1s, m_gK ht (by omega) (by omega), k1s, m_at2, k1s, m_gK ht (by omega) (by omega), k1s]
    by_cases h2 : gK (σ 1) t c 2 = gK (σ 1) t (c + 1) 2
    · rw [if_pos h2, if_pos h2, m_before ht (by omega) (by omega), k1s, show c + 1 - 1 = c from rfl]
      by_cases h3 : gK (σ 1) t (c + 1) 0 - gK (σ 1) t c 1 ≤ σ 1 4
      · rw [if_pos h3, if_pos h3, m_at3, k1s, m_g3 ht (by omega) cp1.sz, k1s, m_at3, k1s, m_g3 ht (by omega) cp2.sz, k1s, nI_add, nI_s1]
        by_cases h4 : 24 < nN (gK (σ 1) t c 3) + nN (gK (σ 1) t (c + 1) 3) + 1
        · rw [if_pos (show (24 : Int32) < nI _ from nI_lt (a := 24) h4 (by omega)), k1s, b01_f (fun hh => by omega), if_pos rfl]
        · rw [if_neg (show ¬ (24 : Int32) < nI _ from nI_nlt (a := 24) (by omega) (by omega)), m_at4, k1s, m_barsK ht (by omega) cp1.sz, k1s, m_at4, k1s, m_barsK ht (by omega) cp2.sz, k1s, nI_add]
          have l1 := nB_le (fun i => gK (σ 1) t c (4 + i)) (nN (gK (σ 1) t c 3))
          have l2 := nB_le (fun i => gK (σ 1) t (c + 1) (4 + i)) (nN (gK (σ 1) t (c + 1) 3))
          by_cases h5 : nB (fun i => gK (σ 1) t c (4 + i)) (nN (gK (σ 1) t c 3)) + nB (fun i => gK (σ 1) t (c + 1) (4 + i)) (nN (gK (σ 1) t (c + 1) 3)) ≤ 1
          · rw [if_pos (show nI _ ≤ (1 : Int32) from nI_le (b := 1) h5 (by omega)), k1s, b01_t ⟨by omega, h5⟩, if_neg (by decide)]
          · rw [if_neg (show ¬ nI _ ≤ (1 : Int32) from nI_ge (a := 1) (by omega) (by omega)), k1s, b01_f (fun hh => h5 hh.2), if_pos rfl]
      · rw [if_neg h3, if_neg h3]
    · rw [if_neg h2, if_neg h2]
theorem c_toMerge {σ : gSt} {h : fH} {k : fK} (F : FR σ 1 h k) (I : Inv h k) {t : Nat} (ht : t < 2) : ∃ σ', f_X2_captionsToMerge σ (nI t) = some (sA (fun c => if sMg h k t c = 0 then 1 else 0) 0 (nT h t), σ') ∧ ∀ c, c ≠ 18 → c ≠ 19 → σ' c = σ c := by
  have hF := FU_ge
  have hn := I.n16 ht
  have loop : ∀ (d i f : Nat) (σ1 : gSt), i + d = nT h t → d < f → (∀ c, c ≠ 18 → c ≠ 19 → σ1 c = σ c) →
      ∃ σ', f_X2_captionsToMerge_l1 σ (nI t) f (nI i) (sA (fun c => if sMg h k t c = 0 then 1 else 0) 0 i) σ1 = some (sA (fun c => if sMg h k t c = 0 then 1 else 0) 0 (nT h t), σ') ∧ ∀ c, c ≠ 18 → c ≠ 19 → σ' c = σ c := by
    intro d
    induction d with
    | zero =>
      intro i f σ1 hi hf h1
      obtain ⟨f, rfl⟩ : ∃ m, f = m + 1 := ⟨f - 1, by omega⟩
      have F1 : FR σ1 1 h k := F.frame (fun c a b => h1 c (by omega) (by omega))
      refine ⟨σ1, ?_, h1⟩
      rw [f_X2_captionsToMerge_l1, c_trackOf σ1 1 ht, k1s, (F1.trk ht).1, if_pos (nI_le (by omega) (by omega)), show i = nT h t by omega]
    | succ d ih =>
      intro i f σ1 hi hf h1
      obtain ⟨f, rfl⟩ : ∃ m, f = m + 1 := ⟨f - 1, by omega⟩
      have F1 : FR σ1 1 h k := F.frame (fun c a b => h1 c (by omega) (by omega))
      obtain ⟨σ2, e2, f2⟩ := c_mergeRef F1 I ht (c := i) (by omega)
      rw [f_X2_captionsToMerge_l1, c_trackOf σ1 1 ht, k1s, (F1.trk ht).1, if_neg (nI_ge (by omega) (by omega)), e2, k2s, ite_some, k1s, ite_acc', nI_s1]
      exact ih (i + 1) f σ2 (by omega) (by omega) (fun c a b => by rw [f2 c a b, h1 c a b])
  obtain ⟨σ', e, fr⟩ := loop (nT h t) 0 FU σ (by omega) (by omega) (fun _ _ _ => rfl)
  refine ⟨σ', ?_, fr⟩
  unfold f_X2_captionsToMerge
  rw [show f_X2_captionsToMerge_l1 σ (nI t) FU 0 0 σ = _ from e, k2s]
theorem m_merging {σ : gSt} (I : Inv (σ 1) (gK (σ 1))) {t : Nat} (ht : t < 2) : f_X10_merging σ (nI t) = some (sA (fun c => if sMg (σ 1) (gK (σ 1)) t c = 0 then 1 else 0) 0 (nT (σ 1) t)) := by
  have hF := FU_ge
  have hn := I.n16 ht
  have loop : ∀ (d i f : Nat), i + d = nT (σ 1) t → d < f → f_X10_merging_l1 σ (nI t) f (nI i) (sA (fun c => if sMg (σ 1) (gK (σ 1)) t c = 0 then 1 else 0) 0 i) = some (sA (fun c => if sMg (σ 1) (gK (σ 1)) t c = 0 then 1 else 0) 0 (nT (σ 1) t)) := by
    intro d
    induction d with
    | zero =>
      intro i f hi hf
      obtain ⟨f, rfl⟩ : ∃ m, f = m + 1 := ⟨f - 1, by omega⟩
      rw [f_X10_merging_l1, m_cnt ht, k1s, I.nT_eq ht, if_pos (nI_le (by omega) (by omega)), show i = nT (σ 1) t by omega]
    | succ d ih =>
      intro i f hi hf
      obtain ⟨f, rfl⟩ : ∃ m, f = m + 1 := ⟨f - 1, by omega⟩
      rw [f_X10_merging_l1, m_cnt ht, k1s, I.nT_eq ht, if_neg (nI_ge (by omega) (by omega)), m_mergeRef I ht (by omega), k1s, ite_some, k1s, nI_s1]
      exact ih (i + 1) f (by omega) (by omega)
  unfold f_X10_merging
  rw [show f_X10_merging_l1 σ (nI t) FU 0 0 = _ from loop (nT (σ 1) t) 0 FU (by omega) (by omega), k1s]
/-! ===== tracks and captions asked for ===== -/
theorem c_isTrack {σ : gSt} {t : Nat} (ht : t < 2) : f_X9_isTrack σ (nI t) = some 1 := by
  rcases (show t = 0 ∨ t = 1 by omega) with rfl | rfl <;> rfl
theorem c_isTrack_f {σ : gSt} {a : Int32} (h : a < 0 ∨ nI 2 ≤ a) : f_X9_isTrack σ a = some 0 := by
  unfold f_X9_isTrack
  by_cases h1 : a < 0
  · rw [if_pos h1]; rfl
  · rw [if_neg h1, if_pos (show (2 : Int32) ≤ a from h.resolve_left h1)]; rfl
theorem c_reqT {σ : gSt} {t : Nat} (ht : t < 2) : f_X9_requireTrack σ (nI t) = some (0, σ) := by
  unfold f_X9_requireTrack
  rw [c_isTrack ht, k1s, if_neg (by decide)]
theorem c_reqT_f {σ : gSt} {a : Int32} (h : a < 0 ∨ nI 2 ≤ a) : f_X9_requireTrack σ a = some (3, σ) := by
  unfold f_X9_requireTrack
  rw [c_isTrack_f h, k1s, if_pos rfl]
theorem m_isTrack {σ : gSt} {t : Nat} (ht : t < 2) : f_X10_isTrack σ (nI t) = some 1 := by
  unfold f_X10_isTrack
  rw [m_in, k1s, b01_t ⟨nI_pos' (by omega), show nI t ≤ 1 from nI_le (b := 1) (by omega) (by omega)⟩]; rfl
theorem m_isTrack_f {σ : gSt} {a : Int32} (h : a < 0 ∨ nI 2 ≤ a) : f_X10_isTrack σ a = some 0 := by
  unfold f_X10_isTrack
  rw [m_in, k1s, b01_f]
  · rfl
  · rintro ⟨h1, h2⟩
    have e2 : (nI 2 : Int32) = 2 := rfl
    rw [e2] at h
    grind
theorem x2s {α : Type} (s : gSt) (q : Nat → gSt → α) (k : gSt → Option α) : g_x2 (some (0, s)) q k = k s := rfl
theorem c_reqC {σ : gSt} {h : fH} {k : fK} (F : FR σ 1 h k) {t c : Nat} (ht : t < 2) (hc : c < nT h t) : f_X9_requireCaption σ (nI t) (nI c) = some (0, σ) := by
  unfold f_X9_requireCaption
  rw [c_reqT ht, x2s, c_trackOf σ 1 ht, k1s, c_has_t (F.trk ht).1 (F.trk ht).2.1 hc, k1s, if_neg (by decide)]
theorem m_isCap {σ : gSt} (I : Inv (σ 1) (gK (σ 1))) {t c : Nat} (ht : t < 2) (hc : c < nT (σ 1) t) : f_X10_isCaption σ (nI t) (nI c) = some 1 := by
  have h16 := I.n16 ht
  unfold f_X10_isCaption
  rw [m_isTrack ht, k1s, if_neg (by decide), m_cnt ht, k1s, I.nT_eq ht, m_in, k1s, nI_sub1 (by omega), b01_t ⟨nI_pos' (by omega), nI_le (by omega) (by omega)⟩]
  rfl
/-- either a caption is meant, or both say no -/
theorem capCases {σ τ : gSt} (Z : FI σ τ) (a b : Int32) : (∃ t c, t < 2 ∧ c < nT (τ 1) t ∧ a = nI t ∧ b = nI c) ∨ (f_X9_requireCaption σ a b = some (3, σ) ∧ f_X10_isCaption τ a b = some 0) := by
  rcases i_cases a 2 (by omega) with ⟨t, ht, rfl⟩ | h
  · have h16 := Z.2.n16 ht
    have F := Z.1.trk ht
    rcases i_cases b (nT (τ 1) t) (by omega) with ⟨c, hc, rfl⟩ | h
    · exact Or.inl ⟨t, c, ht, hc, rfl, rfl⟩
    · refine Or.inr ⟨?_, ?_⟩
      · unfold f_X9_requireCaption
        rw [c_reqT ht, x2s, c_trackOf σ 1 ht, k1s, c_has_f F.1 h, k1s, if_pos rfl]
      · unfold f_X10_isCaption
        rw [m_isTrack ht, k1s, if_neg (by decide), m_cnt ht, k1s, Z.2.nT_eq ht, m_in, k1s, b01_f]
        · rfl
        · rintro ⟨h1, h2⟩
          rcases h with h | h
          · grind
          · rcases Nat.eq_zero_or_pos (nT (τ 1) t) with hz | hz
            · rw [hz] at h2
              have : (nI 0 - 1 : Int32) = -1 := by decide
              rw [this] at h2
              grind
            · rw [nI_sub1 hz] at h2
              exact nI_ge (show nT (τ 1) t - 1 < nT (τ 1) t by omega) (by omega) (Int32.le_trans h h2)
  · refine Or.inr ⟨?_, ?_⟩
    · unfold f_X9_requireCaption
      rw [c_reqT_f h]; rfl
    · unfold f_X10_isCaption
      rw [m_isTrack_f h, k1s, if_pos rfl]; rfl
