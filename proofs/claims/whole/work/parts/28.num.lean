/-! ===== copies ===== -/
theorem vup_s (σ : gSt) (k : Nat) (r : Nat → Int32) : va_up σ k r k = r := by unfold va_up; simp
theorem vup_n {σ : gSt} {k c : Nat} {r : Nat → Int32} (h : c ≠ k) : va_up σ k r c = σ c := by unfold va_up; simp [h]
theorem gcpyF (σ : gSt) (k0 k1 n : Nat) (hn : n ≤ 10000) : ∃ σ', gcpy σ k0 n k1 n (nI 0) (nI 0) (nI n) = some σ' ∧ (∀ j, j < n → σ' k1 j = σ k0 j) ∧ ∀ c, c ≠ k1 → σ' c = σ c := by
  refine ⟨_, gcpy_n (by omega) (by omega) hn hn, fun j hj => ?_, fun c hc => vup_n hc⟩
  rw [vup_s]
  unfold va_cpy
  rw [if_pos (by omega)]
  congr 1
  omega
theorem c_copyCuts (σ : gSt) (k a0 : Nat) (hd : a0 + 1 < k ∨ k + 1 < a0) : ∃ σ', f_X0_copyFrom σ k a0 = some σ' ∧ (∀ j, j < 20 → σ' (k + 1) j = σ (a0 + 1) j) ∧ σ' k 1 = σ a0 1 ∧ ∀ c, (c < k ∨ k + 1 < c) → σ' c = σ c := by
  obtain ⟨σ1, e1, v1, f1⟩ := gcpyF σ (a0 + 1) (k + 1) 20 (by omega)
  refine ⟨up2 σ1 k 1 (σ1 a0 1), ?_, ?_, ?_, ?_⟩
  · unfold f_X0_copyFrom
    rw [show gcpy σ (a0 + 1) 20 (k + 1) 20 0 0 20 = _ from e1, k1s, gset_n, k1s]
  · intro j hj
    rw [up2_k (by omega)]; exact v1 j hj
  · rw [up2_s, f1 a0 (by omega)]
  · intro c hc
    rw [up2_k (by omega), f1 c (by omega)]
theorem c_copyTrk (σ : gSt) (k a0 : Nat) (hd : a0 + 5 < k ∨ k + 5 < a0) : ∃ σ', f_X8_copyFrom σ k a0 = some σ' ∧ (∀ w, 1 ≤ w → w ≤ 4 → ∀ j, j < 16 → σ' (k + w) j = σ (a0 + w) j) ∧ (∀ j, j < 384 → σ' (k + 5) j = σ (a0 + 5) j) ∧ σ' k 5 = σ a0 5 ∧ ∀ c, (c < k ∨ k + 5 < c) → σ' c = σ c := by
  obtain ⟨σ1, e1, v1, f1⟩ := gcpyF σ (a0 + 1) (k + 1) 16 (by omega)
  obtain ⟨σ2, e2, v2, f2⟩ := gcpyF σ1 (a0 + 2) (k + 2) 16 (by omega)
  obtain ⟨σ3, e3, v3, f3⟩ := gcpyF σ2 (a0 + 3) (k + 3) 16 (by omega)
  obtain ⟨σ4, e4, v4, f4⟩ := gcpyF σ3 (a0 + 4) (k + 4) 16 (by omega)
  obtain ⟨σ5, e5, v5, f5⟩ := gcpyF σ4 (a0 + 5) (k + 5) 384 (by omega)
  refine ⟨up2 σ5 k 5 (σ5 a0 5), ?_, ?_, ?_, ?_, ?_⟩
  · unfold f_X8_copyFrom
    rw [show gcpy σ (a0 + 1) 16 (k + 1) 16 0 0 16 = _ from e1, k1s, show gcpy σ1 (a0 + 2) 16 (k + 2) 16 0 0 16 = _ from e2, k1s, show gcpy σ2 (a0 + 3) 16 (k + 3) 16 0 0 16 = _ from e3, k1s, show gcpy σ3 (a0 + 4) 16 (k + 4) 16 0 0 16 = _ from e4, k1s, show gcpy σ4 (a0 + 5) 384 (k + 5) 384 0 0 384 = _ from e5, k1s, gset_n, k1s]
  · intro w h1 h4 j hj
    rw [up2_k (by omega)]
    rcases (show w = 1 ∨ w = 2 ∨ w = 3 ∨ w = 4 by omega) with rfl | rfl | rfl | rfl
    · rw [f5 _ (by omega), f4 _ (by omega), f3 _ (by omega), f2 _ (by omega), v1 j hj]
    · rw [f5 _ (by omega), f4 _ (by omega), f3 _ (by omega), v2 j hj, f1 _ (by omega)]
    · rw [f5 _ (by omega), f4 _ (by omega), v3 j hj, f2 _ (by omega), f1 _ (by omega)]
    · rw [f5 _ (by omega), v4 j hj, f3 _ (by omega), f2 _ (by omega), f1 _ (by omega)]
  · intro j hj
    rw [up2_k (by omega), v5 j hj, f4 _ (by omega), f3 _ (by omega), f2 _ (by omega), f1 _ (by omega)]
  · rw [up2_s, f5 _ (by omega), f4 _ (by omega), f3 _ (by omega), f2 _ (by omega), f1 _ (by omega)]
  · intro c hc
    rw [up2_k (by omega), f5 _ (by omega), f4 _ (by omega), f3 _ (by omega), f2 _ (by omega), f1 _ (by omega)]
theorem FT.copy {σ σ' : gSt} {T U n : Nat} {kp : Nat → Nat → Int32} (F : FT σ T n kp) (hs : ∀ c, c < n → nN (kp c 3) ≤ 24) (h1 : ∀ w, 1 ≤ w → w ≤ 4 → ∀ j, j < 16 → σ' (U + w) j = σ (T + w) j) (h2 : ∀ j, j < 384 → σ' (U + 5) j = σ (T + 5) j) (h3 : σ' U 5 = σ T 5) : FT σ' U n kp := by
  have hn := F.2.1
  refine ⟨h3.trans F.1, hn, fun c hc => ?_⟩
  obtain ⟨a, b, d, e, f⟩ := F.2.2 c hc
  have hc3 := hs c hc
  exact ⟨(h1 1 (by omega) (by omega) c (by omega)).trans a, (h1 2 (by omega) (by omega) c (by omega)).trans b, (h1 3 (by omega) (by omega) c (by omega)).trans d, (h1 4 (by omega) (by omega) c (by omega)).trans e, fun i hi => (h2 _ (by omega)).trans (f i hi)⟩
theorem Inv.s24 {h : fH} {k : fK} (I : Inv h k) {t : Nat} (ht : t < 2) : ∀ c, c < nT h t → nN (k t c 3) ≤ 24 := fun _ hc => (I.cap ht hc).sz.2
theorem c_copyFilm {σ : gSt} {k a0 : Nat} {h : fH} {kk : fK} (F : FR σ a0 h kk) (I : Inv h kk) (hd : a0 + 16 ≤ k ∨ k + 16 ≤ a0) : ∃ σ', f_X3_copyFrom σ k a0 = some σ' ∧ FR σ' k h kk ∧ ∀ c, (c < k ∨ k + 16 ≤ c) → σ' c = σ c := by
  obtain ⟨g0, g1, g2, g3, g4⟩ := F
  have hc20 := I.2.1.2.1
  obtain ⟨σ2, e2, v2, f2⟩ := gcpyF (up2 σ k 0 (σ a0 0)) (a0 + 1) (k + 1) 6 (by omega)
  obtain ⟨σ3, e3, v3, w3, f3⟩ := c_copyCuts σ2 (k + 2) (a0 + 2) (by omega)
  obtain ⟨σ4, e4, v4, w4, x4, f4⟩ := c_copyTrk σ3 (k + 4) (a0 + 4) (by omega)
  obtain ⟨σ5, e5, v5, w5, x5, f5⟩ := c_copyTrk σ4 (k + 10) (a0 + 10) (by omega)
  have back : ∀ c, (c < k ∨ k + 16 ≤ c) → σ2 c = σ c := fun c hc => by rw [f2 c (by omega), up2_k (by omega)]
  have back3 : ∀ c, (c < k ∨ k + 16 ≤ c) → σ3 c = σ c := fun c hc => by rw [f3 c (by omega), back c hc]
  have back4 : ∀ c, (c < k ∨ k + 16 ≤ c) → σ4 c = σ c := fun c hc => by rw [f4 c (by omega), back3 c hc]
  refine ⟨σ5, ?_, ⟨?_, ?_, ?_, ?_, ?_⟩, ?_⟩
  · unfold f_X3_copyFrom
    rw [gset_n, k1s, show gcpy (up2 σ k 0 (σ a0 0)) (a0 + 1) 6 (k + 1) 6 0 0 6 = _ from e2, k1s, e3, k1s, e4, k1s, e5, k1s]
  · rw [f5 k (by omega), f4 k (by omega), f3 k (by omega), f2 k (by omega), up2_s, g0]
  · intro j hj
    rw [f5 _ (by omega), f4 _ (by omega), f3 _ (by omega), v2 j hj, up2_k (by omega), g1 j hj]
  · rw [f5 _ (by omega), f4 _ (by omega), w3, back _ (by omega), g2]
  · intro i hi
    rw [f5 _ (by omega), f4 _ (by omega), show k + 3 = k + 2 + 1 from rfl, v3 i (by omega), back _ (by omega), g3 i hi]
  · intro t ht
    rcases (show t = 0 ∨ t = 1 by omega) with rfl | rfl
    · have F0 : FT σ (a0 + 4) (nT h 0) (kk 0) := g4 0 (by omega)
      refine FT.copy (T := a0 + 4) (U := k + 4) F0 (I.s24 ht) ?_ ?_ ?_
      · intro w hw1 hw4 j hj
        rw [f5 _ (by omega), v4 w hw1 hw4 j hj, back3 _ (by omega)]
      · intro j hj
        rw [f5 _ (by omega), w4 j hj, back3 _ (by omega)]
      · rw [f5 _ (by omega), x4, back3 _ (by omega)]
    · have F0 : FT σ (a0 + 10) (nT h 1) (kk 1) := g4 1 (by omega)
      refine FT.copy (T := a0 + 10) (U := k + 10) F0 (I.s24 ht) ?_ ?_ ?_
      · intro w hw1 hw4 j hj
        rw [v5 w hw1 hw4 j hj, back4 _ (by omega)]
      · intro j hj
        rw [w5 j hj, back4 _ (by omega)]
      · rw [x5, back4 _ (by omega)]
  · intro c hc
    rw [f5 _ (by omega), back4 c hc]
theorem FR.frame {σ σ' : gSt} {f : Nat} {h : fH} {k : fK} (F : FR σ f h k) (hf : ∀ c, f ≤ c → c < f + 16 → σ' c = σ c) : FR σ' f h k := by
  obtain ⟨g0, g1, g2, g3, g4⟩ := F
  refine ⟨?_, ?_, ?_, ?_, ?_⟩
  · rw [hf f (by omega) (by omega)]; exact g0
  · rw [hf (f + 1) (by omega) (by omega)]; exact g1
  · rw [hf (f + 2) (by omega) (by omega)]; exact g2
  · rw [hf (f + 3) (by omega) (by omega)]; exact g3
  · intro t ht
    exact (g4 t ht).frame (fun j hj => hf _ (by unfold tB; omega) (by unfold tB; omega))
/-! rows of the reference that agree -/
def rowEq (g g' : Nat → Int32) : Prop := ∀ j, j < 926 → g j = g' j
theorem rowEq.gK {g g' : Nat → Int32} (e : rowEq g g') {t c w : Nat} (ht : t < 2) (hc : c < 16) (hw : w < 28) : gK g t c w = gK g' t c w := e _ (by omega)
theorem nB_cg {q q' : Nat → Int32} {m : Nat} (h : ∀ i, i < m → q (4 + i) = q' (4 + i)) : nB (fun i => q (4 + i)) m = nB (fun i => q' (4 + i)) m := nB_congr h
theorem capOK.congr {len : Int32} {q q' : Nat → Int32} (H : capOK len q) (e : ∀ w, w < 28 → q w = q' w) : capOK len q' := by
  have hs := H.sz.2
  obtain ⟨a, b, d, f, g, i⟩ := H
  have e0 := e 0 (by omega)
  have e1 := e 1 (by omega)
  have e2 := e 2 (by omega)
  have e3 := e 3 (by omega)
  refine ⟨e0 ▸ a, by rw [← e0, ← e1]; exact b, e1 ▸ d, e2 ▸ f, by rw [← e3]; exact g, ?_⟩
  rw [← e3]
  exact txtOK_congr (fun i hi => e (4 + i) (by omega)) i
theorem Inv.congr {g g' : Nat → Int32} (e : rowEq g g') (I : Inv g (gK g)) : Inv g' (gK g') := by
  have hn0 := I.n16 (t := 0) (by omega)
  have hn1 := I.n16 (t := 1) (by omega)
  have hc20 := I.2.1.2.1
  have eC : nC g' = nC g := by unfold nC; rw [e 7 (by omega)]
  have eT : ∀ t, t < 2 → nT g' t = nT g t := fun t ht => by unfold nT; rw [e (28 + t) (by omega)]
  have hn : ∀ t, t < 2 → nT g t ≤ 16 := fun t ht => I.n16 ht
  obtain ⟨i1, i2, i3⟩ := I
  refine ⟨?_, ?_, ?_⟩
  · unfold setOK at *
    rw [← e 0 (by omega), ← e 1 (by omega), ← e 2 (by omega), ← e 3 (by omega), ← e 4 (by omega), ← e 5 (by omega), ← e 6 (by omega)]
    exact i1
  · obtain ⟨a, b, d, f⟩ := i2
    refine ⟨by rw [eC, ← e 7 (by omega)]; exact a, by rw [eC]; exact b, fun i hi => ?_, fun i hi => ?_⟩
    · rw [eC] at hi
      rw [← e 0 (by omega), ← e (8 + i) (by omega)]
      exact d i hi
    · rw [eC] at hi
      rw [← e (8 + i) (by omega), ← e (8 + (i + 1)) (by omega)]
      exact f i hi
  · intro t ht
    obtain ⟨a, b, d, f⟩ := i3 t ht
    have h16 := hn t ht
    refine ⟨by rw [eT t ht, ← e (28 + t) (by omega)]; exact a, by rw [eT t ht]; exact b, fun c hc => ?_, fun c hc => ?_⟩
    · rw [eT t ht] at hc
      rw [← e 0 (by omega)]
      exact (d c hc).congr (fun w hw => e.gK ht (by omega) hw)
    · rw [eT t ht] at hc
      rw [← e.gK ht (show c < 16 by omega) (show 1 < 28 by omega), ← e.gK ht (show c + 1 < 16 by omega) (show 0 < 28 by omega)]
      exact f c hc
theorem FT.congr {σ : gSt} {T n : Nat} {kp kp' : Nat → Nat → Int32} (F : FT σ T n kp) (hs : ∀ c, c < n → nN (kp c 3) ≤ 24) (e : ∀ c, c < n → ∀ w, w < 28 → kp c w = kp' c w) : FT σ T n kp' := by
  refine ⟨F.1, F.2.1, fun c hc => ?_⟩
  obtain ⟨a, b, d, f, g⟩ := F.2.2 c hc
  have h3 := hs c hc
  rw [← e c hc 0 (by omega), ← e c hc 1 (by omega), ← e c hc 2 (by omega), ← e c hc 3 (by omega)]
  exact ⟨a, b, d, f, fun i hi => (g i hi).trans (e c hc (4 + i) (by omega))⟩
theorem FR.congr {σ : gSt} {f : Nat} {g g' : Nat → Int32} (e : rowEq g g') (I : Inv g (gK g)) (F : FR σ f g (gK g)) : FR σ f g' (gK g') := by
  have hc20 := I.2.1.2.1
  have eC : nC g' = nC g := by unfold nC; rw [e 7 (by omega)]
  have eT : ∀ t, t < 2 → nT g' t = nT g t := fun t ht => by unfold nT; rw [e (28 + t) (by omega)]
  obtain ⟨g0, g1, g2, g3, g4⟩ := F
  refine ⟨?_, ?_, ?_, ?_, ?_⟩
  · rw [← e 0 (by omega)]; exact g0
  · intro j hj; rw [← e (1 + j) (by omega)]; exact g1 j hj
  · rw [← e 7 (by omega)]; exact g2
  · intro i hi; rw [eC] at hi; rw [← e (8 + i) (by omega)]; exact g3 i hi
  · intro t ht
    have h16 := I.n16 ht
    rw [eT t ht]
    exact (g4 t ht).congr (I.s24 ht) (fun c hc w hw => e.gK ht (by omega) hw)
/-! the reference's copies -/
theorem m_copies {σ : gSt} {a0 a2 p q : Nat} (hne : a0 ≠ a2) (hp : p + 926 ≤ gml a0) (hq : q + 926 ≤ gml a2) (hl0 : gml a0 ≤ 10000) (hl2 : gml a2 ≤ 10000) :
    ∃ σ', f_X10_copies σ a0 (nI p) a2 (nI q) = some σ' ∧ (∀ c, c ≠ a2 → σ' c = σ c) ∧ ∀ j, σ' a2 j = if q ≤ j ∧ j < q + 926 then σ a0 (p + (j - q)) else σ a2 j := by
  have hF := FU_ge
  have loop : ∀ (d i f : Nat) (σ1 : gSt), i + d = 926 → d < f → (∀ c, c ≠ a2 → σ1 c = σ c) → (∀ j, σ1 a2 j = if q ≤ j ∧ j < q + i then σ a0 (p + (j - q)) else σ a2 j) →
      ∃ σ', f_X10_copies_l1 σ a0 (nI p) a2 (nI q) f (nI i) σ1 = some σ' ∧ (∀ c, c ≠ a2 → σ' c = σ c) ∧ ∀ j, σ' a2 j = if q ≤ j ∧ j < q + 926 then σ a0 (p + (j - q)) else σ a2 j := by
    intro d
    induction d with
    | zero =>
      intro i f σ1 hi hf h1 h2
      obtain ⟨f, rfl⟩ : ∃ m, f = m + 1 := ⟨f - 1, by omega⟩
      obtain rfl : i = 926 := by omega
      refine ⟨σ1, ?_, h1, h2⟩
      rw [f_X10_copies_l1, if_pos (show (926 : Int32) ≤ nI 926 from by decide)]
    | succ d ih =>
      intro i f σ1 hi hf h1 h2
      obtain ⟨f, rfl⟩ : ∃ m, f = m + 1 := ⟨f - 1, by omega⟩
      rw [f_X10_copies_l1, if_neg (show ¬ (926 : Int32) ≤ nI i from nI_ge (b := 926) (a := i) (by omega) (by omega)), nI_add, gald_n (by omega) hl0, k1s, nI_add, gast_n (by omega) hl2, k1s, nI_s1]
      refine ih (i + 1) f _ (by omega) (by omega) (fun c hc => by rw [up2_k hc, h1 c hc]) (fun j => ?_)
      rw [up2_ap, h1 a0 hne]
      by_cases hj : j = q + i
      · subst hj
        rw [if_pos ⟨rfl, rfl⟩, if_pos (by omega)]
        congr 1; omega
      · rw [if_neg (fun hh => hj hh.2), h2 j]
        by_cases hj2 : q ≤ j ∧ j < q + i
        · rw [if_pos hj2, if_pos (by omega)]
        · rw [if_neg hj2, if_neg (by omega)]
  obtain ⟨σ', e, h1, h2⟩ := loop 926 0 FU σ (by omega) (by omega) (fun _ _ => rfl) (fun j => by rw [if_neg (by omega)])
  refine ⟨σ', ?_, h1, h2⟩
  unfold f_X10_copies
  rw [show f_X10_copies_l1 σ a0 (nI p) a2 (nI q) FU 0 σ = _ from e, k1s]
