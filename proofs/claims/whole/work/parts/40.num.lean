/-! ===== a track changes ===== -/
def tOK (len : Int32) (n : Nat) (kp : Nat → Nat → Int32) : Prop := n ≤ 16 ∧ (∀ c, c < n → capOK len (kp c)) ∧ ∀ c, c + 1 < n → kp c 1 ≤ kp (c + 1) 0
theorem Inv.tOK {h : fH} {k : fK} (I : Inv h k) {t : Nat} (ht : t < 2) : tOK (h 0) (nT h t) (k t) := (I.2.2 t ht).2
theorem FI.track {σ σ' τ τ' : gSt} (Z : FI σ τ) {t n' : Nat} (ht : t < 2) {kp' : Nat → Nat → Int32} (F' : FT σ' (tB 1 t) n' kp') (e : ∀ c w, c < n' → w < 28 → gK (τ' 1) t c w = kp' c w) (h5 : τ' 1 (28 + t) = nI n') (o : offT (τ 1) (τ' 1) t) (fσ : ∀ c, 1 ≤ c → c < 17 → (c < tB 1 t ∨ tB 1 t + 5 < c) → σ' c = σ c) (K : tOK (τ 1 0) n' kp') : FI σ' τ' := by
  obtain ⟨F, I⟩ := Z
  obtain ⟨k1', k2', k3'⟩ := K
  have h16o := I.n16 (t := 1 - t) (by omega)
  have hc20 := I.2.1.2.1
  have eC : nC (τ' 1) = nC (τ 1) := by unfold nC; rw [o.1 7 (by omega) (by omega)]
  have eT : nT (τ' 1) t = n' := by unfold nT; rw [h5, nN_nI (by omega)]
  have eO : nT (τ' 1) (1 - t) = nT (τ 1) (1 - t) := by unfold nT; rw [o.1 (28 + (1 - t)) (by omega) (by omega)]
  have bT : tB 1 t = 5 + 6 * t := (tB_le ht).1
  have bO : tB 1 (1 - t) = 5 + 6 * (1 - t) := (tB_le (by omega)).1
  refine ⟨⟨?_, fun j hj => ?_, ?_, fun i hi => ?_, fun t' ht' => ?_⟩, ?_, ?_, fun t' ht' => ?_⟩
  · rw [fσ 1 (by omega) (by omega) (by omega), o.1 0 (by omega) (by omega)]; exact F.1
  · rw [fσ _ (by omega) (by omega) (by omega), o.1 _ (by omega) (by omega)]; exact F.2.1 j hj
  · rw [fσ _ (by omega) (by omega) (by omega), o.1 _ (by omega) (by omega)]; exact F.2.2.1
  · rw [eC] at hi
    rw [fσ _ (by omega) (by omega) (by omega), o.1 _ (by omega) (by omega)]; exact F.2.2.2.1 i hi
  · by_cases h : t' = t
    · subst h
      rw [eT]
      exact F'.congr (fun c hc => (k2' c hc).sz.2) (fun c hc w hw => (e c w hc hw).symm)
    · obtain rfl : t' = 1 - t := by omega
      rw [eO]
      exact ((F.trk ht').frame (fun j hj => fσ _ (by omega) (by omega) (by omega))).congr (I.s24 ht') (fun c hc w hw => (o.2 c w (by omega) hw).symm)
  · have := I.1
    unfold setOK at *
    rw [o.1 0 (by omega) (by omega), o.1 1 (by omega) (by omega), o.1 2 (by omega) (by omega), o.1 3 (by omega) (by omega), o.1 4 (by omega) (by omega), o.1 5 (by omega) (by omega), o.1 6 (by omega) (by omega)]
    exact this
  · obtain ⟨s0, s1, s2, s3⟩ := I.2.1
    refine ⟨by rw [eC, o.1 7 (by omega) (by omega)]; exact s0, by rw [eC]; exact s1, fun i hi => ?_, fun i hi => ?_⟩
    · rw [eC] at hi
      rw [o.1 (8 + i) (by omega) (by omega), o.1 0 (by omega) (by omega)]; exact s2 i hi
    · rw [eC] at hi
      rw [o.1 (8 + i) (by omega) (by omega), o.1 (8 + (i + 1)) (by omega) (by omega)]; exact s3 i hi
  · rw [show trkOK (τ' 1) (gK (τ' 1)) t' = (τ' 1 (28 + t') = nI (nT (τ' 1) t') ∧ nT (τ' 1) t' ≤ 16 ∧ (∀ c, c < nT (τ' 1) t' → capOK (τ' 1 0) (gK (τ' 1) t' c)) ∧ ∀ c, c + 1 < nT (τ' 1) t' → gK (τ' 1) t' c 1 ≤ gK (τ' 1) t' (c + 1) 0) from rfl, o.1 0 (by omega) (by omega)]
    by_cases h : t' = t
    · subst h
      rw [eT]
      exact ⟨h5, k1', fun c hc => (k2' c hc).congr (fun w hw => (e c w hc hw).symm), fun c hc => by rw [e c 1 (by omega) (by omega), e (c + 1) 0 hc (by omega)]; exact k3' c hc⟩
    · obtain rfl : t' = 1 - t := by omega
      obtain ⟨a, b, d, f⟩ := I.2.2 (1 - t) ht'
      rw [eO]
      exact ⟨by rw [o.1 _ (by omega) (by omega)]; exact a, b, fun c hc => (d c hc).congr (fun w hw => (o.2 c w (by omega) hw).symm), fun c hc => by rw [o.2 c 1 (by omega) (by omega), o.2 (c + 1) 0 (by omega) (by omega)]; exact f c hc⟩
theorem dRow_ok {len : Int32} {n c0 : Nat} {kp : Nat → Nat → Int32} (K : tOK len n kp) (hc : c0 < n) : tOK len (n - 1) (dRow kp c0) := by
  obtain ⟨k1', k2', k3'⟩ := K
  refine ⟨by omega, fun c h => ?_, fun c h => ?_⟩
  · unfold dRow
    split
    · exact k2' c (by omega)
    · exact k2' (c + 1) (by omega)
  · unfold dRow
    by_cases h1 : c + 1 < c0
    · rw [if_pos (show c < c0 by omega), if_pos h1]; exact k3' c (by omega)
    · rw [if_neg h1]
      by_cases h2 : c < c0
      · rw [if_pos h2]
        have a := k3' c (by omega)
        have b := (k2' (c + 1) (by omega)).2.1
        have d := k3' (c + 1) (by omega)
        grind
      · rw [if_neg h2]; exact k3' (c + 1) (by omega)
/-- where nothing else stands there is a place -/
theorem tOK.free {len : Int32} {n : Nat} {kp : Nat → Nat → Int32} (K : tOK len n kp) {a b : Int32} (hab : a < b) (hf : ∀ i, i < n → ¬ (a < kp i 1 ∧ kp i 0 < b)) : ∃ r, r ≤ n ∧ (∀ i, i < r → kp i 1 ≤ a) ∧ ∀ i, r ≤ i → i < n → b ≤ kp i 0 := by
  obtain ⟨k1', k2', k3'⟩ := K
  have hpre := fun i (hi : i < n) => cB_pre (p := fun i => decide (kp i 1 ≤ a)) (m := n) (fun i hi h => by
    simp only [decide_eq_true_eq] at h ⊢
    have x := k3' i hi
    have y := (k2' (i + 1) hi).2.1
    grind) hi
  refine ⟨cB (fun i => decide (kp i 1 ≤ a)) n, cB_le_n _ _, fun i hi => ?_, fun i hi hn => ?_⟩
  · have hle := cB_le_n (fun i => decide (kp i 1 ≤ a)) n
    have := (hpre i (by omega)).mpr hi
    simpa using this
  · have h1 : ¬ kp i 1 ≤ a := by
      intro h
      have := (hpre i hn).mp (by simpa using h)
      omega
    have := hf i hn
    grind
theorem tOK.place {len : Int32} {n r : Nat} {kp : Nat → Nat → Int32} (K : tOK len n kp) {a b : Int32} (hab : a < b) (h : r ≤ n ∧ (∀ i, i < r → kp i 1 ≤ a) ∧ ∀ i, r ≤ i → i < n → b ≤ kp i 0) : place kp n r a := by
  obtain ⟨h1, h2, h3⟩ := h
  refine ⟨h1, fun i hi => ?_, fun i hi hn => ?_⟩
  · have := h2 i hi
    have y := (K.2.1 i (by omega)).2.1
    grind
  · have := h3 i hi hn
    grind
theorem iRow_ok {len : Int32} {n r : Nat} {kp : Nat → Nat → Int32} {q : Nat → Int32} (K : tOK len n kp) (hn : n < 16) (hq : capOK len q) (h : r ≤ n ∧ (∀ i, i < r → kp i 1 ≤ q 0) ∧ ∀ i, r ≤ i → i < n → q 1 ≤ kp i 0) : tOK len (n + 1) (iRow kp r q) := by
  obtain ⟨k1', k2', k3'⟩ := K
  obtain ⟨h1, h2, h3⟩ := h
  refine ⟨by omega, fun c hc => ?_, fun c hc => ?_⟩
  · unfold iRow
    by_cases c1 : c < r
    · rw [if_pos c1]; exact k2' c (by omega)
    · rw [if_neg c1]
      by_cases c2 : c = r
      · rw [if_pos c2]; exact hq
      · rw [if_neg c2]; exact k2' (c - 1) (by omega)
  · unfold iRow
    by_cases c1 : c + 1 < r
    · rw [if_pos (show c < r by omega), if_pos c1]; exact k3' c (by omega)
    · rw [if_neg c1]
      by_cases c2 : c + 1 = r
      · rw [if_pos (show c < r by omega), if_pos c2]; exact h2 c (by omega)
      · rw [if_neg c2, if_neg (show ¬ c < r by omega), show c + 1 - 1 = c from rfl]
        by_cases c3 : c = r
        · rw [if_pos c3]; exact h3 c (by omega) (by omega)
        · rw [if_neg c3]
          have := k3' (c - 1) (by omega)
          rw [show c - 1 + 1 = c by omega] at this
          exact this
theorem RR.film2 {σ σ' τ τ' : gSt} (R : RR σ τ) (F' : FI σ' τ') (hσ : ∀ c, c = 0 ∨ (25 ≤ c ∧ c ≤ 188) → σ' c = σ c) (hτ : ∀ c, c ≠ 1 → c ≠ 5 → τ' c = τ c) : RR σ' τ' := by
  obtain ⟨a, b, d, ⟨p, nx, H⟩, m, f⟩ := R
  exact ⟨F', b.frame (by rw [hσ 0 (by omega)]) (fun c h1 h2 => hσ c (by omega)) (by rw [hτ 0 (by omega) (by omega)]) (hτ 2 (by omega) (by omega)), d.frame (by rw [hσ 0 (by omega)]) (by rw [hσ 0 (by omega)]) (by rw [hσ 0 (by omega)]) (by rw [hτ 0 (by omega) (by omega)]) (by rw [hτ 0 (by omega) (by omega)]) (by rw [hτ 0 (by omega) (by omega)]), ⟨p, nx, H.frame (hσ 25 (by omega)) (fun c h1 h2 => hσ c (by omega)) (by rw [hτ 0 (by omega) (by omega)]) (hτ 4 (by omega) (by omega))⟩, m, f.frame (hσ 187 (by omega)) (hσ 188 (by omega)) (by rw [hτ 0 (by omega) (by omega)]) (hτ 6 (by omega) (by omega))⟩
theorem call_remove {σ τ : gSt} (R : RR σ τ) (a b : Int32) : ∃ x r σ' r' τ', f_X9_remove σ a b = some (x, r, σ') ∧ f_X10_remove τ a b = some (r', τ') ∧ CR [0, 3] σ' τ' x r r' := by
  rcases capCases R.1 a b with ⟨t, c, ht, hc, rfl, rfl⟩ | ⟨e1, e2⟩
  · have t1 : up2 τ 0 10 0 1 = τ 1 := up2_k (by omega)
    obtain ⟨σ1, τ1, e1, e2, R1, fs, fs2, t0, tc⟩ := keepRR (R.thr 0)
    have g1 : τ1 1 = τ 1 := by rw [tc 1 (by omega) (by omega), t1]
    have Z := R1.1
    have hc1 : c < nT (τ1 1) t := by rw [g1]; exact hc
    have h16 := Z.2.n16 ht
    have bT := (tB_le ht).2
    have bT1 := (tB_le ht).1
    obtain ⟨σ2, e3, F2, f2⟩ := c_close (Z.1.trk ht) (Z.2.s24 ht) hc1
    obtain ⟨τ2, e4, m2, o2, n2, k2⟩ := m_takes ht (Z.2.nT_eq ht) h16 hc1
    have Z2 : FI σ2 τ2 := Z.track ht F2 (fun c w h1 h2 => k2 c w h1 h2) n2 o2 (fun c h1 h2 h3 => f2 c h3) (dRow_ok (Z.2.tOK ht) hc1)
    have R2 := R1.film2 Z2 (fun c hc => f2 c (by omega)) (fun c h1 h2 => m2 c h1)
    refine ⟨0, nI (nT (τ1 1) t - 1), σ2, nI (nT (τ1 1) t - 1), τ2, ?_, ?_, R2, CO.z (L := [0, 3]) (by rw [m2 0 (by omega), t0 10 (by omega), up2_s]) (by decide), fun _ => rfl⟩
    · unfold f_X9_remove
      rw [c_reqC R.1.1 ht hc, x2s, e1, k1s, c_trackOf σ1 1 ht, k1s, e3, k1s, F2.1]
    · unfold f_X10_remove
      rw [m_isCap R.1.2 ht hc, k1s, if_neg (by decide), k1s, gset_n, k1s, up2_s, if_pos (by decide), e2, k1s, e4, k1s, m_cnt ht, k1s, n2]
  · refine ⟨3, 0, σ, 0, up2 τ 0 10 1, ?_, ?_, R.thr 1, CO.o (L := [0, 3]) (up2_s ..) (by decide), fun h => by omega⟩
    · unfold f_X9_remove
      rw [e1]; rfl
    · unfold f_X10_remove
      rw [e2, k1s, if_pos rfl, k1s, gset_n, k1s, up2_s, if_neg (by decide)]
