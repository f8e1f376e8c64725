/-! ===== a cut, in both ===== -/
theorem FI.cuts {σ σ' τ τ' : gSt} (Z : FI σ τ) {n' : Nat} {cut' : Nat → Int32} (Fc : FC σ' (1 + 2) n' cut') (h7 : τ' 1 7 = nI n') (hj : ∀ j, j < n' → hCut (τ' 1) j = cut' j) (fσ : ∀ c, c ≠ 1 + 2 → c ≠ 1 + 2 + 1 → σ' c = σ c) (fτ : ∀ j, (j < 7 ∨ 28 ≤ j) → τ' 1 j = τ 1 j) (ok1 : ∀ i, i < n' → 1 ≤ cut' i ∧ cut' i < τ 1 0) (ok2 : ∀ i, i + 1 < n' → cut' i < cut' (i + 1)) : FI σ' τ' := by
  have hn := Fc.2.1
  have eC : nC (τ' 1) = n' := by unfold nC; rw [h7, nN_nI (by omega)]
  unfold hCut at hj
  refine ⟨FR.head Z.1 (fun j hj => fτ j (by omega)) (fun c h1 h2 => fσ c (by omega) (by omega)) ?_ ?_ ?_ ?_, Inv.head Z.2 (fun j hj => fτ j (by omega)) ?_ ?_ ?_⟩
  · rw [fσ 1 (by omega) (by omega), fτ 0 (by omega)]; exact Z.1.1
  · intro j hj; rw [fσ _ (by omega) (by omega), fτ _ (by omega)]; exact Z.1.2.1 j hj
  · rw [h7]; exact Fc.1
  · intro i hi
    rw [eC] at hi
    rw [hj i hi]; exact Fc.2.2 i hi
  · have := Z.2.1
    unfold setOK at *
    rw [fτ 0 (by omega), fτ 1 (by omega), fτ 2 (by omega), fτ 3 (by omega), fτ 4 (by omega), fτ 5 (by omega), fτ 6 (by omega)]
    exact this
  · refine ⟨by rw [eC]; exact h7, by rw [eC]; exact hn, fun i hi => ?_, fun i hi => ?_⟩
    · rw [eC] at hi
      rw [hj i hi, fτ 0 (by omega)]; exact ok1 i hi
    · rw [eC] at hi
      rw [hj i (by omega), hj (i + 1) hi]; exact ok2 i hi
  · intro t ht c hc
    rw [fτ 0 (by omega)]
    exact (Z.2.cap ht hc).2.2.1
theorem insC_in {cut : Nat → Int32} {x : Int32} {n j : Nat} (hj : j < n + 1) : insC cut x n j = x ∨ ∃ i, i < n ∧ insC cut x n j = cut i := by
  have hle := insP_le cut x n
  unfold insC
  by_cases h1 : j < insP cut x n
  · rw [if_pos h1]; exact Or.inr ⟨j, by omega, rfl⟩
  · rw [if_neg h1]
    by_cases h2 : j = insP cut x n
    · rw [if_pos h2]; exact Or.inl rfl
    · rw [if_neg h2]; exact Or.inr ⟨j - 1, by omega, rfl⟩
theorem insC_lt {cut : Nat → Int32} {x : Int32} {n : Nat} (hs : ∀ i, i + 1 < n → cut i < cut (i + 1)) (hno : ¬ ∃ i, i < n ∧ cut i = x) {j : Nat} (hj : j + 1 < n + 1) : insC cut x n j < insC cut x n (j + 1) := by
  have hle := insP_le cut x n
  unfold insC
  by_cases h1 : j + 1 < insP cut x n
  · rw [if_pos (show j < insP cut x n by omega), if_pos h1]; exact hs j (by omega)
  · rw [if_neg h1]
    by_cases h2 : j + 1 = insP cut x n
    · rw [if_pos (show j < insP cut x n by omega), if_pos h2]
      have h3 := insP_lo (cut := cut) (x := x) (n := n) (by omega)
      rw [show insP cut x n - 1 = j by omega] at h3
      have h4 : cut j ≠ x := fun hh => hno ⟨j, by omega, hh⟩
      grind
    · rw [if_neg h2, if_neg (show ¬ j < insP cut x n by omega), show j + 1 - 1 = j from rfl]
      by_cases h3 : j = insP cut x n
      · rw [if_pos h3]; exact insP_hi (cut := cut) (x := x) (n := n) (by omega) (by omega)
      · rw [if_neg h3]
        have := hs (j - 1) (by omega)
        rw [show j - 1 + 1 = j by omega] at this
        exact this
theorem delC_lt {cut : Nat → Int32} {n r : Nat} (hs : ∀ i, i + 1 < n → cut i < cut (i + 1)) {j : Nat} (hj : j + 1 < n - 1) : delC cut r j < delC cut r (j + 1) := by
  unfold delC
  by_cases h1 : j + 1 < r
  · rw [if_pos (show j < r by omega), if_pos h1]; exact hs j (by omega)
  · rw [if_neg h1]
    by_cases h2 : j < r
    · rw [if_pos h2]
      have h3 := hs j (by omega)
      have h4 := hs (j + 1) (by omega)
      grind
    · rw [if_neg h2]; exact hs (j + 1) (by omega)
abbrev isCutP (h : fH) (x : Int32) : Prop := ∃ i, i < nC h ∧ hCut h i = x
theorem cutTake {σ τ : gSt} (Z : FI σ τ) {x : Int32} (hx : 1 ≤ x ∧ x < τ 1 0) : ∃ σ' τ', f_X0_takeAway σ (1 + 2) x = some σ' ∧ f_X10_cuts τ x 0 = some τ' ∧ FI σ' τ' ∧ (∀ c, c ≠ 1 + 2 → c ≠ 1 + 2 + 1 → σ' c = σ c) ∧ ∀ c, c ≠ 1 → τ' c = τ c := by
  have I := Z.2
  have C := I.cutL
  have F := Z.1.fc C
  by_cases h : isCutP (τ 1) x
  · obtain ⟨r, hr, rfl⟩ := h
    obtain ⟨σ', e1, a1, a2⟩ := c_take F I.2.1.2.2.2 hr (by grind)
    obtain ⟨τ', e2, b1, b2, b3, b4⟩ := m_take C I.2.1.2.2.2 hr
    refine ⟨σ', τ', e1, e2, Z.cuts a1 b1 b2 a2 b4 (fun i hi => ?_) (fun i hi => delC_lt I.2.1.2.2.2 hi), a2, b3⟩
    unfold delC
    by_cases h1 : i < r
    · rw [if_pos h1]; exact I.2.1.2.2.1 i (by omega)
    · rw [if_neg h1]; exact I.2.1.2.2.1 (i + 1) (by omega)
  · refine ⟨σ, τ, ?_, ?_, Z, fun _ _ _ => rfl, fun _ _ => rfl⟩
    · unfold f_X0_takeAway
      rw [c_holds F (by grind), k1s, b01_f h, if_pos rfl]
    · unfold f_X10_cuts
      rw [m_isCut C, k1s, b01_f h, if_pos rfl]
theorem cutMake {σ τ : gSt} (Z : FI σ τ) {x : Int32} (hx : 1 ≤ x ∧ x < τ 1 0) (hroom : nC (τ 1) < 20 ∨ isCutP (τ 1) x) : ∃ σ' τ', f_X0_make σ (1 + 2) x = some σ' ∧ f_X10_cuts τ x 1 = some τ' ∧ FI σ' τ' ∧ (∀ c, c ≠ 1 + 2 → c ≠ 1 + 2 + 1 → σ' c = σ c) ∧ ∀ c, c ≠ 1 → τ' c = τ c := by
  have I := Z.2
  have C := I.cutL
  have F := Z.1.fc C
  by_cases h : isCutP (τ 1) x
  · refine ⟨σ, τ, ?_, ?_, Z, fun _ _ _ => rfl, fun _ _ => rfl⟩
    · unfold f_X0_make
      rw [c_holds F (by grind), k1s, b01_t h, if_neg (by decide)]
    · unfold f_X10_cuts
      rw [m_isCut C, k1s, b01_t h, if_pos rfl]
  · have hn := hroom.resolve_right h
    obtain ⟨σ', e1, a1, a2⟩ := c_make F (x := x) (by grind) hn h
    obtain ⟨τ', e2, b1, b2, b3, b4⟩ := m_make C hn h
    refine ⟨σ', τ', e1, e2, Z.cuts a1 b1 b2 a2 b4 (fun i hi => ?_) (fun i hi => insC_lt I.2.1.2.2.2 h hi), a2, b3⟩
    rcases insC_in (cut := hCut (τ 1)) (x := x) hi with e | ⟨j, hj, e⟩
    · rw [e]; exact hx
    · rw [e]; exact I.2.1.2.2.1 j hj
noncomputable def sCR (h : fH) (x mk : Int32) : Int32 := if b01 (1 ≤ x ∧ x < h 0) = 0 then 1 else if mk = 0 then 0 else if b01 (nC h = 20 ∧ ¬ isCutP h x) = 0 then 0 else 8
theorem c_canBeCut {σ : gSt} {h : fH} {k : fK} (F : FR σ 1 h k) (x : Int32) : f_X3_canBeCut σ 1 x = some (b01 (1 ≤ x ∧ x < h 0)) := by
  unfold f_X3_canBeCut
  simp only [k1i, k1s, gz0, gz1, F.1]
  by_cases h1 : x < 1
  · rw [if_pos h1, b01_f (by grind)]
  · rw [if_neg h1]
    by_cases h2 : h 0 ≤ x
    · rw [if_pos h2, b01_f (by grind)]
    · rw [if_neg h2, b01_t (by grind)]
theorem c_lacks {σ : gSt} {h : fH} {k : fK} (F : FR σ 1 h k) (C : cutL h) {x : Int32} (hx : 0 ≤ x) : f_X0_lacksRoomFor σ (1 + 2) x = some (b01 (nC h = 20 ∧ ¬ isCutP h x)) := by
  have Fc := F.fc C
  have hn := C.2.1
  unfold f_X0_lacksRoomFor
  rw [Fc.1, c_holds Fc hx]
  simp only [k1i, k1s, gz0, gz1]
  by_cases h1 : nC h < 20
  · rw [if_pos (show nI (nC h) < 20 from nI_lt (b := 20) h1 (by omega)), b01_f (fun hh => by omega)]
  · rw [if_neg (show ¬ nI (nC h) < 20 from nI_nlt (b := 20) (by omega) (by omega))]
    by_cases h2 : isCutP h x
    · rw [b01_t h2, if_neg (by decide), b01_f (fun hh => hh.2 h2)]
    · rw [b01_f h2, if_pos rfl, b01_t ⟨by omega, h2⟩]
theorem m_againstCut {σ : gSt} (I : Inv (σ 1) (gK (σ 1))) (x mk : Int32) : f_X10_againstCut σ x mk = some (sCR (σ 1) x mk) := by
  have C := I.cutL
  have hn := C.2.1
  have hl := I.1.1
  unfold f_X10_againstCut sCR
  rw [m_in, k1s, b01_c (show (1 ≤ x ∧ x ≤ σ 1 0 - 1) ↔ (1 ≤ x ∧ x < σ 1 0) by grind), C.1, m_isCut C]
  by_cases h1 : b01 (1 ≤ x ∧ x < σ 1 0) = 0
  · rw [if_pos h1, if_pos h1]; rfl
  · rw [if_neg h1, if_neg h1]
    by_cases h2 : mk = 0
    · rw [if_pos h2, if_pos h2]; rfl
    · rw [if_neg h2, if_neg h2]
      by_cases h3 : nC (σ 1) = 20
      · rw [if_pos (show nI (nC (σ 1)) = 20 by rw [h3]; rfl), k1s]
        by_cases h4 : isCutP (σ 1) x
        · rw [b01_t h4, if_neg (by decide), b01_f (fun hh => hh.2 h4), if_pos rfl]; rfl
        · rw [b01_f h4, if_pos rfl, b01_t ⟨h3, h4⟩, if_neg (by decide)]; rfl
      · rw [if_neg (show ¬ nI (nC (σ 1)) = 20 from fun hh => h3 ((nI_eq (a := nC (σ 1)) (b := 20) (by omega) (by omega)).mp hh)), b01_f (fun hh => h3 hh.1), if_pos rfl]; rfl
/-- both carry a cut out, or both refuse it alike -/
theorem cutDo {σ τ : gSt} (Z : FI σ τ) (x : Int32) {mk : Int32} (hm : mk = 0 ∨ mk = 1) (h : sCR (τ 1) x mk = 0) : ∃ σ' τ', (if mk = 0 then f_X0_takeAway σ (1 + 2) x else f_X0_make σ (1 + 2) x) = some σ' ∧ f_X10_cuts τ x mk = some τ' ∧ FI σ' τ' ∧ (∀ c, c ≠ 1 + 2 → c ≠ 1 + 2 + 1 → σ' c = σ c) ∧ ∀ c, c ≠ 1 → τ' c = τ c := by
  have hn := Z.2.cutL.2.1
  unfold sCR at h
  by_cases h1 : 1 ≤ x ∧ x < τ 1 0
  · rw [b01_t h1, if_neg (by decide)] at h
    rcases hm with rfl | rfl
    · rw [if_pos rfl]; exact cutTake Z h1
    · rw [if_neg (by decide)] at h ⊢
      by_cases h2 : nC (τ 1) = 20 ∧ ¬ isCutP (τ 1) x
      · rw [b01_t h2] at h; exact absurd h (by decide)
      · refine cutMake Z h1 ?_
        by_cases h3 : isCutP (τ 1) x
        · exact Or.inr h3
        · exact Or.inl (by
            have : nC (τ 1) ≠ 20 := fun hh => h2 ⟨hh, h3⟩
            omega)
  · rw [b01_f h1, if_pos rfl] at h; exact absurd h (by decide)
theorem c_cutRef {σ τ : gSt} (Z : FI σ τ) (x : Int32) {mk : Int32} : f_X1_carryOutCut σ x mk = if sCR (τ 1) x mk = 0 then g_k1 (if mk = 0 then f_X0_takeAway σ (1 + 2) x else f_X0_make σ (1 + 2) x) (fun s => some (0, s)) else some (sCR (τ 1) x mk, σ) := by
  unfold f_X1_carryOutCut sCR
  rw [c_canBeCut Z.1, k1s]
  by_cases h1 : 1 ≤ x ∧ x < τ 1 0
  · rw [b01_t h1, if_neg (show ¬ (1 : Int32) = 0 by decide), if_neg (show ¬ (1 : Int32) = 0 by decide)]
    by_cases h2 : mk = 0
    · rw [if_pos h2, if_pos h2, if_pos h2, if_pos rfl]
    · rw [if_neg h2, if_neg h2, if_neg h2, c_lacks Z.1 Z.2.cutL (by grind), k1s]
      by_cases h3 : b01 (nC (τ 1) = 20 ∧ ¬ isCutP (τ 1) x) = 0
      · rw [if_pos h3, if_pos h3, if_pos rfl]
      · rw [if_neg h3, if_neg h3, if_neg (by decide)]
  · rw [b01_f h1, if_pos rfl, if_pos rfl, if_neg (by decide)]
theorem call_cut {σ τ : gSt} (R : RR σ τ) (x : Int32) {mk : Int32} (hm : mk = 0 ∨ mk = 1) : ∃ y r σ' r' τ', f_X9_cut σ x mk = some (y, r, σ') ∧ f_X10_cut τ x mk = some (r', τ') ∧ CR [0, 3, 4] σ' τ' y r r' := by
  have Z := R.1
  have C := Z.2.cutL
  have em : f_X10_cut τ x mk = g_k1 (if sCR (τ 1) x mk = 1 then some (1 : Int32) else (if sCR (τ 1) x mk = 8 then some (2 : Int32) else some (0 : Int32))) fun x2 => (g_k1 (gset τ 0 10 x2) fun σ5 => (if (σ5 0 10) ≤ 0 then (g_k1 (f_X10_changes σ5 1) fun σ7 => (g_k1 (f_X10_cuts σ7 x mk) fun σ8 => some ((σ8 1 7), σ8))) else some ((0 : Int32), σ5))) := by
    unfold f_X10_cut
    rw [m_againstCut Z.2, k1s]
  by_cases h1 : 1 ≤ x ∧ x < τ 1 0
  · by_cases h0 : sCR (τ 1) x mk = 0
    · obtain ⟨σ1, τ1, e1, e2, R1, fs, fs2, t0, tc⟩ := keepRR (R.thr 0)
      have t1 : τ1 1 = τ 1 := by rw [tc 1 (by omega) (by omega), up2_k (by omega)]
      obtain ⟨σ2, τ2, c1, c2, c3, c4, c5⟩ := cutDo R1.1 x hm (by rw [t1]; exact h0)
      have R2 := R1.film c3 (fun c hc => c4 c (by omega) (by omega)) c5
      refine ⟨0, τ2 1 7, σ2, τ2 1 7, τ2, ?_, ?_, R2, CO.z (L := [0, 3, 4]) (by rw [c5 0 (by omega), t0 10 (by omega), up2_s]) (by decide), fun _ => rfl⟩
      · have eb : f_X9_cut_b1 x mk σ = some (0, τ2 1 7, σ2) := by
          unfold f_X9_cut_b1
          rw [e1, k1s]
          have : (if mk = 0 then (g_k1 (f_X0_takeAway σ1 (1 + 2) x) fun σ10 => some σ10) else (g_k1 (f_X0_make σ1 (1 + 2) x) fun σ11 => some σ11)) = some σ2 := by
            by_cases hz : mk = 0
            · rw [if_pos hz] at c1 ⊢; rw [c1, k1s]
            · rw [if_neg hz] at c1 ⊢; rw [c1, k1s]
          rw [this, k1s, show σ2 (1 + 2) 1 = τ2 1 7 from c3.1.2.2.1]
        unfold f_X9_cut
        rw [c_canBeCut Z.1, k1s, b01_t h1, if_neg (by decide), eb]
        by_cases hz : mk = 0
        · rw [if_pos hz]
        · rw [if_neg hz, c_lacks Z.1 C (by grind), k1s]
          unfold sCR at h0
          rw [b01_t h1, if_neg (by decide), if_neg hz] at h0
          by_cases h3 : b01 (nC (τ 1) = 20 ∧ ¬ isCutP (τ 1) x) = 0
          · rw [if_pos h3]
          · rw [if_neg h3] at h0; exact absurd h0 (by decide)
      · rw [em, h0, if_neg (by decide), if_neg (by decide), k1s, gset_n, k1s, up2_s, if_pos (by decide), e2, k1s, c2, k1s]
    · have hz : mk ≠ 0 := by
        intro hz
        apply h0
        unfold sCR
        rw [b01_t h1, if_neg (by decide), if_pos hz]
      have h3 : ¬ b01 (nC (τ 1) = 20 ∧ ¬ isCutP (τ 1) x) = 0 := by
        intro h3
        apply h0
        unfold sCR
        rw [b01_t h1, if_neg (by decide), if_neg hz, if_pos h3]
      have h8 : sCR (τ 1) x mk = 8 := by
        unfold sCR
        rw [b01_t h1, if_neg (by decide), if_neg hz, if_neg h3]
      refine ⟨4, 0, σ, 0, up2 τ 0 10 2, ?_, ?_, R.thr 2, CO.t (L := [0, 3, 4]) (up2_s ..) (by decide), fun h => by omega⟩
      · unfold f_X9_cut
        rw [c_canBeCut Z.1, k1s, b01_t h1, if_neg (by decide), if_neg hz, c_lacks Z.1 C (by grind), k1s, if_neg h3]
      · rw [em, h8, if_neg (by decide), if_pos rfl, k1s, gset_n, k1s, up2_s, if_neg (by decide)]
  · have hs : sCR (τ 1) x mk = 1 := by unfold sCR; rw [b01_f h1, if_pos rfl]
    refine ⟨3, 0, σ, 0, up2 τ 0 10 1, ?_, ?_, R.thr 1, CO.o (L := [0, 3, 4]) (up2_s ..) (by decide), fun h => by omega⟩
    · unfold f_X9_cut
      rw [c_canBeCut Z.1, k1s, b01_f h1, if_pos rfl]
    · rw [em, hs, if_pos rfl, k1s, gset_n, k1s, up2_s, if_neg (by decide)]
