/-! ===== the items carried out ===== -/
theorem sCR_nn (h : fH) (x mk : Int32) : 0 ≤ sCR h x mk := by
  unfold sCR
  repeat' split
  all_goals decide
theorem nn0 {v : Int32} (h : 0 ≤ v) : v ≤ 0 ↔ v = 0 := by
  rw [Int32.le_iff_toInt_le] at h ⊢
  have z : (0 : Int32).toInt = 0 := rfl
  constructor
  · intro h2
    exact Int32.toInt_inj.mp (by omega)
  · intro h2
    rw [h2]; omega
theorem r_what (σ : gSt) {i : Nat} (hi : i < 30) : f_X5_what σ (nI i) = some (σ 192 i) := by
  unfold f_X5_what
  rw [c_isItem _ hi, k1s, if_neg (by decide), gald_n hi (by omega), k1s, k1s]
theorem r_track (σ : gSt) {i : Nat} (hi : i < 30) : f_X5_trackOfItem σ (nI i) = some (σ 193 i) := by
  unfold f_X5_trackOfItem
  rw [c_isItem _ hi, k1s, if_neg (by decide), gald_n hi (by omega), k1s, k1s]
theorem r_kind (σ : gSt) {i : Nat} (hi : i < 30) : f_X5_kind σ (nI i) = some (σ 194 i) := by
  unfold f_X5_kind
  rw [c_isItem _ hi, k1s, if_neg (by decide), gald_n hi (by omega), k1s, k1s]
theorem r_first (σ : gSt) {i : Nat} (hi : i < 30) : f_X5_first σ (nI i) = some (σ 195 i) := by
  unfold f_X5_first
  rw [c_isItem _ hi, k1s, if_neg (by decide), gald_n hi (by omega), k1s, k1s]
theorem r_end (σ : gSt) {i : Nat} (hi : i < 30) : f_X5_end σ (nI i) = some (σ 196 i) := by
  unfold f_X5_end
  rw [c_isItem _ hi, k1s, if_neg (by decide), gald_n hi (by omega), k1s, k1s]
theorem r_from (σ : gSt) {i : Nat} (hi : i < 30) : f_X5_wordsFrom σ (nI i) = some (σ 197 i) := by
  unfold f_X5_wordsFrom
  rw [c_isItem _ hi, k1s, if_neg (by decide), gald_n hi (by omega), k1s, k1s]
theorem r_to (σ : gSt) {i : Nat} (hi : i < 30) : f_X5_wordsTo σ (nI i) = some (σ 198 i) := by
  unfold f_X5_wordsTo
  rw [c_isItem _ hi, k1s, if_neg (by decide), gald_n hi (by omega), k1s, k1s]
def CyF (σ σ' : gSt) : Prop := ∀ c, (c = 0 ∨ 17 ≤ c) → c ≠ 189 → c ≠ 190 → σ' c = σ c
def CyM (τ τ' : gSt) : Prop := ∀ c, c ≠ 1 → c ≠ 5 → τ' c = τ c
theorem item_do {σ τ : gSt} {m i : Nat} (Z : FI σ τ) (T : TX σ 187 m (τ 6)) (hu : ∀ j, j < m → 0 ≤ τ 6 j) (hi : i < 30) (I : IR1 σ τ m i) :
    ∃ v σ' τ', f_X9_carryOutItem σ (nI i) = some (v, σ') ∧ f_X10_does τ (nI i) = some (v, τ') ∧ 0 ≤ v ∧ FI σ' τ' ∧ CyF σ σ' ∧ CyM τ τ' := by
  have hm := T.2.1
  have e6 : (6 : Int32) * nI i = nI (6 * i) := by rw [show (6 : Int32) = nI 6 from rfl, pk_mul]
  have z2 : nI (6 * i) + (2 : Int32) = nI (6 * i + 2) := i6 i 2
  have z1 : nI (6 * i) + (1 : Int32) = nI (6 * i + 1) := i6 i 1
  have z3 : nI (6 * i) + (3 : Int32) = nI (6 * i + 3) := i6 i 3
  have z4 : nI (6 * i) + (4 : Int32) = nI (6 * i + 4) := i6 i 4
  have z5 : nI (6 * i) + (5 : Int32) = nI (6 * i + 5) := i6 i 5
  have ga : ∀ k, k < 6 → gald τ 7 180 (nI (6 * i + k)) = some (τ 7 (6 * i + k)) := fun k hk => gald_n (by omega) (by omega)
  have ga0 : gald τ 7 180 (nI (6 * i)) = some (τ 7 (6 * i)) := gald_n (by omega) (by omega)
  rcases I with ⟨hw, h195⟩ | ⟨t, f, z, ht, w0, w1, w2, wk, w3, w4, w5, w6, w7, w8, w9, hfz⟩
  · have hmk : (if τ 7 (6 * i) = 99 then (1 : Int32) else 0) = 0 ∨ (if τ 7 (6 * i) = 99 then (1 : Int32) else 0) = 1 := by
      by_cases h : τ 7 (6 * i) = 99
      · exact Or.inr (if_pos h)
      · exact Or.inl (if_neg h)
    obtain ⟨mk, emk⟩ : ∃ mk : Int32, mk = if τ 7 (6 * i) = 99 then (1 : Int32) else 0 := ⟨_, rfl⟩
    rw [← emk] at hmk
    have h192 : ¬ σ 192 i = 0 := by
      rcases hw with h | h
      · rw [h.2]; decide
      · rw [h.2]; decide
    have emk2 : (if σ 192 i = (1 : Int32) then some (1 : Int32) else some (0 : Int32)) = some mk := by
      rcases hw with h | h
      · rw [emk, if_pos h.2, if_pos h.1]
      · rw [emk, if_neg (by rw [h.2]; decide), if_neg (by rw [h.1]; decide)]
    have ec : f_X9_carryOutItem σ (nI i) = g_k2 (f_X1_carryOutCut σ (σ 195 i) mk) fun v27 σ28 => some (v27, σ28) := by
      unfold f_X9_carryOutItem
      rw [r_what σ hi, k1s, if_neg h192, r_first σ hi, k1s, k1s, emk2, k1s]
    have eb : f_X10_does τ (nI i) = f_X10_does_b1 (nI i) (nI (6 * i)) τ := by
      unfold f_X10_does
      rw [e6, ga0, k1s]
      rcases hw with h | h
      · rw [if_pos h.1]
      · rw [if_neg (by rw [h.1]; decide), k1s, if_pos h.1]
    have emk3 : (if τ 7 (6 * i) = (99 : Int32) then some (1 : Int32) else some (0 : Int32)) = some mk := by
      rw [emk]
      by_cases h : τ 7 (6 * i) = 99
      · rw [if_pos h, if_pos h]
      · rw [if_neg h, if_neg h]
    have em : f_X10_does τ (nI i) = (g_k1 (if sCR (τ 1) (τ 7 (6 * i + 2)) mk = 0 then (g_k1 (f_X10_cuts τ (τ 7 (6 * i + 2)) mk) fun σ20 => some σ20) else some τ) fun σ11 => some (sCR (τ 1) (τ 7 (6 * i + 2)) mk, σ11)) := by
      rw [eb]
      unfold f_X10_does_b1
      rw [z2, ga 2 (by omega), k1s, ga0, k1s, emk3, k1s, m_againstCut Z.2, k1s]
      by_cases h : sCR (τ 1) (τ 7 (6 * i + 2)) mk = 0
      · rw [if_pos h, if_pos h, k1s, k1s, emk3, k1s]
      · rw [if_neg h, if_neg h]
    by_cases h : sCR (τ 1) (τ 7 (6 * i + 2)) mk = 0
    · obtain ⟨σ', τ', a1, a2, a3, a4, a5⟩ := cutDo Z (τ 7 (6 * i + 2)) hmk h
      refine ⟨0, σ', τ', ?_, ?_, by decide, a3, fun c h1 h2 h3 => a4 c (by omega) (by omega), fun c h1 h2 => a5 c h1⟩
      · rw [ec, h195, c_cutRef Z, if_pos h, a1, k1s, k2s]
      · rw [em, if_pos h, a2, k1s, k1s, h]
    · refine ⟨sCR (τ 1) (τ 7 (6 * i + 2)) mk, σ, τ, ?_, ?_, sCR_nn _ _ _, Z, fun c h1 h2 h3 => rfl, fun c h1 h2 => rfl⟩
      · rw [ec, h195, c_cutRef Z, if_neg h, k2s]
      · rw [em, if_neg h, k1s]
  · obtain ⟨s1, e1, T1, f1⟩ := c_clear (σ := σ) 189
    have Ta : TX s1 187 m (τ 6) := T.frame (f1 187 (by omega)) (f1 188 (by omega))
    obtain ⟨s2, e2, T2, f2⟩ := c_appendPart (p := f) (q := f + z) Ta (T1 (fun _ => 0)) (by omega) hfz (by omega) (by omega) (by omega) (by omega) (fun j hj => by have := hu j (by omega); grind)
    have X : TX s2 189 z (fun j => τ 6 (f + j)) := by
      rw [show 0 + (f + z - f) = z by omega] at T2
      exact T2.congr (fun j hj => by simp)
    have fr : ∀ c, c ≠ 189 → c ≠ 190 → s2 c = σ c := fun c c1 c2 => by rw [f2 c c1 c2, f1 c c1]
    have Z2 : FI s2 τ := Z.frame (fun c h1 h2 => fr c (by omega) (by omega)) rfl
    have a1' : s1 197 i = nI f := by rw [f1 197 (by omega)]; exact w6
    have a2' : s1 198 i = nI (f + z) := by rw [f1 198 (by omega)]; exact w7
    have b3 : s2 193 i = nI t := by rw [fr 193 (by omega) (by omega)]; exact w2
    have b4 : s2 194 i = τ 7 (6 * i + 1) := by rw [fr 194 (by omega) (by omega)]; exact w3
    have b5 : s2 195 i = τ 7 (6 * i + 2) := by rw [fr 195 (by omega) (by omega)]; exact w4
    have b6 : s2 196 i = τ 7 (6 * i + 3) := by rw [fr 196 (by omega) (by omega)]; exact w5
    obtain ⟨v, ev⟩ : ∃ v, v = sAdd (τ 1) (gK (τ 1)) t (τ 7 (6 * i + 2)) (τ 7 (6 * i + 3)) z (fun j => τ 6 (f + j)) := ⟨_, rfl⟩
    have hA := c_addRef Z2.1 Z2.2 ht (τ 7 (6 * i + 2)) (τ 7 (6 * i + 3)) X
    have hB := m_addRef Z2.2 ht (τ 7 (6 * i + 2)) (τ 7 (6 * i + 3)) (p := f) (m := z) (by omega)
    rw [← ev] at hA hB
    have ec : f_X9_carryOutItem σ (nI i) = (g_k1 (if v = 0 then (g_k2 (f_X8_insertCaption s2 (tB 1 t) (τ 7 (6 * i + 1)) (τ 7 (6 * i + 2)) (τ 7 (6 * i + 3)) 189) fun v20 σ21 => some σ21) else some s2) fun σ11 => some (v, σ11)) := by
      unfold f_X9_carryOutItem
      rw [r_what σ hi, k1s, if_pos w1, e1, k1s, r_from s1 hi, k1s, r_to s1 hi, k1s, a1', a2', e2, k1s, r_track s2 hi, k1s, r_first s2 hi, k1s, r_end s2 hi, k1s, b3, b5, b6, hA, k1s]
      by_cases h : v = 0
      · rw [if_pos h, if_pos h, k1s, c_trackOf s2 1 ht, k1s, r_kind s2 hi, k1s, k1s, k1s, b4]
      · rw [if_neg h, if_neg h]
    have n99 : ¬ nI (97 + t) = 99 := by rcases (show t = 0 ∨ t = 1 by omega) with rfl | rfl <;> decide
    have n117 : ¬ nI (97 + t) = 117 := by rcases (show t = 0 ∨ t = 1 by omega) with rfl | rfl <;> decide
    have s97 : nI (97 + t) - 97 = nI t := by rcases (show t = 0 ∨ t = 1 by omega) with rfl | rfl <;> decide
    have em : f_X10_does τ (nI i) = (g_k1 (if v = 0 then (g_k2 (f_X10_adds τ (nI t) (τ 7 (6 * i + 1)) (τ 7 (6 * i + 2)) (τ 7 (6 * i + 3)) (nI f) (nI z)) fun v40 σ41 => some σ41) else some τ) fun σ31 => some (v, σ31)) := by
      unfold f_X10_does
      rw [e6, ga0, k1s, w0, if_neg n99, k1s, if_neg n117, k1s, z2, z3, z4, z5, z1, ga 2 (by omega), k1s, ga 3 (by omega), k1s, ga 4 (by omega), k1s, ga 5 (by omega), k1s, s97, w8, w9, hB, k1s]
      by_cases h : v = 0
      · rw [if_pos h, if_pos h, ga 1 (by omega), k1s, k1s, k1s, k1s, k1s]
      · rw [if_neg h, if_neg h]
    by_cases h : v = 0
    · obtain ⟨r, σ', τ', a1, a2, a3, a4, a5⟩ := addDo (p := f) Z2 ht X (by omega) (by omega) (fun j hj => rfl) (kd := τ 7 (6 * i + 1)) (by rw [← w3]; exact wk) (by rw [← ev]; exact h)
      have bT := tB_le ht
      refine ⟨0, σ', τ', ?_, ?_, by decide, a3, fun c h1 h2 h3 => (a4 c (by omega)).trans (fr c h2 h3), fun c h1 h2 => a5 c h1 h2⟩
      · rw [ec, if_pos h, a1, k2s, k1s, h]
      · rw [em, if_pos h, a2, k2s, k1s, h]
    · refine ⟨v, s2, τ, ?_, ?_, by rw [ev]; exact sAdd_nn .., Z2, fun c h1 h2 h3 => fr c h2 h3, fun c h1 h2 => rfl⟩
      · rw [ec, if_neg h, k1s]
      · rw [em, if_neg h, k1s]
theorem carry_both {m n : Nat} {σ0 τ0 : gSt} (hn : n ≤ 30) : ∀ (d i f f' : Nat) (σ τ : gSt), i + d = n → d < f → d < f' → FI σ τ → TX σ 187 m (τ 6) → (∀ j, j < m → 0 ≤ τ 6 j) → σ 191 7 = nI n → τ 0 16 = nI n → (∀ j, i ≤ j → j < n → IR1 σ τ m j) →
    ∃ σ' τ', FI σ' τ' ∧ CyF σ σ' ∧ CyM τ τ' ∧ ((f_X9_carryOutItems_l1 σ0 f (nI i) σ = (g_k1 (f_X4_commit σ') fun σ5 => some ((1 : Int32), σ5)) ∧ f_X10_read_l1 τ0 f' (nI i) τ = (g_k1 (f_X10_changes τ' 3) fun σ10 => some ((σ10 0 16), σ10))) ∨
      ∃ (k : Nat) (v : Int32), ¬ v = 0 ∧ k < n ∧ f_X9_carryOutItems_l1 σ0 f (nI i) σ = (g_k1 (f_X4_takeBackInto σ' 1) fun σ9 => (g_k1 (f_X9_keepRefusal σ9 v (nI k)) fun σ10 => some ((0 : Int32), σ10))) ∧ f_X10_read_l1 τ0 f' (nI i) τ = (g_k1 (f_X10_copies τ' 3 (0 : Int32) 1 (0 : Int32)) fun σ14 => (g_k2 (f_X10_refuses σ14 (2 : Int32) v) fun v15 σ16 => (g_k1 (gset σ16 0 8 (nI k)) fun σ17 => some ((0 : Int32), σ17))))) := by
  intro d
  induction d with
  | zero =>
    intro i f f' σ τ hi hf hf' Z T hu h7 h16 hI
    obtain ⟨q, rfl⟩ : ∃ q, f = q + 1 := ⟨f - 1, by omega⟩
    obtain ⟨q', rfl⟩ : ∃ q', f' = q' + 1 := ⟨f' - 1, by omega⟩
    refine ⟨σ, τ, Z, fun _ _ _ _ => rfl, fun _ _ _ => rfl, Or.inl ⟨?_, ?_⟩⟩
    · rw [f_X9_carryOutItems_l1, h7, if_pos (nI_le (by omega) (by omega))]
    · rw [f_X10_read_l1, h16, if_pos (nI_le (by omega) (by omega))]
  | succ d ih =>
    intro i f f' σ τ hi hf hf' Z T hu h7 h16 hI
    obtain ⟨q, rfl⟩ : ∃ q, f = q + 1 := ⟨f - 1, by omega⟩
    obtain ⟨q', rfl⟩ : ∃ q', f' = q' + 1 := ⟨f' - 1, by omega⟩
    obtain ⟨v, σ1, τ1, e1, e2, hv, Z1, F1, F2⟩ := item_do Z T hu (show i < 30 by omega) (hI i (Nat.le_refl i) (by omega))
    by_cases h : v = 0
    · subst h
      have g6 : τ1 6 = τ 6 := F2 6 (by omega) (by omega)
      have T1 : TX σ1 187 m (τ1 6) := by rw [g6]; exact T.frame (F1 187 (by omega) (by omega) (by omega)) (F1 188 (by omega) (by omega) (by omega))
      obtain ⟨σ', τ', b1, b2, b3, b4⟩ := ih (i + 1) q q' σ1 τ1 (by omega) (by omega) (by omega) Z1 T1 (by rw [g6]; exact hu) (by rw [F1 191 (by omega) (by omega) (by omega)]; exact h7) (by rw [F2 0 (by omega) (by omega)]; exact h16)
        (fun j h1 h2 => (hI j (by omega) h2).fr (fun c c1 c2 => by rw [F1 c (by omega) (by omega) (by omega)]) (fun k hk => by rw [F2 7 (by omega) (by omega)]))
      have r1 : f_X9_carryOutItems_l1 σ0 (q + 1) (nI i) σ = f_X9_carryOutItems_l1 σ0 q (nI (i + 1)) σ1 := by
        rw [f_X9_carryOutItems_l1, h7, if_neg (nI_ge (by omega) (by omega)), e1, k2s, if_pos rfl, nI_s1]
      have r2 : f_X10_read_l1 τ0 (q' + 1) (nI i) τ = f_X10_read_l1 τ0 q' (nI (i + 1)) τ1 := by
        rw [f_X10_read_l1, h16, if_neg (nI_ge (by omega) (by omega)), e2, k2s, if_pos (by decide), nI_s1]
      refine ⟨σ', τ', b1, fun c h1 h2 h3 => (b2 c h1 h2 h3).trans (F1 c h1 h2 h3), fun c h1 h2 => (b3 c h1 h2).trans (F2 c h1 h2), ?_⟩
      rw [r1, r2]
      exact b4
    · refine ⟨σ1, τ1, Z1, F1, F2, Or.inr ⟨i, v, h, by omega, ?_, ?_⟩⟩
      · rw [f_X9_carryOutItems_l1, h7, if_neg (nI_ge (by omega) (by omega)), e1, k2s, if_neg h]
      · rw [f_X10_read_l1, h16, if_neg (nI_ge (by omega) (by omega)), e2, k2s, if_neg (fun hh => h ((nn0 hv).mp hh))]
