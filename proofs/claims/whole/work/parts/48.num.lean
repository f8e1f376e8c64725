theorem sSp_0 {h : fH} {k : fK} {t c p : Nat} (e : sSp h k t c p = 0) : (k t c (4 + p) = 95 ∨ k t c (4 + p) = 124) ∧ txtOK p (fun i => k t c (4 + i)) ∧ txtOK (nN (k t c 3) - (p + 1)) (fun i => k t c (4 + (p + 1 + i))) ∧ sHd (k t c) p < k t c 1 - k t c 0 ∧ nT h t < 16 := by
  unfold sSp at e
  by_cases h0 : k t c (4 + p) = 95 ∨ k t c (4 + p) = 124
  · rw [if_pos h0] at e
    by_cases v1 : txtOK p (fun i => k t c (4 + i))
    · rw [b01_t v1, if_neg (by decide)] at e
      by_cases v2 : txtOK (nN (k t c 3) - (p + 1)) (fun i => k t c (4 + (p + 1 + i)))
      · rw [b01_t v2, if_neg (by decide)] at e
        by_cases v3 : sHd (k t c) p < k t c 1 - k t c 0
        · rw [if_pos v3] at e
          by_cases v4 : nT h t < 16
          · exact ⟨h0, v1, v2, v3, v4⟩
          · rw [if_neg v4] at e; exact absurd e (by decide)
        · rw [if_neg v3] at e; exact absurd e (by decide)
      · rw [b01_f v2, if_pos rfl] at e; exact absurd e (by decide)
    · rw [b01_f v1, if_pos rfl] at e; exact absurd e (by decide)
  · rw [if_neg h0] at e; exact absurd e (by decide)
theorem hdRow_ok {len e : Int32} {q : Nat → Int32} {p : Nat} (h : capOK len q) (h1 : q 0 < e) (h2 : e ≤ len) (v : txtOK p (fun i => q (4 + i))) : capOK len (hdRow q e p) := by
  obtain ⟨a, b, d, f, g, i⟩ := h
  have hp := v.2.1
  have e3 : nN (hdRow q e p 3) = p := nN_nI (by omega)
  have a0 : hdRow q e p 0 = q 0 := by unfold hdRow; rw [if_neg (by omega), if_neg (by omega), if_neg (by omega)]
  have a2 : hdRow q e p 2 = q 2 := by unfold hdRow; rw [if_neg (by omega), if_neg (by omega), if_neg (by omega)]
  refine ⟨by rw [a0]; exact a, by rw [a0]; exact h1, h2, by rw [a2]; exact f, by rw [e3]; rfl, ?_⟩
  rw [e3]
  exact txtOK_congr (fun j hj => by unfold hdRow; rw [if_neg (by omega), if_neg (by omega), if_neg (by omega)]) v
/-- the first loop: the tail's letters go to the own row -/
theorem m_tail_l {σ : gSt} {t c p m : Nat} (ht : t < 2) (hc : c < 16) (hm : p + 1 + m ≤ 24) (v1 v2 v3 x : Int32) (v : gSt) : ∀ (d i f : Nat) (σ1 : gSt), i + d = 24 → d < f → (∀ c, c ≠ 5 → σ1 c = σ c) → (∀ w, w < 4 → σ1 5 w = σ 5 w) → σ 5 3 = nI m → (∀ j, j < i → σ1 5 (4 + j) = if j < m then gK (σ 1) t c (4 + (p + 1 + j)) else 0) →
    ∃ σ', f_X10_split_l2 v1 v2 (nI p) (nI (30 + 28 * (16 * t + c) + 4)) x v f (nI i) σ1 = some σ' ∧ (∀ c, c ≠ 5 → σ' c = σ c) ∧ (∀ w, w < 4 → σ' 5 w = σ 5 w) ∧ ∀ j, j < 24 → σ' 5 (4 + j) = if j < m then gK (σ 1) t c (4 + (p + 1 + j)) else 0 := by
  intro d
  induction d with
  | zero =>
    intro i f σ1 hi hf h1 h2 h3 h4
    obtain ⟨f, rfl⟩ : ∃ m, f = m + 1 := ⟨f - 1, by omega⟩
    obtain rfl : i = 24 := by omega
    refine ⟨σ1, ?_, h1, h2, h4⟩
    rw [f_X10_split_l2, if_pos (by decide)]
  | succ d ih =>
    intro i f σ1 hi hf h1 h2 h3 h4
    obtain ⟨f, rfl⟩ : ∃ m, f = m + 1 := ⟨f - 1, by omega⟩
    have ex : (if (σ1 5 3) ≤ nI i then some (0 : Int32) else (g_k1 (gald σ1 1 926 (((nI (30 + 28 * (16 * t + c) + 4) + nI p) + (1 : Int32)) + nI i)) fun v45 => some v45)) = some (if i < m then gK (σ 1) t c (4 + (p + 1 + i)) else 0) := by
      rw [h2 3 (by omega), h3]
      by_cases h : i < m
      · rw [if_neg (nI_ge h (by omega)), if_pos h, nI_add, nI_s1, nI_add, gald_n (by omega) (by omega), k1s, h1 1 (by omega)]
        unfold gK
        congr 2
        omega
      · rw [if_pos (nI_le (by omega) (by omega)), if_neg h]
    rw [f_X10_split_l2, if_neg (show ¬ (24 : Int32) ≤ nI i from nI_ge (b := 24) (a := i) (by omega) (by omega)), ex, k1s, show (4 : Int32) = nI 4 from rfl, nI_add, gast_n (by omega) (by omega), k1s, nI_s1]
    refine ih (i + 1) f _ (by omega) (by omega) (fun c hc => by rw [up2_k hc, h1 c hc]) (fun w hw => by rw [up2_j (by omega), h2 w hw]) h3 (fun j hj => ?_)
    rw [up2_ap]
    by_cases hji : j = i
    · rw [if_pos ⟨rfl, by omega⟩, hji]
    · rw [if_neg (fun hh => hji (by omega))]; exact h4 j (by omega)
/-- the second loop: the head's letters from p on become nought -/
theorem m_zero_l {σ : gSt} {t c p : Nat} (ht : t < 2) (hc : c < 16) (v1 x : Int32) (v : gSt) : ∀ (d i f : Nat) (σ1 : gSt), i + d = 24 → d < f → p ≤ i → (∀ c, c ≠ 1 → σ1 c = σ c) → offT (σ 1) (σ1 1) t → σ1 1 (28 + t) = σ 1 (28 + t) → (∀ c' w, c' < 16 → w < 28 → gK (σ1 1) t c' w = if c' = c ∧ 4 + p ≤ w ∧ w < 4 + i then 0 else gK (σ 1) t c' w) →
    ∃ σ', f_X10_split_l3 v1 (nI (30 + 28 * (16 * t + c) + 4)) x v f (nI i) σ1 = some σ' ∧ (∀ c, c ≠ 1 → σ' c = σ c) ∧ offT (σ 1) (σ' 1) t ∧ σ' 1 (28 + t) = σ 1 (28 + t) ∧ ∀ c' w, c' < 16 → w < 28 → gK (σ' 1) t c' w = if c' = c ∧ 4 + p ≤ w then 0 else gK (σ 1) t c' w := by
  intro d
  induction d with
  | zero =>
    intro i f σ1 hi hf hpi h1 h2 h3 h4
    obtain ⟨f, rfl⟩ : ∃ m, f = m + 1 := ⟨f - 1, by omega⟩
    obtain rfl : i = 24 := by omega
    refine ⟨σ1, ?_, h1, h2, h3, fun c' w hc' hw => ?_⟩
    · rw [f_X10_split_l3, if_pos (by decide)]
    · rw [h4 c' w hc' hw]
      by_cases h : c' = c ∧ 4 + p ≤ w
      · rw [if_pos h, if_pos ⟨h.1, h.2, by omega⟩]
      · rw [if_neg h, if_neg (fun hh => h ⟨hh.1, hh.2.1⟩)]
  | succ d ih =>
    intro i f σ1 hi hf hpi h1 h2 h3 h4
    obtain ⟨f, rfl⟩ : ∃ m, f = m + 1 := ⟨f - 1, by omega⟩
    rw [f_X10_split_l3, if_neg (show ¬ (24 : Int32) ≤ nI i from nI_ge (b := 24) (a := i) (by omega) (by omega)), nI_add, show nI (30 + 28 * (16 * t + c) + 4 + i) = nI (aT t c (4 + i)) from by unfold aT; rw [Nat.add_assoc _ 4 i], m_put ht hc (by omega), k1s, nI_s1]
    refine ih (i + 1) f _ (by omega) (by omega) (by omega) (fun c hc => by rw [up2_k hc, h1 c hc]) (h2.trans (offT.put ht hc (by omega) rfl _)) (by rw [up2_j (by unfold aT; omega)]; exact h3) (fun c' w hc' hw => ?_)
    rw [gK_put hc (by omega) _ hc' hw, h4 c' w hc' hw]
    by_cases h : c' = c
    · subst h
      by_cases hwi : w = 4 + i
      · rw [if_pos ⟨rfl, hwi⟩, if_pos (show c' = c' ∧ 4 + p ≤ w ∧ w < 4 + (i + 1) from ⟨rfl, by omega, by omega⟩)]
      · rw [if_neg (fun hh => hwi hh.2)]
        by_cases hlt : 4 + p ≤ w ∧ w < 4 + i
        · rw [if_pos (show c' = c' ∧ 4 + p ≤ w ∧ w < 4 + i from ⟨rfl, hlt⟩), if_pos (show c' = c' ∧ 4 + p ≤ w ∧ w < 4 + (i + 1) from ⟨rfl, by omega, by omega⟩)]
        · rw [if_neg (fun hh => hlt hh.2), if_neg (fun hh => hlt (by omega))]
    · rw [if_neg (fun hh => h hh.1), if_neg (fun hh => h hh.1), if_neg (fun hh => h hh.1)]
