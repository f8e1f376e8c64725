/-! ===== history, from the row kept ahead ===== -/
theorem m_changes3 {τ : gSt} {p : Nat} (hp : p ≤ 8) (e : τ 0 5 = nI p) : ∃ τ', f_X10_changes τ 3 = some τ' ∧ τ' 0 5 = nI (p1 p) ∧ (∀ j, j ≠ 5 → τ' 0 j = τ 0 j) ∧ (∀ c, c ≠ 0 → c ≠ 4 → τ' c = τ c) ∧ (∀ j, j + 1 < p1 p → pRow τ' j = pRow τ (if p = 8 then j + 1 else j) ∨ rowEq (pRow τ (if p = 8 then j + 1 else j)) (pRow τ' j)) ∧ rowEq (τ 3) (pRow τ' (p1 p - 1)) := by
  have hF := FU_ge
  have loop : ∀ (d i f : Nat) (τ1 : gSt), i + d = 6482 → d < f → (∀ c, c ≠ 4 → τ1 c = τ c) → (∀ j, τ1 4 j = if j < i then τ 4 (j + 926) else τ 4 j) →
      ∃ τ', f_X10_changes_l1 τ 3 f (nI i) τ1 = some τ' ∧ (∀ c, c ≠ 4 → τ' c = τ c) ∧ ∀ j, τ' 4 j = if j < 6482 then τ 4 (j + 926) else τ 4 j := by
    intro d
    induction d with
    | zero =>
      intro i f τ1 hi hf h1 h2
      obtain ⟨f, rfl⟩ : ∃ m, f = m + 1 := ⟨f - 1, by omega⟩
      obtain rfl : i = 6482 := by omega
      refine ⟨τ1, ?_, h1, h2⟩
      rw [f_X10_changes_l1, if_pos (show (6482 : Int32) ≤ nI 6482 from by decide)]
    | succ d ih =>
      intro i f τ1 hi hf h1 h2
      obtain ⟨f, rfl⟩ : ∃ m, f = m + 1 := ⟨f - 1, by omega⟩
      rw [f_X10_changes_l1, if_neg (show ¬ (6482 : Int32) ≤ nI i from nI_ge (b := 6482) (a := i) (by omega) (by omega)), show (926 : Int32) = nI 926 from rfl, nI_add, gald_n (by omega) (by omega), k1s, gast_n (by omega) (by omega), k1s, nI_s1]
      refine ih (i + 1) f _ (by omega) (by omega) (fun c hc => by rw [up2_k hc, h1 c hc]) (fun j => ?_)
      rw [up2_ap, h2 (i + 926), if_neg (show ¬ i + 926 < i by omega)]
      by_cases hj : j = i
      · subst hj
        rw [if_pos ⟨rfl, rfl⟩, if_pos (by omega)]
      · rw [if_neg (fun hh => hj hh.2), h2 j]
        by_cases hj2 : j < i
        · rw [if_pos hj2, if_pos (by omega)]
        · rw [if_neg hj2, if_neg (by omega)]
  by_cases h8 : p = 8
  · subst h8
    obtain ⟨τ1, a1, a2, a3⟩ := loop 6482 0 FU τ (by omega) (by omega) (fun _ _ => rfl) (fun j => by rw [if_neg (by omega)])
    obtain ⟨τ3, b1, b2, b3⟩ := m_copies (σ := up2 τ1 0 5 (nI 7)) (a0 := 3) (a2 := 4) (p := 0) (q := 6482) (by omega) (by decide) (by decide) (by decide) (by decide)
    have e5 : τ1 0 5 = nI 8 := by rw [a2 0 (by omega)]; exact e
    refine ⟨up2 τ3 0 5 (nI 8), ?_, up2_s .., fun j hj => ?_, fun c hc hc2 => ?_, fun j hj => Or.inr (fun i hi => ?_), fun i hi => ?_⟩
    · unfold f_X10_changes
      rw [e, if_pos (show nI 8 = 8 from rfl), show f_X10_changes_l1 τ 3 FU 0 τ = _ from a1, k1s, gset_n, k1s, k1s, e5, show nI 8 - 1 = nI 7 from rfl, up2_s, show (926 : Int32) * nI 7 = nI 6482 from rfl, show f_X10_copies (up2 τ1 0 5 (nI 7)) 3 0 4 (nI 6482) = _ from b1, k1s, gset_n, k1s, b2 0 (by omega), up2_s]; rfl
    · rw [up2_j hj, b2 0 (by omega), up2_j hj, a2 0 (by omega)]
    · rw [up2_k hc, b2 c hc2, up2_k hc, a2 c hc2]
    · rw [show p1 8 = 8 from rfl] at hj
      show τ 4 _ = up2 τ3 0 5 (nI 8) 4 _
      rw [if_pos rfl, up2_k (by omega), b3, if_neg (by omega), up2_k (by omega), a3, if_pos (by omega), show 926 * (j + 1) + i = 926 * j + i + 926 by omega]
    · show τ 3 i = up2 τ3 0 5 (nI 8) 4 _
      rw [show p1 8 - 1 = 7 from rfl, up2_k (by omega), b3, if_pos (by omega), up2_k (by omega), a2 3 (by omega), show 0 + (926 * 7 + i - 6482) = i by omega]
  · obtain ⟨τ3, b1, b2, b3⟩ := m_copies (σ := τ) (a0 := 3) (a2 := 4) (p := 0) (q := 926 * p) (by omega) (by decide) (by show _ ≤ 7408; omega) (by decide) (by decide)
    have hp1 : p1 p = p + 1 := if_neg h8
    refine ⟨up2 τ3 0 5 (nI (p + 1)), ?_, ?_, fun j hj => ?_, fun c hc hc2 => ?_, fun j hj => Or.inr (fun i hi => ?_), fun i hi => ?_⟩
    · unfold f_X10_changes
      have hne : ¬ nI p = 8 := fun hh => h8 ((nI_eq (a := p) (b := 8) (by omega) (by omega)).mp hh)
      rw [e, if_neg hne, k1s, e, show (926 : Int32) = nI 926 from rfl, pk_mul, show f_X10_copies τ 3 0 4 (nI (926 * p)) = _ from b1, k1s, gset_n, k1s, b2 0 (by omega), e, nI_s1]
    · rw [up2_s, hp1]
    · rw [up2_j hj, b2 0 (by omega)]
    · rw [up2_k hc, b2 c hc2]
    · rw [hp1] at hj
      show τ 4 _ = up2 τ3 0 5 (nI (p + 1)) 4 _
      rw [if_neg h8, up2_k (by omega), b3, if_neg (by omega)]
    · rw [hp1]
      show τ 3 i = up2 τ3 0 5 (nI (p + 1)) 4 _
      rw [Nat.add_sub_cancel, up2_k (by omega), b3, if_pos (by omega), show 0 + (926 * p + i - 926 * p) = i by omega]
