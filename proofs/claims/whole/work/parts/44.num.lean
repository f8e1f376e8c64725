/-! ===== two captions become one ===== -/
theorem sMg_nn (h : fH) (k : fK) (t c : Nat) : 0 ≤ sMg h k t c := by
  unfold sMg
  repeat' split
  all_goals decide
theorem sMg_0 {h : fH} {k : fK} {t c : Nat} (e : sMg h k t c = 0) : c + 1 ≠ nT h t ∧ nN (k t c 3) + nN (k t (c + 1) 3) + 1 ≤ 24 ∧ nB (fun i => k t c (4 + i)) (nN (k t c 3)) + nB (fun i => k t (c + 1) (4 + i)) (nN (k t (c + 1) 3)) ≤ 1 := by
  unfold sMg at e
  by_cases h1 : c + 1 = nT h t
  · rw [if_pos h1] at e; exact absurd e (by decide)
  · rw [if_neg h1] at e
    by_cases h2 : k t c 2 = k t (c + 1) 2
    · rw [if_pos h2] at e
      by_cases h3 : k t (c + 1) 0 - k t c 1 ≤ h 4
      · rw [if_pos h3] at e
        by_cases h4 : nN (k t c 3) + nN (k t (c + 1) 3) + 1 ≤ 24 ∧ nB (fun i => k t c (4 + i)) (nN (k t c 3)) + nB (fun i => k t (c + 1) (4 + i)) (nN (k t (c + 1) 3)) ≤ 1
        · exact ⟨h1, h4⟩
        · rw [b01_f h4, if_pos rfl] at e; exact absurd e (by decide)
      · rw [if_neg h3] at e; exact absurd e (by decide)
    · rw [if_neg h2] at e; exact absurd e (by decide)
def mgRow (q1 q2 : Nat → Int32) (m1 m2 : Nat) : Nat → Int32 := fun w => if w = 1 then q2 1 else if w = 3 then nI (m1 + m2 + 1) else if 4 + m1 ≤ w ∧ w < 4 + m1 + 1 + m2 then (if w = 4 + m1 then 95 else q2 (w - (m1 + 1))) else q1 w
theorem mgRow_u (q1 q2 : Nat → Int32) (m1 m2 : Nat) {i : Nat} (hi : i < m1 + 1 + m2) : mgRow q1 q2 m1 m2 (4 + i) = joinU q1 q2 m1 i := by
  unfold mgRow joinU
  rw [if_neg (by omega), if_neg (by omega)]
  by_cases h1 : i < m1
  · rw [if_neg (by omega), if_pos h1]
  · rw [if_pos (by omega), if_neg h1]
    by_cases h2 : i = m1
    · rw [if_pos (by omega), if_pos h2]
    · rw [if_neg (by omega), if_neg h2]; congr 1; omega
theorem mg_ok {len : Int32} {n c : Nat} {kp : Nat → Nat → Int32} (K : tOK len n kp) (hc : c + 1 < n) (h24 : nN (kp c 3) + nN (kp (c + 1) 3) + 1 ≤ 24) (hb : nB (fun i => kp c (4 + i)) (nN (kp c 3)) + nB (fun i => kp (c + 1) (4 + i)) (nN (kp (c + 1) 3)) ≤ 1) : tOK len (n - 1) (dRow (setRow kp c (mgRow (kp c) (kp (c + 1)) (nN (kp c 3)) (nN (kp (c + 1) 3)))) (c + 1)) := by
  obtain ⟨k1', k2', k3'⟩ := K
  have cp1 := k2' c (by omega)
  have cp2 := k2' (c + 1) hc
  have hj := k3' c hc
  have capM : capOK len (mgRow (kp c) (kp (c + 1)) (nN (kp c 3)) (nN (kp (c + 1) 3))) := by
    have e3 : nN (mgRow (kp c) (kp (c + 1)) (nN (kp c 3)) (nN (kp (c + 1) 3)) 3) = nN (kp c 3) + nN (kp (c + 1) 3) + 1 := nN_nI (by omega)
    have a0 : mgRow (kp c) (kp (c + 1)) (nN (kp c 3)) (nN (kp (c + 1) 3)) 0 = kp c 0 := by unfold mgRow; rw [if_neg (by omega), if_neg (by omega), if_neg (by omega)]
    have a2 : mgRow (kp c) (kp (c + 1)) (nN (kp c 3)) (nN (kp (c + 1) 3)) 2 = kp c 2 := by unfold mgRow; rw [if_neg (by omega), if_neg (by omega), if_neg (by omega)]
    have a1 : mgRow (kp c) (kp (c + 1)) (nN (kp c 3)) (nN (kp (c + 1) 3)) 1 = kp (c + 1) 1 := rfl
    refine ⟨by rw [a0]; exact cp1.1, ?_, by rw [a1]; exact cp2.2.2.1, by rw [a2]; exact cp1.2.2.2.1, by rw [e3]; rfl, ?_⟩
    · rw [a0, a1]
      have x1 := cp1.2.1
      have x2 := cp2.2.1
      grind
    · rw [e3, show nN (kp c 3) + nN (kp (c + 1) 3) + 1 = nN (kp c 3) + 1 + nN (kp (c + 1) 3) by omega]
      exact txtOK_congr (fun i hi => (mgRow_u _ _ _ _ hi).symm) ((txtOK_join cp1.2.2.2.2.2 cp2.2.2.2.2.2).mpr ⟨h24, hb⟩)
  have a0 : mgRow (kp c) (kp (c + 1)) (nN (kp c 3)) (nN (kp (c + 1) 3)) 0 = kp c 0 := by unfold mgRow; rw [if_neg (by omega), if_neg (by omega), if_neg (by omega)]
  refine ⟨by omega, fun c' h => ?_, fun c' h => ?_⟩
  · unfold dRow setRow
    by_cases h1 : c' < c + 1
    · rw [if_pos h1]
      by_cases h2 : c' = c
      · rw [if_pos h2]; exact capM
      · rw [if_neg h2]; exact k2' c' (by omega)
    · rw [if_neg h1, if_neg (by omega)]; exact k2' (c' + 1) (by omega)
  · unfold dRow setRow
    by_cases h1 : c' + 1 < c + 1
    · rw [if_pos (show c' < c + 1 by omega), if_pos h1, if_neg (show ¬ c' = c by omega)]
      by_cases h2 : c' + 1 = c
      · rw [if_pos h2, a0]
        have := k3' c' (by omega)
        rw [h2] at this; exact this
      · rw [if_neg h2]; exact k3' c' (by omega)
    · rw [if_neg h1, if_neg (show ¬ c' + 1 + 1 = c by omega)]
      by_cases h2 : c' < c + 1
      · obtain rfl : c' = c := by omega
        rw [if_pos h2, if_pos rfl]
        exact k3' (c' + 1) (by omega)
      · rw [if_neg h2, if_neg (show ¬ c' + 1 = c by omega)]; exact k3' (c' + 1) (by omega)
theorem m_merge_l {σ : gSt} {t c m1 m2 : Nat} (ht : t < 2) (hc : c + 1 < 16) (h24 : m1 + m2 + 1 ≤ 24) (v : gSt) : ∀ (d i f : Nat) (σ1 : gSt), i + d = m2 → d < f → (∀ c, c ≠ 1 → σ1 c = σ c) → offT (σ 1) (σ1 1) t → σ1 1 (28 + t) = σ 1 (28 + t) → (∀ c' w, c' < 16 → w < 28 → gK (σ1 1) t c' w = if c' = c ∧ 4 + m1 ≤ w ∧ w < 4 + m1 + 1 + i then (if w = 4 + m1 then 95 else gK (σ 1) t (c + 1) (w - (m1 + 1))) else gK (σ 1) t c' w) →
    ∃ σ', f_X10_merge_l1 (nI t) (nI c) (nI m1) (nI m2) v f (nI i) σ1 = some σ' ∧ (∀ c, c ≠ 1 → σ' c = σ c) ∧ offT (σ 1) (σ' 1) t ∧ σ' 1 (28 + t) = σ 1 (28 + t) ∧ ∀ c' w, c' < 16 → w < 28 → gK (σ' 1) t c' w = if c' = c ∧ 4 + m1 ≤ w ∧ w < 4 + m1 + 1 + m2 then (if w = 4 + m1 then 95 else gK (σ 1) t (c + 1) (w - (m1 + 1))) else gK (σ 1) t c' w := by
  intro d
  induction d with
  | zero =>
    intro i f σ1 hi hf h1 h2 h3 h4
    obtain ⟨f, rfl⟩ : ∃ m, f = m + 1 := ⟨f - 1, by omega⟩
    obtain rfl : i = m2 := by omega
    refine ⟨σ1, ?_, h1, h2, h3, h4⟩
    rw [f_X10_merge_l1, if_pos (nI_le (by omega) (by omega))]
  | succ d ih =>
    intro i f σ1 hi hf h1 h2 h3 h4
    obtain ⟨f, rfl⟩ : ∃ m, f = m + 1 := ⟨f - 1, by omega⟩
    rw [f_X10_merge_l1, if_neg (nI_ge (by omega) (by omega)), show (4 : Int32) = nI 4 from rfl, nI_add, nI_s1, nI_add, m_at', k1s, nI_s1, nI_add, m_at', k1s, m_gK' ht (by omega) (by omega), k1s, m_put ht (by omega) (by omega), k1s, nI_s1, h4 (c + 1) (4 + i) (by omega) (by omega), if_neg (by omega)]
    refine ih (i + 1) f _ (by omega) (by omega) (fun c hc => by rw [up2_k hc, h1 c hc]) (h2.trans (offT.put ht (by omega) (by omega) rfl _)) (by rw [up2_j (by unfold aT; omega)]; exact h3) (fun c' w hc' hw => ?_)
    rw [gK_put (by omega) (by omega) _ hc' hw, h4 c' w hc' hw]
    by_cases h : c' = c
    · subst h
      by_cases hwi : w = 4 + m1 + 1 + i
      · subst hwi
        rw [if_pos ⟨rfl, rfl⟩, if_pos ⟨rfl, by omega, by omega⟩, if_neg (by omega)]
        congr 1; omega
      · rw [if_neg (fun hh => hwi hh.2)]
        by_cases hlt : 4 + m1 ≤ w ∧ w < 4 + m1 + 1 + i
        · rw [if_pos (show c' = c' ∧ 4 + m1 ≤ w ∧ w < 4 + m1 + 1 + i from ⟨rfl, hlt⟩), if_pos (show c' = c' ∧ 4 + m1 ≤ w ∧ w < 4 + m1 + 1 + (i + 1) from ⟨rfl, by omega, by omega⟩)]
        · rw [if_neg (fun hh => hlt hh.2), if_neg (fun hh => hlt (by omega))]
    · rw [if_neg (fun hh => h hh.1), if_neg (fun hh => h hh.1), if_neg (fun hh => h hh.1)]
