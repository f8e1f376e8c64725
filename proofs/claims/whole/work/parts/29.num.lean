/-! ===== the two desks alike ===== -/
def pRow (τ : gSt) (j : Nat) : Nat → Int32 := fun i => τ 4 (926 * j + i)
def HR (σ τ : gSt) (p nx : Nat) : Prop := p ≤ 8 ∧ nx < 9 ∧ σ 25 1 = nI p ∧ σ 25 2 = nI nx ∧ τ 0 5 = nI p ∧ ∀ j, j < p → FR σ (gFx ((nx + 9 - p + j) % 9)) (pRow τ j) (gK (pRow τ j)) ∧ Inv (pRow τ j) (gK (pRow τ j))
def SR (σ τ : gSt) : Prop := σ 0 5 = τ 0 3 ∧ (σ 0 5 ≠ 0 → FR σ 171 (τ 2) (gK (τ 2)) ∧ Inv (τ 2) (gK (τ 2)))
def IR (σ τ : gSt) (m : Nat) : Prop := TX σ 187 m (τ 6) ∧ τ 0 12 = nI m ∧ ∀ i, i < m → 0 ≤ τ 6 i ∧ τ 6 i ≤ 65535
def ZR (σ τ : gSt) : Prop := σ 0 10 = τ 0 7 ∧ σ 0 11 = τ 0 8 ∧ σ 0 9 = τ 0 9 ∧ (τ 0 9 = -1 ∨ 0 ≤ τ 0 9)
def FI (σ τ : gSt) : Prop := FR σ 1 (τ 1) (gK (τ 1)) ∧ Inv (τ 1) (gK (τ 1))
def RR (σ τ : gSt) : Prop := FI σ τ ∧ SR σ τ ∧ ZR σ τ ∧ (∃ p nx, HR σ τ p nx) ∧ ∃ m, IR σ τ m
theorem HR.frame {σ σ' τ τ' : gSt} {p nx : Nat} (H : HR σ τ p nx) (h1 : σ' 25 = σ 25) (h2 : ∀ c, 27 ≤ c → c < 171 → σ' c = σ c) (h3 : τ' 0 5 = τ 0 5) (h4 : τ' 4 = τ 4) : HR σ' τ' p nx := by
  obtain ⟨a, b, d, e, f, g⟩ := H
  refine ⟨a, b, by rw [h1]; exact d, by rw [h1]; exact e, h3.trans f, fun j hj => ?_⟩
  obtain ⟨g1, g2⟩ := g j hj
  have e2 : pRow τ' j = pRow τ j := by unfold pRow; rw [h4]
  rw [e2]
  have h9 : (nx + 9 - p + j) % 9 < 9 := Nat.mod_lt _ (by omega)
  exact ⟨g1.frame (fun c hc1 hc2 => h2 c (by unfold gFx at hc1; omega) (by unfold gFx at hc2; omega)), g2⟩
theorem SR.frame {σ σ' τ τ' : gSt} (S : SR σ τ) (h1 : σ' 0 5 = σ 0 5) (h2 : ∀ c, 171 ≤ c → c < 187 → σ' c = σ c) (h3 : τ' 0 3 = τ 0 3) (h4 : τ' 2 = τ 2) : SR σ' τ' := by
  refine ⟨by rw [h1, h3]; exact S.1, fun h => ?_⟩
  rw [h1] at h
  rw [h4]
  exact ⟨(S.2 h).1.frame (fun c hc1 hc2 => h2 c hc1 (by omega)), (S.2 h).2⟩
theorem IR.frame {σ σ' τ τ' : gSt} {m : Nat} (H : IR σ τ m) (h1 : σ' 187 = σ 187) (h2 : σ' 188 = σ 188) (h3 : τ' 0 12 = τ 0 12) (h4 : τ' 6 = τ 6) : IR σ' τ' m := by
  obtain ⟨a, b, d⟩ := H
  refine ⟨?_, h3.trans b, fun i hi => by rw [h4]; exact d i hi⟩
  rw [h4]
  exact a.frame h1 h2
theorem ZR.frame {σ σ' τ τ' : gSt} (Z : ZR σ τ) (h1 : σ' 0 10 = σ 0 10) (h2 : σ' 0 11 = σ 0 11) (h3 : σ' 0 9 = σ 0 9) (h4 : τ' 0 7 = τ 0 7) (h5 : τ' 0 8 = τ 0 8) (h6 : τ' 0 9 = τ 0 9) : ZR σ' τ' := by
  unfold ZR at *
  rw [h1, h2, h3, h4, h5, h6]
  exact Z
theorem FI.frame {σ σ' τ τ' : gSt} (Z : FI σ τ) (h1 : ∀ c, 1 ≤ c → c < 17 → σ' c = σ c) (h2 : τ' 1 = τ 1) : FI σ' τ' := by
  unfold FI at *
  rw [h2]
  exact ⟨Z.1.frame (fun c hc1 hc2 => h1 c hc1 (by omega)), Z.2⟩
theorem RR.fr {σ σ' τ τ' : gSt} (R : RR σ τ) (hσ : ∀ c, c ≤ 16 ∨ (25 ≤ c ∧ c ≤ 188) → σ' c = σ c) (hτ : ∀ c, c ≠ 0 → c ≤ 6 → c ≠ 3 → c ≠ 5 → τ' c = τ c) (h0 : ∀ j, j ≠ 10 → j ≠ 13 → j ≠ 14 → j ≠ 16 → τ' 0 j = τ 0 j) : RR σ' τ' := by
  obtain ⟨a, b, d, ⟨p, nx, e⟩, m, f⟩ := R
  refine ⟨a.frame (fun c h1 h2 => hσ c (by omega)) (hτ 1 (by omega) (by omega) (by omega) (by omega)), b.frame (by rw [hσ 0 (by omega)]) (fun c h1 h2 => hσ c (by omega)) (h0 3 (by omega) (by omega) (by omega) (by omega)) (hτ 2 (by omega) (by omega) (by omega) (by omega)), ?_, ⟨p, nx, e.frame (hσ 25 (by omega)) (fun c h1 h2 => hσ c (by omega)) (h0 5 (by omega) (by omega) (by omega) (by omega)) (hτ 4 (by omega) (by omega) (by omega) (by omega))⟩, m, f.frame (hσ 187 (by omega)) (hσ 188 (by omega)) (h0 12 (by omega) (by omega) (by omega) (by omega)) (hτ 6 (by omega) (by omega) (by omega) (by omega))⟩
  exact d.frame (by rw [hσ 0 (by omega)]) (by rw [hσ 0 (by omega)]) (by rw [hσ 0 (by omega)]) (h0 7 (by omega) (by omega) (by omega) (by omega)) (h0 8 (by omega) (by omega) (by omega) (by omega)) (h0 9 (by omega) (by omega) (by omega) (by omega))
/-- the reference only notes what it throws -/
theorem RR.thr {σ τ : gSt} (R : RR σ τ) (x : Int32) : RR σ (up2 τ 0 10 x) := by
  refine R.fr (fun _ _ => rfl) (fun c hc _ _ _ => up2_k hc) (fun j hj _ _ _ => ?_)
  rw [up2_ap, if_neg (fun hh => hj hh.2)]
/-! ===== history ===== -/
theorem c_rowAt (σ : gSt) {j : Nat} (hj : j < 9) : f_X4_rowAt σ (nI j) = some (some (gFx j)) := by
  unfold f_X4_rowAt gidx
  rw [if_neg (nI_pos (by omega)), if_neg (show ¬ (9 : Int32) ≤ nI j from nI_ge (b := 9) (a := j) (by omega) (by omega)), nI_toInt (by omega), nI_clamp (by omega), if_pos (by omega)]
  rfl
theorem c_prepare {σ : gSt} {a0 nx : Nat} {h : fH} {k : fK} (F : FR σ a0 h k) (I : Inv h k) (hn : nx < 9) (e : σ 25 2 = nI nx) (ha : a0 + 16 ≤ 27) : ∃ σ', f_X4_prepare σ a0 = some σ' ∧ FR σ' (gFx nx) h k ∧ ∀ c, (c < gFx nx ∨ gFx nx + 16 ≤ c) → σ' c = σ c := by
  obtain ⟨σ', e1, e2, e3⟩ := c_copyFilm (k := gFx nx) F I (by unfold gFx; omega)
  refine ⟨σ', ?_, e2, e3⟩
  unfold f_X4_prepare
  rw [e, c_rowAt σ hn, k1s]
  show g_k1 (f_X3_copyFrom σ (gFx nx) a0) (fun σ3 => some σ3) = _
  rw [e1, k1s]
def nx1 (nx : Nat) : Nat := if nx = 8 then 0 else nx + 1
def p1 (p : Nat) : Nat := if p = 8 then 8 else p + 1
theorem c_commit {σ : gSt} {p nx : Nat} (hp : p ≤ 8) (hn : nx < 9) (e1 : σ 25 1 = nI p) (e2 : σ 25 2 = nI nx) : ∃ σ', f_X4_commit σ = some σ' ∧ σ' 25 1 = nI (p1 p) ∧ σ' 25 2 = nI (nx1 nx) ∧ ∀ c, c ≠ 25 → σ' c = σ c := by
  have hx : (if (8 : Int32) ≤ nI nx then some (0 : Int32) else some (nI nx + 1)) = some (nI (nx1 nx)) := by
    unfold nx1
    by_cases h : nx = 8
    · subst h; rfl
    · rw [if_neg (show ¬ (8 : Int32) ≤ nI nx from nI_ge (b := 8) (a := nx) (by omega) (by omega)), if_neg h, nI_s1]
  have hy : (if (8 : Int32) < nI p + 1 then (8 : Int32) else nI p + 1) = nI (p1 p) := by
    unfold p1
    rw [nI_s1]
    by_cases h : p = 8
    · subst h; rfl
    · rw [if_neg (show ¬ (8 : Int32) < nI (p + 1) from nI_nlt (a := 8) (b := p + 1) (by omega) (by omega)), if_neg h]
  refine ⟨up2 (up2 σ 25 2 (nI (nx1 nx))) 25 1 (nI (p1 p)), ?_, up2_s .., ?_, fun c hc => by rw [up2_k hc, up2_k hc]⟩
  · unfold f_X4_commit
    rw [e2, hx, k1s, gset_n, k1s, up2_j (by omega), e1, hy, gset_n, k1s]
  · rw [up2_j (by omega), up2_s]
theorem c_keep {σ : gSt} {p nx : Nat} {h : fH} {k : fK} (F : FR σ 1 h k) (I : Inv h k) (hp : p ≤ 8) (hn : nx < 9) (e1 : σ 25 1 = nI p) (e2 : σ 25 2 = nI nx) :
    ∃ σ', f_X4_keep σ 1 = some σ' ∧ FR σ' (gFx nx) h k ∧ σ' 25 1 = nI (p1 p) ∧ σ' 25 2 = nI (nx1 nx) ∧ ∀ c, c ≠ 25 → (c < gFx nx ∨ gFx nx + 16 ≤ c) → σ' c = σ c := by
  obtain ⟨σ1, a1, a2, a3⟩ := c_prepare F I hn e2 (by omega)
  obtain ⟨σ2, b1, b2, b3, b4⟩ := c_commit (σ := σ1) hp hn (by rw [a3 25 (by unfold gFx; omega)]; exact e1) (by rw [a3 25 (by unfold gFx; omega)]; exact e2)
  refine ⟨σ2, ?_, a2.frame (fun c h1 h2 => b4 c (by unfold gFx at h1; omega)), b2, b3, fun c hc hc2 => by rw [b4 c hc, a3 c hc2]⟩
  unfold f_X4_keep
  rw [a1, k1s, b1, k1s]
theorem m_changes {τ : gSt} {p : Nat} (hp : p ≤ 8) (e : τ 0 5 = nI p) : ∃ τ', f_X10_changes τ 1 = some τ' ∧ τ' 0 5 = nI (p1 p) ∧ (∀ j, j ≠ 5 → τ' 0 j = τ 0 j) ∧ (∀ c, c ≠ 0 → c ≠ 4 → τ' c = τ c) ∧ (∀ j, j + 1 < p1 p → pRow τ' j = pRow τ (if p = 8 then j + 1 else j) ∨ rowEq (pRow τ (if p = 8 then j + 1 else j)) (pRow τ' j)) ∧ rowEq (τ 1) (pRow τ' (p1 p - 1)) := by
  have hF := FU_ge
  have loop : ∀ (d i f : Nat) (τ1 : gSt), i + d = 6482 → d < f → (∀ c, c ≠ 4 → τ1 c = τ c) → (∀ j, τ1 4 j = if j < i then τ 4 (j + 926) else τ 4 j) →
      ∃ τ', f_X10_changes_l1 τ 1 f (nI i) τ1 = some τ' ∧ (∀ c, c ≠ 4 → τ' c = τ c) ∧ ∀ j, τ' 4 j = if j < 6482 then τ 4 (j + 926) else τ 4 j := by
    intro d
    induction d with
    | zero =>
      intro i f τ1 hi hf h1 h2
      obtain ⟨f, rfl⟩ : ∃ m, f = m + 1 := ⟨f - 1, by omega⟩
      obtain rfl : i = 6482 := by omega
      refine ⟨τ1, ?_, h1, h2⟩
      rw [f_X10_changes_l1, if_pos (show (6482 : Int32) ≤ nI 6482 from by decide)]
    | succ d ih =>
      intro i f τ1 hi hf h1 h2
      obtain ⟨f, rfl⟩ : ∃ m, f = m + 1 := ⟨f - 1, by omega⟩
      rw [f_X10_changes_l1, if_neg (show ¬ (6482 : Int32) ≤ nI i from nI_ge (b := 6482) (a := i) (by omega) (by omega)), show (926 : Int32) = nI 926 from rfl, nI_add, gald_n (by omega) (by omega), k1s, gast_n (by omega) (by omega), k1s, nI_s1]
      refine ih (i + 1) f _ (by omega) (by omega) (fun c hc => by rw [up2_k hc, h1 c hc]) (fun j => ?_)
      rw [up2_ap, h2 (i + 926), if_neg (show ¬ i + 926 < i by omega)]
      by_cases hj : j = i
      · subst hj
        rw [if_pos ⟨rfl, rfl⟩, if_pos (by omega)]
      · rw [if_neg (fun hh => hj hh.2), h2 j]
        by_cases hj2 : j < i
        · rw [if_pos hj2, if_pos (by omega)]
        · rw [if_neg hj2, if_neg (by omega)]
  by_cases h8 : p = 8
  · subst h8
    obtain ⟨τ1, a1, a2, a3⟩ := loop 6482 0 FU τ (by omega) (by omega) (fun _ _ => rfl) (fun j => by rw [if_neg (by omega)])
    obtain ⟨τ3, b1, b2, b3⟩ := m_copies (σ := up2 τ1 0 5 (nI 7)) (a0 := 1) (a2 := 4) (p := 0) (q := 6482) (by omega) (by decide) (by decide) (by decide) (by decide)
    have e5 : τ1 0 5 = nI 8 := by rw [a2 0 (by omega)]; exact e
    refine ⟨up2 τ3 0 5 (nI 8), ?_, up2_s .., fun j hj => ?_, fun c hc hc2 => ?_, fun j hj => Or.inr (fun i hi => ?_), fun i hi => ?_⟩
    · unfold f_X10_changes
      rw [e, if_pos (show nI 8 = 8 from rfl), show f_X10_changes_l1 τ 1 FU 0 τ = _ from a1, k1s, gset_n, k1s, k1s, e5, show nI 8 - 1 = nI 7 from rfl, up2_s, show (926 : Int32) * nI 7 = nI 6482 from rfl, show f_X10_copies (up2 τ1 0 5 (nI 7)) 1 0 4 (nI 6482) = _ from b1, k1s, gset_n, k1s, b2 0 (by omega), up2_s]; rfl
    · rw [up2_j hj, b2 0 (by omega), up2_j hj, a2 0 (by omega)]
    · rw [up2_k hc, b2 c hc2, up2_k hc, a2 c hc2]
    · rw [show p1 8 = 8 from rfl] at hj
      show τ 4 _ = up2 τ3 0 5 (nI 8) 4 _
      rw [if_pos rfl, up2_k (by omega), b3, if_neg (by omega), up2_k (by omega), a3, if_pos (by omega), show 926 * (j + 1) + i = 926 * j + i + 926 by omega]
    · show τ 1 i = up2 τ3 0 5 (nI 8) 4 _
      rw [show p1 8 - 1 = 7 from rfl, up2_k (by omega), b3, if_pos (by omega), up2_k (by omega), a2 1 (by omega), show 0 + (926 * 7 + i - 6482) = i by omega]
  · obtain ⟨τ3, b1, b2, b3⟩ := m_copies (σ := τ) (a0 := 1) (a2 := 4) (p := 0) (q := 926 * p) (by omega) (by decide) (by show _ ≤ 7408; omega) (by decide) (by decide)
    have hp1 : p1 p = p + 1 := if_neg h8
    refine ⟨up2 τ3 0 5 (nI (p + 1)), ?_, ?_, fun j hj => ?_, fun c hc hc2 => ?_, fun j hj => Or.inr (fun i hi => ?_), fun i hi => ?_⟩
    · unfold f_X10_changes
      have hne : ¬ nI p = 8 := fun hh => h8 ((nI_eq (a := p) (b := 8) (by omega) (by omega)).mp hh)
      rw [e, if_neg hne, k1s, e, show (926 : Int32) = nI 926 from rfl, pk_mul, show f_X10_copies τ 1 0 4 (nI (926 * p)) = _ from b1, k1s, gset_n, k1s, b2 0 (by omega), e, nI_s1]
    · rw [up2_s, hp1]
    · rw [up2_j hj, b2 0 (by omega)]
    · rw [up2_k hc, b2 c hc2]
    · rw [hp1] at hj
      show τ 4 _ = up2 τ3 0 5 (nI (p + 1)) 4 _
      rw [if_neg h8, up2_k (by omega), b3, if_neg (by omega)]
    · rw [hp1]
      show τ 1 i = up2 τ3 0 5 (nI (p + 1)) 4 _
      rw [Nat.add_sub_cancel, up2_k (by omega), b3, if_pos (by omega), show 0 + (926 * p + i - 926 * p) = i by omega]
theorem HR.keep {σ σ' τ τ' : gSt} {p nx : Nat} (H : HR σ τ p nx) (I : Inv (τ 1) (gK (τ 1)))
    (a1 : FR σ' (gFx nx) (τ 1) (gK (τ 1))) (a2 : σ' 25 1 = nI (p1 p)) (a3 : σ' 25 2 = nI (nx1 nx)) (a4 : ∀ c, c ≠ 25 → (c < gFx nx ∨ gFx nx + 16 ≤ c) → σ' c = σ c)
    (b1 : τ' 0 5 = nI (p1 p)) (b2 : ∀ j, j + 1 < p1 p → pRow τ' j = pRow τ (if p = 8 then j + 1 else j) ∨ rowEq (pRow τ (if p = 8 then j + 1 else j)) (pRow τ' j)) (b3 : rowEq (τ 1) (pRow τ' (p1 p - 1))) : HR σ' τ' (p1 p) (nx1 nx) := by
  obtain ⟨hp, hn, -, -, -, g⟩ := H
  have hp8 : p1 p ≤ 8 := by unfold p1; split <;> omega
  have hn9 : nx1 nx < 9 := by unfold nx1; split <;> omega
  refine ⟨hp8, hn9, a2, a3, b1, fun j hj => ?_⟩
  by_cases hl : j + 1 = p1 p
  · obtain rfl : j = p1 p - 1 := by omega
    have hix : (nx1 nx + 9 - p1 p + (p1 p - 1)) % 9 = nx := by
      have : nx1 nx + 9 - p1 p + (p1 p - 1) = nx1 nx + 8 := by omega
      rw [this]; unfold nx1; split <;> omega
    rw [hix]
    exact ⟨FR.congr b3 I a1, Inv.congr b3 I⟩
  · have hj0 : (if p = 8 then j + 1 else j) < p := by
      unfold p1 at hj hl; split <;> simp_all <;> omega
    obtain ⟨g1, g2⟩ := g _ hj0
    have hix : (nx1 nx + 9 - p1 p + j) % 9 = (nx + 9 - p + (if p = 8 then j + 1 else j)) % 9 := by
      unfold nx1 p1 at *
      split <;> split <;> simp_all <;> omega
    have hne : (nx + 9 - p + (if p = 8 then j + 1 else j)) % 9 ≠ nx := by
      generalize (if p = 8 then j + 1 else j) = i at hj0
      omega
    have h9 : (nx + 9 - p + (if p = 8 then j + 1 else j)) % 9 < 9 := Nat.mod_lt _ (by omega)
    rw [hix]
    generalize (nx + 9 - p + (if p = 8 then j + 1 else j)) % 9 = q at *
    have g3 : FR σ' (gFx q) (pRow τ (if p = 8 then j + 1 else j)) (gK (pRow τ (if p = 8 then j + 1 else j))) := g1.frame (fun c h1 h2 => a4 c (by unfold gFx at h1; omega) (by unfold gFx at *; omega))
    rcases b2 j (by omega) with h | h
    · rw [h]; exact ⟨g3, g2⟩
    · exact ⟨FR.congr h g2 g3, Inv.congr h g2⟩
theorem keepRR {σ τ : gSt} (R : RR σ τ) : ∃ σ' τ', f_X4_keep σ 1 = some σ' ∧ f_X10_changes τ 1 = some τ' ∧ RR σ' τ' ∧ (∀ c, c ≤ 24 → σ' c = σ c) ∧ (∀ c, 171 ≤ c → σ' c = σ c) ∧ (∀ j, j ≠ 5 → τ' 0 j = τ 0 j) ∧ ∀ c, c ≠ 0 → c ≠ 4 → τ' c = τ c := by
  obtain ⟨a, b, d, ⟨p, nx, H⟩, m, f⟩ := R
  obtain ⟨σ', x1, x2, x3, x4, x5⟩ := c_keep a.1 a.2 H.1 H.2.1 H.2.2.1 H.2.2.2.1
  obtain ⟨τ', y1, y2, y3, y4, y5, y6⟩ := m_changes H.1 H.2.2.2.2.1
  have hn := H.2.1
  have fr1 : ∀ c, c ≤ 24 → σ' c = σ c := fun c hc => x5 c (by omega) (by unfold gFx; omega)
  have fr2 : ∀ c, 171 ≤ c → σ' c = σ c := fun c hc => x5 c (by omega) (by unfold gFx; omega)
  refine ⟨σ', τ', x1, y1, ⟨a.frame (fun c h1 h2 => fr1 c (by omega)) (y4 1 (by omega) (by omega)), b.frame (by rw [fr1 0 (by omega)]) (fun c h1 h2 => fr2 c h1) (y3 3 (by omega)) (y4 2 (by omega) (by omega)), d.frame (by rw [fr1 0 (by omega)]) (by rw [fr1 0 (by omega)]) (by rw [fr1 0 (by omega)]) (y3 7 (by omega)) (y3 8 (by omega)) (y3 9 (by omega)), ⟨p1 p, nx1 nx, H.keep a.2 x2 x3 x4 x5 y2 y5 y6⟩, m, f.frame (fr2 187 (by omega)) (fr2 188 (by omega)) (y3 12 (by omega)) (y4 6 (by omega) (by omega))⟩, fr1, fr2, y3, y4⟩
