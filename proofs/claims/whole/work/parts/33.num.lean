/-! ===== making and taking cuts ===== -/
def insP (cut : Nat → Int32) (x : Int32) : Nat → Nat
  | 0 => 0
  | i + 1 => if cut i ≤ x then i + 1 else insP cut x i
theorem insP_le (cut : Nat → Int32) (x : Int32) (n : Nat) : insP cut x n ≤ n := by
  induction n with
  | zero => exact Nat.le_refl 0
  | succ n ih => rw [insP]; split <;> omega
theorem insP_hi {cut : Nat → Int32} {x : Int32} {n i : Nat} (h : insP cut x n ≤ i) (hi : i < n) : x < cut i := by
  induction n with
  | zero => omega
  | succ n ih =>
    rw [insP] at h
    by_cases hc : cut n ≤ x
    · rw [if_pos hc] at h; omega
    · rw [if_neg hc] at h
      by_cases hin : i = n
      · subst hin; exact Int32.not_le.mp hc
      · exact ih h (by omega)
theorem insP_lo {cut : Nat → Int32} {x : Int32} {n : Nat} (h : 0 < insP cut x n) : cut (insP cut x n - 1) ≤ x := by
  induction n with
  | zero => exact absurd h (by rw [insP]; omega)
  | succ n ih =>
    rw [insP] at h ⊢
    by_cases hc : cut n ≤ x
    · rw [if_pos hc]; exact hc
    · rw [if_neg hc] at h ⊢; exact ih h
/-- the row after x came in at its place -/
def insC (cut : Nat → Int32) (x : Int32) (n : Nat) : Nat → Int32 := fun j => if j < insP cut x n then cut j else if j = insP cut x n then x else cut (j - 1)
def delC (cut : Nat → Int32) (r : Nat) : Nat → Int32 := fun j => if j < r then cut j else cut (j + 1)
theorem c_make_l {σ0 : gSt} {K n : Nat} {cut : Nat → Int32} {x : Int32} (hn : n < 20) : ∀ (i f : Nat) (σ : gSt), i < f → i ≤ n → insP cut x i = insP cut x n → (∀ j, j < i → σ (K + 1) j = cut j) → (∀ j, i < j → j ≤ n → σ (K + 1) j = cut (j - 1)) →
    ∃ σ', f_X0_make_l1 σ0 K x f (nI i) σ = some (nI (insP cut x n), σ') ∧ (∀ j, j < insP cut x n → σ' (K + 1) j = cut j) ∧ (∀ j, insP cut x n < j → j ≤ n → σ' (K + 1) j = cut (j - 1)) ∧ ∀ c, c ≠ K + 1 → σ' c = σ c := by
  intro i
  induction i with
  | zero =>
    intro f σ hf hi hp h1 h2
    obtain ⟨f, rfl⟩ : ∃ m, f = m + 1 := ⟨f - 1, by omega⟩
    have hp0 : insP cut x n = 0 := hp.symm
    refine ⟨σ, ?_, fun j hj => by omega, fun j hj hj2 => h2 j (by omega) hj2, fun _ _ => rfl⟩
    rw [f_X0_make_l1, if_pos (by decide), hp0]
  | succ i ih =>
    intro f σ hf hi hp h1 h2
    obtain ⟨f, rfl⟩ : ∃ m, f = m + 1 := ⟨f - 1, by omega⟩
    rw [f_X0_make_l1, if_neg (show ¬ nI (i + 1) ≤ 0 from nI_ge (a := 0) (by omega) (by omega)), nI_sub1 (by omega), show i + 1 - 1 = i from rfl, gald_n (by omega) (by omega), k1s, h1 i (by omega)]
    rw [insP] at hp
    by_cases hc : cut i ≤ x
    · rw [if_pos hc] at hp ⊢
      refine ⟨σ, by rw [← hp], fun j hj => h1 j (by omega), fun j hj hj2 => h2 j (by omega) hj2, fun _ _ => rfl⟩
    · rw [if_neg hc] at hp ⊢
      rw [k1s, gast_n (by omega) (by omega), k1s, show nI (i + 1) + -1 = nI i from by rw [← nI_s1]; grind]
      obtain ⟨σ', e, a1, a2, a3⟩ := ih f (up2 σ (K + 1) (i + 1) (cut i)) (by omega) (by omega) hp (fun j hj => by rw [up2_j (by omega)]; exact h1 j (by omega)) (fun j hj hj2 => by
        rw [up2_ap]
        by_cases hji : j = i + 1
        · rw [if_pos ⟨rfl, hji⟩, hji]; rfl
        · rw [if_neg (fun hh => hji hh.2)]; exact h2 j (by omega) hj2)
      exact ⟨σ', e, a1, a2, fun c hc => by rw [a3 c hc, up2_k hc]⟩
theorem c_make {σ : gSt} {K n : Nat} {cut : Nat → Int32} {x : Int32} (F : FC σ K n cut) (hx : 0 ≤ x) (hn : n < 20) (hno : ¬ ∃ i, i < n ∧ cut i = x) : ∃ σ', f_X0_make σ K x = some σ' ∧ FC σ' K (n + 1) (insC cut x n) ∧ ∀ c, c ≠ K → c ≠ K + 1 → σ' c = σ c := by
  have hF := FU_ge
  have hle := insP_le cut x n
  obtain ⟨σ1, e1, a1, a2, a3⟩ := c_make_l (σ0 := σ) (K := K) (cut := cut) (x := x) hn n FU σ (by omega) (Nat.le_refl n) rfl F.2.2 (fun j h1 h2 => by omega)
  refine ⟨up2 (up2 σ1 (K + 1) (insP cut x n) x) K 1 (nI (n + 1)), ?_, ⟨up2_s .., by omega, fun j hj => ?_⟩, fun c h1 h2 => ?_⟩
  · unfold f_X0_make
    rw [c_holds F hx, k1s, b01_f hno, if_pos rfl, F.1, if_neg (nI_pos (by omega)), if_pos (show nI n < 20 from nI_lt (b := 20) hn (by omega)), e1, k2s, gast_n (by omega) (by omega), k1s, gset_n, k1s, up2_k (by omega), a3 K (by omega), F.1, nI_s1]
  · rw [up2_k (by omega), up2_ap]
    unfold insC
    by_cases h1 : j = insP cut x n
    · rw [if_pos ⟨rfl, h1⟩, if_neg (by omega), if_pos h1]
    · rw [if_neg (fun hh => h1 hh.2)]
      by_cases h2 : j < insP cut x n
      · rw [if_pos h2]; exact a1 j h2
      · rw [if_neg h2, if_neg h1]; exact a2 j (by omega) (by omega)
  · rw [up2_k h1, up2_k h2, a3 c h2]
theorem m_make_l {σ0 : gSt} {n : Nat} {cut : Nat → Int32} {x : Int32} (hn : n < 20) : ∀ (i f : Nat) (σ : gSt), i < f → i ≤ n → insP cut x i = insP cut x n → (∀ j, j < i → σ 1 (8 + j) = cut j) → (∀ j, i < j → j ≤ n → σ 1 (8 + j) = cut (j - 1)) →
    ∃ σ', f_X10_cuts_l3 σ0 x f (nI i) σ = some (nI (insP cut x n), σ') ∧ (∀ j, j < insP cut x n → σ' 1 (8 + j) = cut j) ∧ (∀ j, insP cut x n < j → j ≤ n → σ' 1 (8 + j) = cut (j - 1)) ∧ (∀ c, c ≠ 1 → σ' c = σ c) ∧ ∀ j, (j < 8 ∨ 28 ≤ j) → σ' 1 j = σ 1 j := by
  intro i
  induction i with
  | zero =>
    intro f σ hf hi hp h1 h2
    obtain ⟨f, rfl⟩ : ∃ m, f = m + 1 := ⟨f - 1, by omega⟩
    have hp0 : insP cut x n = 0 := hp.symm
    refine ⟨σ, ?_, fun j hj => by omega, fun j hj hj2 => h2 j (by omega) hj2, fun _ _ => rfl, fun _ _ => rfl⟩
    rw [f_X10_cuts_l3, if_pos (by decide), hp0]
  | succ i ih =>
    intro f σ hf hi hp h1 h2
    obtain ⟨f, rfl⟩ : ∃ m, f = m + 1 := ⟨f - 1, by omega⟩
    rw [f_X10_cuts_l3, if_neg (show ¬ nI (i + 1) ≤ 0 from nI_ge (a := 0) (by omega) (by omega)), show (8 : Int32) = nI 8 from rfl, nI_add, nI_sub1 (by omega), show 8 + (i + 1) - 1 = 8 + i from rfl, gald_n (by omega) (by omega), k1s, h1 i (by omega)]
    rw [insP] at hp
    by_cases hc : cut i ≤ x
    · rw [if_pos hc] at hp ⊢
      refine ⟨σ, by rw [← hp], fun j hj => h1 j (by omega), fun j hj hj2 => h2 j (by omega) hj2, fun _ _ => rfl, fun _ _ => rfl⟩
    · rw [if_neg hc] at hp ⊢
      rw [k1s, gast_n (by omega) (by omega), k1s, show nI (i + 1) + -1 = nI i from by rw [← nI_s1]; grind]
      obtain ⟨σ', e, a1, a2, a3, a4⟩ := ih f (up2 σ 1 (8 + (i + 1)) (cut i)) (by omega) (by omega) hp (fun j hj => by rw [up2_j (by omega)]; exact h1 j (by omega)) (fun j hj hj2 => by
        rw [up2_ap]
        by_cases hji : j = i + 1
        · rw [if_pos ⟨rfl, by omega⟩, hji]; rfl
        · rw [if_neg (fun hh => hji (by omega))]; exact h2 j (by omega) hj2)
      exact ⟨σ', e, a1, a2, fun c hc => by rw [a3 c hc, up2_k hc], fun j hj => by rw [a4 j hj, up2_j (by omega)]⟩
theorem m_make {σ : gSt} (C : cutL (σ 1)) {x : Int32} (hn : nC (σ 1) < 20) (hno : ¬ ∃ i, i < nC (σ 1) ∧ hCut (σ 1) i = x) : ∃ σ', f_X10_cuts σ x 1 = some σ' ∧ σ' 1 7 = nI (nC (σ 1) + 1) ∧ (∀ j, j < nC (σ 1) + 1 → hCut (σ' 1) j = insC (hCut (σ 1)) x (nC (σ 1)) j) ∧ (∀ c, c ≠ 1 → σ' c = σ c) ∧ ∀ j, (j < 7 ∨ 28 ≤ j) → σ' 1 j = σ 1 j := by
  have hF := FU_ge
  have hle := insP_le (hCut (σ 1)) x (nC (σ 1))
  obtain ⟨σ1, e1, a1, a2, a3, a4⟩ := m_make_l (σ0 := σ) (cut := hCut (σ 1)) (x := x) hn (nC (σ 1)) FU σ (by omega) (Nat.le_refl _) rfl (fun _ _ => rfl) (fun j h1 h2 => by omega)
  refine ⟨up2 (up2 σ1 1 (8 + insP (hCut (σ 1)) x (nC (σ 1))) x) 1 7 (nI (nC (σ 1) + 1)), ?_, up2_s .., fun j hj => ?_, fun c h1 => ?_, fun j hj => ?_⟩
  · unfold f_X10_cuts
    rw [m_isCut C, k1s, b01_f hno, if_neg (by decide), if_neg (by decide), C.1, e1, k2s, show (8 : Int32) = nI 8 from rfl, nI_add, gast_n (by omega) (by omega), k1s, gset_n, k1s, up2_j (by omega), a4 7 (by omega), C.1, nI_s1]
  · unfold hCut at *
    rw [up2_j (by omega), up2_ap]
    unfold insC
    by_cases h1 : j = insP (fun i => σ 1 (8 + i)) x (nC (σ 1))
    · rw [if_pos ⟨rfl, by omega⟩, if_neg (by omega), if_pos h1]
    · rw [if_neg (fun hh => h1 (by omega))]
      by_cases h2 : j < insP (fun i => σ 1 (8 + i)) x (nC (σ 1))
      · rw [if_pos h2]; exact a1 j h2
      · rw [if_neg h2, if_neg h1]; exact a2 j (by omega) (by omega)
  · rw [up2_k h1, up2_k h1, a3 c h1]
  · rw [up2_j (by omega), up2_j (by omega), a4 j (by omega)]
theorem c_take_l {σ0 : gSt} {K n r : Nat} {cut : Nat → Int32} (hn : n ≤ 20) (hr : r < n) : ∀ (d i f : Nat) (σ : gSt), i + d = n → d < f → r < i → σ K 1 = nI n → (∀ j, j + 1 < i → σ (K + 1) j = delC cut r j) → (∀ j, i ≤ j → j < n → σ (K + 1) j = cut j) →
    ∃ σ', f_X0_takeAway_l1 σ0 K f (nI i) σ = some σ' ∧ (∀ j, j + 1 < n → σ' (K + 1) j = delC cut r j) ∧ ∀ c, c ≠ K + 1 → σ' c = σ c := by
  intro d
  induction d with
  | zero =>
    intro i f σ hi hf hri h5 h1 h2
    obtain ⟨f, rfl⟩ : ∃ m, f = m + 1 := ⟨f - 1, by omega⟩
    refine ⟨σ, ?_, fun j hj => h1 j (by omega), fun _ _ => rfl⟩
    rw [f_X0_takeAway_l1, if_neg (show ¬ nI i ≤ 0 from nI_ge (a := 0) (by omega) (by omega)), h5, if_pos (nI_le (by omega) (by omega))]
  | succ d ih =>
    intro i f σ hi hf hri h5 h1 h2
    obtain ⟨f, rfl⟩ : ∃ m, f = m + 1 := ⟨f - 1, by omega⟩
    rw [f_X0_takeAway_l1, if_neg (show ¬ nI i ≤ 0 from nI_ge (a := 0) (by omega) (by omega)), h5, if_neg (nI_ge (by omega) (by omega)), if_neg (show ¬ (20 : Int32) ≤ nI i from nI_ge (b := 20) (a := i) (by omega) (by omega)), gald_n (by omega) (by omega), k1s, nI_sub1 (by omega), gast_n (by omega) (by omega), k1s, nI_s1]
    obtain ⟨σ', e, a1, a3⟩ := ih (i + 1) f (up2 σ (K + 1) (i - 1) (σ (K + 1) i)) (by omega) (by omega) (by omega) (by rw [up2_k (by omega)]; exact h5) (fun j hj => by
      rw [up2_ap]
      by_cases hji : j = i - 1
      · rw [if_pos ⟨rfl, hji⟩, h2 i (by omega) (by omega)]
        unfold delC
        rw [if_neg (by omega), hji, show i - 1 + 1 = i by omega]
      · rw [if_neg (fun hh => hji hh.2)]; exact h1 j (by omega)) (fun j hj hj2 => by rw [up2_j (by omega)]; exact h2 j (by omega) hj2)
    exact ⟨σ', e, a1, fun c hc => by rw [a3 c hc, up2_k hc]⟩
theorem cutIdx {cut : Nat → Int32} {n r : Nat} (hs : ∀ i, i + 1 < n → cut i < cut (i + 1)) (hr : r < n) : cB (upB cut (cut r)) n = r + 1 := by
  have mono : ∀ d i, i + d < n → cut i ≤ cut (i + d) := by
    intro d
    induction d with
    | zero => intro i _; exact Int32.le_refl _
    | succ d ih =>
      intro i hi
      have h1 := ih i (by omega)
      have h2 := hs (i + d) (by omega)
      rw [show i + (d + 1) = i + d + 1 by omega]
      grind
  have hpre := fun i (hi : i < n) => cB_pre (p := upB cut (cut r)) (m := n) (fun i hi h => by
    simp only [upB, decide_eq_true_eq] at h ⊢
    have := hs i hi
    grind) hi
  have h1 := (hpre r hr).mp (by simp only [upB, decide_eq_true_eq]; exact Int32.le_refl _)
  have hle := cB_le_n (upB cut (cut r)) n
  by_cases h2 : r + 1 < n
  · have h3 := (hpre (r + 1) h2)
    have h4 : ¬ upB cut (cut r) (r + 1) = true := by
      simp only [upB, decide_eq_true_eq]
      have := hs r h2
      grind
    rw [h3] at h4
    omega
  · omega
theorem c_take {σ : gSt} {K n r : Nat} {cut : Nat → Int32} (F : FC σ K n cut) (hs : ∀ i, i + 1 < n → cut i < cut (i + 1)) (hr : r < n) (hx : 0 ≤ cut r) : ∃ σ', f_X0_takeAway σ K (cut r) = some σ' ∧ FC σ' K (n - 1) (delC cut r) ∧ ∀ c, c ≠ K → c ≠ K + 1 → σ' c = σ c := by
  have hF := FU_ge
  have hn := F.2.1
  obtain ⟨σ1, e1, a1, a3⟩ := c_take_l (σ0 := σ) (K := K) (cut := cut) (r := r) hn hr (n - (r + 1)) (r + 1) FU σ (by omega) (by omega) (by omega) F.1 (fun j hj => by
    unfold delC; rw [if_pos (by omega)]; exact F.2.2 j (by omega)) (fun j hj hj2 => F.2.2 j hj2)
  refine ⟨up2 σ1 K 1 (nI (n - 1)), ?_, ⟨up2_s .., by omega, fun j hj => ?_⟩, fun c h1 h2 => ?_⟩
  · unfold f_X0_takeAway
    rw [c_holds F hx, k1s, b01_t ⟨r, hr, rfl⟩, if_neg (by decide), c_upTo F, k1s, cutIdx hs hr, e1, k1s, gset_n, k1s, a3 K (by omega), F.1, nI_sub1 (by omega)]
  · rw [up2_k (by omega)]; exact a1 j (by omega)
  · rw [up2_k h1, a3 c h2]
theorem m_take {σ : gSt} (C : cutL (σ 1)) {r : Nat} (hs : ∀ i, i + 1 < nC (σ 1) → hCut (σ 1) i < hCut (σ 1) (i + 1)) (hr : r < nC (σ 1)) : ∃ σ', f_X10_cuts σ (hCut (σ 1) r) 0 = some σ' ∧ σ' 1 7 = nI (nC (σ 1) - 1) ∧ (∀ j, j < nC (σ 1) - 1 → hCut (σ' 1) j = delC (hCut (σ 1)) r j) ∧ (∀ c, c ≠ 1 → σ' c = σ c) ∧ ∀ j, (j < 7 ∨ 28 ≤ j) → σ' 1 j = σ 1 j := by
  have hF := FU_ge
  have hn := C.2.1
  have mono : ∀ d i, i + d + 1 < nC (σ 1) → hCut (σ 1) i < hCut (σ 1) (i + d + 1) := by
    intro d
    induction d with
    | zero => intro i hi; exact hs i hi
    | succ d ih =>
      intro i hi
      have h1 := ih i (by omega)
      have h2 := hs (i + d + 1) (by omega)
      rw [show i + (d + 1) + 1 = i + d + 1 + 1 by omega]
      grind
  have find : ∀ (d i f : Nat), i + d = r → d < f → f_X10_cuts_l1 σ (hCut (σ 1) r) f (nI i) = some (nI r) := by
    intro d
    induction d with
    | zero =>
      intro i f hi hf
      obtain ⟨f, rfl⟩ : ∃ m, f = m + 1 := ⟨f - 1, by omega⟩
      obtain rfl : i = r := by omega
      rw [f_X10_cuts_l1, m_cutG (by omega), k1s, if_pos rfl]
    | succ d ih =>
      intro i f hi hf
      obtain ⟨f, rfl⟩ : ∃ m, f = m + 1 := ⟨f - 1, by omega⟩
      have hlt := mono d i (by omega)
      rw [show i + d + 1 = r by omega] at hlt
      rw [f_X10_cuts_l1, m_cutG (by omega), k1s, if_neg (by grind), nI_s1]
      exact ih (i + 1) f (by omega) (by omega)
  have loop : ∀ (d i f : Nat) (σ1 : gSt), i + d = nC (σ 1) - 1 → d < f → r ≤ i → (∀ c, c ≠ 1 → σ1 c = σ c) → σ1 1 7 = nI (nC (σ 1) - 1) → (∀ j, (j < 7 ∨ 28 ≤ j) → σ1 1 j = σ 1 j) → (∀ j, j < i → hCut (σ1 1) j = delC (hCut (σ 1)) r j) → (∀ j, i < j → j < nC (σ 1) → hCut (σ1 1) j = hCut (σ 1) j) →
      ∃ σ', f_X10_cuts_l2 (up2 σ 1 7 (nI (nC (σ 1) - 1))) f (nI i) σ1 = some σ' ∧ σ' 1 7 = nI (nC (σ 1) - 1) ∧ (∀ j, j < nC (σ 1) - 1 → hCut (σ' 1) j = delC (hCut (σ 1)) r j) ∧ (∀ c, c ≠ 1 → σ' c = σ c) ∧ ∀ j, (j < 7 ∨ 28 ≤ j) → σ' 1 j = σ 1 j := by
    intro d
    induction d with
    | zero =>
      intro i f σ1 hi hf hri h1 h2 h3 h4 h5
      obtain ⟨f, rfl⟩ : ∃ m, f = m + 1 := ⟨f - 1, by omega⟩
      refine ⟨σ1, ?_, h2, fun j hj => h4 j (by omega), h1, h3⟩
      rw [f_X10_cuts_l2, h2, if_pos (nI_le (by omega) (by omega))]
    | succ d ih =>
      intro i f σ1 hi hf hri h1 h2 h3 h4 h5
      obtain ⟨f, rfl⟩ : ∃ m, f = m + 1 := ⟨f - 1, by omega⟩
      rw [f_X10_cuts_l2, h2, if_neg (nI_ge (by omega) (by omega)), show (8 : Int32) = nI 8 from rfl, nI_add, nI_s1, gald_n (by omega) (by omega), k1s, gast_n (by omega) (by omega), k1s, nI_s1]
      refine ih (i + 1) f _ (by omega) (by omega) (by omega) (fun c hc => by rw [up2_k hc, h1 c hc]) (by rw [up2_j (by omega)]; exact h2) (fun j hj => by rw [up2_j (by omega)]; exact h3 j hj) (fun j hj => ?_) (fun j hj hj2 => ?_)
      · unfold hCut at *
        rw [up2_ap]
        by_cases hji : j = i
        · rw [if_pos ⟨rfl, by omega⟩]
          have := h5 (i + 1) (by omega) (by omega)
          rw [show 8 + i + 1 = 8 + (i + 1) by omega, this]
          unfold delC
          rw [if_neg (by omega), hji]
        · rw [if_neg (fun hh => hji (by omega))]; exact h4 j (by omega)
      · unfold hCut at *
        rw [up2_j (by omega)]; exact h5 j (by omega) hj2
  obtain ⟨σ', e, a1, a2, a3, a4⟩ := loop (nC (σ 1) - 1 - r) r FU (up2 σ 1 7 (nI (nC (σ 1) - 1))) (by omega) (by omega) (Nat.le_refl _) (fun c hc => up2_k hc) (up2_s ..) (fun j hj => up2_j (by omega)) (fun j hj => by
    unfold hCut delC; rw [up2_j (by omega), if_pos hj]) (fun j hj hj2 => by unfold hCut; rw [up2_j (by omega)])
  refine ⟨σ', ?_, a1, a2, a3, a4⟩
  unfold f_X10_cuts
  rw [m_isCut C, k1s, b01_t ⟨r, hr, rfl⟩, if_neg (by decide), if_pos rfl, show f_X10_cuts_l1 σ (hCut (σ 1) r) FU 0 = _ from find r 0 FU (by omega) (by omega), k1s, C.1, nI_sub1 (by omega), gset_n, k1s, e, k1s]
