/-! ===== rows of captions, in the class ===== -/
def RV (σ : gSt) (T c : Nat) (q : Nat → Int32) : Prop := σ (T + 1) c = q 0 ∧ σ (T + 2) c = q 1 ∧ σ (T + 3) c = q 2 ∧ σ (T + 4) c = q 3 ∧ ∀ i, i < nN (q 3) → σ (T + 5) (24 * c + i) = q (4 + i)
theorem c_isRow {σ : gSt} {j : Nat} (hj : j < 16) : f_X8_isRow σ (nI j) = some 1 := by
  unfold f_X8_isRow
  rw [if_neg (nI_pos (by omega)), if_neg (show ¬ (16 : Int32) ≤ nI j from nI_ge (b := 16) (a := j) (by omega) (by omega))]
  rfl
theorem c_copyRow (σ : gSt) (T : Nat) {a b : Nat} (ha : a < 16) (hb : b < 16) : ∃ σ', f_X8_copyRow σ T (nI a) (nI b) = some σ' ∧ (∀ q, nN (q 3) ≤ 24 → RV σ T a q → RV σ' T b q) ∧ (∀ c q, c ≠ b → nN (q 3) ≤ 24 → RV σ T c q → RV σ' T c q) ∧ ∀ c, (c < T + 1 ∨ T + 5 < c) → σ' c = σ c := by
  let σ1 := up2 σ (T + 1) b (σ (T + 1) a)
  let σ2 := up2 σ1 (T + 2) b (σ (T + 2) a)
  let σ3 := up2 σ2 (T + 3) b (σ (T + 3) a)
  let σ4 := up2 σ3 (T + 4) b (σ (T + 4) a)
  let σ5 := va_up σ4 (T + 5) (va_cpy (σ4 (T + 5)) (σ4 (T + 5)) (24 * a) (24 * b) 24)
  have v4 : σ4 (T + 5) = σ (T + 5) := by
    show up2 (up2 (up2 (up2 σ _ _ _) _ _ _) _ _ _) _ _ _ (T + 5) = _
    rw [up2_k (by omega), up2_k (by omega), up2_k (by omega), up2_k (by omega)]
  have w1 : ∀ j, σ5 (T + 1) j = if j = b then σ (T + 1) a else σ (T + 1) j := fun j => by
    show va_up σ4 _ _ (T + 1) j = _
    rw [vup_n (by omega)]
    show up2 (up2 (up2 (up2 σ _ _ _) _ _ _) _ _ _) _ _ _ (T + 1) j = _
    rw [up2_k (by omega), up2_k (by omega), up2_k (by omega), up2_ap]; simp
  have w2 : ∀ j, σ5 (T + 2) j = if j = b then σ (T + 2) a else σ (T + 2) j := fun j => by
    show va_up σ4 _ _ (T + 2) j = _
    rw [vup_n (by omega)]
    show up2 (up2 (up2 (up2 σ _ _ _) _ _ _) _ _ _) _ _ _ (T + 2) j = _
    rw [up2_k (by omega), up2_k (by omega), up2_ap, up2_k (by omega)]; simp
  have w3 : ∀ j, σ5 (T + 3) j = if j = b then σ (T + 3) a else σ (T + 3) j := fun j => by
    show va_up σ4 _ _ (T + 3) j = _
    rw [vup_n (by omega)]
    show up2 (up2 (up2 (up2 σ _ _ _) _ _ _) _ _ _) _ _ _ (T + 3) j = _
    rw [up2_k (by omega), up2_ap, up2_k (by omega), up2_k (by omega)]; simp
  have w4 : ∀ j, σ5 (T + 4) j = if j = b then σ (T + 4) a else σ (T + 4) j := fun j => by
    show va_up σ4 _ _ (T + 4) j = _
    rw [vup_n (by omega)]
    show up2 (up2 (up2 (up2 σ _ _ _) _ _ _) _ _ _) _ _ _ (T + 4) j = _
    rw [up2_ap, up2_k (by omega), up2_k (by omega), up2_k (by omega)]; simp
  have w5 : ∀ j, σ5 (T + 5) j = if 24 * b ≤ j ∧ j < 24 * b + 24 then σ (T + 5) (24 * a + (j - 24 * b)) else σ (T + 5) j := fun j => by
    show va_up σ4 _ _ (T + 5) j = _
    rw [vup_s, v4]; rfl
  refine ⟨σ5, ?_, fun q hq h => ?_, fun c q hc hq h => ?_, fun c hc => ?_⟩
  · unfold f_X8_copyRow
    rw [c_isRow ha, k1s, if_neg (by decide), c_isRow hb, k1s, if_neg (by decide), gald_n ha (by omega), k1s, gast_n hb (by omega), k1s]
    show g_k1 (gald σ1 (T + 2) 16 (nI a)) _ = _
    rw [gald_n ha (by omega), k1s, show σ1 (T + 2) = σ (T + 2) from up2_k (by omega), gast_n hb (by omega), k1s]
    show g_k1 (gald σ2 (T + 3) 16 (nI a)) _ = _
    rw [gald_n ha (by omega), k1s, show σ2 (T + 3) = σ (T + 3) from (up2_k (by omega)).trans (up2_k (by omega)), gast_n hb (by omega), k1s]
    show g_k1 (gald σ3 (T + 4) 16 (nI a)) _ = _
    rw [gald_n ha (by omega), k1s, show σ3 (T + 4) = σ (T + 4) from (up2_k (by omega)).trans ((up2_k (by omega)).trans (up2_k (by omega))), gast_n hb (by omega), k1s]
    show g_k1 (gcpy σ4 (T + 5) 384 (T + 5) 384 (nI a * 24) (nI b * 24) 24) _ = _
    rw [show (24 : Int32) = nI 24 from rfl, pk_mul, pk_mul, gcpy_n (by omega) (by omega) (by omega) (by omega), k1s, Nat.mul_comm a 24, Nat.mul_comm b 24]
  · obtain ⟨h1, h2, h3, h4, h5⟩ := h
    refine ⟨by rw [w1, if_pos rfl]; exact h1, by rw [w2, if_pos rfl]; exact h2, by rw [w3, if_pos rfl]; exact h3, by rw [w4, if_pos rfl]; exact h4, fun i hi => ?_⟩
    rw [w5, if_pos (by omega), show 24 * a + (24 * b + i - 24 * b) = 24 * a + i by omega]
    exact h5 i hi
  · obtain ⟨h1, h2, h3, h4, h5⟩ := h
    refine ⟨by rw [w1, if_neg hc]; exact h1, by rw [w2, if_neg hc]; exact h2, by rw [w3, if_neg hc]; exact h3, by rw [w4, if_neg hc]; exact h4, fun i hi => ?_⟩
    rw [w5, if_neg (by omega)]
    exact h5 i hi
  · show va_up σ4 _ _ c = _
    rw [vup_n (by omega)]
    show up2 (up2 (up2 (up2 σ _ _ _) _ _ _) _ _ _) _ _ _ c = _
    rw [up2_k (by omega), up2_k (by omega), up2_k (by omega), up2_k (by omega)]
def dRow (kp : Nat → Nat → Int32) (c0 : Nat) : Nat → Nat → Int32 := fun c => if c < c0 then kp c else kp (c + 1)
def iRow (kp : Nat → Nat → Int32) (r : Nat) (q : Nat → Int32) : Nat → Nat → Int32 := fun c => if c < r then kp c else if c = r then q else kp (c - 1)
theorem c_close {σ : gSt} {T n c0 : Nat} {kp : Nat → Nat → Int32} (F : FT σ T n kp) (hs : ∀ c, c < n → nN (kp c 3) ≤ 24) (hc : c0 < n) : ∃ σ', f_X8_closeRow σ T (nI c0) = some σ' ∧ FT σ' T (n - 1) (dRow kp c0) ∧ ∀ c, (c < T ∨ T + 5 < c) → σ' c = σ c := by
  have hF := FU_ge
  have hn := F.2.1
  have loop : ∀ (d i f : Nat) (σ1 : gSt), i + d = n → d < f → c0 < i → σ1 T 5 = nI n → (∀ c, c + 1 < i → RV σ1 T c (dRow kp c0 c)) → (∀ c, i ≤ c → c < n → RV σ1 T c (kp c)) → (∀ c, (c < T + 1 ∨ T + 5 < c) → σ1 c = σ c) →
      ∃ σ', f_X8_closeRow_l1 σ T f (nI i) σ1 = some σ' ∧ σ' T 5 = nI n ∧ (∀ c, c + 1 < n → RV σ' T c (dRow kp c0 c)) ∧ ∀ c, (c < T + 1 ∨ T + 5 < c) → σ' c = σ c := by
    intro d
    induction d with
    | zero =>
      intro i f σ1 hi hf hci h5 h1 h2 h3
      obtain ⟨f, rfl⟩ : ∃ m, f = m + 1 := ⟨f - 1, by omega⟩
      refine ⟨σ1, ?_, h5, fun c hc => h1 c (by omega), h3⟩
      rw [f_X8_closeRow_l1, h5, if_pos (nI_le (by omega) (by omega))]
    | succ d ih =>
      intro i f σ1 hi hf hci h5 h1 h2 h3
      obtain ⟨f, rfl⟩ : ∃ m, f = m + 1 := ⟨f - 1, by omega⟩
      obtain ⟨σ2, e, g1, g2, g3⟩ := c_copyRow σ1 T (a := i) (b := i - 1) (by omega) (by omega)
      rw [f_X8_closeRow_l1, h5, if_neg (nI_ge (by omega) (by omega)), nI_sub1 (by omega), e, k1s, nI_s1]
      refine ih (i + 1) f σ2 (by omega) (by omega) (by omega) (by rw [g3 T (by omega)]; exact h5) (fun c hc => ?_) (fun c hc1 hc2 => g2 c _ (by omega) (hs c hc2) (h2 c (by omega) hc2)) (fun c hc => by rw [g3 c hc, h3 c hc])
      by_cases hce : c = i - 1
      · subst hce
        have : dRow kp c0 (i - 1) = kp i := by
          unfold dRow
          rw [if_neg (by omega), show i - 1 + 1 = i by omega]
        rw [this]
        exact g1 _ (hs i (by omega)) (h2 i (Nat.le_refl _) (by omega))
      · refine g2 c _ hce ?_ (h1 c (by omega))
        unfold dRow
        split
        · exact hs c (by omega)
        · exact hs (c + 1) (by omega)
  obtain ⟨σ1, e1, a1, a2, a3⟩ := loop (n - (c0 + 1)) (c0 + 1) FU σ (by omega) (by omega) (by omega) F.1 (fun c hc => by
    unfold dRow; rw [if_pos (by omega)]; exact F.2.2 c (by omega)) (fun c h1 h2 => F.2.2 c h2) (fun _ _ => rfl)
  refine ⟨up2 σ1 T 5 (nI (n - 1)), ?_, ⟨up2_s .., by omega, fun c hc => ?_⟩, fun c hc => by rw [up2_k (by omega), a3 c (by omega)]⟩
  · unfold f_X8_closeRow
    rw [c_has_t F.1 F.2.1 hc, k1s, if_neg (by decide), nI_s1, e1, k1s, gset_n, k1s, a1, nI_sub1 (by omega)]
  · rw [up2_k (by omega), up2_k (by omega), up2_k (by omega), up2_k (by omega), up2_k (by omega)]
    exact a2 c (by omega)
/-- r is the place of a caption that starts at a -/
def place (kp : Nat → Nat → Int32) (n r : Nat) (a : Int32) : Prop := r ≤ n ∧ (∀ i, i < r → kp i 0 < a) ∧ ∀ i, r ≤ i → i < n → a < kp i 0
theorem c_setFrames {σ : gSt} {T n c : Nat} (h5 : σ T 5 = nI n) (hn : n ≤ 16) (hc : c < n) (a b : Int32) : f_X8_setFrames σ T (nI c) a b = some (up2 (up2 σ (T + 1) c a) (T + 2) c b) := by
  unfold f_X8_setFrames
  rw [c_has_t h5 hn hc, k1s, if_neg (by decide), gast_n (by omega) (by omega), k1s, gast_n (by omega) (by omega), k1s, k1s]
theorem c_setText {σ : gSt} {T n c K m : Nat} {u : Nat → Int32} (h5 : σ T 5 = nI n) (hn : n ≤ 16) (hc : c < n) (X : TX σ K m u) (hm : m ≤ 24) (hK : ∀ j, j ≤ 5 → K ≠ T + j ∧ K + 1 ≠ T + j) : ∃ σ', f_X8_setText σ T (nI c) K = some σ' ∧ (∀ j, σ' (T + 4) j = if j = c then nI m else σ (T + 4) j) ∧ (∀ i, i < m → σ' (T + 5) (24 * c + i) = u i) ∧ (∀ j, (j < 24 * c ∨ 24 * c + 24 ≤ j) → σ' (T + 5) j = σ (T + 5) j) ∧ ∀ c', c' ≠ T + 4 → c' ≠ T + 5 → σ' c' = σ c' := by
  have hF := FU_ge
  have k4 := hK 4 (by omega)
  have k5 := hK 5 (by omega)
  have loop : ∀ (d i f : Nat) (σ1 : gSt), i + d = m → d < f → (∀ c', c' ≠ T + 5 → σ1 c' = up2 σ (T + 4) c (nI m) c') → (∀ j, j < i → σ1 (T + 5) (24 * c + j) = u j) → (∀ j, (j < 24 * c ∨ 24 * c + 24 ≤ j) → σ1 (T + 5) j = σ (T + 5) j) →
      ∃ σ', f_X8_setText_l1 T (nI c) K (up2 σ (T + 4) c (nI m)) f (nI i) σ1 = some σ' ∧ (∀ c', c' ≠ T + 5 → σ' c' = up2 σ (T + 4) c (nI m) c') ∧ (∀ j, j < m → σ' (T + 5) (24 * c + j) = u j) ∧ (∀ j, (j < 24 * c ∨ 24 * c + 24 ≤ j) → σ' (T + 5) j = σ (T + 5) j) := by
    intro d
    induction d with
    | zero =>
      intro i f σ1 hi hf h1 h2 h3
      obtain ⟨f, rfl⟩ : ∃ m, f = m + 1 := ⟨f - 1, by omega⟩
      refine ⟨σ1, ?_, h1, fun j hj => h2 j (by omega), h3⟩
      rw [f_X8_setText_l1, gald_n (by omega) (by omega), k1s, h1 (T + 4) (by omega), up2_s, if_pos (nI_le (by omega) (by omega))]
    | succ d ih =>
      intro i f σ1 hi hf h1 h2 h3
      obtain ⟨f, rfl⟩ : ∃ m, f = m + 1 := ⟨f - 1, by omega⟩
      have X1 : TX σ1 K m u := X.frame (by rw [h1 K (by omega), up2_k (by omega)]) (by rw [h1 (K + 1) (by omega), up2_k (by omega)])
      rw [f_X8_setText_l1, gald_n (by omega) (by omega), k1s, h1 (T + 4) (by omega), up2_s, if_neg (nI_ge (by omega) (by omega)), if_neg (show ¬ (24 : Int32) ≤ nI i from nI_ge (b := 24) (a := i) (by omega) (by omega)), c_tSign X1 (by omega), k1s, show (24 : Int32) = nI 24 from rfl, pk_mul, nI_add, gast_n (by omega) (by omega), k1s, nI_s1, Nat.mul_comm c 24]
      refine ih (i + 1) f _ (by omega) (by omega) (fun c' hc' => by rw [up2_k hc', h1 c' hc']) (fun j hj => ?_) (fun j hj => by rw [up2_j (by omega), h3 j hj])
      rw [up2_ap]
      by_cases hji : j = i
      · rw [if_pos ⟨rfl, by omega⟩, hji]
      · rw [if_neg (fun hh => hji (by omega))]; exact h2 j (by omega)
  obtain ⟨σ', e, a1, a2, a3⟩ := loop m 0 FU (up2 σ (T + 4) c (nI m)) (by omega) (by omega) (fun _ _ => rfl) (fun j hj => by omega) (fun j hj => by rw [up2_k (by omega)])
  refine ⟨σ', ?_, fun j => ?_, a2, a3, fun c' h4 h5' => by rw [a1 c' h5', up2_k h4]⟩
  · unfold f_X8_setText
    rw [c_has_t h5 hn hc, k1s, if_neg (by decide), X.1, if_neg (show ¬ (24 : Int32) < nI m from nI_nlt (a := 24) (by omega) (by omega)), gast_n (by omega) (by omega), k1s, show f_X8_setText_l1 T (nI c) K (up2 σ (T + 4) c (nI m)) FU 0 (up2 σ (T + 4) c (nI m)) = _ from e, k1s]
  · rw [a1 (T + 4) (by omega), up2_ap]; simp
def capQ (kd a b : Int32) (m : Nat) (u : Nat → Int32) : Nat → Int32 := fun w => if w = 0 then a else if w = 1 then b else if w = 2 then kd else if w = 3 then nI m else u (w - 4)
theorem c_insert {σ : gSt} {T n r K m : Nat} {kp : Nat → Nat → Int32} {u : Nat → Int32} (F : FT σ T n kp) (hs : ∀ c, c < n → nN (kp c 3) ≤ 24) (hn : n < 16) (kd : Int32) {a : Int32} (b : Int32) (P : place kp n r a) (X : TX σ K m u) (hm : m ≤ 24) (hK : ∀ j, j ≤ 5 → K ≠ T + j ∧ K + 1 ≠ T + j) :
    ∃ σ', f_X8_insertCaption σ T kd a b K = some (nI r, σ') ∧ FT σ' T (n + 1) (iRow kp r (capQ kd a b m u)) ∧ ∀ c, (c < T ∨ T + 5 < c) → σ' c = σ c := by
  have hF := FU_ge
  obtain ⟨hr, p1, p2⟩ := P
  have find : ∀ (d i f : Nat), i + d = r → d < f → f_X8_insertCaption_l1 σ T kd a b K f (nI i) = some (nI r) := by
    intro d
    induction d with
    | zero =>
      intro i f hi hf
      obtain ⟨f, rfl⟩ : ∃ m, f = m + 1 := ⟨f - 1, by omega⟩
      obtain rfl : i = r := by omega
      rw [f_X8_insertCaption_l1, F.1]
      by_cases hin : i < n
      · rw [if_neg (nI_ge (by omega) (by omega)), c_first F hin, k1s, if_pos (by have := p2 i (Nat.le_refl _) hin; grind)]
      · rw [if_pos (nI_le (by omega) (by omega))]
    | succ d ih =>
      intro i f hi hf
      obtain ⟨f, rfl⟩ : ∃ m, f = m + 1 := ⟨f - 1, by omega⟩
      rw [f_X8_insertCaption_l1, F.1, if_neg (nI_ge (by omega) (by omega)), c_first F (by omega), k1s, if_neg (by have := p1 i (by omega); grind), nI_s1]
      exact ih (i + 1) f (by omega) (by omega)
  have loop : ∀ (d i f : Nat) (σ1 : gSt), r + d = i → d < f → i ≤ n → (∀ c, c < i → RV σ1 T c (kp c)) → (∀ c, i < c → c ≤ n → RV σ1 T c (kp (c - 1))) → (∀ c, (c < T + 1 ∨ T + 5 < c) → σ1 c = σ c) →
      ∃ σ', f_X8_insertCaption_l2 σ T kd a b K (nI r) f (nI i) σ1 = some σ' ∧ (∀ c, c < r → RV σ' T c (kp c)) ∧ (∀ c, r < c → c ≤ n → RV σ' T c (kp (c - 1))) ∧ ∀ c, (c < T + 1 ∨ T + 5 < c) → σ' c = σ c := by
    intro d
    induction d with
    | zero =>
      intro i f σ1 hi hf hin h1 h2 h3
      obtain ⟨f, rfl⟩ : ∃ m, f = m + 1 := ⟨f - 1, by omega⟩
      obtain rfl : r = i := by omega
      refine ⟨σ1, ?_, h1, h2, h3⟩
      rw [f_X8_insertCaption_l2, if_pos (nI_le (by omega) (by omega))]
    | succ d ih =>
      intro i f σ1 hi hf hin h1 h2 h3
      obtain ⟨f, rfl⟩ : ∃ m, f = m + 1 := ⟨f - 1, by omega⟩
      obtain ⟨σ2, e, g1, g2, g3⟩ := c_copyRow σ1 T (a := i - 1) (b := i) (by omega) (by omega)
      rw [f_X8_insertCaption_l2, if_neg (nI_ge (by omega) (by omega)), nI_sub1 (by omega), e, k1s, show nI i + -1 = nI (i - 1) from by rw [← nI_sub1 (by omega)]; grind]
      refine ih (i - 1) f σ2 (by omega) (by omega) (by omega) (fun c hc => g2 c _ (by omega) (hs c (by omega)) (h1 c (by omega))) (fun c hc1 hc2 => ?_) (fun c hc => by rw [g3 c hc, h3 c hc])
      by_cases hce : c = i
      · subst hce
        exact g1 _ (hs (c - 1) (by omega)) (h1 (c - 1) (by omega))
      · exact g2 c _ hce (hs (c - 1) (by omega)) (h2 c (by omega) hc2)
  obtain ⟨σ1, e1, a1, a2, a3⟩ := loop (n - r) n FU σ (by omega) (by omega) (Nat.le_refl _) (fun c hc => F.2.2 c hc) (fun c h1 h2 => by omega) (fun _ _ => rfl)
  have kT := hK 0 (by omega)
  have k1' := hK 1 (by omega)
  have k2' := hK 2 (by omega)
  have k3' := hK 3 (by omega)
  have k4' := hK 4 (by omega)
  have k5' := hK 5 (by omega)
  have h5 : (up2 (up2 (up2 (up2 σ1 T 5 (nI (n + 1))) (T + 3) r kd) (T + 1) r a) (T + 2) r b) T 5 = nI (n + 1) := by
    rw [up2_k (by omega), up2_k (by omega), up2_k (by omega), up2_s]
  have X1 : TX (up2 (up2 (up2 (up2 σ1 T 5 (nI (n + 1))) (T + 3) r kd) (T + 1) r a) (T + 2) r b) K m u := X.frame (by rw [up2_k (by omega), up2_k (by omega), up2_k (by omega), up2_k (by omega), a3 K (by omega)]) (by rw [up2_k (by omega), up2_k (by omega), up2_k (by omega), up2_k (by omega), a3 (K + 1) (by omega)])
  obtain ⟨σ2, e2, b1, b2, b3, b4⟩ := c_setText (c := r) h5 (by omega) (by omega) X1 hm hK
  refine ⟨σ2, ?_, ⟨?_, by omega, fun c hc => ?_⟩, fun c hc => ?_⟩
  · unfold f_X8_insertCaption
    rw [show f_X8_insertCaption_l1 σ T kd a b K FU 0 = _ from find r 0 FU (by omega) (by omega), k1s, c_isRow (by omega), k1s, if_neg (by decide), F.1, c_isRow (by omega), k1s, if_neg (by decide), e1, k1s, gset_n, k1s, a3 T (by omega), F.1, nI_s1, gast_n (by omega) (by omega), k1s, c_setFrames (n := n + 1) (by rw [up2_k (by omega), up2_s]) (by omega) (by omega), k1s, e2, k1s]
  · rw [b4 T (by omega) (by omega)]; exact h5
  · show RV σ2 T c (iRow kp r (capQ kd a b m u) c)
    have z1 : ∀ j, σ2 (T + 1) j = if j = r then a else σ1 (T + 1) j := fun j => by
      rw [b4 _ (by omega) (by omega), up2_k (by omega), up2_ap, up2_k (by omega), up2_k (by omega)]; simp
    have z2 : ∀ j, σ2 (T + 2) j = if j = r then b else σ1 (T + 2) j := fun j => by
      rw [b4 _ (by omega) (by omega), up2_ap, up2_k (by omega), up2_k (by omega), up2_k (by omega)]; simp
    have z3 : ∀ j, σ2 (T + 3) j = if j = r then kd else σ1 (T + 3) j := fun j => by
      rw [b4 _ (by omega) (by omega), up2_k (by omega), up2_k (by omega), up2_ap, up2_k (by omega)]; simp
    have z4 : ∀ j, σ2 (T + 4) j = if j = r then nI m else σ1 (T + 4) j := fun j => by
      rw [b1, up2_k (by omega), up2_k (by omega), up2_k (by omega), up2_k (by omega)]
    have z5 : ∀ j, (j < 24 * r ∨ 24 * r + 24 ≤ j) → σ2 (T + 5) j = σ1 (T + 5) j := fun j hj => by
      rw [b3 j hj, up2_k (by omega), up2_k (by omega), up2_k (by omega), up2_k (by omega)]
    have other : ∀ q, c ≠ r → nN (q 3) ≤ 24 → RV σ1 T c q → RV σ2 T c q := by
      intro q hcr hq ⟨q1, q2, q3, q4, q5⟩
      refine ⟨by rw [z1, if_neg hcr]; exact q1, by rw [z2, if_neg hcr]; exact q2, by rw [z3, if_neg hcr]; exact q3, by rw [z4, if_neg hcr]; exact q4, fun i hi => by rw [z5 _ (by omega)]; exact q5 i hi⟩
    unfold iRow
    by_cases hc1 : c < r
    · rw [if_pos hc1]; exact other _ (by omega) (hs c (by omega)) (a1 c hc1)
    · rw [if_neg hc1]
      by_cases hc2 : c = r
      · rw [if_pos hc2]
        subst hc2
        refine ⟨by rw [z1, if_pos rfl]; rfl, by rw [z2, if_pos rfl]; rfl, by rw [z3, if_pos rfl]; rfl, by rw [z4, if_pos rfl]; rfl, fun i hi => ?_⟩
        have e3 : nN (capQ kd a b m u 3) = m := nN_nI (by omega)
        rw [e3] at hi
        rw [b2 i hi]
        unfold capQ
        rw [if_neg (by omega), if_neg (by omega), if_neg (by omega), if_neg (by omega), show 4 + i - 4 = i by omega]
      · rw [if_neg hc2]; exact other _ hc2 (hs (c - 1) (by omega)) (a2 c (by omega) (by omega))
  · rw [b4 c (by omega) (by omega), up2_k (by omega), up2_k (by omega), up2_k (by omega), up2_k (by omega), a3 c (by omega)]
