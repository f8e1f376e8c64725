/-! ===== rows of captions, in the reference ===== -/
/-- the row g' is g but for the captions and the number of track t -/
def offT (g g' : Nat → Int32) (t : Nat) : Prop := (∀ j, j < 30 → j ≠ 28 + t → g' j = g j) ∧ ∀ c w, c < 16 → w < 28 → gK g' (1 - t) c w = gK g (1 - t) c w
theorem offT.trans {g g1 g2 : Nat → Int32} {t : Nat} (a : offT g g1 t) (b : offT g1 g2 t) : offT g g2 t :=
  ⟨fun j h1 h2 => (b.1 j h1 h2).trans (a.1 j h1 h2), fun c w h1 h2 => (b.2 c w h1 h2).trans (a.2 c w h1 h2)⟩
theorem offT.refl (g : Nat → Int32) (t : Nat) : offT g g t := ⟨fun _ _ _ => rfl, fun _ _ _ _ => rfl⟩
def aT (t c w : Nat) : Nat := 30 + 28 * (16 * t + c) + w
theorem offT.put {g : Nat → Int32} {t c w : Nat} (ht : t < 2) (hc : c < 16) (hw : w < 28) {σ : gSt} (e : σ 1 = g) (x : Int32) : offT g (up2 σ 1 (aT t c w) x 1) t := by
  subst e
  refine ⟨fun j h1 h2 => up2_j (by unfold aT; omega), fun c' w' h1 h2 => ?_⟩
  show up2 σ 1 (aT t c w) x 1 (30 + 28 * (16 * (1 - t) + c') + w') = σ 1 (30 + 28 * (16 * (1 - t) + c') + w')
  exact up2_j (by unfold aT; omega)
theorem gK_put {σ : gSt} {t c w : Nat} (hc : c < 16) (hw : w < 28) (x : Int32) {c' w' : Nat} (hc' : c' < 16) (hw' : w' < 28) : gK (up2 σ 1 (aT t c w) x 1) t c' w' = if c' = c ∧ w' = w then x else gK (σ 1) t c' w' := by
  show up2 σ 1 (aT t c w) x 1 (30 + 28 * (16 * t + c') + w') = _
  rw [up2_ap]
  by_cases h : c' = c ∧ w' = w
  · obtain ⟨rfl, rfl⟩ := h
    rw [if_pos ⟨rfl, rfl⟩, if_pos ⟨rfl, rfl⟩]
  · rw [if_neg h, if_neg (fun hh => h (by unfold aT at hh; omega))]; rfl
theorem m_at' (σ : gSt) (t c w : Nat) : f_X10_at σ (nI t) (nI c) (nI w) = some (nI (aT t c w)) := m_at σ t c w
theorem m_gK' {σ : gSt} {t c w : Nat} (ht : t < 2) (hc : c < 16) (hw : w < 28) : gald σ 1 926 (nI (aT t c w)) = some (gK (σ 1) t c w) := m_gK ht hc hw
theorem m_put {σ : gSt} {t c w : Nat} (ht : t < 2) (hc : c < 16) (hw : w < 28) (x : Int32) : gast σ 1 926 (nI (aT t c w)) x = some (up2 σ 1 (aT t c w) x) := gast_n (by unfold aT; omega) (by omega)
theorem m_owns {σ : gSt} {t c : Nat} (ht : t < 2) (hc : c < 16) : ∃ σ', f_X10_owns σ (nI t) (nI c) = some σ' ∧ (∀ w, w < 28 → σ' 5 w = gK (σ 1) t c w) ∧ ∀ c, c ≠ 5 → σ' c = σ c := by
  have hF := FU_ge
  have loop : ∀ (d i f : Nat) (σ1 : gSt), i + d = 28 → d < f → (∀ c, c ≠ 5 → σ1 c = σ c) → (∀ w, w < i → σ1 5 w = gK (σ 1) t c w) →
      ∃ σ', f_X10_owns_l1 σ (nI t) (nI c) f (nI i) σ1 = some σ' ∧ (∀ w, w < 28 → σ' 5 w = gK (σ 1) t c w) ∧ ∀ c, c ≠ 5 → σ' c = σ c := by
    intro d
    induction d with
    | zero =>
      intro i f σ1 hi hf h1 h2
      obtain ⟨f, rfl⟩ : ∃ m, f = m + 1 := ⟨f - 1, by omega⟩
      obtain rfl : i = 28 := by omega
      refine ⟨σ1, ?_, h2, h1⟩
      rw [f_X10_owns_l1, if_pos (by decide)]
    | succ d ih =>
      intro i f σ1 hi hf h1 h2
      obtain ⟨f, rfl⟩ : ∃ m, f = m + 1 := ⟨f - 1, by omega⟩
      rw [f_X10_owns_l1, if_neg (show ¬ (28 : Int32) ≤ nI i from nI_ge (b := 28) (a := i) (by omega) (by omega)), m_at', k1s, m_gK' ht hc (by omega), k1s, gast_n (by omega) (by omega), k1s, nI_s1]
      refine ih (i + 1) f _ (by omega) (by omega) (fun c hc => by rw [up2_k hc, h1 c hc]) (fun w hw => ?_)
      rw [up2_ap, h1 1 (by omega)]
      by_cases h : w = i
      · rw [if_pos ⟨rfl, h⟩, h]
      · rw [if_neg (fun hh => h hh.2)]; exact h2 w (by omega)
  obtain ⟨σ', e, a1, a2⟩ := loop 28 0 FU σ (by omega) (by omega) (fun _ _ => rfl) (fun w hw => by omega)
  refine ⟨σ', ?_, a1, a2⟩
  unfold f_X10_owns
  rw [show f_X10_owns_l1 σ (nI t) (nI c) FU 0 σ = _ from e, k1s]
/-- a caption's ints go from one place of a track to another -/
theorem m_cpy_l {σ : gSt} {t a b : Nat} {L : Nat → Int32 → gSt → Option gSt} (ht : t < 2) (ha : a < 16) (hb : b < 16) (hab : a ≠ b)
    (L0 : ∀ f s, L (f + 1) (nI 28) s = some s) (L1 : ∀ f i s, i < 28 → L (f + 1) (nI i) s = g_k1 (gald s 1 926 (nI (aT t a i))) (fun v => g_k1 (gast s 1 926 (nI (aT t b i)) v) (fun s' => L f (nI i + 1) s'))) :
    ∀ (d i f : Nat) (σ1 : gSt), i + d = 28 → d < f → (∀ c, c ≠ 1 → σ1 c = σ c) → offT (σ 1) (σ1 1) t → σ1 1 (28 + t) = σ 1 (28 + t) → (∀ c w, c < 16 → w < 28 → gK (σ1 1) t c w = if c = b ∧ w < i then gK (σ 1) t a w else gK (σ 1) t c w) →
      ∃ σ', L f (nI i) σ1 = some σ' ∧ (∀ c, c ≠ 1 → σ' c = σ c) ∧ offT (σ 1) (σ' 1) t ∧ σ' 1 (28 + t) = σ 1 (28 + t) ∧ ∀ c w, c < 16 → w < 28 → gK (σ' 1) t c w = if c = b then gK (σ 1) t a w else gK (σ 1) t c w := by
  intro d
  induction d with
  | zero =>
    intro i f σ1 hi hf h1 h2 h3 h4
    obtain ⟨f, rfl⟩ : ∃ m, f = m + 1 := ⟨f - 1, by omega⟩
    obtain rfl : i = 28 := by omega
    refine ⟨σ1, L0 f σ1, h1, h2, h3, fun c w hc hw => ?_⟩
    rw [h4 c w hc hw]
    by_cases h : c = b
    · rw [if_pos ⟨h, hw⟩, if_pos h]
    · rw [if_neg (fun hh => h hh.1), if_neg h]
  | succ d ih =>
    intro i f σ1 hi hf h1 h2 h3 h4
    obtain ⟨f, rfl⟩ : ∃ m, f = m + 1 := ⟨f - 1, by omega⟩
    rw [L1 f i σ1 (by omega), m_gK' ht ha (by omega), k1s, m_put ht hb (by omega), k1s, nI_s1, h4 a i ha (by omega), if_neg (fun hh => hab hh.1)]
    refine ih (i + 1) f _ (by omega) (by omega) (fun c hc => by rw [up2_k hc, h1 c hc]) (h2.trans (offT.put ht hb (by omega) rfl _)) (by rw [up2_j (by unfold aT; omega)]; exact h3) (fun c w hc hw => ?_)
    rw [gK_put hb (by omega) _ hc hw, h4 c w hc hw]
    by_cases h : c = b
    · subst h
      by_cases hwi : w = i
      · subst hwi; rw [if_pos ⟨rfl, rfl⟩, if_pos ⟨rfl, by omega⟩]
      · rw [if_neg (fun hh => hwi hh.2)]
        by_cases hlt : w < i
        · rw [if_pos ⟨rfl, hlt⟩, if_pos ⟨rfl, by omega⟩]
        · rw [if_neg (fun hh => hlt hh.2), if_neg (fun hh => hlt (by omega))]
    · rw [if_neg (fun hh => h hh.1), if_neg (fun hh => h hh.1), if_neg (fun hh => h hh.1)]
theorem m_takes {σ : gSt} {t n c0 : Nat} (ht : t < 2) (h5 : σ 1 (28 + t) = nI n) (hn : n ≤ 16) (hc : c0 < n) : ∃ σ', f_X10_takes σ (nI t) (nI c0) = some σ' ∧ (∀ c, c ≠ 1 → σ' c = σ c) ∧ offT (σ 1) (σ' 1) t ∧ σ' 1 (28 + t) = nI (n - 1) ∧ ∀ c w, c < n - 1 → w < 28 → gK (σ' 1) t c w = dRow (gK (σ 1) t) c0 c w := by
  have hF := FU_ge
  let σ2 := up2 σ 1 (28 + t) (nI (n - 1))
  have o2 : offT (σ 1) (σ2 1) t := by
    refine ⟨fun j h1 h2 => up2_j (by omega), fun c w h1 h2 => ?_⟩
    show up2 σ 1 (28 + t) (nI (n - 1)) 1 (30 + 28 * (16 * (1 - t) + c) + w) = σ 1 (30 + 28 * (16 * (1 - t) + c) + w)
    exact up2_j (by omega)
  have k2 : ∀ c w, gK (σ2 1) t c w = gK (σ 1) t c w := fun c w => by
    show up2 σ 1 (28 + t) (nI (n - 1)) 1 (30 + 28 * (16 * t + c) + w) = σ 1 (30 + 28 * (16 * t + c) + w)
    exact up2_j (by omega)
  have loop : ∀ (d i f : Nat) (σ1 : gSt), i + d = n - 1 → d < f → c0 ≤ i → (∀ c, c ≠ 1 → σ1 c = σ c) → offT (σ 1) (σ1 1) t → σ1 1 (28 + t) = nI (n - 1) → (∀ c w, c < i → w < 28 → gK (σ1 1) t c w = dRow (gK (σ 1) t) c0 c w) → (∀ c w, i < c → c < n → w < 28 → gK (σ1 1) t c w = gK (σ 1) t c w) →
      ∃ σ', f_X10_takes_l1 (nI t) σ2 f (nI i) σ1 = some σ' ∧ (∀ c, c ≠ 1 → σ' c = σ c) ∧ offT (σ 1) (σ' 1) t ∧ σ' 1 (28 + t) = nI (n - 1) ∧ ∀ c w, c < n - 1 → w < 28 → gK (σ' 1) t c w = dRow (gK (σ 1) t) c0 c w := by
    intro d
    induction d with
    | zero =>
      intro i f σ1 hi hf hci h1 h2 h3 h4 h6
      obtain ⟨f, rfl⟩ : ∃ m, f = m + 1 := ⟨f - 1, by omega⟩
      refine ⟨σ1, ?_, h1, h2, h3, fun c w hc hw => h4 c w (by omega) hw⟩
      rw [f_X10_takes_l1, m_cnt ht, k1s, h3, if_pos (nI_le (by omega) (by omega))]
    | succ d ih =>
      intro i f σ1 hi hf hci h1 h2 h3 h4 h6
      obtain ⟨f, rfl⟩ : ∃ m, f = m + 1 := ⟨f - 1, by omega⟩
      obtain ⟨σ3, e, g1, g2, g3, g4⟩ := m_cpy_l (σ := σ1) (t := t) (a := i + 1) (b := i) (L := f_X10_takes_l2 (nI t) (nI i) σ1) ht (by omega) (by omega) (by omega) (fun f s => by rw [f_X10_takes_l2, if_pos (by decide)]) (fun f j s hj => by
        rw [f_X10_takes_l2, if_neg (show ¬ (28 : Int32) ≤ nI j from nI_ge (b := 28) (a := j) (by omega) (by omega)), m_at', k1s, nI_s1, m_at', k1s]) 28 0 FU σ1 (by omega) (by omega) (fun _ _ => rfl) (offT.refl _ _) rfl (fun c w _ _ => by rw [if_neg (by omega)])
      rw [f_X10_takes_l1, m_cnt ht, k1s, h3, if_neg (nI_ge (by omega) (by omega)), show f_X10_takes_l2 (nI t) (nI i) σ1 FU 0 σ1 = _ from e, k1s, nI_s1]
      refine ih (i + 1) f σ3 (by omega) (by omega) (by omega) (fun c hc => by rw [g1 c hc, h1 c hc]) (h2.trans g2) (g3.trans h3) (fun c w hc hw => ?_) (fun c w hc1 hc2 hw => ?_)
      · rw [g4 c w (by omega) hw]
        by_cases hci' : c = i
        · subst hci'
          rw [if_pos rfl, h6 (c + 1) w (by omega) (by omega) hw]
          unfold dRow
          rw [if_neg (by omega)]
        · rw [if_neg hci']; exact h4 c w (by omega) hw
      · rw [g4 c w (by omega) hw, if_neg (by omega)]; exact h6 c w (by omega) hc2 hw
  obtain ⟨σ', e, a1, a2, a3, a4⟩ := loop (n - 1 - c0) c0 FU σ2 (by omega) (by omega) (Nat.le_refl _) (fun c hc => up2_k hc) o2 (up2_s ..) (fun c w hc hw => by
    rw [k2]; unfold dRow; rw [if_pos hc]) (fun c w h1 h2 hw => k2 c w)
  refine ⟨σ', ?_, a1, a2, a3, a4⟩
  unfold f_X10_takes
  rw [m_cnt ht, k1s, h5, nI_sub1 (by omega), show (28 : Int32) = nI 28 from rfl, nI_add, gast_n (by omega) (by omega), k1s, e, k1s]
theorem m_puts {σ : gSt} {t n r : Nat} (ht : t < 2) (h5 : σ 1 (28 + t) = nI n) (hn : n < 16) (P : place (gK (σ 1) t) n r (σ 5 0)) : ∃ σ', f_X10_puts σ (nI t) = some (nI r, σ') ∧ (∀ c, c ≠ 1 → σ' c = σ c) ∧ offT (σ 1) (σ' 1) t ∧ σ' 1 (28 + t) = nI (n + 1) ∧ ∀ c w, c < n + 1 → w < 28 → gK (σ' 1) t c w = iRow (gK (σ 1) t) r (σ 5) c w := by
  have hF := FU_ge
  obtain ⟨hr, p1, p2⟩ := P
  have loop : ∀ (d i f : Nat) (σ1 : gSt), r + d = i → d < f → i ≤ n → (∀ c, c ≠ 1 → σ1 c = σ c) → offT (σ 1) (σ1 1) t → σ1 1 (28 + t) = nI n → (∀ c w, c < i → w < 28 → gK (σ1 1) t c w = gK (σ 1) t c w) → (∀ c w, i < c → c ≤ n → w < 28 → gK (σ1 1) t c w = gK (σ 1) t (c - 1) w) →
      ∃ σ', f_X10_puts_l1 σ (nI t) f (nI i) σ1 = some (nI r, σ') ∧ (∀ c, c ≠ 1 → σ' c = σ c) ∧ offT (σ 1) (σ' 1) t ∧ σ' 1 (28 + t) = nI n ∧ (∀ c w, c < r → w < 28 → gK (σ' 1) t c w = gK (σ 1) t c w) ∧ (∀ c w, r < c → c ≤ n → w < 28 → gK (σ' 1) t c w = gK (σ 1) t (c - 1) w) := by
    intro d
    induction d with
    | zero =>
      intro i f σ1 hi hf hin h1 h2 h3 h4 h6
      obtain ⟨f, rfl⟩ : ∃ m, f = m + 1 := ⟨f - 1, by omega⟩
      obtain rfl : r = i := by omega
      refine ⟨σ1, ?_, h1, h2, h3, h4, h6⟩
      rw [f_X10_puts_l1]
      by_cases hz : r = 0
      · subst hz; rw [if_pos (by decide)]
      · rw [if_neg (show ¬ nI r ≤ 0 from nI_ge (a := 0) (by omega) (by omega)), nI_sub1 (by omega), m_first ht (by omega), k1s, h4 (r - 1) 0 (by omega) (by omega), h1 5 (by omega), if_pos (by have := p1 (r - 1) (by omega); grind)]
    | succ d ih =>
      intro i f σ1 hi hf hin h1 h2 h3 h4 h6
      obtain ⟨f, rfl⟩ : ∃ m, f = m + 1 := ⟨f - 1, by omega⟩
      obtain ⟨j, rfl⟩ : ∃ j, i = j + 1 := ⟨i - 1, by omega⟩
      obtain ⟨σ3, e, g1, g2, g3, g4⟩ := m_cpy_l (σ := σ1) (t := t) (a := j) (b := j + 1) (L := f_X10_puts_l2 (nI t) (nI (j + 1)) σ1) ht (by omega) (by omega) (by omega) (fun f s => by rw [f_X10_puts_l2, if_pos (by decide)]) (fun f w s hw => by
        rw [f_X10_puts_l2, if_neg (show ¬ (28 : Int32) ≤ nI w from nI_ge (b := 28) (a := w) (by omega) (by omega)), m_at', k1s, nI_sub1 (by omega), m_at', k1s]; rfl) 28 0 FU σ1 (by omega) (by omega) (fun _ _ => rfl) (offT.refl _ _) rfl (fun c w _ _ => by rw [if_neg (by omega)])
      rw [f_X10_puts_l1, if_neg (show ¬ nI (j + 1) ≤ 0 from nI_ge (a := 0) (by omega) (by omega)), nI_sub1 (by omega), show j + 1 - 1 = j from rfl, m_first ht (by omega), k1s, h4 j 0 (by omega) (by omega), h1 5 (by omega), if_neg (by have := p2 j (by omega) (by omega); grind), show f_X10_puts_l2 (nI t) (nI (j + 1)) σ1 FU 0 σ1 = _ from e, k1s, show nI (j + 1) + -1 = nI j from by rw [← nI_s1]; grind]
      refine ih j f σ3 (by omega) (by omega) (by omega) (fun c hc => by rw [g1 c hc, h1 c hc]) (h2.trans g2) (g3.trans h3) (fun c w hc hw => ?_) (fun c w hc1 hc2 hw => ?_)
      · rw [g4 c w (by omega) hw, if_neg (by omega)]; exact h4 c w (by omega) hw
      · rw [g4 c w (by omega) hw]
        by_cases hcj : c = j + 1
        · subst hcj; rw [if_pos rfl]; exact h4 j w (by omega) hw
        · rw [if_neg hcj]; exact h6 c w (by omega) hc2 hw
  obtain ⟨σ1, e1, a1, a2, a3, a4, a5⟩ := loop (n - r) n FU σ (by omega) (by omega) (Nat.le_refl _) (fun _ _ => rfl) (offT.refl _ _) h5 (fun _ _ _ _ => rfl) (fun c w h1 h2 => by omega)
  have loop3 : ∀ (d i f : Nat) (σ2 : gSt), i + d = 28 → d < f → (∀ c, c ≠ 1 → σ2 c = σ c) → offT (σ 1) (σ2 1) t → σ2 1 (28 + t) = nI n → (∀ c w, c < 16 → w < 28 → gK (σ2 1) t c w = if c = r ∧ w < i then σ 5 w else gK (σ1 1) t c w) →
      ∃ σ', f_X10_puts_l3 (nI t) (nI r) σ1 f (nI i) σ2 = some σ' ∧ (∀ c, c ≠ 1 → σ' c = σ c) ∧ offT (σ 1) (σ' 1) t ∧ σ' 1 (28 + t) = nI n ∧ ∀ c w, c < 16 → w < 28 → gK (σ' 1) t c w = if c = r then σ 5 w else gK (σ1 1) t c w := by
    intro d
    induction d with
    | zero =>
      intro i f σ2 hi hf h1 h2 h3 h4
      obtain ⟨f, rfl⟩ : ∃ m, f = m + 1 := ⟨f - 1, by omega⟩
      obtain rfl : i = 28 := by omega
      refine ⟨σ2, ?_, h1, h2, h3, fun c w hc hw => ?_⟩
      · rw [f_X10_puts_l3, if_pos (by decide)]
      · rw [h4 c w hc hw]
        by_cases h : c = r
        · rw [if_pos ⟨h, hw⟩, if_pos h]
        · rw [if_neg (fun hh => h hh.1), if_neg h]
    | succ d ih =>
      intro i f σ2 hi hf h1 h2 h3 h4
      obtain ⟨f, rfl⟩ : ∃ m, f = m + 1 := ⟨f - 1, by omega⟩
      rw [f_X10_puts_l3, if_neg (show ¬ (28 : Int32) ≤ nI i from nI_ge (b := 28) (a := i) (by omega) (by omega)), m_at', k1s, gald_n (by omega) (by omega), k1s, m_put ht (by omega) (by omega), k1s, nI_s1, h1 5 (by omega)]
      refine ih (i + 1) f _ (by omega) (by omega) (fun c hc => by rw [up2_k hc, h1 c hc]) (h2.trans (offT.put ht (by omega) (by omega) rfl _)) (by rw [up2_j (by unfold aT; omega)]; exact h3) (fun c w hc hw => ?_)
      rw [gK_put (by omega) (by omega) _ hc hw, h4 c w hc hw]
      by_cases h : c = r
      · subst h
        by_cases hwi : w = i
        · subst hwi; rw [if_pos ⟨rfl, rfl⟩, if_pos ⟨rfl, by omega⟩]
        · rw [if_neg (fun hh => hwi hh.2)]
          by_cases hlt : w < i
          · rw [if_pos ⟨rfl, hlt⟩, if_pos ⟨rfl, by omega⟩]
          · rw [if_neg (fun hh => hlt hh.2), if_neg (fun hh => hlt (by omega))]
      · rw [if_neg (fun hh => h hh.1), if_neg (fun hh => h hh.1), if_neg (fun hh => h hh.1)]
  obtain ⟨σ3, e3, b1, b2, b3, b4⟩ := loop3 28 0 FU σ1 (by omega) (by omega) a1 a2 a3 (fun c w _ _ => by rw [if_neg (by omega)])
  refine ⟨up2 σ3 1 (28 + t) (nI (n + 1)), ?_, fun c hc => by rw [up2_k hc, b1 c hc], ?_, up2_s .., fun c w hc hw => ?_⟩
  · unfold f_X10_puts
    rw [m_cnt ht, k1s, h5, e1, k2s, show f_X10_puts_l3 (nI t) (nI r) σ1 FU 0 σ1 = _ from e3, k1s, m_cnt ht, k1s, b3, show (28 : Int32) = nI 28 from rfl, nI_add, nI_s1, gast_n (by omega) (by omega), k1s]
  · refine ⟨fun j h1 h2 => by rw [up2_j (by omega)]; exact b2.1 j h1 h2, fun c w h1 h2 => ?_⟩
    show up2 σ3 1 (28 + t) (nI (n + 1)) 1 (30 + 28 * (16 * (1 - t) + c) + w) = _
    rw [up2_j (by omega)]; exact b2.2 c w h1 h2
  · show up2 σ3 1 (28 + t) (nI (n + 1)) 1 (30 + 28 * (16 * t + c) + w) = _
    rw [up2_j (by omega)]
    have := b4 c w (by omega) hw
    rw [show σ3 1 (30 + 28 * (16 * t + c) + w) = gK (σ3 1) t c w from rfl, this]
    unfold iRow
    by_cases h1 : c = r
    · rw [if_pos h1, if_neg (by omega), if_pos h1]
    · rw [if_neg h1]
      by_cases h2 : c < r
      · rw [if_pos h2]; exact a4 c w h2 hw
      · rw [if_neg h2, if_neg h1]; exact a5 c w (by omega) (by omega) hw
