/-! ===== texts ===== -/
theorem nI_s1 (n : Nat) : nI n + 1 = nI (n + 1) := by rw [nI_succ]
theorem c_isWord (σ : gSt) (x : Int32) : f_X9_isWordSign σ x = some (b01 (isW x)) := by
  unfold f_X9_isWordSign
  simp only [k1i, k1s, gz0, gz1]
  by_cases h : isW x
  · rw [b01_t h]; unfold isW at h; grind
  · rw [b01_f h]; unfold isW at h; grind
theorem m_in (σ : gSt) (x a b : Int32) : f_X10_in σ x a b = some (b01 (a ≤ x ∧ x ≤ b)) := by
  unfold f_X10_in
  simp only [k1i, k1s, gz0, gz1]
  by_cases h : a ≤ x ∧ x ≤ b
  · rw [b01_t h]; grind
  · rw [b01_f h]; grind
theorem m_isLetter (σ : gSt) (x : Int32) : f_X10_isLetter σ x = some (b01 (isW x)) := by
  unfold f_X10_isLetter
  rw [m_in, k1s]
  by_cases h0 : (97 : Int32) ≤ x ∧ x ≤ 122
  · rw [b01_t h0, b01_t (P := isW x) (Or.inr (Or.inr h0)), if_neg (by decide)]; rfl
  · rw [b01_f h0, if_pos rfl]
    simp only [k1i, k1s, gz0, gz1]
    by_cases h : isW x
    · rw [b01_t h]; unfold isW at h; grind
    · rw [b01_f h]; unfold isW at h; grind
/-- a text's cell k holds m letters u -/
def TX (σ : gSt) (k m : Nat) (u : Nat → Int32) : Prop := σ k 1 = nI m ∧ m ≤ 60 ∧ ∀ i, i < m → σ (k + 1) i = u i
theorem TX.congr {σ : gSt} {k m : Nat} {u u' : Nat → Int32} (T : TX σ k m u) (h : ∀ i, i < m → u i = u' i) : TX σ k m u' :=
  ⟨T.1, T.2.1, fun i hi => (T.2.2 i hi).trans (h i hi)⟩
theorem TX.frame {σ σ' : gSt} {k m : Nat} {u : Nat → Int32} (T : TX σ k m u) (h : σ' k = σ k) (h' : σ' (k + 1) = σ (k + 1)) : TX σ' k m u := by
  refine ⟨?_, T.2.1, ?_⟩
  · rw [h]; exact T.1
  · intro i hi; rw [h']; exact T.2.2 i hi
theorem FT.frame {σ σ' : gSt} {T n : Nat} {kp : Nat → Nat → Int32} (F : FT σ T n kp) (h : ∀ j, j ≤ 5 → σ' (T + j) = σ (T + j)) : FT σ' T n kp := by
  refine ⟨?_, F.2.1, ?_⟩
  · have := h 0 (by omega); rw [Nat.add_zero] at this; rw [this]; exact F.1
  · intro c hc
    rw [h 1 (by omega), h 2 (by omega), h 3 (by omega), h 4 (by omega), h 5 (by omega)]
    exact F.2.2 c hc
theorem c_tSign {σ : gSt} {k m i : Nat} {u : Nat → Int32} (T : TX σ k m u) (hi : i < m) : f_X7_signAt σ k (nI i) = some (u i) := by
  obtain ⟨h1, h2, h3⟩ := T
  unfold f_X7_signAt
  rw [if_neg (nI_pos (by omega)), h1, if_neg (nI_ge hi (by omega)), if_neg (show ¬ (60 : Int32) ≤ nI i from nI_ge (b := 60) (a := i) (by omega) (by omega)), gald_n (by omega) (by omega), k1s, k1s, h3 i hi]
theorem c_tSign_out {σ : gSt} {k m : Nat} {x : Int32} {u : Nat → Int32} (T : TX σ k m u) (hx : x < 0 ∨ nI m ≤ x) : f_X7_signAt σ k x = some (-1) := by
  obtain ⟨h1, h2, h3⟩ := T
  unfold f_X7_signAt
  by_cases h : x < 0
  · rw [if_pos h]; rfl
  · rw [if_neg h, h1, if_pos (hx.resolve_left h)]; rfl
theorem c_append {σ : gSt} {k m : Nat} {u : Nat → Int32} (T : TX σ k m u) (hm : m < 60) (v : Int32) :
    ∃ σ', f_X7_append σ k v = some (1, σ') ∧ TX σ' k (m + 1) (fun i => if i = m then v else u i) ∧ ∀ c, c ≠ k → c ≠ k + 1 → σ' c = σ c := by
  obtain ⟨h1, h2, h3⟩ := T
  refine ⟨up2 (up2 σ (k + 1) m v) k 1 (nI m + 1), ?_, ⟨?_, by omega, ?_⟩, ?_⟩
  · unfold f_X7_append
    rw [h1, if_neg (nI_pos (by omega)), if_pos (show nI m < 60 from nI_lt (b := 60) hm (by omega)), gast_n hm (by omega), k1s, gset_n, k1s, up2_k (by omega), h1]
  · rw [up2_s, nI_s1]
  · intro i hi
    rw [up2_k (by omega), up2_ap]
    by_cases h : i = m
    · simp [h]
    · simp only [h, and_false, if_false]; exact h3 i (by omega)
  · intro c hc hc'
    rw [up2_k hc, up2_k hc']
theorem c_append_full {σ : gSt} {k : Nat} {u : Nat → Int32} (T : TX σ k 60 u) (v : Int32) : f_X7_append σ k v = some (0, σ) := by
  unfold f_X7_append
  rw [T.1]; rfl
theorem c_clear {σ : gSt} (k : Nat) : ∃ σ', f_X7_clear σ k = some σ' ∧ (∀ u, TX σ' k 0 u) ∧ ∀ c, c ≠ k → σ' c = σ c := by
  refine ⟨up2 σ k 1 0, rfl, fun u => ⟨up2_s .., by omega, fun i hi => by omega⟩, fun c hc => up2_k hc⟩
theorem c_part_l {k a0 q m2 : Nat} {a2 : Int32} {u2 : Nat → Int32} (hq : q ≤ m2) (ha2 : a2 = nI q) (hd1 : a0 ≠ k) (hd2 : a0 ≠ k + 1) (hd3 : a0 + 1 ≠ k) (hne : ∀ i, i < q → u2 i ≠ -1) (σ0 : gSt) :
    ∀ (d p m n : Nat) (u : Nat → Int32) (σ : gSt), p + d = q → d < n → m + d ≤ 60 → TX σ a0 m2 u2 → TX σ k m u →
    ∃ σ', f_X7_appendPart_l1 σ0 k a0 a2 n (nI p) σ = some σ' ∧ TX σ' k (m + d) (fun i => if i < m then u i else u2 (p + (i - m))) ∧ ∀ c, c ≠ k → c ≠ k + 1 → σ' c = σ c := by
  intro d
  induction d with
  | zero =>
    intro p m n u σ hp hn hm T2 T
    obtain ⟨n, rfl⟩ : ∃ m, n = m + 1 := ⟨n - 1, by omega⟩
    have hm2 := T2.2.1
    refine ⟨σ, ?_, T.congr (fun i hi => (if_pos hi).symm), fun _ _ _ => rfl⟩
    rw [f_X7_appendPart_l1, ha2, if_pos (nI_le (by omega) (by omega))]
  | succ d ih =>
    intro p m n u σ hp hn hm T2 T
    obtain ⟨n, rfl⟩ : ∃ m, n = m + 1 := ⟨n - 1, by omega⟩
    have hm2 := T2.2.1
    obtain ⟨σ1, e1, T1, fr1⟩ := c_append T (by omega) (u2 p)
    obtain ⟨σ', e2, T', fr2⟩ := ih (p + 1) (m + 1) n _ σ1 (by omega) (by omega) (by omega) (T2.frame (fr1 _ hd1 hd2) (fr1 _ hd3 (by omega))) T1
    refine ⟨σ', ?_, ?_, fun c h1 h2 => (fr2 c h1 h2).trans (fr1 c h1 h2)⟩
    · rw [f_X7_appendPart_l1, ha2, if_neg (nI_ge (by omega) (by omega)), c_tSign T2 (by omega), k1s, if_neg (hne p (by omega)), e1, k2s, k1s, nI_s1, ← ha2]
      exact e2
    · rw [show m + (d + 1) = m + 1 + d by omega]
      refine T'.congr ?_
      intro i hi
      by_cases h : i < m
      · simp [h, show i < m + 1 by omega, show i ≠ m by omega]
      · by_cases h2 : i = m
        · subst h2; simp
        · simp [h, show ¬ i < m + 1 by omega, show p + 1 + (i - (m + 1)) = p + (i - m) by omega]
theorem c_appendPart {σ : gSt} {k a0 p q m m2 : Nat} {u u2 : Nat → Int32} (T2 : TX σ a0 m2 u2) (T : TX σ k m u) (hpq : p ≤ q) (hq : q ≤ m2) (hm : m + (q - p) ≤ 60) (hd1 : a0 ≠ k) (hd2 : a0 ≠ k + 1) (hd3 : a0 + 1 ≠ k) (hne : ∀ i, i < q → u2 i ≠ -1) :
    ∃ σ', f_X7_appendPart σ k a0 (nI p) (nI q) = some σ' ∧ TX σ' k (m + (q - p)) (fun i => if i < m then u i else u2 (p + (i - m))) ∧ ∀ c, c ≠ k → c ≠ k + 1 → σ' c = σ c := by
  have hm2 := T2.2.1
  have hF := FU_ge
  obtain ⟨σ', e, T', fr⟩ := c_part_l (a2 := nI q) hq rfl hd1 hd2 hd3 hne σ (q - p) p m FU u σ (by omega) (by omega) hm T2 T
  refine ⟨σ', ?_, T', fr⟩
  unfold f_X7_appendPart
  rw [e, k1s]
theorem c_textTo_l {k T n c q : Nat} {a3 : Int32} {kp : Nat → Nat → Int32} (hc : c < n) (hs : kp c 3 = nI (nN (kp c 3))) (h24 : nN (kp c 3) ≤ 24) (hq : q ≤ nN (kp c 3)) (ha3 : a3 = nI q) (hd : ∀ j, j ≤ 5 → T + j ≠ k ∧ T + j ≠ k + 1) (hne : ∀ i, i < q → kp c (4 + i) ≠ -1) (σ0 : gSt) :
    ∀ (d p m f : Nat) (u : Nat → Int32) (σ : gSt), p + d = q → d < f → m + d ≤ 60 → FT σ T n kp → TX σ k m u →
    ∃ σ', f_X8_appendTextTo_l1 σ0 T k (nI c) a3 f (nI p) σ = some σ' ∧ TX σ' k (m + d) (fun i => if i < m then u i else kp c (4 + (p + (i - m)))) ∧ ∀ c, c ≠ k → c ≠ k + 1 → σ' c = σ c := by
  intro d
  induction d with
  | zero =>
    intro p m f u σ hp hn hm T2 T
    obtain ⟨f, rfl⟩ : ∃ m, f = m + 1 := ⟨f - 1, by omega⟩
    refine ⟨σ, ?_, T.congr (fun i hi => (if_pos hi).symm), fun _ _ _ => rfl⟩
    rw [f_X8_appendTextTo_l1, ha3, if_pos (nI_le (by omega) (by omega))]
  | succ d ih =>
    intro p m f u σ hp hn hm T2 T
    obtain ⟨f, rfl⟩ : ∃ m, f = m + 1 := ⟨f - 1, by omega⟩
    obtain ⟨σ1, e1, T1, fr1⟩ := c_append T (by omega) (kp c (4 + p))
    obtain ⟨σ', e2, T', fr2⟩ := ih (p + 1) (m + 1) f _ σ1 (by omega) (by omega) (by omega) (T2.frame (fun j hj => fr1 _ (hd j hj).1 (hd j hj).2)) T1
    refine ⟨σ', ?_, ?_, fun c h1 h2 => (fr2 c h1 h2).trans (fr1 c h1 h2)⟩
    · rw [f_X8_appendTextTo_l1, ha3, if_neg (nI_ge (by omega) (by omega)), c_signAt T2 hc hs h24 (by omega), k1s, if_neg (hne p (by omega)), e1, k2s, k1s, nI_s1, ← ha3]
      exact e2
    · rw [show m + (d + 1) = m + 1 + d by omega]
      refine T'.congr ?_
      intro i hi
      by_cases h : i < m
      · simp [h, show i < m + 1 by omega, show i ≠ m by omega]
      · by_cases h2 : i = m
        · subst h2; simp
        · simp [h, show ¬ i < m + 1 by omega, show p + 1 + (i - (m + 1)) = p + (i - m) by omega]
theorem c_textTo {σ : gSt} {k T n c p q m : Nat} {kp : Nat → Nat → Int32} {u : Nat → Int32} (F : FT σ T n kp) (X : TX σ k m u) (hc : c < n) (hs : kp c 3 = nI (nN (kp c 3))) (h24 : nN (kp c 3) ≤ 24) (hpq : p ≤ q) (hq : q ≤ nN (kp c 3)) (hm : m + (q - p) ≤ 60) (hd : ∀ j, j ≤ 5 → T + j ≠ k ∧ T + j ≠ k + 1) (hne : ∀ i, i < q → kp c (4 + i) ≠ -1) :
    ∃ σ', f_X8_appendTextTo σ T k (nI c) (nI p) (nI q) = some σ' ∧ TX σ' k (m + (q - p)) (fun i => if i < m then u i else kp c (4 + (p + (i - m)))) ∧ ∀ c, c ≠ k → c ≠ k + 1 → σ' c = σ c := by
  have hF := FU_ge
  obtain ⟨σ', e, T', fr⟩ := c_textTo_l (a3 := nI q) hc hs h24 hq rfl hd hne σ (q - p) p m FU u σ (by omega) (by omega) hm F X
  refine ⟨σ', ?_, T', fr⟩
  unfold f_X8_appendTextTo
  rw [e, k1s]
theorem nB_s (u : Nat → Int32) (m : Nat) : nB u (m + 1) = nB u m + if u m = 124 then 1 else 0 := rfl
theorem nB_le (u : Nat → Int32) (m : Nat) : nB u m ≤ m := by
  induction m with
  | zero => exact Nat.le_refl 0
  | succ m ih => rw [nB_s]; split <;> omega
theorem nB_congr {u v : Nat → Int32} {m : Nat} (h : ∀ i, i < m → u i = v i) : nB u m = nB v m := by
  induction m with
  | zero => rfl
  | succ m ih => rw [nB_s, nB_s, ih (fun i hi => h i (by omega)), h m (by omega)]
theorem txtOK_congr {u v : Nat → Int32} {m : Nat} (h : ∀ i, i < m → u i = v i) (H : txtOK m u) : txtOK m v := by
  obtain ⟨h1, h2, h3, h4, h5, h6⟩ := H
  refine ⟨h1, h2, fun i hi => h i hi ▸ h3 i hi, ?_, ?_, ?_⟩
  · rw [← nB_congr h]; exact h4
  · rw [← h 0 (by omega)]; exact h5
  · rw [← h (m - 1) (by omega)]; exact h6
theorem c_isValid_l {σ : gSt} {k m : Nat} {u : Nat → Int32} (T : TX σ k m u) (hm1 : 1 ≤ m) (hm2 : m ≤ 24) :
    ∀ (d i n : Nat), i + d = m → d < n → (∀ j, j < i → isW (u j)) → f_X7_isValid_l1 σ k n (nI i) (nI (nB u i)) = some (b01 (txtOK m u)) := by
  have h1 := T.1
  intro d
  induction d with
  | zero =>
    intro i n hi hn hw
    obtain ⟨n, rfl⟩ : ∃ m, n = m + 1 := ⟨n - 1, by omega⟩
    obtain rfl : i = m := by omega
    have hb := nB_le u i
    rw [f_X7_isValid_l1, h1, if_pos (nI_le (Nat.le_refl _) (by omega)), show (0 : Int32) = nI 0 from rfl, c_tSign T (by omega), nI_sub1 (by omega), c_tSign T (by omega), show nI 0 = (0 : Int32) from rfl]
    simp only [k1i, k1s, gz0, gz1]
    by_cases hB : 1 < nB u i
    · rw [if_pos (show (1 : Int32) < nI (nB u i) from nI_lt (a := 1) hB (by omega)), b01_f (fun h => by have := h.2.2.2.1; omega)]
    · rw [if_neg (show ¬ (1 : Int32) < nI (nB u i) from nI_nlt (a := 1) (by omega) (by omega))]
      by_cases h0 : u 0 = 124
      · rw [if_pos h0, b01_f (fun h => h.2.2.2.2.1 h0)]
      · rw [if_neg h0]
        by_cases hl : u (i - 1) = 124
        · rw [if_pos hl, b01_f (fun h => h.2.2.2.2.2 hl)]
        · rw [if_neg hl, b01_t ⟨hm1, hm2, hw, by omega, h0, hl⟩]
  | succ d ih =>
    intro i n hi hn hw
    obtain ⟨n, rfl⟩ : ∃ m, n = m + 1 := ⟨n - 1, by omega⟩
    have hb := nB_le u i
    rw [f_X7_isValid_l1, h1, if_neg (nI_ge (by omega) (by omega)), c_tSign T (by omega), k1s, c_isWord, k1s]
    by_cases hW : isW (u i)
    · rw [b01_t hW, if_neg (by decide), nI_s1 i]
      have := ih (i + 1) n (by omega) (by omega) (fun j hj => by
        by_cases h : j = i
        · subst h; exact hW
        · exact hw j (by omega))
      rw [nB_s] at this
      by_cases hx : u i = 124
      · rw [if_pos hx] at this ⊢
        rw [k1s, nI_s1]; exact this
      · rw [if_neg hx] at this ⊢
        rw [k1s]; exact this
    · rw [b01_f hW, if_pos rfl, b01_f (fun h => hW (h.2.2.1 i (by omega)))]
theorem c_isValid {σ : gSt} {k m : Nat} {u : Nat → Int32} (T : TX σ k m u) : f_X7_isValid σ k = some (b01 (txtOK m u)) := by
  have h1 := T.1
  have h2 := T.2.1
  have hF := FU_ge
  unfold f_X7_isValid
  rw [h1]
  by_cases hm : m < 1
  · rw [if_pos (show nI m < 1 from nI_lt (b := 1) hm (by omega)), b01_f (fun h => by have := h.1; omega)]
  · rw [if_neg (show ¬ nI m < 1 from nI_nlt (a := m) (b := 1) (by omega) (by omega))]
    by_cases hm2 : m ≤ 24
    · rw [if_pos (show nI m ≤ 24 from nI_le (b := 24) hm2 (by omega))]
      exact c_isValid_l T (by omega) hm2 m 0 FU (by omega) (by omega) (fun j hj => by omega)
    · rw [if_neg (show ¬ nI m ≤ 24 from nI_ge (a := 24) (by omega) (by omega)), b01_f (fun h => by have := h.2.1; omega)]
/-! the reference's texts -/
theorem m_bars_l {σ : gSt} {a0 p m : Nat} (hp : p + m ≤ gml a0) (hl : gml a0 ≤ 10000) : ∀ (d i n : Nat), i + d = m → d < n → f_X10_bars_l1 σ a0 (nI p) (nI m) n (nI i) (nI (nB (fun i => σ a0 (p + i)) i)) = some (nI (nB (fun i => σ a0 (p + i)) m)) := by
  intro d
  induction d with
  | zero =>
    intro i n hi hn
    obtain ⟨n, rfl⟩ : ∃ m, n = m + 1 := ⟨n - 1, by omega⟩
    rw [f_X10_bars_l1, if_pos (nI_le (by omega) (by omega)), show i = m by omega]
  | succ d ih =>
    intro i n hi hn
    obtain ⟨n, rfl⟩ : ∃ m, n = m + 1 := ⟨n - 1, by omega⟩
    have := ih (i + 1) n (by omega) (by omega)
    rw [nB_s] at this
    rw [f_X10_bars_l1, if_neg (nI_ge (by omega) (by omega)), nI_add, gald_n (by omega) (by omega), k1s, nI_s1]
    by_cases hx : σ a0 (p + i) = 124
    · rw [if_pos hx] at this ⊢
      rw [k1s, nI_s1]; exact this
    · rw [if_neg hx] at this ⊢
      rw [k1s, Int32.add_zero]; exact this
theorem m_bars {σ : gSt} {a0 p m : Nat} (hp : p + m ≤ gml a0) (hl : gml a0 ≤ 10000) : f_X10_bars σ a0 (nI p) (nI m) = some (nI (nB (fun i => σ a0 (p + i)) m)) := by
  have hF := FU_ge
  unfold f_X10_bars
  rw [show f_X10_bars_l1 σ a0 (nI p) (nI m) FU 0 0 = some (nI (nB (fun i => σ a0 (p + i)) m)) from m_bars_l hp hl m 0 FU (by omega) (by omega), k1s]
theorem m_isText_l {σ : gSt} {a0 p m : Nat} (hp : p + m ≤ gml a0) (hl : gml a0 ≤ 10000) (hm1 : 1 ≤ m) (hm2 : m ≤ 24) (h0 : σ a0 (p + 0) ≠ 124) (h9 : σ a0 (p + (m - 1)) ≠ 124) : ∀ (d i n : Nat), i + d = m → d < n → (∀ j, j < i → isW (σ a0 (p + j))) → f_X10_isText_l1 σ a0 (nI p) (nI m) n (nI i) (nI (nB (fun i => σ a0 (p + i)) i)) = some (b01 (txtOK m (fun i => σ a0 (p + i)))) := by
  intro d
  induction d with
  | zero =>
    intro i n hi hn hw
    obtain ⟨n, rfl⟩ : ∃ m, n = m + 1 := ⟨n - 1, by omega⟩
    obtain rfl : i = m := by omega
    have hb := nB_le (fun i => σ a0 (p + i)) i
    rw [f_X10_isText_l1, if_pos (nI_le (by omega) (by omega))]
    simp only [k1i, k1s, gz0, gz1]
    by_cases hB : 2 ≤ nB (fun i => σ a0 (p + i)) i
    · rw [if_pos (show (2 : Int32) ≤ nI (nB (fun i => σ a0 (p + i)) i) from nI_le (a := 2) hB (by omega)), b01_f (fun h => by have := h.2.2.2.1; omega)]
    · rw [if_neg (show ¬ (2 : Int32) ≤ nI (nB (fun i => σ a0 (p + i)) i) from nI_ge (b := 2) (by omega) (by omega)), b01_t ⟨hm1, hm2, hw, by omega, h0, h9⟩]
  | succ d ih =>
    intro i n hi hn hw
    obtain ⟨n, rfl⟩ : ∃ m, n = m + 1 := ⟨n - 1, by omega⟩
    rw [f_X10_isText_l1, if_neg (nI_ge (by omega) (by omega)), nI_add, gald_n (by omega) (by omega), k1s, k1s, m_isLetter, k1s, nI_s1]
    by_cases hW : isW (σ a0 (p + i))
    · rw [b01_t hW, if_neg (by decide)]
      have := ih (i + 1) n (by omega) (by omega) (fun j hj => by
        by_cases h : j = i
        · subst h; exact hW
        · exact hw j (by omega))
      rw [nB_s] at this
      by_cases hx : σ a0 (p + i) = 124
      · rw [if_pos hx] at this ⊢
        rw [k1s, nI_s1]; exact this
      · rw [if_neg hx] at this ⊢
        rw [k1s, Int32.add_zero]; exact this
    · rw [b01_f hW, if_pos rfl, b01_f (fun h => hW (h.2.2.1 i (by omega)))]
theorem m_isText {σ : gSt} {a0 p m : Nat} (hp : 1 ≤ m → m ≤ 24 → p + m ≤ gml a0) (hm : m < 10000) (hpp : p < 10000) (hl : gml a0 ≤ 10000) : f_X10_isText σ a0 (nI p) (nI m) = some (b01 (txtOK m (fun i => σ a0 (p + i)))) := by
  have hF := FU_ge
  unfold f_X10_isText
  rw [m_in, k1s]
  by_cases h : 1 ≤ m ∧ m ≤ 24
  · have hp' := hp h.1 h.2
    rw [b01_t ⟨show (1 : Int32) ≤ nI m from nI_le (a := 1) h.1 (by omega), show nI m ≤ 24 from nI_le (b := 24) h.2 (by omega)⟩, if_neg (by decide), gald_n (by omega) (by omega), k1s, nI_add, nI_sub1 (by omega), gald_n (by omega) (by omega), k1s]
    by_cases h0 : σ a0 p = 124
    · rw [if_pos h0, b01_f (fun h => h.2.2.2.2.1 h0)]
    · rw [if_neg h0]
      by_cases h9 : σ a0 (p + m - 1) = 124
      · rw [if_pos h9, b01_f (fun h' => h'.2.2.2.2.2 (by show σ a0 (p + (m - 1)) = 124; rw [show p + (m - 1) = p + m - 1 by omega]; exact h9))]
      · rw [if_neg h9]
        exact m_isText_l hp' hl h.1 h.2 h0 (by rw [show p + (m - 1) = p + m - 1 by omega]; exact h9) m 0 FU (by omega) (by omega) (fun j hj => by omega)
  · rw [b01_f (fun hh => h ⟨?_, ?_⟩), if_pos rfl, b01_f (fun hh => h ⟨hh.1, hh.2.1⟩)]
    · by_cases h1 : 1 ≤ m
      · exact h1
      · exact absurd hh.1 (show ¬ (1 : Int32) ≤ nI m from nI_ge (b := 1) (by omega) (by omega))
    · by_cases h1 : m ≤ 24
      · exact h1
      · exact absurd hh.2 (show ¬ nI m ≤ 24 from nI_ge (a := 24) (by omega) (by omega))
