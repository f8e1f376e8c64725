/-! ===== a caption comes in ===== -/
theorem insDo {σ τ : gSt} (Z : FI σ τ) {t K m : Nat} {kd a b : Int32} {u : Nat → Int32} (ht : t < 2) (hn : nT (τ 1) t < 16) (X : TX σ K m u) (hm : m ≤ 24) (hK : 17 ≤ K) (hq : capOK (τ 1 0) (capQ kd a b m u)) (h5 : ∀ w, w < 28 → τ 5 w = capQ kd a b m u w) (hf : ∀ i, i < nT (τ 1) t → ¬ (a < gK (τ 1) t i 1 ∧ gK (τ 1) t i 0 < b)) :
    ∃ r σ' τ', f_X8_insertCaption σ (tB 1 t) kd a b K = some (nI r, σ') ∧ f_X10_puts τ (nI t) = some (nI r, τ') ∧ FI σ' τ' ∧ (∀ c, (c < tB 1 t ∨ tB 1 t + 5 < c) → σ' c = σ c) ∧ ∀ c, c ≠ 1 → τ' c = τ c := by
  have T := Z.2.tOK ht
  have bT := (tB_le ht).2
  have hab : a < b := hq.2.1
  obtain ⟨r, hr⟩ := T.free hab hf
  have P := T.place hab hr
  obtain ⟨σ', e1, F1, f1⟩ := c_insert (Z.1.trk ht) (Z.2.s24 ht) hn kd b P X hm (fun j hj => ⟨by omega, by omega⟩)
  have e50 : τ 5 0 = a := h5 0 (by omega)
  obtain ⟨τ', e2, m2, o2, n2, k2⟩ := m_puts (σ := τ) (r := r) ht (Z.2.nT_eq ht) hn (by rw [e50]; exact P)
  refine ⟨r, σ', τ', e1, e2, Z.track ht F1 (fun c w h1 h2 => ?_) n2 o2 (fun c h1 h2 h3 => f1 c h3) (iRow_ok T hn hq hr), f1, m2⟩
  rw [k2 c w h1 h2]
  unfold iRow
  by_cases c1 : c < r
  · rw [if_pos c1, if_pos c1]
  · rw [if_neg c1, if_neg c1]
    by_cases c2 : c = r
    · rw [if_pos c2, if_pos c2]; exact h5 w h2
    · rw [if_neg c2, if_neg c2]
theorem m_addsPre {τ : gSt} {t p m : Nat} (hp : p + m ≤ 60) (hm : m ≤ 24) (kd a b : Int32) : ∃ τ5, f_X10_adds τ (nI t) kd a b (nI p) (nI m) = f_X10_puts τ5 (nI t) ∧ (∀ c, c ≠ 5 → τ5 c = τ c) ∧ ∀ w, w < 28 → τ5 5 w = capQ kd a b m (fun i => if i < m then τ 6 (p + i) else 0) w := by
  have hF := FU_ge
  let τ4 := up2 (up2 (up2 (up2 τ 5 0 a) 5 1 b) 5 2 kd) 5 3 (nI m)
  have h4 : ∀ c, c ≠ 5 → τ4 c = τ c := fun c hc => by
    show up2 (up2 (up2 (up2 τ 5 0 a) 5 1 b) 5 2 kd) 5 3 (nI m) c = _
    rw [up2_k hc, up2_k hc, up2_k hc, up2_k hc]
  have loop : ∀ (d i f : Nat) (τ1 : gSt), i + d = 24 → d < f → (∀ c, c ≠ 5 → τ1 c = τ c) → (∀ w, w < 4 → τ1 5 w = τ4 5 w) → (∀ j, j < i → τ1 5 (4 + j) = if j < m then τ 6 (p + j) else 0) →
      ∃ τ', f_X10_adds_l1 (nI t) (nI p) (nI m) τ4 f (nI i) τ1 = some τ' ∧ (∀ c, c ≠ 5 → τ' c = τ c) ∧ (∀ w, w < 4 → τ' 5 w = τ4 5 w) ∧ ∀ j, j < 24 → τ' 5 (4 + j) = if j < m then τ 6 (p + j) else 0 := by
    intro d
    induction d with
    | zero =>
      intro i f τ1 hi hf h1 h2 h3
      obtain ⟨f, rfl⟩ : ∃ m, f = m + 1 := ⟨f - 1, by omega⟩
      obtain rfl : i = 24 := by omega
      refine ⟨τ1, ?_, h1, h2, h3⟩
      rw [f_X10_adds_l1, if_pos (by decide)]
    | succ d ih =>
      intro i f τ1 hi hf h1 h2 h3
      obtain ⟨f, rfl⟩ : ∃ m, f = m + 1 := ⟨f - 1, by omega⟩
      have ex : (if nI m ≤ nI i then some (0 : Int32) else (g_k1 (gald τ1 6 60 (nI p + nI i)) fun v14 => some v14)) = some (if i < m then τ 6 (p + i) else 0) := by
        by_cases h : i < m
        · rw [if_neg (nI_ge h (by omega)), if_pos h, nI_add, gald_n (by omega) (by omega), k1s, h1 6 (by omega)]
        · rw [if_pos (nI_le (by omega) (by omega)), if_neg h]
      rw [f_X10_adds_l1, if_neg (show ¬ (24 : Int32) ≤ nI i from nI_ge (b := 24) (a := i) (by omega) (by omega)), ex, k1s, show (4 : Int32) = nI 4 from rfl, nI_add, gast_n (by omega) (by omega), k1s, nI_s1]
      refine ih (i + 1) f _ (by omega) (by omega) (fun c hc => by rw [up2_k hc, h1 c hc]) (fun w hw => by rw [up2_j (by omega), h2 w hw]) (fun j hj => ?_)
      rw [up2_ap]
      by_cases hji : j = i
      · rw [if_pos ⟨rfl, by omega⟩, hji]
      · rw [if_neg (fun hh => hji (by omega))]; exact h3 j (by omega)
  obtain ⟨τ5, e, a1, a2, a3⟩ := loop 24 0 FU τ4 (by omega) (by omega) h4 (fun _ _ => rfl) (fun j hj => by omega)
  refine ⟨τ5, ?_, a1, fun w hw => ?_⟩
  · unfold f_X10_adds
    rw [gset_n, k1s, gset_n, k1s, gset_n, k1s, gset_n, k1s]
    show g_k1 (f_X10_adds_l1 (nI t) (nI p) (nI m) τ4 FU 0 τ4) _ = _
    rw [show f_X10_adds_l1 (nI t) (nI p) (nI m) τ4 FU 0 τ4 = _ from e, k1s]
    cases f_X10_puts τ5 (nI t) with
    | none => rfl
    | some x => rfl
  · by_cases h : w < 4
    · rw [a2 w h]
      rcases (show w = 0 ∨ w = 1 ∨ w = 2 ∨ w = 3 by omega) with rfl | rfl | rfl | rfl
      · show up2 (up2 (up2 (up2 τ 5 0 a) 5 1 b) 5 2 kd) 5 3 (nI m) 5 0 = _
        rw [up2_j (by omega), up2_j (by omega), up2_j (by omega), up2_s]; rfl
      · show up2 (up2 (up2 (up2 τ 5 0 a) 5 1 b) 5 2 kd) 5 3 (nI m) 5 1 = _
        rw [up2_j (by omega), up2_j (by omega), up2_s]; rfl
      · show up2 (up2 (up2 (up2 τ 5 0 a) 5 1 b) 5 2 kd) 5 3 (nI m) 5 2 = _
        rw [up2_j (by omega), up2_s]; rfl
      · show up2 (up2 (up2 (up2 τ 5 0 a) 5 1 b) 5 2 kd) 5 3 (nI m) 5 3 = _
        rw [up2_s]; rfl
    · have := a3 (w - 4) (by omega)
      rw [show 4 + (w - 4) = w by omega] at this
      rw [this]
      unfold capQ
      rw [if_neg (show ¬ w = 0 by omega), if_neg (show ¬ w = 1 by omega), if_neg (show ¬ w = 2 by omega), if_neg (show ¬ w = 3 by omega)]
theorem sPlc_0 {h : fH} {k : fK} {t : Nat} {s a b : Int32} (e : sPlc h k t s a b = 0) : 0 ≤ a ∧ b ≤ h 0 ∧ a < b ∧ ¬ sOth h k t s a b := by
  unfold sPlc at e
  by_cases h1 : a < 0
  · rw [if_pos h1] at e; exact absurd e (by decide)
  · rw [if_neg h1] at e
    by_cases h2 : b ≤ h 0
    · rw [if_pos h2] at e
      by_cases h3 : a < b
      · rw [if_pos h3] at e
        by_cases h4 : sOth h k t s a b
        · rw [b01_t h4] at e; exact absurd e (by decide)
        · exact ⟨Int32.not_lt.mp h1, h2, h3, h4⟩
      · rw [if_neg h3] at e; exact absurd e (by decide)
    · rw [if_neg h2] at e; exact absurd e (by decide)
theorem capQ_ok {len kd a b : Int32} {m : Nat} {u : Nat → Int32} (ha : 0 ≤ a) (hab : a < b) (hb : b ≤ len) (hk : 0 ≤ kd ∧ kd ≤ 2) (hu : txtOK m u) : capOK len (capQ kd a b m u) := by
  have hm := hu.2.1
  have e3 : nN (capQ kd a b m u 3) = m := nN_nI (by omega)
  refine ⟨ha, hab, hb, hk, ?_, ?_⟩
  · rw [e3]; rfl
  · rw [e3]
    refine txtOK_congr (fun i hi => ?_) hu
    unfold capQ
    rw [if_neg (by omega), if_neg (by omega), if_neg (by omega), if_neg (by omega), show 4 + i - 4 = i by omega]
theorem sAdd_0 {h : fH} {k : fK} {t : Nat} {a b : Int32} {m : Nat} {u : Nat → Int32} (hn : nT h t ≤ 16) (e : sAdd h k t a b m u = 0) : sPlc h k t (-1) a b = 0 ∧ txtOK m u ∧ nT h t < 16 := by
  unfold sAdd at e
  by_cases h1 : sPlc h k t (-1) a b = 0
  · rw [if_pos h1] at e
    by_cases h2 : txtOK m u
    · rw [b01_t h2, if_neg (by decide)] at e
      by_cases h3 : nT h t < 16
      · exact ⟨h1, h2, h3⟩
      · rw [if_neg h3] at e; exact absurd e (by decide)
    · rw [b01_f h2, if_pos rfl] at e; exact absurd e (by decide)
  · rw [if_neg h1] at e; exact absurd e h1
theorem sAdd_nn (h : fH) (k : fK) (t : Nat) (a b : Int32) (m : Nat) (u : Nat → Int32) : 0 ≤ sAdd h k t a b m u := by
  unfold sAdd
  repeat' split
  all_goals (first | decide | exact sPlc_nn ..)
theorem sAdd_congr {h : fH} {k : fK} {t : Nat} {a b : Int32} {m : Nat} {u u' : Nat → Int32} (e : ∀ i, i < m → u i = u' i) : sAdd h k t a b m u = sAdd h k t a b m u' := by
  unfold sAdd
  rw [b01_c (show txtOK m u ↔ txtOK m u' from ⟨txtOK_congr e, txtOK_congr (fun i hi => (e i hi).symm)⟩)]
/-- a new caption, in both -/
theorem addDo {σ τ : gSt} (Z : FI σ τ) {t K p m : Nat} {kd a b : Int32} {u : Nat → Int32} (ht : t < 2) (X : TX σ K m u) (hK : 17 ≤ K) (hp : p + m ≤ 60) (hu : ∀ i, i < m → u i = τ 6 (p + i)) (hk : 0 ≤ kd ∧ kd ≤ 2) (h0 : sAdd (τ 1) (gK (τ 1)) t a b m u = 0) :
    ∃ r σ' τ', f_X8_insertCaption σ (tB 1 t) kd a b K = some (nI r, σ') ∧ f_X10_adds τ (nI t) kd a b (nI p) (nI m) = some (nI r, τ') ∧ FI σ' τ' ∧ (∀ c, (c < tB 1 t ∨ tB 1 t + 5 < c) → σ' c = σ c) ∧ ∀ c, c ≠ 1 → c ≠ 5 → τ' c = τ c := by
  obtain ⟨h1, h2, h3⟩ := sAdd_0 (Z.2.n16 ht) h0
  obtain ⟨q1, q2, q3, q4⟩ := sPlc_0 h1
  have hm := h2.2.1
  obtain ⟨τ5, e5, f5, v5⟩ := m_addsPre (τ := τ) (t := t) hp hm kd a b
  have g1 : τ5 1 = τ 1 := f5 1 (by omega)
  have hu2 : ∀ i, i < m → u i = (fun i => if i < m then τ 6 (p + i) else 0) i := fun i hi => by
    show u i = if i < m then τ 6 (p + i) else 0
    rw [if_pos hi]; exact hu i hi
  have Z5 : FI σ τ5 := Z.frame (fun _ _ _ => rfl) g1
  obtain ⟨r, σ', τ', a1, a2, a3, a4, a5⟩ := insDo Z5 ht (by rw [g1]; exact h3) (X.congr hu2) hm hK (by rw [g1]; exact capQ_ok q1 q3 q2 hk (txtOK_congr hu2 h2)) v5 (fun i hi hh => by
    rw [g1] at hi hh
    refine q4 ⟨i, hi, ?_, hh.1, hh.2⟩
    intro hc
    have h16 := Z.2.n16 ht
    exact nI_pos (n := i) (by omega) (by rw [hc]; decide))
  exact ⟨r, σ', τ', a1, e5.trans a2, a3, a4, fun c c1 c5 => by rw [a5 c c1, f5 c c5]⟩
theorem call_add {σ τ : gSt} (R : RR σ τ) (a kd b d : Int32) : ∃ x r σ' r' τ', f_X9_add σ a kd b d = some (x, r, σ') ∧ f_X10_add τ a kd b d = some (r', τ') ∧ CR [0, 3, 1, 2] σ' τ' x r r' := by
  have R0 := R
  obtain ⟨z, sr, zr, ⟨p, nx, H⟩, m, T, h12, hl⟩ := R
  have hm := T.2.1
  obtain ⟨s1, e1, T1, f1⟩ := c_clear (σ := σ) 189
  have Ta : TX s1 187 m (τ 6) := T.frame (f1 187 (by omega)) (f1 188 (by omega))
  obtain ⟨s2, e2, T2, f2⟩ := c_appendPart (p := 0) (q := m) Ta (T1 (fun _ => 0)) (by omega) (Nat.le_refl _) (by omega) (by omega) (by omega) (by omega) (fun i hi => by have := hl i hi; grind)
  have T2' : TX s2 189 m (τ 6) := by
    rw [show 0 + (m - 0) = m by omega] at T2
    exact T2.congr (fun i hi => by simp)
  obtain ⟨s3, e3, T3, f3⟩ := c_clear (σ := s2) 187
  have X : TX s3 189 m (τ 6) := T2'.frame (f3 189 (by omega)) (f3 190 (by omega))
  have fr : ∀ c, c ≠ 187 → c ≠ 189 → c ≠ 190 → s3 c = σ c := fun c c1 c2 c3 => by rw [f3 c c1, f2 c c2 c3, f1 c c2]
  have tj : ∀ j, j ≠ 12 → up2 τ 0 12 0 0 j = τ 0 j := fun j hj => up2_j hj
  have tc : ∀ c, c ≠ 0 → up2 τ 0 12 0 c = τ c := fun c hc => up2_k hc
  have R3 : RR s3 (up2 τ 0 12 0) := by
    refine ⟨z.frame (fun c h1 h2 => fr c (by omega) (by omega) (by omega)) (tc 1 (by omega)), sr.frame (by rw [fr 0 (by omega) (by omega) (by omega)]) (fun c h1 h2 => fr c (by omega) (by omega) (by omega)) (tj 3 (by omega)) (tc 2 (by omega)), zr.frame (by rw [fr 0 (by omega) (by omega) (by omega)]) (by rw [fr 0 (by omega) (by omega) (by omega)]) (by rw [fr 0 (by omega) (by omega) (by omega)]) (tj 7 (by omega)) (tj 8 (by omega)) (tj 9 (by omega)), ⟨p, nx, H.frame (fr 25 (by omega) (by omega) (by omega)) (fun c h1 h2 => fr c (by omega) (by omega) (by omega)) (tj 5 (by omega)) (tc 4 (by omega))⟩, 0, T3 _, up2_s .., fun i hi => by omega⟩
  have ec : f_X9_add σ a kd b d = (g_x2 (f_X9_requireTrack s3 a) (fun x s => (x, (0 : Int32), s)) fun σ5 => (if kd < 0 then some (1, 0, σ5) else (if kd ≤ (2 : Int32) then (g_k1 (f_X3_addRefusal σ5 1 a b d 189) fun v8 => (g_x2 (f_X9_passOrRefuse σ5 v8) (fun x s => (x, (0 : Int32), s)) fun σ10 => (g_k1 (f_X4_keep σ10 1) fun σ11 => (g_k1 (f_X3_trackOf σ11 1 a) fun v12 => (g_k2 (f_X8_insertCaption σ11 v12 kd b d 189) fun v13 σ14 => some (0, v13, σ14)))))) else some (1, 0, σ5)))) := by
    unfold f_X9_add
    rw [e1, k1s, Ta.1, show f_X7_appendPart s1 189 187 0 (nI m) = _ from e2, k1s, e3, k1s]
  have em : f_X10_add τ a kd b d = (g_k1 (f_X10_isTrack (up2 τ 0 12 0) a) fun v2 => (g_k1 (if v2 = 0 then some (1 : Int32) else (g_k1 (f_X10_in (up2 τ 0 12 0) kd (0 : Int32) (2 : Int32)) fun v16 => (if v16 = 0 then some (2 : Int32) else some (0 : Int32)))) fun x3 => (g_k1 (gset (up2 τ 0 12 0) 0 10 x3) fun σ6 => (if (σ6 0 10) ≤ 0 then (g_k1 (f_X10_againstAdd σ6 a b d (0 : Int32) (nI m)) fun v8 => (if v8 ≤ 0 then (g_k1 (f_X10_changes σ6 1) fun σ10 => (g_k2 (f_X10_adds σ10 a kd b d (0 : Int32) (nI m)) fun v11 σ12 => some (v11, σ12))) else (g_k2 (f_X10_refuses σ6 (3 : Int32) v8) fun v13 σ14 => some (v13, σ14)))) else some ((0 : Int32), σ6))))) := by
    unfold f_X10_add
    rw [gset_n, k1s, h12]
  rcases trkCases a with ⟨t, ht, rfl⟩ | h
  · by_cases hk : 0 ≤ kd ∧ kd ≤ 2
    · have Z3 := R3.1
      have g0 : up2 (up2 τ 0 12 0) 0 10 0 1 = τ 1 := by rw [up2_k (by omega), up2_k (by omega)]
      have g6 : up2 (up2 τ 0 12 0) 0 10 0 6 = τ 6 := by rw [up2_k (by omega), up2_k (by omega)]
      have ga : up2 τ 0 12 0 1 = τ 1 := tc 1 (by omega)
      have I0 : Inv (up2 (up2 τ 0 12 0) 0 10 0 1) (gK (up2 (up2 τ 0 12 0) 0 10 0 1)) := by rw [g0]; exact z.2
      have hA := c_addRef Z3.1 Z3.2 ht b d X
      rw [ga] at hA
      have hB := m_addRef I0 ht b d (p := 0) (m := m) (by omega)
      rw [g0, g6, sAdd_congr (u' := τ 6) (fun i hi => by rw [Nat.zero_add])] at hB
      have ec2 : f_X9_add σ (nI t) kd b d = (g_x2 (f_X9_passOrRefuse s3 (sAdd (τ 1) (gK (τ 1)) t b d m (τ 6))) (fun x s => (x, (0 : Int32), s)) fun σ10 => (g_k1 (f_X4_keep σ10 1) fun σ11 => (g_k1 (f_X3_trackOf σ11 1 (nI t)) fun v12 => (g_k2 (f_X8_insertCaption σ11 v12 kd b d 189) fun v13 σ14 => some (0, v13, σ14))))) := by
        rw [ec, c_reqT ht, x2s, if_neg (Int32.not_lt.mpr hk.1), if_pos hk.2, hA, k1s]
      have em2 : f_X10_add τ (nI t) kd b d = (if sAdd (τ 1) (gK (τ 1)) t b d m (τ 6) ≤ 0 then (g_k1 (f_X10_changes (up2 (up2 τ 0 12 0) 0 10 0) 1) fun σ10 => (g_k2 (f_X10_adds σ10 (nI t) kd b d (0 : Int32) (nI m)) fun v11 σ12 => some (v11, σ12))) else (g_k2 (f_X10_refuses (up2 (up2 τ 0 12 0) 0 10 0) (3 : Int32) (sAdd (τ 1) (gK (τ 1)) t b d m (τ 6))) fun v13 σ14 => some (v13, σ14))) := by
        rw [em, m_isTrack ht, k1s, if_neg (by decide), m_in, k1s, b01_t hk, if_neg (by decide), k1s, gset_n, k1s, up2_s, if_pos (by decide), show f_X10_againstAdd (up2 (up2 τ 0 12 0) 0 10 0) (nI t) b d 0 (nI m) = _ from hB, k1s]
      by_cases h0 : sAdd (τ 1) (gK (τ 1)) t b d m (τ 6) = 0
      · obtain ⟨σ1, τ1, k1', k2', R1, fs, fs2, t0, tcc⟩ := keepRR (R3.thr 0)
        have g1 : τ1 1 = τ 1 := by rw [tcc 1 (by omega) (by omega), g0]
        have g16 : τ1 6 = τ 6 := by rw [tcc 6 (by omega) (by omega), g6]
        have X1 : TX σ1 189 m (τ 6) := X.frame (fs2 189 (by omega)) (fs2 190 (by omega))
        have bT := (tB_le ht).2
        have bT1 := (tB_le ht).1
        obtain ⟨r, σ2, τ2, a1, a2, a3, a4, a5⟩ := addDo (p := 0) R1.1 ht X1 (by omega) (by omega) (fun i hi => by rw [g16, Nat.zero_add]) hk (by rw [g1]; exact h0)
        have R2 := R1.film2 a3 (fun c hc => a4 c (by omega)) (fun c c1 c5 => a5 c c1 c5)
        refine ⟨0, nI r, σ2, nI r, τ2, ?_, ?_, R2, CO.z (L := [0, 3, 1, 2]) (by rw [a5 0 (by omega) (by omega), t0 10 (by omega), up2_s]) (by decide), fun _ => rfl⟩
        · rw [ec2, h0, c_pass0, x2s, k1', k1s, c_trackOf σ1 1 ht, k1s, a1, k2s]
        · rw [em2, h0, if_pos (by decide), k2', k1s, show f_X10_adds τ1 (nI t) kd b d 0 (nI m) = _ from a2, k2s]
      · obtain ⟨σ1, τ1, k1', k2', R1, t10⟩ := (R3.thr 0).ref (sAdd (τ 1) (gK (τ 1)) t b d m (τ 6)) 3
        refine ⟨2, 0, σ1, 0, τ1, ?_, ?_, R1, CO.d (L := [0, 3, 1, 2]) t10 (by decide), fun h => by omega⟩
        · rw [ec2, c_passv h0 k1', x2f 2 (by omega)]
        · rw [em2, if_neg (fun hh => h0 ((le0 (sAdd_nn ..)).mp hh)), k2', k2s]
    · refine ⟨1, 0, s3, 0, up2 (up2 τ 0 12 0) 0 10 2, ?_, ?_, R3.thr 2, CO.t (L := [0, 3, 1, 2]) (up2_s ..) (by decide), fun h => by omega⟩
      · rw [ec, c_reqT ht, x2s]
        by_cases h1 : kd < 0
        · rw [if_pos h1]
        · rw [if_neg h1, if_neg (fun hh => hk ⟨Int32.not_lt.mp h1, hh⟩)]
      · rw [em, m_isTrack ht, k1s, if_neg (by decide), m_in, k1s, b01_f hk, if_pos rfl, k1s, gset_n, k1s, up2_s, if_neg (by decide)]
  · refine ⟨3, 0, s3, 0, up2 (up2 τ 0 12 0) 0 10 1, ?_, ?_, R3.thr 1, CO.o (L := [0, 3, 1, 2]) (up2_s ..) (by decide), fun h => by omega⟩
    · rw [ec, c_reqT_f h]; rfl
    · rw [em, m_isTrack_f h, k1s, if_pos rfl, k1s, gset_n, k1s, up2_s, if_neg (by decide)]
