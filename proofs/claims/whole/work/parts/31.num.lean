/-! ===== changes of a film's head ===== -/
theorem gK_hd {g g' : Nat → Int32} (h : ∀ j, 30 ≤ j → g' j = g j) : gK g' = gK g := by
  funext t c w
  exact h _ (by omega)
theorem FR.head {σ σ' : gSt} {f : Nat} {g g' : Nat → Int32} (F : FR σ f g (gK g)) (h30 : ∀ j, 28 ≤ j → g' j = g j) (hc : ∀ c, f + 4 ≤ c → c < f + 16 → σ' c = σ c) (x0 : σ' f 0 = g' 0) (x1 : ∀ j, j < 6 → σ' (f + 1) j = g' (1 + j)) (x2 : σ' (f + 2) 1 = g' 7) (x3 : ∀ i, i < nC g' → σ' (f + 3) i = g' (8 + i)) : FR σ' f g' (gK g') := by
  refine ⟨x0, x1, x2, x3, fun t ht => ?_⟩
  rw [gK_hd (g' := g') (g := g) (fun j hj => h30 j (by omega)), show nT g' t = nT g t by unfold nT; rw [h30 (28 + t) (by omega)]]
  exact (F.trk ht).frame (fun j hj => hc _ (by unfold tB; omega) (by unfold tB; omega))
theorem Inv.head {g g' : Nat → Int32} (I : Inv g (gK g)) (h30 : ∀ j, 28 ≤ j → g' j = g j) (x1 : setOK g') (x2 : cutOK g') (x3 : ∀ t, t < 2 → ∀ c, c < nT g t → gK g t c 1 ≤ g' 0) : Inv g' (gK g') := by
  refine ⟨x1, x2, fun t ht => ?_⟩
  obtain ⟨a, b, d, e⟩ := I.2.2 t ht
  have eT : nT g' t = nT g t := by unfold nT; rw [h30 (28 + t) (by omega)]
  rw [gK_hd (g' := g') (g := g) (fun j hj => h30 j (by omega))]
  refine ⟨by rw [eT, h30 (28 + t) (by omega)]; exact a, by rw [eT]; exact b, fun c hc => ?_, fun c hc => ?_⟩
  · rw [eT] at hc
    obtain ⟨q1, q2, q3, q4⟩ := d c hc
    exact ⟨q1, q2, x3 t ht c hc, q4⟩
  · rw [eT] at hc; exact e c hc
/-! settings -/
def sv (a v : Int32) : Prop := ∃ j, j < 6 ∧ a = nI j ∧ gFrom j ≤ v ∧ v ≤ gTo j
theorem gtl_n {f : Nat → Int32} {n j : Nat} (h : j < n) (hl : n ≤ 10000) : gtl f n (nI j) = some (f j) := by
  unfold gtl; rw [nI_toInt (by omega), nI_clamp (by omega), if_pos (by omega)]
theorem c_isSetting {σ : gSt} {j : Nat} (hj : j < 6) : f_X9_isSetting σ (nI j) = some 1 := by
  unfold f_X9_isSetting
  rw [if_neg (nI_pos (by omega)), if_neg (show ¬ (6 : Int32) ≤ nI j from nI_ge (b := 6) (a := j) (by omega) (by omega))]
  rfl
theorem c_isSetting_f {σ : gSt} {a : Int32} (h : a < 0 ∨ nI 6 ≤ a) : f_X9_isSetting σ a = some 0 := by
  unfold f_X9_isSetting
  by_cases h1 : a < 0
  · rw [if_pos h1]; rfl
  · rw [if_neg h1, if_pos (show (6 : Int32) ≤ a from h.resolve_left h1)]; rfl
theorem c_isSV (σ : gSt) (a v : Int32) : f_X9_isSettingValue σ a v = some (b01 (sv a v)) := by
  unfold f_X9_isSettingValue
  rcases i_cases a 6 (by omega) with ⟨j, hj, rfl⟩ | h
  · rw [c_isSetting hj, k1s, if_neg (by decide), gtl_n hj (by omega), k1s, gtl_n hj (by omega), k1s]
    simp only [k1i, k1s, gz0, gz1]
    have e : sv (nI j) v ↔ (gFrom j ≤ v ∧ v ≤ gTo j) := by
      constructor
      · rintro ⟨i, hi, he, h⟩
        rw [(nI_eq (a := j) (b := i) (by omega) (by omega)).mp he]
        exact h
      · intro h; exact ⟨j, hj, rfl, h⟩
    rw [b01_c e]
    by_cases h1 : v < gFrom j
    · rw [if_pos h1, b01_f (by grind)]
    · rw [if_neg h1]
      by_cases h2 : gTo j < v
      · rw [if_pos h2, b01_f (by grind)]
      · rw [if_neg h2, b01_t ⟨Int32.not_lt.mp h1, Int32.not_lt.mp h2⟩]
  · rw [c_isSetting_f h, k1s, if_pos rfl, k1s, gz0, k1s, b01_f]
    rintro ⟨j, hj, rfl, -⟩
    rcases h with h | h
    · exact nI_pos (by omega) h
    · exact nI_ge (a := j) (b := 6) (by omega) (by omega) h
theorem m_maySet (σ : gSt) (a v : Int32) : f_X10_maySet σ a v = some (b01 (sv a v)) := by
  unfold f_X10_maySet
  simp only [m_in, k1s, b01_z]
  have e : ∀ j, j < 6 → (sv (nI j) v ↔ (gFrom j ≤ v ∧ v ≤ gTo j)) := by
    intro j hj
    constructor
    · rintro ⟨i, hi, he, h⟩
      rw [(nI_eq (a := j) (b := i) (by omega) (by omega)).mp he]
      exact h
    · intro h; exact ⟨j, hj, rfl, h⟩
  rcases i_cases a 6 (by omega) with ⟨j, hj, rfl⟩ | h
  · rw [b01_c (e j hj)]
    rcases (show j = 0 ∨ j = 1 ∨ j = 2 ∨ j = 3 ∨ j = 4 ∨ j = 5 by omega) with rfl | rfl | rfl | rfl | rfl | rfl
    · rfl
    · rfl
    · rfl
    · rfl
    · rfl
    · rw [if_neg (by decide), if_neg (by decide), if_neg (by decide), if_neg (by decide), if_neg (by decide), if_pos (by decide)]
      show g_k1 (if b01 (5 ≤ v ∧ v ≤ 24) = 0 then some 0 else some 1) _ = some (b01 (5 ≤ v ∧ v ≤ 24))
      by_cases h5 : 5 ≤ v ∧ v ≤ 24
      · rw [b01_t h5]; rfl
      · rw [b01_f h5]; rfl
  · have hn : ∀ j, j < 6 → ¬ a = nI j := by
      rintro j hj rfl
      rcases h with h | h
      · exact nI_pos (by omega) h
      · exact nI_ge (a := j) (b := 6) (by omega) (by omega) h
    rw [if_neg (show ¬ a = 0 from hn 0 (by omega)), if_neg (show ¬ a = 1 from hn 1 (by omega)), if_neg (show ¬ a = 2 from hn 2 (by omega)), if_neg (show ¬ a = 3 from hn 3 (by omega)), if_neg (show ¬ a = 4 from hn 4 (by omega)), if_neg (show ¬ a = 5 from hn 5 (by omega)), b01_f]
    · rfl
    · rintro ⟨j, hj, he, -⟩; exact hn j hj he
theorem call_set {σ τ : gSt} (R : RR σ τ) (a v : Int32) : ∃ x r σ' r' τ', f_X9_set σ a v = some (x, r, σ') ∧ f_X10_set τ a v = some (r', τ') ∧ CR [0, 1] σ' τ' x r r' := by
  by_cases h : sv a v
  · obtain ⟨σ1, τ1, e1, e2, R1, fs, fs2, t0, tc⟩ := keepRR (R.thr 0)
    obtain ⟨j, hj, rfl, v1, v2⟩ := h
    have hsv : sv (nI j) v := ⟨j, hj, rfl, v1, v2⟩
    have F1 := R1.1
    have cj : ∀ i, up2 σ1 2 j v 2 i = if i = j then v else σ1 2 i := fun i => by rw [up2_ap]; simp
    have tj : ∀ i, up2 τ1 1 (1 + j) v 1 i = if i = 1 + j then v else τ1 1 i := fun i => by rw [up2_ap]; simp
    have tn : ∀ i, i ≠ 1 + j → up2 τ1 1 (1 + j) v 1 i = τ1 1 i := fun i hi => by rw [tj, if_neg hi]
    have hC : nC (up2 τ1 1 (1 + j) v 1) = nC (τ1 1) := by unfold nC; rw [tn 7 (by omega)]
    have F' : FI (up2 σ1 2 j v) (up2 τ1 1 (1 + j) v) := by
      refine ⟨FR.head F1.1 (fun i hi => tn i (by omega)) (fun c h1 h2 => up2_k (by omega)) ?_ ?_ ?_ ?_, Inv.head F1.2 (fun i hi => tn i (by omega)) ?_ ?_ ?_⟩
      · rw [up2_k (by omega), tn 0 (by omega)]; exact F1.1.1
      · intro i hi
        rw [cj, tj]
        by_cases hij : i = j
        · subst hij; rw [if_pos rfl, if_pos rfl]
        · rw [if_neg hij, if_neg (by omega)]; exact F1.1.2.1 i hi
      · rw [up2_k (by omega), tn 7 (by omega)]; exact F1.1.2.2.1
      · intro i hi
        rw [hC] at hi
        rw [up2_k (by omega), tn _ (by omega)]; exact F1.1.2.2.2.1 i hi
      · obtain ⟨s0, s1, s2, s3, s4, s5, s6⟩ := F1.2.1
        rcases (show j = 0 ∨ j = 1 ∨ j = 2 ∨ j = 3 ∨ j = 4 ∨ j = 5 by omega) with rfl | rfl | rfl | rfl | rfl | rfl
        all_goals (unfold setOK; simp only [tj]; simp only [gFrom, gTo] at v1 v2; simp_all)
      · obtain ⟨s0, s1, s2, s3⟩ := F1.2.2.1
        refine ⟨by rw [hC, tn 7 (by omega)]; exact s0, by rw [hC]; exact s1, fun i hi => ?_, fun i hi => ?_⟩
        · rw [hC] at hi
          rw [tn _ (by omega), tn _ (by omega)]; exact s2 i hi
        · rw [hC] at hi
          rw [tn _ (by omega), tn _ (by omega)]; exact s3 i hi
      · intro t ht c hc
        rw [tn 0 (by omega)]
        exact (F1.2.cap ht hc).2.2.1
    have R2 : RR (up2 σ1 2 j v) (up2 τ1 1 (1 + j) v) := by
      obtain ⟨a, b, d, ⟨p, nx, H⟩, m, f⟩ := R1
      exact ⟨F', b.frame (by rw [up2_k (by omega)]) (fun c h1 h2 => up2_k (by omega)) (by rw [up2_k (by omega)]) (up2_k (by omega)), d.frame (by rw [up2_k (by omega)]) (by rw [up2_k (by omega)]) (by rw [up2_k (by omega)]) (by rw [up2_k (by omega)]) (by rw [up2_k (by omega)]) (by rw [up2_k (by omega)]), ⟨p, nx, H.frame (up2_k (by omega)) (fun c h1 h2 => up2_k (by omega)) (by rw [up2_k (by omega)]) (up2_k (by omega))⟩, m, f.frame (up2_k (by omega)) (up2_k (by omega)) (by rw [up2_k (by omega)]) (up2_k (by omega))⟩
    refine ⟨0, τ1 1 (1 + j), up2 σ1 2 j v, τ1 1 (1 + j), up2 τ1 1 (1 + j) v, ?_, ?_, R2, CO.z (L := [0, 1]) (by rw [up2_k (by omega), t0 10 (by omega), up2_s]) (by decide), fun _ => rfl⟩
    · unfold f_X9_set f_X3_changeSetting
      rw [c_isSV, k1s, b01_t hsv, if_neg (by decide), e1, k1s, c_setting F1.1 hj, k1s, c_isSetting hj, k1s, if_neg (by decide), show gast σ1 (1 + 1) 6 (nI j) v = some (up2 σ1 2 j v) from gast_n (by omega) (by omega), k1s, k1s, k2s]
    · unfold f_X10_set
      rw [m_maySet, k1s, b01_t hsv, if_neg (by decide), k1s, gset_n, k1s, up2_s, if_pos (by decide), e2, k1s, show (1 : Int32) = nI 1 from rfl, nI_add, gald_n (by omega) (by omega), k1s, gast_n (by omega) (by omega), k1s]
  · refine ⟨1, 0, σ, 0, up2 τ 0 10 1, ?_, ?_, R.thr 1, CO.o (L := [0, 1]) (up2_s ..) (by decide), fun h => by omega⟩
    · unfold f_X9_set
      rw [c_isSV, k1s, b01_f h, if_pos rfl]
    · unfold f_X10_set
      rw [m_maySet, k1s, b01_f h, if_pos rfl, k1s, gset_n, k1s, up2_s, if_neg (by decide)]
/-! the input -/
theorem call_feed {σ τ : gSt} (R : RR σ τ) {a : Int32} (ha : 0 ≤ a ∧ a ≤ 65535) : ∃ x r σ' r' τ', f_X9_feed σ a = some (x, r, σ') ∧ f_X10_feed τ a = some (r', τ') ∧ CR [0, 4] σ' τ' x r r' := by
  have R0 := R
  obtain ⟨z, b, d, ⟨p, nx, H⟩, m, T, h1, h2⟩ := R
  have hm := T.2.1
  by_cases h60 : m = 60
  · subst h60
    refine ⟨4, 0, σ, 0, up2 τ 0 10 1, ?_, ?_, R0.thr 1, CO.o (L := [0, 4]) (up2_s ..) (by decide), fun h => by omega⟩
    · unfold f_X9_feed
      rw [c_append_full T, k2s, if_pos rfl]
    · unfold f_X10_feed
      rw [h1, if_pos (by decide), k1s, gset_n, k1s, up2_s, if_neg (by decide)]
  · obtain ⟨σ1, e1, T1, f1⟩ := c_append T (by omega) a
    have hne : ¬ nI m = 60 := fun hh => h60 ((nI_eq (a := m) (b := 60) (by omega) (by omega)).mp hh)
    refine ⟨0, nI (m + 1), σ1, nI (m + 1), up2 (up2 (up2 τ 0 10 0) 6 m a) 0 12 (nI (m + 1)), ?_, ?_, ⟨z.frame (fun c h1 h2 => f1 c (by omega) (by omega)) (by rw [up2_k (by omega), up2_k (by omega), up2_k (by omega)]), b.frame (by rw [f1 0 (by omega) (by omega)]) (fun c h1 h2 => f1 c (by omega) (by omega)) (by rw [up2_j (by omega), up2_k (by omega), up2_j (by omega)]) (by rw [up2_k (by omega), up2_k (by omega), up2_k (by omega)]), ?_, ⟨p, nx, H.frame (f1 25 (by omega) (by omega)) (fun c h1 h2 => f1 c (by omega) (by omega)) (by rw [up2_j (by omega), up2_k (by omega), up2_j (by omega)]) (by rw [up2_k (by omega), up2_k (by omega), up2_k (by omega)])⟩, m + 1, ?_, ?_, ?_⟩, ?_, fun _ => rfl⟩
    · unfold f_X9_feed
      rw [e1, k2s, if_neg (by decide), T1.1]
    · unfold f_X10_feed
      rw [h1, if_neg hne, k1s, gset_n, k1s, up2_s, if_pos (by decide), up2_j (show 12 ≠ 10 by omega), h1, gast_n (by omega) (by omega), k1s, gset_n, k1s, up2_k (show 0 ≠ 6 by omega), up2_j (show 12 ≠ 10 by omega), h1, nI_s1, up2_s]
    · exact d.frame (by rw [f1 0 (by omega) (by omega)]) (by rw [f1 0 (by omega) (by omega)]) (by rw [f1 0 (by omega) (by omega)]) (by rw [up2_j (by omega), up2_k (by omega), up2_j (by omega)]) (by rw [up2_j (by omega), up2_k (by omega), up2_j (by omega)]) (by rw [up2_j (by omega), up2_k (by omega), up2_j (by omega)])
    · refine T1.congr (fun i hi => ?_)
      rw [up2_k (by omega), up2_ap, up2_k (by omega)]
      by_cases h : i = m
      · simp [h]
      · simp [h]
    · rw [up2_s]
    · intro i hi
      rw [up2_k (by omega), up2_ap, up2_k (by omega)]
      by_cases h : i = m
      · rw [if_pos ⟨rfl, h⟩]; exact ha
      · rw [if_neg (fun hh => h hh.2)]; exact h2 i (by omega)
    · exact CO.z (L := [0, 4]) (by rw [up2_j (by omega), up2_k (by omega), up2_s]) (by decide)
/-! shots -/
theorem call_shot {σ τ : gSt} (R : RR σ τ) (a : Int32) : ∃ x r σ' r' τ', f_X9_shot σ a = some (x, r, σ') ∧ f_X10_shot τ a = some (r', τ') ∧ CR [0, 3] σ' τ' x r r' := by
  have hF := FU_ge
  have I := R.1.2
  have F := R.1.1
  have C := I.cutL
  have hl := I.1.1
  have hc20 := C.2.1
  have e1 : f_X3_hasFrame σ 1 a = some (b01 (0 ≤ a ∧ a < τ 1 0)) := by
    unfold f_X3_hasFrame
    simp only [k1i, k1s, gz0, gz1, F.1]
    by_cases h1 : a < 0
    · rw [if_pos h1, b01_f (by grind)]
    · rw [if_neg h1]
      by_cases h2 : τ 1 0 ≤ a
      · rw [if_pos h2, b01_f (by grind)]
      · rw [if_neg h2, b01_t (by grind)]
  have e2 : b01 (0 ≤ a ∧ a ≤ τ 1 0 - 1) = b01 (0 ≤ a ∧ a < τ 1 0) := b01_c (by grind)
  by_cases h : 0 ≤ a ∧ a < τ 1 0
  · have t1 : up2 τ 0 10 0 1 = τ 1 := up2_k (by omega)
    have loop : ∀ (d i f : Nat), i + d = nC (τ 1) → d < f → f_X10_shot_l1 a (up2 τ 0 10 0) f (nI i) (nI (cB (upB (hCut (τ 1)) a) i)) = some (nI (cB (upB (hCut (τ 1)) a) (nC (τ 1)))) := by
      intro d
      induction d with
      | zero =>
        intro i f hi hf
        obtain ⟨f, rfl⟩ : ∃ m, f = m + 1 := ⟨f - 1, by omega⟩
        rw [f_X10_shot_l1, t1, C.1, if_pos (nI_le (by omega) (by omega)), show i = nC (τ 1) by omega]
      | succ d ih =>
        intro i f hi hf
        obtain ⟨f, rfl⟩ : ∃ m, f = m + 1 := ⟨f - 1, by omega⟩
        have := ih (i + 1) f (by omega) (by omega)
        rw [cB_s] at this
        rw [f_X10_shot_l1, t1, C.1, if_neg (nI_ge (by omega) (by omega)), up2_s, if_pos rfl, m_cutG (by omega), t1, k1s, nI_s1 i]
        by_cases hx : a < hCut (τ 1) i
        · rw [if_pos hx, k1s, Int32.add_zero]
          rw [if_neg (by simp only [upB, decide_eq_true_eq]; exact Int32.not_le.mpr hx)] at this
          exact this
        · rw [if_neg hx, k1s, nI_s1]
          rw [if_pos (by simp only [upB, decide_eq_true_eq]; exact Int32.not_lt.mp hx)] at this
          exact this
    refine ⟨0, nI (cB (upB (hCut (τ 1)) a) (nC (τ 1))), σ, nI (cB (upB (hCut (τ 1)) a) (nC (τ 1))), up2 τ 0 10 0, ?_, ?_, R.thr 0, CO.z (L := [0, 3]) (up2_s ..) (by decide), fun _ => rfl⟩
    · unfold f_X9_shot
      rw [e1, k1s, b01_t h, if_neg (by decide), show f_X0_upTo σ (1 + 2) a = _ from c_upTo (F.fc C) a, k1s]
    · unfold f_X10_shot
      rw [m_in, k1s, e2, b01_t h, if_neg (by decide), k1s, gset_n, k1s, show f_X10_shot_l1 a (up2 τ 0 10 0) FU 0 0 = _ from loop (nC (τ 1)) 0 FU (by omega) (by omega), k1s]
  · refine ⟨3, 0, σ, 0, up2 τ 0 10 1, ?_, ?_, R.thr 1, CO.o (L := [0, 3]) (up2_s ..) (by decide), fun h => by omega⟩
    · unfold f_X9_shot
      rw [e1, k1s, b01_f h, if_pos rfl]
    · unfold f_X10_shot
      obtain ⟨n, hn⟩ : ∃ n, FU = n + 1 := ⟨FU - 1, by omega⟩
      rw [m_in, k1s, e2, b01_f h, if_pos rfl, k1s, gset_n, k1s, hn, f_X10_shot_l1, up2_s, if_neg (show ¬ (1 : Int32) = 0 by decide), ite_some]
      by_cases hz : up2 τ 0 10 1 1 7 ≤ 0
      · rw [if_pos hz, k1s]
      · rw [if_neg hz, k1s]
