/-! ===== retiming: what changes ===== -/
def rtRow (kp : Nat → Nat → Int32) (u v x y : Int32) (i : Nat) : Nat → Nat → Int32 := fun c w => if c < i ∧ w < 2 then sRt u v x y (kp c w) else kp c w
theorem rtRow_ge {kp : Nat → Nat → Int32} {u v x y : Int32} {i c : Nat} (h : i ≤ c) (w : Nat) : rtRow kp u v x y i c w = kp c w := by unfold rtRow; rw [if_neg (by omega)]
theorem rtRow_w {kp : Nat → Nat → Int32} {u v x y : Int32} {i c w : Nat} (h : 2 ≤ w) : rtRow kp u v x y i c w = kp c w := by unfold rtRow; rw [if_neg (by omega)]
theorem rtRow_lt {kp : Nat → Nat → Int32} {u v x y : Int32} {i c w : Nat} (h : c < i) (hw : w < 2) : rtRow kp u v x y i c w = sRt u v x y (kp c w) := by unfold rtRow; rw [if_pos ⟨h, hw⟩]
theorem rtRow_s {kp : Nat → Nat → Int32} {u v x y : Int32} {i c w : Nat} : rtRow kp u v x y (i + 1) c w = if c = i ∧ w < 2 then sRt u v x y (kp c w) else rtRow kp u v x y i c w := by
  unfold rtRow
  by_cases h : c = i ∧ w < 2
  · rw [if_pos h, if_pos (by omega)]
  · rw [if_neg h]
    by_cases h2 : c < i ∧ w < 2
    · rw [if_pos h2, if_pos (by omega)]
    · rw [if_neg h2, if_neg (by omega)]
def dif (a b a' b' : Int32) : Int32 := if a' = a then (if b' = b then 0 else 1) else 1
def rtC (kp : Nat → Nat → Int32) (u v x y m : Int32) : Nat → Int32
  | 0 => m
  | n + 1 => rtC kp u v x y m n + dif (kp n 0) (kp n 1) (sRt u v x y (kp n 0)) (sRt u v x y (kp n 1))
theorem dif_c (i a b a' b' : Int32) : (if a' = a then (g_k1 (some b) fun v26 => (if b' = v26 then some i else some (i + 1))) else some (i + 1)) = some (i + dif a b a' b') := by
  unfold dif
  rw [k1s]
  by_cases h1 : a' = a
  · rw [if_pos h1, if_pos h1]
    by_cases h2 : b' = b
    · rw [if_pos h2, if_pos h2, Int32.add_zero]
    · rw [if_neg h2, if_neg h2]
  · rw [if_neg h1, if_neg h1]
theorem dif_m (a b a' b' : Int32) : (if a' = a then (g_k1 (some b) fun v81 => (if b' = v81 then some (0 : Int32) else some (1 : Int32))) else some (1 : Int32)) = some (dif a b a' b') := by
  unfold dif
  rw [k1s, ite_some, ite_some]
theorem FT.set2 {σ : gSt} {T n c : Nat} {kp kp' : Nat → Nat → Int32} {A B : Int32} (F : FT σ T n kp) (h : ∀ c' w, c' < n → kp' c' w = if c' = c ∧ w < 2 then (if w = 0 then A else B) else kp c' w) : FT (up2 (up2 σ (T + 1) c A) (T + 2) c B) T n kp' := by
  have v1 : ∀ j, up2 (up2 σ (T + 1) c A) (T + 2) c B (T + 1) j = if j = c then A else σ (T + 1) j := fun j => by
    rw [up2_k (by omega), up2_ap]; simp
  have v2 : ∀ j, up2 (up2 σ (T + 1) c A) (T + 2) c B (T + 2) j = if j = c then B else σ (T + 2) j := fun j => by
    rw [up2_ap, up2_k (by omega)]; simp
  have v3 : ∀ w, w ≠ 1 → w ≠ 2 → up2 (up2 σ (T + 1) c A) (T + 2) c B (T + w) = σ (T + w) := fun w h1 h2 => by
    rw [up2_k (by omega), up2_k (by omega)]
  have v0 : up2 (up2 σ (T + 1) c A) (T + 2) c B T = σ T := v3 0 (by omega) (by omega)
  refine ⟨by rw [v0]; exact F.1, F.2.1, fun c' hc' => ?_⟩
  obtain ⟨f1, f2, f3, f4, f5⟩ := F.2.2 c' hc'
  rw [v1, v2, v3 3 (by omega) (by omega), v3 4 (by omega) (by omega), v3 5 (by omega) (by omega), h c' 0 hc', h c' 1 hc', h c' 2 hc', h c' 3 hc', if_neg (show ¬ (c' = c ∧ 2 < 2) by omega), if_neg (show ¬ (c' = c ∧ 3 < 2) by omega)]
  refine ⟨?_, ?_, f3, f4, fun i hi => ?_⟩
  · by_cases e : c' = c
    · rw [if_pos e, if_pos ⟨e, by omega⟩, if_pos rfl]
    · rw [if_neg e, if_neg (fun hh => e hh.1)]; exact f1
  · by_cases e : c' = c
    · rw [if_pos e, if_pos ⟨e, by omega⟩, if_neg (by omega)]
    · rw [if_neg e, if_neg (fun hh => e hh.1)]; exact f2
  · rw [h c' (4 + i) hc', if_neg (by omega)]; exact f5 i hi
theorem c_rtDo_l {σ0 : gSt} {t n K : Nat} {kp : Nat → Nat → Int32} {u v x y a m : Int32} (ht : t < 2) (hL : ∀ c, c < n → inL (kp c 0) ∧ inL (kp c 1)) (P : pts u v x y) (T : RT σ0 K u v x y) (hK : 17 ≤ K) (hm : mnt a t) (z : gSt) : ∀ (d i f : Nat) (σ1 : gSt), i + d = n → d < f → FT σ1 (tB 1 t) n (rtRow kp u v x y i) → (∀ c, (c < tB 1 t ∨ tB 1 t + 5 < c) → σ1 c = σ0 c) →
    ∃ σ', f_X1_retimeCaptions_l2 a K (nI t) z (tB 1 t) f (nI i) (rtC kp u v x y m i) σ1 = some (rtC kp u v x y m n, σ') ∧ FT σ' (tB 1 t) n (rtRow kp u v x y n) ∧ ∀ c, (c < tB 1 t ∨ tB 1 t + 5 < c) → σ' c = σ0 c := by
  have bT := (tB_le ht).2
  obtain ⟨T0, T1, T2, T3⟩ := T
  intro d
  induction d with
  | zero =>
    intro i f σ1 hi hf F hfr
    obtain ⟨f, rfl⟩ : ∃ m, f = m + 1 := ⟨f - 1, by omega⟩
    obtain rfl : i = n := by omega
    exact ⟨σ1, by rw [f_X1_retimeCaptions_l2, F.1, if_pos (Int32.le_refl _)], F, hfr⟩
  | succ d ih =>
    intro i f σ1 hi hf F hfr
    obtain ⟨f, rfl⟩ : ∃ m, f = m + 1 := ⟨f - 1, by omega⟩
    have hc : i < n := by omega
    have h16 := F.2.1
    have eK := hfr K (by omega)
    have q0 := (hL i hc).1
    have q1 := (hL i hc).2
    have E0 : f_X8_first σ1 (tB 1 t) (nI i) = some (kp i 0) := by rw [c_first F hc, rtRow_ge (Nat.le_refl _)]
    have E1 : f_X8_end σ1 (tB 1 t) (nI i) = some (kp i 1) := by rw [c_end F hc, rtRow_ge (Nat.le_refl _)]
    obtain ⟨σ', e1, e2, e3⟩ := ih (i + 1) f (up2 (up2 σ1 (tB 1 t + 1) i (sRt u v x y (kp i 0))) (tB 1 t + 2) i (sRt u v x y (kp i 1))) (by omega) (by omega) (F.set2 (fun c' w _ => by
      rw [rtRow_s]
      by_cases h : c' = i ∧ w < 2
      · rw [if_pos h, if_pos h, h.1]
        rcases (show w = 0 ∨ w = 1 by omega) with rfl | rfl
        · rw [if_pos rfl]
        · rw [if_neg (by omega)]
      · rw [if_neg h, if_neg h])) (fun c h => by rw [up2_k (by omega), up2_k (by omega)]; exact hfr c h)
    refine ⟨σ', ?_, e2, e3⟩
    rw [f_X1_retimeCaptions_l2, F.1, if_neg (nI_ge hc (by omega)), c_isMeant, k1s, b01_t hm, if_neg (by decide), E0, k1s, c_frameFor P q0 (by rw [eK]; exact T0) (by rw [eK]; exact T1) (by rw [eK]; exact T2) (by rw [eK]; exact T3), k1s, E1, k1s, c_frameFor P q1 (by rw [eK]; exact T0) (by rw [eK]; exact T1) (by rw [eK]; exact T2) (by rw [eK]; exact T3), k1s, k1s, dif_c, k1s, c_setFrames F.1 F.2.1 hc, k1s, nI_s1]
    exact e1
theorem m_rtDo_s {σ0 σ1 : gSt} {t i f : Nat} {u v x y a m : Int32} (ht : t < 2) (hc : i < 16) (P : pts u v x y) (z : gSt) {g0 : Nat → Int32} {A B : Int32} (hA : A = gK (σ1 1) t i 0) (hB : B = gK (σ1 1) t i 1) (q0 : inL A) (q1 : inL B) {R : Option (Int32 × gSt)}
    (e : f_X10_retime_l4 a u v x y (nI t) z f (nI (i + 1)) (m + dif A B (sRt u v x y A) (sRt u v x y B)) (up2 (up2 σ1 1 (aT t i 0) (sRt u v x y A)) 1 (aT t i 1) (sRt u v x y B)) = R) :
    (g_k1 (f_X10_first σ1 (nI t) (nI i)) fun v68 => (g_k1 (f_X10_retimed σ1 v68 u v x y) fun v69 => (g_k1 (f_X10_end σ1 (nI t) (nI i)) fun v70 => (g_k1 (f_X10_retimed σ1 v70 u v x y) fun v71 => (g_k1 (f_X10_first σ1 (nI t) (nI i)) fun v72 => (g_k1 (if v69 = v72 then (g_k1 (f_X10_end σ1 (nI t) (nI i)) fun v81 => (if v71 = v81 then some (0 : Int32) else some (1 : Int32))) else some (1 : Int32)) fun x73 => (g_k1 (f_X10_at σ1 (nI t) (nI i) (0 : Int32)) fun v76 => (g_k1 (gast σ1 1 926 v76 v69) fun σ77 => (g_k1 (f_X10_at σ77 (nI t) (nI i) (1 : Int32)) fun v78 => (g_k1 (gast σ77 1 926 v78 v71) fun σ79 => (f_X10_retime_l4 a u v x y (nI t) z f (nI i + 1) (m + x73) σ79))))))))))) = R := by
  subst hA hB
  rw [m_first ht hc, k1s, m_retimed P q0, k1s, m_end ht hc, k1s, m_retimed P q1, k1s, k1s, dif_m, k1s, m_at0, k1s, show nI (30 + 28 * (16 * t + i) + 0) = nI (aT t i 0) from rfl, m_put ht hc (by omega), k1s, m_at1, k1s, show nI (30 + 28 * (16 * t + i) + 1) = nI (aT t i 1) from rfl, m_put ht hc (by omega), k1s, nI_s1]
  exact e
theorem m_rtDo_l {σ0 : gSt} {t n : Nat} {u v x y a m : Int32} (ht : t < 2) (h5 : σ0 1 (28 + t) = nI n) (hn : n ≤ 16) (hL : ∀ c, c < n → inL (gK (σ0 1) t c 0) ∧ inL (gK (σ0 1) t c 1)) (P : pts u v x y) (hm : mnt a t) (z : gSt) : ∀ (d i f : Nat) (σ1 : gSt), i + d = n → d < f → (∀ c w, c < 16 → w < 28 → gK (σ1 1) t c w = rtRow (gK (σ0 1) t) u v x y i c w) → offT (σ0 1) (σ1 1) t → σ1 1 (28 + t) = nI n → (∀ c, c ≠ 1 → σ1 c = σ0 c) →
    ∃ σ', f_X10_retime_l4 a u v x y (nI t) z f (nI i) (rtC (gK (σ0 1) t) u v x y m i) σ1 = some (rtC (gK (σ0 1) t) u v x y m n, σ') ∧ (∀ c w, c < 16 → w < 28 → gK (σ' 1) t c w = rtRow (gK (σ0 1) t) u v x y n c w) ∧ offT (σ0 1) (σ' 1) t ∧ σ' 1 (28 + t) = nI n ∧ ∀ c, c ≠ 1 → σ' c = σ0 c := by
  intro d
  induction d with
  | zero =>
    intro i f σ1 hi hf h1 h2 h3 h4
    obtain ⟨f, rfl⟩ : ∃ m, f = m + 1 := ⟨f - 1, by omega⟩
    obtain rfl : i = n := by omega
    exact ⟨σ1, by rw [f_X10_retime_l4, m_cnt ht, k1s, h3, if_pos (Int32.le_refl _)], h1, h2, h3, h4⟩
  | succ d ih =>
    intro i f σ1 hi hf h1 h2 h3 h4
    obtain ⟨f, rfl⟩ : ∃ m, f = m + 1 := ⟨f - 1, by omega⟩
    have hc : i < n := by omega
    have hc6 : i < 16 := by omega
    have q0 := (hL i hc).1
    have q1 := (hL i hc).2
    have hA : gK (σ0 1) t i 0 = gK (σ1 1) t i 0 := by rw [h1 i 0 hc6 (by omega), rtRow_ge (Nat.le_refl _)]
    have hB : gK (σ0 1) t i 1 = gK (σ1 1) t i 1 := by rw [h1 i 1 hc6 (by omega), rtRow_ge (Nat.le_refl _)]
    obtain ⟨σ', e1, e2⟩ := ih (i + 1) f (up2 (up2 σ1 1 (aT t i 0) (sRt u v x y (gK (σ0 1) t i 0))) 1 (aT t i 1) (sRt u v x y (gK (σ0 1) t i 1))) (by omega) (by omega) (fun c w hc' hw => by
      rw [gK_put hc6 (by omega) _ hc' hw, gK_put hc6 (by omega) _ hc' hw, h1 c w hc' hw, rtRow_s]
      by_cases h : c = i
      · subst h
        rcases (show w = 0 ∨ w = 1 ∨ 2 ≤ w by omega) with rfl | rfl | h
        · rw [if_neg (by omega), if_pos ⟨rfl, rfl⟩, if_pos ⟨rfl, by omega⟩]
        · rw [if_pos ⟨rfl, rfl⟩, if_pos ⟨rfl, by omega⟩]
        · rw [if_neg (by omega), if_neg (by omega), if_neg (by omega)]
      · rw [if_neg (fun hh => h hh.1), if_neg (fun hh => h hh.1), if_neg (fun hh => h hh.1)])
      ((h2.trans (offT.put ht hc6 (show 0 < 28 by omega) rfl _)).trans (offT.put ht hc6 (show 1 < 28 by omega) rfl _))
      (by rw [up2_j (by unfold aT; omega), up2_j (by unfold aT; omega)]; exact h3) (fun c h => by rw [up2_k h, up2_k h]; exact h4 c h)
    refine ⟨σ', ?_, e2⟩
    have e := m_rtDo_s (σ0 := σ0) (g0 := σ0 1) ht hc6 P z hA hB q0 q1 (a := a) (m := rtC (gK (σ0 1) t) u v x y m i) (f := f) e1
    rw [f_X10_retime_l4, m_cnt ht, k1s, h3, if_neg (nI_ge hc (by omega))]
    by_cases h : a < 0
    · rw [if_pos h]; exact e
    · rw [if_neg h, if_pos (show a = nI t from hm.resolve_left (fun hh => h (by rw [hh]; decide)))]; exact e
theorem rtRow_ok {len u v x y : Int32} {n : Nat} {kp : Nat → Nat → Int32} (K : tOK len n kp) (hL : ∀ c, c < n → inL (kp c 0) ∧ inL (kp c 1)) (P : pts u v x y) (h0 : ∀ c, c < n → rtF len kp u v x y c = 0) : tOK len n (rtRow kp u v x y n) := by
  obtain ⟨k1', k2', k3'⟩ := K
  refine ⟨k1', fun c hc => ?_, fun c hc => ?_⟩
  · obtain ⟨a, b, d, f, g, i⟩ := k2' c hc
    obtain ⟨r1, r2, r3⟩ := rsn_0 (h0 c hc)
    unfold capOK
    rw [rtRow_lt hc (by omega), rtRow_lt hc (by omega), rtRow_w (by omega), rtRow_w (by omega)]
    exact ⟨r1, r3, r2, f, g, txtOK_congr (fun j hj => (rtRow_w (by omega)).symm) i⟩
  · rw [rtRow_lt (by omega) (by omega), rtRow_lt hc (by omega)]
    exact sRt_mono P (hL c (by omega)).2 (hL (c + 1) hc).1 (k3' c hc)
/-- one track: both sides do the same, what is meant or nothing -/
theorem rtDo_t {σ τ : gSt} (Z : FI σ τ) {K t : Nat} {u v x y a m : Int32} (ht : t < 2) (P : pts u v x y) (T : RT σ K u v x y) (hK : 17 ≤ K) (ha : a = -1 ∨ ∃ t', t' < 2 ∧ a = nI t') (h0 : mnt a t → ∀ c, c < nT (τ 1) t → rtF (τ 1 0) (gK (τ 1) t) u v x y c = 0) (z z' : gSt) :
    ∃ σ' τ' r, f_X1_retimeCaptions_l2 a K (nI t) z (tB 1 t) FU 0 m σ = some (r, σ') ∧ f_X10_retime_l4 a u v x y (nI t) z' FU 0 m τ = some (r, τ') ∧ FI σ' τ' ∧ (∀ c, (c < tB 1 t ∨ tB 1 t + 5 < c) → σ' c = σ c) ∧ (∀ c, c ≠ 1 → τ' c = τ c) ∧ offT (τ 1) (τ' 1) t := by
  have hF := FU_ge
  obtain ⟨F, I⟩ := id Z
  have h16 := I.n16 ht
  have F1 := F.trk ht
  by_cases hm : mnt a t
  · have hL : ∀ c, c < nT (τ 1) t → inL (gK (τ 1) t c 0) ∧ inL (gK (τ 1) t c 1) := fun c hc => ⟨I.in0 ht hc, I.in1 ht hc⟩
    have r0 : ∀ c w, rtRow (gK (τ 1) t) u v x y 0 c w = gK (τ 1) t c w := fun c w => rtRow_ge (by omega) w
    obtain ⟨σ', e1, e2, e3⟩ := c_rtDo_l (σ0 := σ) (m := m) ht hL P T hK hm z (nT (τ 1) t) 0 FU σ (by omega) (by omega) (F1.congr (I.s24 ht) (fun c _ w _ => (r0 c w).symm)) (fun _ _ => rfl)
    obtain ⟨τ', d1, d2, d3, d4, d5⟩ := m_rtDo_l (σ0 := τ) (m := m) ht (I.nT_eq ht) h16 hL P hm z' (nT (τ 1) t) 0 FU τ (by omega) (by omega) (fun c w _ _ => (r0 c w).symm) (offT.refl _ _) (I.nT_eq ht) (fun _ _ => rfl)
    exact ⟨σ', τ', _, e1, d1, Z.track ht e2 (fun c w h1 h2 => d2 c w (by omega) h2) d4 d3 (fun c _ _ h => e3 c h) (rtRow_ok (I.tOK ht) hL P (h0 hm)), e3, d5, d3⟩
  · obtain ⟨f, hf⟩ : ∃ f, FU = f + 1 := ⟨FU - 1, by omega⟩
    obtain ⟨t', ht', rfl⟩ := ha.resolve_left (fun h => hm (Or.inl h))
    refine ⟨σ, τ, m, ?_, ?_, Z, fun _ _ => rfl, fun _ _ => rfl, offT.refl _ _⟩
    · rw [hf, f_X1_retimeCaptions_l2, c_isMeant, k1s, b01_f hm, if_pos rfl, ite_some]
      split <;> rfl
    · rw [hf, f_X10_retime_l4, m_cnt ht, k1s, I.nT_eq ht, if_neg (nI_pos (by omega)), if_neg (fun h => hm (Or.inr h)), ite_some]
      split <;> rfl
theorem rtDo {σ τ : gSt} (Z : FI σ τ) {K : Nat} {u v x y a : Int32} (P : pts u v x y) (T : RT σ K u v x y) (hK : 17 ≤ K) (ha : a = -1 ∨ ∃ t', t' < 2 ∧ a = nI t') (h0 : ∀ t, t < 2 → mnt a t → ∀ c, c < nT (τ 1) t → rtF (τ 1 0) (gK (τ 1) t) u v x y c = 0) (z : gSt) :
    ∃ σ' τ' r, f_X1_retimeCaptions σ a K = some (r, σ') ∧ f_X10_retime_l3 a u v x y z FU 0 0 τ = some (r, τ') ∧ FI σ' τ' ∧ (∀ c, (c < 1 ∨ 17 ≤ c) → σ' c = σ c) ∧ (∀ c, c ≠ 1 → τ' c = τ c) := by
  have hF := FU_ge
  obtain ⟨f, hf⟩ : ∃ f, FU = f + 3 := ⟨FU - 3, by omega⟩
  have b0 := (tB_le (t := 0) (by omega))
  have b1 := (tB_le (t := 1) (by omega))
  obtain ⟨σ1, τ1, r1, e1, e2, Z1, f1, f2, o1⟩ := rtDo_t (m := 0) (t := 0) Z (by omega) P T hK ha (h0 0 (by omega)) σ τ
  have n1 : nT (τ1 1) 1 = nT (τ 1) 1 := by unfold nT; rw [o1.1 29 (by omega) (by omega)]
  have T1 : RT σ1 K u v x y := by unfold RT; rw [f1 K (by omega)]; exact T
  have I := Z.2
  have h16 := I.n16 (t := 1) (by omega)
  obtain ⟨σ2, τ2, r2, d1, d2, Z2, g1, g2, o2⟩ := rtDo_t (m := r1) (t := 1) Z1 (by omega) P T1 hK ha (fun hm c hc => by
    rw [n1] at hc
    unfold rtF
    rw [o1.1 0 (by omega) (by omega), o1.2 c 0 (by omega) (by omega), o1.2 c 1 (by omega) (by omega)]
    exact h0 1 (by omega) hm c hc) σ1 τ1
  refine ⟨σ2, τ2, r2, ?_, ?_, Z2, fun c h => ?_, fun c h => ?_⟩
  · unfold f_X1_retimeCaptions
    have e : f_X1_retimeCaptions_l1 σ a K (f + 3) 0 0 σ = some (r2, σ2) := by
      rw [show f + 3 = (f + 2) + 1 from rfl, f_X1_retimeCaptions_l1, if_neg (by decide), show f_X3_trackOf σ 1 0 = _ from c_trackOf σ 1 (t := 0) (by omega), k1s]
      rw [show f_X1_retimeCaptions_l2 a K 0 σ (tB 1 0) FU 0 0 σ = _ from e1, k2s]
      rw [show f + 2 = (f + 1) + 1 from rfl, f_X1_retimeCaptions_l1, show (0 : Int32) + 1 = nI 1 from rfl, if_neg (by decide), c_trackOf σ1 1 (t := 1) (by omega), k1s, d1, k2s]
      rw [f_X1_retimeCaptions_l1, if_pos (by decide)]
    rw [hf, e, k2s]
  · have e : f_X10_retime_l3 a u v x y z (f + 3) 0 0 τ = some (r2, τ2) := by
      rw [show f + 3 = (f + 2) + 1 from rfl, f_X10_retime_l3, if_neg (by decide)]
      rw [show f_X10_retime_l4 a u v x y 0 τ FU 0 0 τ = _ from e2, k2s]
      rw [show f + 2 = (f + 1) + 1 from rfl, f_X10_retime_l3, show (0 : Int32) + 1 = nI 1 from rfl, if_neg (by decide), d2, k2s]
      rw [f_X10_retime_l3, if_pos (by decide)]
    rw [hf]; exact e
  · rw [g1 c (by omega), f1 c (by omega)]
  · rw [g2 c h, f2 c h]
