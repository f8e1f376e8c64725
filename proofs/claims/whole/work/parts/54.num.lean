/-! ===== the call retime ===== -/
theorem c_isPoint (σ : gSt) (a : Int32) : f_X9_isPointFrame σ a = some (b01 (inL a)) := by
  unfold f_X9_isPointFrame inL
  by_cases h1 : a < 0
  · rw [if_pos h1, k1s, gz0, k1s, b01_f (by grind)]
  · rw [if_neg h1]
    by_cases h2 : 9999 < a
    · rw [if_pos h2, k1s, gz0, k1s, b01_f (by grind)]
    · rw [if_neg h2, k1s, gz1, k1s, b01_t (by grind)]
theorem c_arePoints (σ : gSt) (u v x y : Int32) : f_X9_arePoints σ u v x y = some (b01 (pts u v x y)) := by
  unfold f_X9_arePoints
  rw [c_isPoint, c_isPoint, c_isPoint, c_isPoint]
  simp only [k1s]
  by_cases h1 : inL u
  · rw [b01_t h1, if_neg (by decide)]
    by_cases h2 : inL v
    · rw [b01_t h2, if_neg (by decide)]
      by_cases h3 : inL x
      · rw [b01_t h3, if_neg (by decide)]
        by_cases h4 : inL y
        · rw [b01_t h4, if_neg (by decide)]
          by_cases h5 : u = x
          · rw [if_pos h5, k1s, gz0, k1s, b01_f (fun h => h.2.2.2.2.1 h5)]
          · rw [if_neg h5]
            by_cases h6 : v = y
            · rw [if_pos h6, k1s, gz0, k1s, b01_f (fun h => h.2.2.2.2.2.1 h6)]
            · rw [if_neg h6]
              have hx : u < x ↔ ¬ x ≤ u := by grind
              have hy : v < y ↔ ¬ y ≤ v := by grind
              by_cases h7 : x ≤ u
              · rw [if_pos h7, k1s]
                by_cases h8 : y ≤ v
                · rw [if_pos h8, k1s, if_pos rfl, k1s, gz1, k1s, b01_t ⟨h1, h2, h3, h4, h5, h6, by rw [hx, hy]; simp [h7, h8]⟩]
                · rw [if_neg h8, k1s, if_neg (by decide), k1s, gz0, k1s, b01_f (fun h => by have := h.2.2.2.2.2.2; rw [hx, hy] at this; simp [h7, h8] at this)]
              · rw [if_neg h7, k1s]
                by_cases h8 : y ≤ v
                · rw [if_pos h8, k1s, if_neg (by decide), k1s, gz0, k1s, b01_f (fun h => by have := h.2.2.2.2.2.2; rw [hx, hy] at this; simp [h7, h8] at this)]
                · rw [if_neg h8, k1s, if_pos rfl, k1s, gz1, k1s, b01_t ⟨h1, h2, h3, h4, h5, h6, by rw [hx, hy]; simp [h7, h8]⟩]
        · rw [b01_f h4, if_pos rfl, b01_f (fun h => h4 h.2.2.2.1)]
      · rw [b01_f h3, if_pos rfl, b01_f (fun h => h3 h.2.2.1)]
    · rw [b01_f h2, if_pos rfl, b01_f (fun h => h2 h.2.1)]
  · rw [b01_f h1, if_pos rfl, b01_f (fun h => h1 h.1)]
theorem m_inL (σ : gSt) (x : Int32) : f_X10_in σ x 0 9999 = some (b01 (inL x)) := m_in ..
noncomputable def ptsK (u v x y : Int32) : Int32 := if b01 (pts u v x y) = 0 then 2 else 0
theorem m_points (σ : gSt) (u v x y : Int32) : (g_k1 (f_X10_in σ u (0 : Int32) (9999 : Int32)) fun v104 => (if v104 = 0 then some (2 : Int32) else (g_k1 (f_X10_in σ v (0 : Int32) (9999 : Int32)) fun v106 => (if v106 = 0 then some (2 : Int32) else (g_k1 (f_X10_in σ x (0 : Int32) (9999 : Int32)) fun v108 => (if v108 = 0 then some (2 : Int32) else (g_k1 (f_X10_in σ y (0 : Int32) (9999 : Int32)) fun v110 => (if v110 = 0 then some (2 : Int32) else (if u = x then some (2 : Int32) else (if v = y then some (2 : Int32) else (g_k1 (if x ≤ u then some (0 : Int32) else some (1 : Int32)) fun x114 => (g_k1 (if y ≤ v then some (0 : Int32) else some (1 : Int32)) fun x117 => (if x114 = x117 then some (0 : Int32) else some (2 : Int32)))))))))))))) = some (ptsK u v x y) := by
  unfold ptsK
  rw [m_inL, m_inL, m_inL, m_inL]
  simp only [k1s, ite_some]
  congr 1
  by_cases h1 : inL u
  · rw [b01_t h1, if_neg (by decide)]
    by_cases h2 : inL v
    · rw [b01_t h2, if_neg (by decide)]
      by_cases h3 : inL x
      · rw [b01_t h3, if_neg (by decide)]
        by_cases h4 : inL y
        · rw [b01_t h4, if_neg (by decide)]
          by_cases h5 : u = x
          · rw [if_pos h5, b01_f (fun h => h.2.2.2.2.1 h5)]; rfl
          · rw [if_neg h5]
            by_cases h6 : v = y
            · rw [if_pos h6, b01_f (fun h => h.2.2.2.2.2.1 h6)]; rfl
            · rw [if_neg h6]
              have hx : u < x ↔ ¬ x ≤ u := by grind
              have hy : v < y ↔ ¬ y ≤ v := by grind
              by_cases h7 : x ≤ u
              · rw [if_pos h7]
                by_cases h8 : y ≤ v
                · rw [if_pos h8, if_pos rfl, b01_t ⟨h1, h2, h3, h4, h5, h6, by rw [hx, hy]; simp [h7, h8]⟩]; rfl
                · rw [if_neg h8, if_neg (by decide), b01_f (fun h => by have := h.2.2.2.2.2.2; rw [hx, hy] at this; simp [h7, h8] at this)]; rfl
              · rw [if_neg h7]
                by_cases h8 : y ≤ v
                · rw [if_pos h8, if_neg (by decide), b01_f (fun h => by have := h.2.2.2.2.2.2; rw [hx, hy] at this; simp [h7, h8] at this)]; rfl
                · rw [if_neg h8, if_pos rfl, b01_t ⟨h1, h2, h3, h4, h5, h6, by rw [hx, hy]; simp [h7, h8]⟩]; rfl
        · rw [b01_f h4, if_pos rfl, b01_f (fun h => h4 h.2.2.2.1)]; rfl
      · rw [b01_f h3, if_pos rfl, b01_f (fun h => h3 h.2.2.1)]; rfl
    · rw [b01_f h2, if_pos rfl, b01_f (fun h => h2 h.2.1)]; rfl
  · rw [b01_f h1, if_pos rfl, b01_f (fun h => h1 h.1)]; rfl
theorem rtW_c {σ : gSt} {u v x y : Int32} {c : Nat} (h : c ≠ 202) : rtW σ u v x y c = σ c := by unfold rtW; rw [up2_k h, up2_k h, up2_k h, up2_k h]
theorem rtW_T (σ : gSt) (u v x y : Int32) : RT (rtW σ u v x y) 202 u v x y := by
  refine ⟨?_, ?_, ?_, ?_⟩
  · unfold rtW; rw [up2_j (by omega), up2_j (by omega), up2_j (by omega), up2_s]
  · unfold rtW; rw [up2_j (by omega), up2_j (by omega), up2_s]
  · unfold rtW; rw [up2_j (by omega), up2_s]; rfl
  · unfold rtW; rw [up2_s]; rfl
theorem call_retime_b {σ τ : gSt} (R : RR σ τ) {a : Int32} (ha : a = -1 ∨ ∃ t, t < 2 ∧ a = nI t) (u v x y : Int32) : ∃ z r σ' r' τ', f_X9_retime_b σ a u v x y = some (z, r, σ') ∧ f_X10_retime τ a u v x y = some (r', τ') ∧ CR [0, 3, 1, 2] σ' τ' z r r' ∧ σ' 191 = σ 191 := by
  have hin : f_X10_in τ a (-1) 1 = some 1 := by
    rw [m_in, b01_t]
    rcases ha with rfl | ⟨t, ht, rfl⟩
    · decide
    · rcases (show t = 0 ∨ t = 1 by omega) with rfl | rfl <;> decide
  have em : f_X10_retime τ a u v x y = (if up2 τ 0 10 (ptsK u v x y) 0 10 ≤ 0 then (g_k1 (f_X10_retime_l1 a u v x y (up2 τ 0 10 (ptsK u v x y)) FU (0 : Int32) (0 : Int32)) fun r9 => (if r9 ≤ 0 then (g_k1 (f_X10_changes (up2 τ 0 10 (ptsK u v x y)) 1) fun σ53 => (g_k2 (f_X10_retime_l3 a u v x y σ53 FU (0 : Int32) (0 : Int32) σ53) fun r57 σ58 => some (r57, σ58))) else (g_k2 (f_X10_refuses (up2 τ 0 10 (ptsK u v x y)) (3 : Int32) r9) fun v101 σ102 => some (v101, σ102)))) else some ((0 : Int32), up2 τ 0 10 (ptsK u v x y))) := by
    unfold f_X10_retime
    rw [hin, k1s, if_neg (by decide), m_points, k1s, gset_n, k1s]
  by_cases hp : pts u v x y
  · have e0 : ptsK u v x y = 0 := by unfold ptsK; rw [b01_t hp, if_neg (by decide)]
    rw [e0] at em
    have Z := R.1
    have t1 : up2 τ 0 10 0 1 = τ 1 := up2_k (by omega)
    have I0 : Inv (up2 τ 0 10 0 1) (gK (up2 τ 0 10 0 1)) := by rw [t1]; exact Z.2
    have Rw : RR (rtW σ u v x y) (up2 τ 0 10 0) := (R.thr 0).fr (fun c hc => rtW_c (by omega)) (fun _ _ _ _ _ => rfl) (fun _ _ _ _ _ => rfl)
    have Fw : FR (rtW σ u v x y) 1 (τ 1) (gK (τ 1)) := by have := Rw.1.1; rw [t1] at this; exact this
    have ec : f_X9_retime_b σ a u v x y = (g_x2 (f_X9_passOrRefuse (rtW σ u v x y) (rtN (τ 1) (gK (τ 1)) u v x y a)) (fun x s => (x, (0 : Int32), s)) fun σ2 => (g_k1 (f_X4_keep σ2 1) fun σ3 => (g_k2 (f_X1_retimeCaptions σ3 a 202) fun r σ4 => some (0, r, σ4)))) := by
      unfold f_X9_retime_b
      rw [c_arePoints, k1s, b01_t hp, if_neg (by decide), c_rtRef Fw Z.2 hp (rtW_T σ u v x y), k1s]
    have em2 := m_rtRef I0 hp ha
    rw [t1] at em2
    rw [up2_s, if_pos (by decide), em2, k1s] at em
    have h3 : t3 (rtN (τ 1) (gK (τ 1)) u v x y a) := rtR_3 (rtR_3 (Or.inl rfl))
    by_cases h0 : rtN (τ 1) (gK (τ 1)) u v x y a = 0
    · obtain ⟨σ1, τ1, k1', k2', R1, fs, fs2, t0, tcc⟩ := keepRR Rw
      have g1 : τ1 1 = τ 1 := by rw [tcc 1 (by omega) (by omega), t1]
      obtain ⟨q1, q2⟩ := rtR_0 (rtR_3 (Or.inl rfl)) h0
      obtain ⟨-, q3⟩ := rtR_0 (Or.inl rfl) q1
      obtain ⟨σ2, τ2, r, a1, a2, a3, a4, a5⟩ := rtDo R1.1 (K := 202) hp (by unfold RT; rw [fs2 202 (by omega)]; exact rtW_T σ u v x y) (by omega) ha (fun t ht hm c hc => by
        rw [g1] at hc ⊢
        rcases (show t = 0 ∨ t = 1 by omega) with rfl | rfl
        · exact q3 hm c hc
        · exact q2 hm c hc) τ1
      refine ⟨0, r, σ2, r, τ2, ?_, ?_, ⟨R1.film a3 a4 a5, CO.z (L := [0, 3, 1, 2]) (by rw [a5 0 (by omega), t0 10 (by omega), up2_s]) (by decide), fun _ => rfl⟩, ?_⟩
      · rw [ec, h0, c_pass0, x2s, k1', k1s, a1, k2s]
      · rw [em, h0, if_pos (by decide), k2', k1s, a2, k2s]
      · rw [a4 191 (by omega), fs2 191 (by omega), rtW_c (by omega)]
    · obtain ⟨σ1, τ1, k1', k2', R1, t10⟩ := Rw.ref (rtN (τ 1) (gK (τ 1)) u v x y a) 3
      refine ⟨2, 0, σ1, 0, τ1, ?_, ?_, ⟨R1, CO.d (L := [0, 3, 1, 2]) t10 (by decide), fun h => by omega⟩, ?_⟩
      · rw [ec, c_passv h0 k1', x2f 2 (by omega)]
      · rw [em, if_neg (fun hh => h0 (by rcases h3 with h | h | h <;> rw [h] at hh ⊢ <;> first | rfl | (exact absurd hh (by decide)))), k2', k2s]
      · unfold f_X9_keepRefusal at k1'
        rw [gset_n, k1s, gset_n, k1s] at k1'
        cases k1'
        rw [up2_k (by omega), up2_k (by omega), rtW_c (by omega)]
  · have e0 : ptsK u v x y = 2 := by unfold ptsK; rw [b01_f hp, if_pos rfl]
    rw [e0, up2_s, if_neg (by decide)] at em
    refine ⟨1, 0, σ, 0, up2 τ 0 10 2, ?_, em, ⟨R.thr 2, CO.t (L := [0, 3, 1, 2]) (up2_s ..) (by decide), fun h => by omega⟩, rfl⟩
    unfold f_X9_retime_b
    rw [c_arePoints, k1s, b01_f hp, if_pos rfl]
theorem call_retime {σ τ : gSt} (R : RR σ τ) (a u v x y : Int32) : ∃ z r σ' r' τ', f_X9_retime σ a u v x y = some (z, r, σ') ∧ f_X10_retime τ a u v x y = some (r', τ') ∧ CR [0, 3, 1, 2] σ' τ' z r r' ∧ σ' 191 = σ 191 := by
  by_cases h1 : a = -1
  · obtain ⟨z, r, σ', r', τ', e1, e2⟩ := call_retime_b R (Or.inl h1) u v x y
    refine ⟨z, r, σ', r', τ', ?_, e2⟩
    unfold f_X9_retime
    rw [if_pos h1]; exact e1
  · rcases trkCases a with ⟨t, ht, rfl⟩ | h
    · obtain ⟨z, r, σ', r', τ', e1, e2⟩ := call_retime_b R (Or.inr ⟨t, ht, rfl⟩) u v x y
      refine ⟨z, r, σ', r', τ', ?_, e2⟩
      unfold f_X9_retime
      rw [if_neg h1, c_reqT ht, x2s]; exact e1
    · refine ⟨3, 0, σ, 0, up2 τ 0 10 1, ?_, ?_, ⟨R.thr 1, CO.o (L := [0, 3, 1, 2]) (up2_s ..) (by decide), fun h => by omega⟩, rfl⟩
      · unfold f_X9_retime
        rw [if_neg h1, c_reqT_f h]; rfl
      · have hin : f_X10_in τ a (-1) 1 = some 0 := by
          rw [m_in, b01_f]
          rintro ⟨p, q⟩
          have e2 : (nI 2 : Int32) = 2 := rfl
          rw [e2] at h
          grind
        unfold f_X10_retime
        rw [hin, k1s, if_pos rfl, k1s, gset_n, k1s, up2_s, if_neg (by decide)]
