theorem RV.other {σ σ' : gSt} {T c r : Nat} {q : Nat → Int32} (h : RV σ T c q) (hcr : c ≠ r) (hq : nN (q 3) ≤ 24) (z1 : ∀ j, j ≠ r → σ' (T + 1) j = σ (T + 1) j) (z2 : ∀ j, j ≠ r → σ' (T + 2) j = σ (T + 2) j) (z3 : ∀ j, j ≠ r → σ' (T + 3) j = σ (T + 3) j) (z4 : ∀ j, j ≠ r → σ' (T + 4) j = σ (T + 4) j) (z5 : ∀ j, (j < 24 * r ∨ 24 * r + 24 ≤ j) → σ' (T + 5) j = σ (T + 5) j) : RV σ' T c q := by
  obtain ⟨q1, q2, q3, q4, q5⟩ := h
  exact ⟨by rw [z1 c hcr]; exact q1, by rw [z2 c hcr]; exact q2, by rw [z3 c hcr]; exact q3, by rw [z4 c hcr]; exact q4, fun i hi => by rw [z5 _ (by omega)]; exact q5 i hi⟩
/-- frames and text of a caption set anew -/
theorem c_reset {σ : gSt} {T n c K m : Nat} {kp : Nat → Nat → Int32} {u : Nat → Int32} {a b : Int32} {q : Nat → Int32} (F : FT σ T n kp) (hs : ∀ c, c < n → nN (kp c 3) ≤ 24) (hc : c < n) (X : TX σ K m u) (hm : m ≤ 24) (hK : ∀ j, j ≤ 5 → K ≠ T + j ∧ K + 1 ≠ T + j) (q0 : q 0 = a) (q1 : q 1 = b) (q2 : q 2 = kp c 2) (q3 : q 3 = nI m) (q4 : ∀ i, i < m → q (4 + i) = u i) :
    ∃ σ1 σ', f_X8_setFrames σ T (nI c) a b = some σ1 ∧ f_X8_setText σ1 T (nI c) K = some σ' ∧ FT σ1 T n (setRow kp c (fun w => if w = 0 then a else if w = 1 then b else kp c w)) ∧ FT σ' T n (setRow kp c q) ∧ ∀ c', (c' < T ∨ T + 5 < c') → σ' c' = σ c' := by
  have hn := F.2.1
  have k1x := hK 1 (by omega)
  have k2x := hK 2 (by omega)
  have h5 : (up2 (up2 σ (T + 1) c a) (T + 2) c b) T 5 = nI n := by rw [up2_k (by omega), up2_k (by omega)]; exact F.1
  have X1 : TX (up2 (up2 σ (T + 1) c a) (T + 2) c b) K m u := X.frame (by rw [up2_k (by omega), up2_k (by omega)]) (by rw [up2_k (by omega), up2_k (by omega)])
  obtain ⟨σ2, e2, b1, b2, b3, b4⟩ := c_setText (c := c) h5 hn hc X1 hm hK
  have y1 : ∀ j, up2 (up2 σ (T + 1) c a) (T + 2) c b (T + 1) j = if j = c then a else σ (T + 1) j := fun j => by rw [up2_k (by omega), up2_ap]; simp
  have y2 : ∀ j, up2 (up2 σ (T + 1) c a) (T + 2) c b (T + 2) j = if j = c then b else σ (T + 2) j := fun j => by rw [up2_ap, up2_k (by omega)]; simp
  have y3 : ∀ w, w ≠ 1 → w ≠ 2 → up2 (up2 σ (T + 1) c a) (T + 2) c b (T + w) = σ (T + w) := fun w h1 h2 => by rw [up2_k (by omega), up2_k (by omega)]
  have z1 : ∀ j, σ2 (T + 1) j = if j = c then a else σ (T + 1) j := fun j => by rw [b4 _ (by omega) (by omega)]; exact y1 j
  have z2 : ∀ j, σ2 (T + 2) j = if j = c then b else σ (T + 2) j := fun j => by rw [b4 _ (by omega) (by omega)]; exact y2 j
  have z3 : σ2 (T + 3) = σ (T + 3) := by rw [b4 _ (by omega) (by omega)]; exact y3 3 (by omega) (by omega)
  have z4 : ∀ j, σ2 (T + 4) j = if j = c then nI m else σ (T + 4) j := fun j => by rw [b1, y3 4 (by omega) (by omega)]
  have z5 : ∀ j, (j < 24 * c ∨ 24 * c + 24 ≤ j) → σ2 (T + 5) j = σ (T + 5) j := fun j hj => by rw [b3 j hj, y3 5 (by omega) (by omega)]
  refine ⟨_, σ2, c_setFrames F.1 hn hc a b, e2, ⟨h5, hn, fun c' hc' => ?_⟩, ⟨?_, hn, fun c' hc' => ?_⟩, fun c' hc' => ?_⟩
  · show RV _ T c' (setRow kp c _ c')
    unfold setRow
    by_cases h : c' = c
    · subst h
      rw [if_pos rfl]
      obtain ⟨f1, f2, f3, f4, f5⟩ := F.2.2 c' hc'
      refine ⟨by rw [y1, if_pos rfl]; rfl, by rw [y2, if_pos rfl]; rfl, by rw [y3 3 (by omega) (by omega)]; exact f3, by rw [y3 4 (by omega) (by omega)]; exact f4, fun i hi => ?_⟩
      rw [y3 5 (by omega) (by omega)]
      show σ (T + 5) (24 * c' + i) = if 4 + i = 0 then a else if 4 + i = 1 then b else kp c' (4 + i)
      rw [if_neg (by omega), if_neg (by omega)]
      exact f5 i hi
    · rw [if_neg h]
      exact RV.other (σ := σ) (F.2.2 c' hc') h (hs c' hc') (fun j hj => by rw [y1, if_neg hj]) (fun j hj => by rw [y2, if_neg hj]) (fun j hj => by rw [y3 3 (by omega) (by omega)]) (fun j hj => by rw [y3 4 (by omega) (by omega)]) (fun j hj => by rw [y3 5 (by omega) (by omega)])
  · rw [b4 T (by omega) (by omega)]; exact h5
  · show RV σ2 T c' (setRow kp c q c')
    unfold setRow
    by_cases h : c' = c
    · subst h
      rw [if_pos rfl]
      obtain ⟨f1, f2, f3, f4, f5⟩ := F.2.2 c' hc'
      refine ⟨by rw [z1, if_pos rfl, q0], by rw [z2, if_pos rfl, q1], by rw [z3, q2]; exact f3, by rw [z4, if_pos rfl, q3], fun i hi => ?_⟩
      rw [q3, nN_nI (by omega)] at hi
      rw [b2 i hi, q4 i hi]
    · rw [if_neg h]
      exact RV.other (σ := σ) (F.2.2 c' hc') h (hs c' hc') (fun j hj => by rw [z1, if_neg hj]) (fun j hj => by rw [z2, if_neg hj]) (fun j hj => by rw [z3]) (fun j hj => by rw [z4, if_neg hj]) z5
  · rw [b4 c' (by omega) (by omega), up2_k (by omega), up2_k (by omega)]
theorem call_merge {σ τ : gSt} (R : RR σ τ) (a b : Int32) : ∃ x r σ' r' τ', f_X9_merge σ a b = some (x, r, σ') ∧ f_X10_merge τ a b = some (r', τ') ∧ CR [0, 3, 2] σ' τ' x r r' := by
  rcases capCases R.1 a b with ⟨t, c, ht, hc, rfl, rfl⟩ | ⟨e1, e2⟩
  · have hF := FU_ge
    have Z := R.1
    have I := Z.2
    have h16 := I.n16 ht
    have t1 : up2 τ 0 10 0 1 = τ 1 := up2_k (by omega)
    have I0 : Inv (up2 τ 0 10 0 1) (gK (up2 τ 0 10 0 1)) := by rw [t1]; exact I
    obtain ⟨s1, m1e, fr1⟩ := c_mergeRef Z.1 I ht hc
    have m2e := m_mergeRef I0 ht (c := c) (by rw [t1]; exact hc)
    rw [t1] at m2e
    have R1 : RR s1 (up2 τ 0 10 0) := R.text 0 fr1
    by_cases h0 : sMg (τ 1) (gK (τ 1)) t c = 0
    · obtain ⟨hne, h24, hb⟩ := sMg_0 h0
      have hc1 : c + 1 < nT (τ 1) t := by omega
      have cp1 := I.cap ht hc
      have cp2 := I.cap ht hc1
      have n1 := cp1.sz.2
      have n2 := cp2.sz.2
      obtain ⟨σ1, τ1, k1', k2', R2, fs, fs2, t0, tcc⟩ := keepRR R1
      have g1 : τ1 1 = τ 1 := by rw [tcc 1 (by omega) (by omega), t1]
      have Z1 := R2.1
      have F1 : FR σ1 1 (τ 1) (gK (τ 1)) := by have := Z1.1; rw [g1] at this; exact this
      have bT := (tB_le ht).2
      have bT1 := (tB_le ht).1
      obtain ⟨σ3, e3, X3, f3⟩ := c_join F1 I ht hc1
      have FT3 : FT σ3 (tB 1 t) (nT (τ 1) t) (gK (τ 1) t) := (F1.trk ht).frame (fun j hj => f3 _ (by omega) (by omega))
      let M := mgRow (gK (τ 1) t c) (gK (τ 1) t (c + 1)) (nN (gK (τ 1) t c 3)) (nN (gK (τ 1) t (c + 1) 3))
      have a0 : M 0 = gK (τ 1) t c 0 := by
        show mgRow _ _ _ _ 0 = _
        unfold mgRow; rw [if_neg (by omega), if_neg (by omega), if_neg (by omega)]
      have a2 : M 2 = gK (τ 1) t c 2 := by
        show mgRow _ _ _ _ 2 = _
        unfold mgRow; rw [if_neg (by omega), if_neg (by omega), if_neg (by omega)]
      have a3 : M 3 = nI (nN (gK (τ 1) t c 3) + 1 + nN (gK (τ 1) t (c + 1) 3)) := by
        show nI (nN (gK (τ 1) t c 3) + nN (gK (τ 1) t (c + 1) 3) + 1) = _
        congr 1; omega
      obtain ⟨σ6, σ7, e6, e7, FT6, FT7, f7⟩ := c_reset (K := 18) FT3 (I.s24 ht) hc X3 (by omega) (fun j hj => ⟨by omega, by omega⟩) (q := M) (b := gK (τ 1) t (c + 1) 1) a0 rfl a2 a3 (fun i hi => mgRow_u _ _ _ _ hi)
      have s7 : ∀ c', c' < nT (τ 1) t → nN (setRow (gK (τ 1) t) c M c' 3) ≤ 24 := fun c' hc' => by
        unfold setRow
        split
        · rw [a3, nN_nI (by omega)]; omega
        · exact I.s24 ht c' hc'
      obtain ⟨σ8, e8, FT8, f8⟩ := c_close FT7 s7 hc1
      -- the reference
      let τa := up2 τ1 1 (aT t c (4 + nN (gK (τ 1) t c 3))) 95
      obtain ⟨τb, eb, fb, ob, nb, kb⟩ := m_merge_l (σ := τ1) (t := t) (c := c) (m1 := nN (gK (τ 1) t c 3)) (m2 := nN (gK (τ 1) t (c + 1) 3)) ht (by omega) h24 τa (nN (gK (τ 1) t (c + 1) 3)) 0 FU τa (by omega) (by omega) (fun c hc => up2_k hc) (offT.put ht (by omega) (by omega) rfl _) (up2_j (by unfold aT; omega)) (fun c' w hc' hw => by
        show gK (up2 τ1 1 (aT t c (4 + nN (gK (τ 1) t c 3))) 95 1) t c' w = _
        rw [gK_put (by omega) (by omega) _ hc' hw]
        by_cases h : c' = c ∧ w = 4 + nN (gK (τ 1) t c 3)
        · rw [if_pos h, if_pos ⟨h.1, by omega, by omega⟩, if_pos h.2]
        · rw [if_neg h, if_neg (fun hh => h ⟨hh.1, by omega⟩)])
      rw [g1] at kb nb
      let τc := up2 τb 1 (aT t c 3) (nI (nN (gK (τ 1) t c 3) + nN (gK (τ 1) t (c + 1) 3) + 1))
      let τd := up2 τc 1 (aT t c 1) (gK (τ 1) t (c + 1) 1)
      have kc : ∀ c' w, c' < 16 → w < 28 → gK (τc 1) t c' w = if c' = c ∧ w = 3 then nI (nN (gK (τ 1) t c 3) + nN (gK (τ 1) t (c + 1) 3) + 1) else gK (τb 1) t c' w := fun c' w h1 h2 => gK_put (by omega) (by omega) _ h1 h2
      have kd : ∀ c' w, c' < 16 → w < 28 → gK (τd 1) t c' w = setRow (gK (τ 1) t) c M c' w := fun c' w h1 h2 => by
        show gK (up2 τc 1 (aT t c 1) (gK (τ 1) t (c + 1) 1) 1) t c' w = _
        rw [gK_put (by omega) (by omega) _ h1 h2, kc c' w h1 h2, kb c' w h1 h2]
        unfold setRow
        by_cases h : c' = c
        · subst h
          rw [if_pos rfl]
          show _ = mgRow _ _ _ _ w
          unfold mgRow
          by_cases w1 : w = 1
          · rw [if_pos ⟨rfl, w1⟩, if_pos w1]
          · rw [if_neg (fun hh => w1 hh.2), if_neg w1]
            by_cases w3 : w = 3
            · rw [if_pos ⟨rfl, w3⟩, if_pos w3]
            · rw [if_neg (fun hh => w3 hh.2), if_neg w3]
              by_cases w4 : 4 + nN (gK (τ 1) t c' 3) ≤ w ∧ w < 4 + nN (gK (τ 1) t c' 3) + 1 + nN (gK (τ 1) t (c' + 1) 3)
              · rw [if_pos ⟨rfl, w4⟩, if_pos w4]
              · rw [if_neg (fun hh => w4 hh.2), if_neg w4]
        · rw [if_neg (fun hh => h hh.1), if_neg (fun hh => h hh.1), if_neg (fun hh => h hh.1), if_neg h]
      have od : offT (τ1 1) (τd 1) t := (ob.trans (offT.put ht (by omega) (by omega) rfl _)).trans (offT.put (σ := τc) ht (by omega) (by omega) rfl _)
      have nd : τd 1 (28 + t) = nI (nT (τ 1) t) := by
        show up2 (up2 τb 1 (aT t c 3) _) 1 (aT t c 1) _ 1 (28 + t) = _
        rw [up2_j (by unfold aT; omega), up2_j (by unfold aT; omega), nb]; exact I.nT_eq ht
      obtain ⟨τe, ee, fe, oe, ne, ke⟩ := m_takes (σ := τd) (c0 := c + 1) ht nd h16 hc1
      have keq : ∀ c' w, c' < nT (τ 1) t - 1 → w < 28 → gK (τe 1) t c' w = dRow (setRow (gK (τ 1) t) c M) (c + 1) c' w := fun c' w h1 h2 => by
        rw [ke c' w h1 h2]
        unfold dRow
        by_cases h : c' < c + 1
        · rw [if_pos h, if_pos h]; exact kd c' w (by omega) h2
        · rw [if_neg h, if_neg h]; exact kd (c' + 1) w (by omega) h2
      have Z8 : FI σ8 τe := Z1.track ht FT8 keq ne (od.trans oe) (fun c' h1 h2 h3 => by rw [f8 c' h3, f7 c' h3, f3 c' (by omega) (by omega)]) (by rw [g1]; exact mg_ok (I.tOK ht) hc1 h24 hb)
      have R8 : RR σ8 τe := R2.film2 Z8 (fun c' hc' => by rw [f8 c' (by omega), f7 c' (by omega), f3 c' (by omega) (by omega)]) (fun c' h1 h2 => by
        rw [fe c' h1]
        show up2 (up2 τb 1 _ _) 1 _ _ c' = _
        rw [up2_k h1, up2_k h1, fb c' h1])
      have hc8 : c < nT (τe 1) t := by unfold nT; rw [ne, nN_nI (by omega)]; omega
      have t8 : τe 0 10 = 0 := by
        rw [fe 0 (by omega)]
        show up2 (up2 τb 1 _ _) 1 _ _ 0 10 = _
        rw [up2_k (by omega), up2_k (by omega), fb 0 (by omega), t0 10 (by omega), up2_s]
      refine ⟨0, sLd (gK (τe 1) t c), σ8, sLd (gK (τe 1) t c), τe, ?_, ?_, R8, CO.z (L := [0, 3, 2]) t8 (by decide), fun _ => rfl⟩
      · unfold f_X9_merge f_X1_mergeCaption
        rw [c_reqC Z.1 ht hc, x2s, m1e, k2s, h0, c_pass0, x2s, k1', k1s, c_trackOf σ1 1 ht, k1s, e3, k2s, c_first FT3 hc, k1s, nI_s1, c_end FT3 hc1, k1s, e6, k1s, e7, k1s, e8, k1s, c_load (Z8.1.trk ht) hc8 (Z8.2.cap ht hc8).sz, k1s, k2s]
      · have hsz1 : szOK (gK (τ1 1) t c) := by rw [g1]; exact cp1.sz
        have hsz2 : szOK (gK (τ1 1) t (c + 1)) := by rw [g1]; exact cp2.sz
        unfold f_X10_merge
        rw [m_isCap I ht hc, k1s, if_neg (by decide), k1s, gset_n, k1s, up2_s, if_pos (by decide), m2e, k1s, h0, if_pos (by decide), k2', k1s, m_at3, k1s, m_g3 ht (by omega) hsz1, k1s, nI_s1 c, m_at3, k1s, m_g3 ht (by omega) hsz2, k1s, g1]
        rw [show (4 : Int32) + nI (nN (gK (τ 1) t c 3)) = nI (4 + nN (gK (τ 1) t c 3)) from by rw [show (4 : Int32) = nI 4 from rfl, nI_add], m_at', k1s, m_put ht (by omega) (by omega), k1s]
        show g_k1 (f_X10_merge_l1 (nI t) (nI c) (nI (nN (gK (τ 1) t c 3))) (nI (nN (gK (τ 1) t (c + 1) 3))) τa FU 0 τa) _ = _
        rw [show f_X10_merge_l1 (nI t) (nI c) (nI (nN (gK (τ 1) t c 3))) (nI (nN (gK (τ 1) t (c + 1) 3))) τa FU 0 τa = some τb from eb, k1s, nI_add, nI_s1, m_at3, k1s]
        rw [show nI (30 + 28 * (16 * t + c) + 3) = nI (aT t c 3) from rfl, m_put ht (by omega) (by omega), k1s]
        show g_k1 (f_X10_at τc (nI t) (nI c) 1) _ = _
        rw [m_at1, k1s, m_end ht (by omega), k1s, kc (c + 1) 1 (by omega) (by omega), if_neg (by omega), kb (c + 1) 1 (by omega) (by omega), if_neg (by omega)]
        rw [show nI (30 + 28 * (16 * t + c) + 1) = nI (aT t c 1) from rfl, m_put ht (by omega) (by omega), k1s]
        show g_k1 (f_X10_takes τd (nI t) (nI (c + 1))) _ = _
        rw [ee, k1s, m_load ht (by omega) (Z8.2.cap ht hc8).sz, k1s]
    · obtain ⟨σ1, τ1, k1', k2', R2, t10⟩ := R1.ref (sMg (τ 1) (gK (τ 1)) t c) 2
      refine ⟨2, 0, σ1, 0, τ1, ?_, ?_, R2, CO.t (L := [0, 3, 2]) t10 (by decide), fun h => by omega⟩
      · unfold f_X9_merge
        rw [c_reqC Z.1 ht hc, x2s, m1e, k2s, c_passv h0 k1', x2f 2 (by omega)]
      · unfold f_X10_merge
        rw [m_isCap I ht hc, k1s, if_neg (by decide), k1s, gset_n, k1s, up2_s, if_pos (by decide), m2e, k1s, if_neg (fun hh => h0 ((le0 (sMg_nn ..)).mp hh)), k2', k2s]
  · refine ⟨3, 0, σ, 0, up2 τ 0 10 1, ?_, ?_, R.thr 1, CO.o (L := [0, 3, 2]) (up2_s ..) (by decide), fun h => by omega⟩
    · unfold f_X9_merge
      rw [e1]; rfl
    · unfold f_X10_merge
      rw [e2, k1s, if_pos rfl, k1s, gset_n, k1s, up2_s, if_neg (by decide)]
