/-! ===== a caption moves ===== -/
theorem capQ_self {q : Nat → Int32} (hs : szOK q) (a b : Int32) (w : Nat) : capQ (q 2) a b (nN (q 3)) (fun i => q (4 + i)) w = if w = 0 then a else if w = 1 then b else q w := by
  unfold capQ
  by_cases h0 : w = 0
  · rw [if_pos h0, if_pos h0]
  · rw [if_neg h0, if_neg h0]
    by_cases h1 : w = 1
    · rw [if_pos h1, if_pos h1]
    · rw [if_neg h1, if_neg h1]
      by_cases h2 : w = 2
      · rw [if_pos h2, h2]
      · rw [if_neg h2]
        by_cases h3 : w = 3
        · rw [if_pos h3, h3]; exact hs.1.symm
        · rw [if_neg h3]
          show q (4 + (w - 4)) = q w
          rw [show 4 + (w - 4) = w by omega]
theorem moveDo {σ τ : gSt} (Z : FI σ τ) {t c : Nat} {a b : Int32} (ht : t < 2) (hc : c < nT (τ 1) t) (h0 : sPlc (τ 1) (gK (τ 1)) t (nI c) a b = 0) :
    ∃ r σ' τ', f_X1_placeCaption σ (nI t) (nI c) a b = some (nI r, σ') ∧ f_X10_moves τ (nI t) (nI c) a b = some (nI r, τ') ∧ FI σ' τ' ∧ (∀ c, c = 0 ∨ (25 ≤ c ∧ c ≤ 188) → σ' c = σ c) ∧ ∀ c, c ≠ 1 → c ≠ 5 → τ' c = τ c := by
  have I := Z.2
  have h16 := I.n16 ht
  have bT := (tB_le ht).2
  have bT1 := (tB_le ht).1
  have cp := I.cap ht hc
  have hs2 := cp.sz.2
  obtain ⟨q1, q2, q3, q4⟩ := sPlc_0 h0
  have hd : ∀ j, j ≤ 5 → tB 1 t + j ≠ 21 ∧ tB 1 t + j ≠ 21 + 1 := fun j hj => ⟨by omega, by omega⟩
  obtain ⟨s3, e3, T3, f3⟩ := c_clear (σ := σ) 21
  have F3 : FT s3 (tB 1 t) (nT (τ 1) t) (gK (τ 1) t) := (Z.1.trk ht).frame (fun j hj => f3 _ (by omega))
  obtain ⟨s5, e5, T5, f5⟩ := c_textTo (c := c) (p := 0) (q := nN (gK (τ 1) t c 3)) F3 (T3 (fun _ => 0)) hc cp.sz.1 cp.sz.2 (by omega) (Nat.le_refl _) (by omega) hd cp.ne
  have X5 : TX s5 21 (nN (gK (τ 1) t c 3)) (fun i => gK (τ 1) t c (4 + i)) := by
    rw [show 0 + (nN (gK (τ 1) t c 3) - 0) = nN (gK (τ 1) t c 3) by omega] at T5
    exact T5.congr (fun i hi => by simp)
  have F5 : FT s5 (tB 1 t) (nT (τ 1) t) (gK (τ 1) t) := F3.frame (fun j hj => f5 _ (hd j hj).1 (hd j hj).2)
  obtain ⟨s6, e6, F6, f6⟩ := c_close F5 (I.s24 ht) hc
  obtain ⟨τ1, m1, w1, g1⟩ := m_owns (σ := τ) ht (show c < 16 by omega)
  have r1 : τ1 1 = τ 1 := g1 1 (by omega)
  obtain ⟨τ2, m2, g2, o2, n2, k2⟩ := m_takes (σ := τ1) ht (by rw [r1]; exact I.nT_eq ht) h16 hc
  rw [r1] at o2 k2
  let τ4 := up2 (up2 τ2 5 0 a) 5 1 b
  have g4 : ∀ c, c ≠ 5 → τ4 c = τ2 c := fun c h => by
    show up2 (up2 τ2 5 0 a) 5 1 b c = _
    rw [up2_k h, up2_k h]
  have r4 : τ4 1 = τ2 1 := g4 1 (by omega)
  have Z6 : FI s6 τ4 := by
    refine Z.track ht F6 (fun c w h1 h2 => by rw [r4]; exact k2 c w h1 h2) (by rw [r4]; exact n2) (by rw [r4]; exact o2) (fun c h1 h2 h3 => ?_) (dRow_ok (I.tOK ht) hc)
    rw [f6 c h3, f5 c (by omega) (by omega), f3 c (by omega)]
  have X6 : TX s6 21 (nN (gK (τ 1) t c 3)) (fun i => gK (τ 1) t c (4 + i)) := X5.frame (f6 21 (by omega)) (f6 22 (by omega))
  have nT6 : nT (τ4 1) t = nT (τ 1) t - 1 := by unfold nT; rw [r4, n2, nN_nI (by omega)]; rfl
  have l6 : τ4 1 0 = τ 1 0 := by rw [r4]; exact o2.1 0 (by omega) (by omega)
  have k6 : ∀ i w, i < nT (τ 1) t - 1 → w < 28 → gK (τ4 1) t i w = dRow (gK (τ 1) t) c i w := fun i w h1 h2 => by rw [r4]; exact k2 i w h1 h2
  have v5 : ∀ w, w < 28 → τ4 5 w = capQ (gK (τ 1) t c 2) a b (nN (gK (τ 1) t c 3)) (fun i => gK (τ 1) t c (4 + i)) w := by
    intro w hw
    rw [capQ_self cp.sz]
    show up2 (up2 τ2 5 0 a) 5 1 b 5 w = _
    rw [up2_ap, up2_ap, g2 5 (by omega), w1 w hw]
    by_cases h0 : w = 0
    · subst h0; rfl
    · by_cases h1 : w = 1
      · subst h1; rfl
      · rw [if_neg (fun hh => h1 hh.2), if_neg (fun hh => h0 hh.2), if_neg h0, if_neg h1]
  have hnv : ∀ i, i < nT (τ 1) t → i ≠ c → ¬ (a < gK (τ 1) t i 1 ∧ gK (τ 1) t i 0 < b) := fun i hi hne hh => q4 ⟨i, hi, fun e => hne ((nI_eq (by omega) (by omega)).mp e), hh.1, hh.2⟩
  obtain ⟨r, σ', τ', a1, a2, a3, a4, a5⟩ := insDo Z6 ht (by rw [nT6]; omega) X6 hs2 (by omega) (by rw [l6]; exact capQ_ok q1 q3 q2 cp.2.2.2.1 cp.2.2.2.2.2) v5 (fun i hi => by
    rw [nT6] at hi
    rw [k6 i 1 hi (by omega), k6 i 0 hi (by omega)]
    unfold dRow
    by_cases h1 : i < c
    · rw [if_pos h1]; exact hnv i (by omega) (by omega)
    · rw [if_neg h1]; exact hnv (i + 1) (by omega) (by omega))
  refine ⟨r, σ', τ', ?_, ?_, a3, fun c hc => ?_, fun c c1 c5 => ?_⟩
  · unfold f_X1_placeCaption
    rw [c_trackOf σ 1 ht, k1s, c_kind (Z.1.trk ht) hc, k1s, e3, k1s, c_sizeN F3 hc cp.sz, k1s, show f_X8_appendTextTo s3 (tB 1 t) 21 (nI c) 0 (nI (nN (gK (τ 1) t c 3))) = _ from e5, k1s, e6, k1s, a1, k2s]
  · unfold f_X10_moves
    rw [m1, k1s, m2, k1s, gset_n, k1s, gset_n, k1s]
    show g_k2 (f_X10_puts τ4 (nI t)) _ = _
    rw [a2, k2s]
  · rw [a4 c (by omega), f6 c (by omega), f5 c (by omega) (by omega), f3 c (by omega)]
  · rw [a5 c c1, g4 c c5, g2 c c1, g1 c c5]
theorem call_move {σ τ : gSt} (R : RR σ τ) (a b p q : Int32) : ∃ x r σ' r' τ', f_X9_move σ a b p q = some (x, r, σ') ∧ f_X10_move τ a b p q = some (r', τ') ∧ CR [0, 3, 2] σ' τ' x r r' := by
  rcases capCases R.1 a b with ⟨t, c, ht, hc, rfl, rfl⟩ | ⟨e1, e2⟩
  · have Z := R.1
    have t1 : up2 τ 0 10 0 1 = τ 1 := up2_k (by omega)
    have I0 : Inv (up2 τ 0 10 0 1) (gK (up2 τ 0 10 0 1)) := by rw [t1]; exact Z.2
    have ec : f_X9_move σ (nI t) (nI c) p q = (g_x2 (f_X9_passOrRefuse σ (sPlc (τ 1) (gK (τ 1)) t (nI c) p q)) (fun x s => (x, (0 : Int32), s)) fun σ5 => (g_k1 (f_X4_keep σ5 1) fun σ6 => (g_k2 (f_X1_placeCaption σ6 (nI t) (nI c) p q) fun v7 σ8 => some (0, v7, σ8)))) := by
      unfold f_X9_move
      rw [c_reqC Z.1 ht hc, x2s, c_place Z.1 Z.2 ht, k1s]
    have em : f_X10_move τ (nI t) (nI c) p q = (if sPlc (τ 1) (gK (τ 1)) t (nI c) p q ≤ 0 then (g_k1 (f_X10_changes (up2 τ 0 10 0) 1) fun σ9 => (g_k2 (f_X10_moves σ9 (nI t) (nI c) p q) fun v10 σ11 => some (v10, σ11))) else (g_k2 (f_X10_refuses (up2 τ 0 10 0) (2 : Int32) (sPlc (τ 1) (gK (τ 1)) t (nI c) p q)) fun v12 σ13 => some (v12, σ13))) := by
      unfold f_X10_move
      rw [m_isCap Z.2 ht hc, k1s, if_neg (by decide), k1s, gset_n, k1s, up2_s, if_pos (by decide), m_place I0 ht, k1s, t1]
    by_cases h0 : sPlc (τ 1) (gK (τ 1)) t (nI c) p q = 0
    · obtain ⟨σ1, τ1, k1', k2', R1, fs, fs2, t0, tcc⟩ := keepRR (R.thr 0)
      have g1 : τ1 1 = τ 1 := by rw [tcc 1 (by omega) (by omega), t1]
      obtain ⟨r, σ2, τ2, a1, a2, a3, a4, a5⟩ := moveDo R1.1 (a := p) (b := q) ht (c := c) (by rw [g1]; exact hc) (by rw [g1]; exact h0)
      refine ⟨0, nI r, σ2, nI r, τ2, ?_, ?_, R1.film2 a3 a4 a5, CO.z (L := [0, 3, 2]) (by rw [a5 0 (by omega) (by omega), t0 10 (by omega), up2_s]) (by decide), fun _ => rfl⟩
      · rw [ec, h0, c_pass0, x2s, k1', k1s, a1, k2s]
      · rw [em, h0, if_pos (by decide), k2', k1s, a2, k2s]
    · obtain ⟨σ1, τ1, k1', k2', R1, t10⟩ := (R.thr 0).ref (sPlc (τ 1) (gK (τ 1)) t (nI c) p q) 2
      refine ⟨2, 0, σ1, 0, τ1, ?_, ?_, R1, CO.t (L := [0, 3, 2]) t10 (by decide), fun h => by omega⟩
      · rw [ec, c_passv h0 k1', x2f 2 (by omega)]
      · rw [em, if_neg (fun hh => h0 ((le0 (sPlc_nn ..)).mp hh)), k2', k2s]
  · refine ⟨3, 0, σ, 0, up2 τ 0 10 1, ?_, ?_, R.thr 1, CO.o (L := [0, 3, 2]) (up2_s ..) (by decide), fun h => by omega⟩
    · unfold f_X9_move
      rw [e1]; rfl
    · unfold f_X10_move
      rw [e2, k1s, if_pos rfl, k1s, gset_n, k1s, up2_s, if_neg (by decide)]
/-! ===== a caption snaps ===== -/
noncomputable def sSn (h : fH) (x : Int32) : Int32 := if b01 (hLo h x) = 0 then x else oC (sNr (hCut h) x (nC h))
theorem c_snapped {σ : gSt} {h : fH} {k : fK} (F : FR σ 1 h k) (C : cutL h) {x : Int32} (hx : inL x) : f_X1_snapped σ x = some (sSn h x) := by
  unfold f_X1_snapped sSn
  rw [c_isLoose F C hx, k1s, show f_X0_nearest σ (1 + 2) x = _ from c_nearest (F.fc C) C.2.2 x]
  simp only [k1s, ite_some]
theorem m_snapped {σ : gSt} (I : Inv (σ 1) (gK (σ 1))) {x : Int32} (hx : inL x) {e : Option Int32} (he : e = some x) : (if b01 (hLo (σ 1) x) = 0 then (g_k1 e fun v39 => some v39) else (g_k1 e fun v40 => (g_k1 (f_X10_nearest σ v40) fun v41 => some v41))) = some (sSn (σ 1) x) := by
  subst he
  unfold sSn
  by_cases h : hLo (σ 1) x
  · have h0 : 0 < nC (σ 1) := by
      obtain ⟨⟨i, hi, -⟩, -⟩ := h
      omega
    rw [b01_t h, if_neg (by decide), if_neg (by decide), k1s, m_nearest I.cutL hx h0, k1s]
  · rw [b01_f h, if_pos rfl, if_pos rfl, k1s]
theorem call_snap {σ τ : gSt} (R : RR σ τ) (a b : Int32) : ∃ x r σ' r' τ', f_X9_snap σ a b = some (x, r, σ') ∧ f_X10_snap τ a b = some (r', τ') ∧ CR [0, 3, 2] σ' τ' x r r' := by
  rcases capCases R.1 a b with ⟨t, c, ht, hc, rfl, rfl⟩ | ⟨e1, e2⟩
  · have Z := R.1
    have h16 := Z.2.n16 ht
    have hc6 : c < 16 := by omega
    have t1 : up2 τ 0 10 0 1 = τ 1 := up2_k (by omega)
    have I0 : Inv (up2 τ 0 10 0 1) (gK (up2 τ 0 10 0 1)) := by rw [t1]; exact Z.2
    have q0 := Z.2.in0 ht hc
    have q1 := Z.2.in1 ht hc
    have hf : f_X10_first (up2 τ 0 10 0) (nI t) (nI c) = some (gK (τ 1) t c 0) := by rw [m_first ht hc6, t1]
    have hg : f_X10_end (up2 τ 0 10 0) (nI t) (nI c) = some (gK (τ 1) t c 1) := by rw [m_end ht hc6, t1]
    have la := m_isLoose I0.cutL I0.zone q0
    have lb := m_isLoose I0.cutL I0.zone q1
    have sa := m_snapped I0 q0 hf
    have sb := m_snapped I0 q1 hg
    rw [t1] at la lb sa sb
    have ec : f_X9_snap σ (nI t) (nI c) = (g_x2 (f_X9_passOrRefuse σ (sPlc (τ 1) (gK (τ 1)) t (nI c) (sSn (τ 1) (gK (τ 1) t c 0)) (sSn (τ 1) (gK (τ 1) t c 1)))) (fun x s => (x, (0 : Int32), s)) fun σ5 => (g_k1 (f_X4_keep σ5 1) fun σ6 => (g_k2 (f_X1_snapCaption σ6 (nI t) (nI c)) fun v7 σ8 => some (0, v7, σ8)))) := by
      unfold f_X9_snap f_X1_snapRefusal
      rw [c_reqC Z.1 ht hc, x2s, c_trackOf σ 1 ht, k1s, c_first (Z.1.trk ht) hc, k1s, c_snapped Z.1 Z.2.cutL q0, k1s, c_end (Z.1.trk ht) hc, k1s, c_snapped Z.1 Z.2.cutL q1, k1s, c_place Z.1 Z.2 ht, k1s, k1s]
    have em : f_X10_snap τ (nI t) (nI c) = (if sPlc (τ 1) (gK (τ 1)) t (nI c) (sSn (τ 1) (gK (τ 1) t c 0)) (sSn (τ 1) (gK (τ 1) t c 1)) ≤ 0 then (g_k1 (f_X10_changes (up2 τ 0 10 0) 1) fun σ19 => (g_k1 (f_X10_first σ19 (nI t) (nI c)) fun v20 => (g_k1 (if sSn (τ 1) (gK (τ 1) t c 0) = v20 then some (0 : Int32) else some (1 : Int32)) fun x21 => (g_k1 (f_X10_end σ19 (nI t) (nI c)) fun v24 => (g_k1 (if sSn (τ 1) (gK (τ 1) t c 1) = v24 then some (0 : Int32) else some (2 : Int32)) fun x25 => (g_k2 (f_X10_moves σ19 (nI t) (nI c) (sSn (τ 1) (gK (τ 1) t c 0)) (sSn (τ 1) (gK (τ 1) t c 1))) fun v28 σ29 => some ((x21 + x25), σ29))))))) else (g_k2 (f_X10_refuses (up2 τ 0 10 0) (2 : Int32) (sPlc (τ 1) (gK (τ 1)) t (nI c) (sSn (τ 1) (gK (τ 1) t c 0)) (sSn (τ 1) (gK (τ 1) t c 1)))) fun v32 σ33 => some (v32, σ33))) := by
      unfold f_X10_snap
      rw [m_isCap Z.2 ht hc, k1s, if_neg (by decide), k1s, gset_n, k1s, up2_s, if_pos (by decide)]
      rw [show (g_k1 (f_X10_first (up2 τ 0 10 0) (nI t) (nI c)) : (Int32 → Option (Int32 × gSt)) → _) = fun k => k (gK (τ 1) t c 0) from by rw [hf]; rfl]
      show (g_k1 (f_X10_isLoose (up2 τ 0 10 0) (gK (τ 1) t c 0)) _) = _
      rw [la, k1s, sa, k1s]
      rw [show (g_k1 (f_X10_end (up2 τ 0 10 0) (nI t) (nI c)) : (Int32 → Option (Int32 × gSt)) → _) = fun k => k (gK (τ 1) t c 1) from by rw [hg]; rfl]
      show (g_k1 (f_X10_isLoose (up2 τ 0 10 0) (gK (τ 1) t c 1)) _) = _
      rw [lb, k1s, sb, k1s, m_place I0 ht, k1s, t1]
    by_cases h0 : sPlc (τ 1) (gK (τ 1)) t (nI c) (sSn (τ 1) (gK (τ 1) t c 0)) (sSn (τ 1) (gK (τ 1) t c 1)) = 0
    · obtain ⟨σ1, τ1, k1', k2', R1, fs, fs2, t0, tcc⟩ := keepRR (R.thr 0)
      have g1 : τ1 1 = τ 1 := by rw [tcc 1 (by omega) (by omega), t1]
      have Z1 := R1.1
      have F1 : FR σ1 1 (τ 1) (gK (τ 1)) := by have := Z1.1; rw [g1] at this; exact this
      obtain ⟨r, σ2, τ2, a1, a2, a3, a4, a5⟩ := moveDo Z1 (a := sSn (τ 1) (gK (τ 1) t c 0)) (b := sSn (τ 1) (gK (τ 1) t c 1)) ht (c := c) (by rw [g1]; exact hc) (by rw [g1]; exact h0)
      refine ⟨0, (if sSn (τ 1) (gK (τ 1) t c 0) = gK (τ 1) t c 0 then 0 else 1) + (if sSn (τ 1) (gK (τ 1) t c 1) = gK (τ 1) t c 1 then 0 else 2), σ2, (if sSn (τ 1) (gK (τ 1) t c 0) = gK (τ 1) t c 0 then 0 else 1) + (if sSn (τ 1) (gK (τ 1) t c 1) = gK (τ 1) t c 1 then 0 else 2), τ2, ?_, ?_, R1.film2 a3 a4 a5, CO.z (L := [0, 3, 2]) (by rw [a5 0 (by omega) (by omega), t0 10 (by omega), up2_s]) (by decide), fun _ => rfl⟩
      · rw [ec, h0, c_pass0, x2s, k1', k1s]
        unfold f_X1_snapCaption
        rw [c_trackOf σ1 1 ht, k1s, c_first (F1.trk ht) hc, k1s, c_snapped F1 Z.2.cutL q0, k1s, c_end (F1.trk ht) hc, k1s, c_snapped F1 Z.2.cutL q1, k1s, k1s, ite_some, k1s, k1s, ite_some, k1s, a1, k2s, k2s]
      · rw [em, h0, if_pos (by decide), k2', k1s, m_first ht hc6, k1s, g1, ite_some, k1s, m_end ht hc6, k1s, g1, ite_some, k1s, a2, k2s]
    · obtain ⟨σ1, τ1, k1', k2', R1, t10⟩ := (R.thr 0).ref (sPlc (τ 1) (gK (τ 1)) t (nI c) (sSn (τ 1) (gK (τ 1) t c 0)) (sSn (τ 1) (gK (τ 1) t c 1))) 2
      refine ⟨2, 0, σ1, 0, τ1, ?_, ?_, R1, CO.t (L := [0, 3, 2]) t10 (by decide), fun h => by omega⟩
      · rw [ec, c_passv h0 k1', x2f 2 (by omega)]
      · rw [em, if_neg (fun hh => h0 ((le0 (sPlc_nn ..)).mp hh)), k2', k2s]
  · refine ⟨3, 0, σ, 0, up2 τ 0 10 1, ?_, ?_, R.thr 1, CO.o (L := [0, 3, 2]) (up2_s ..) (by decide), fun h => by omega⟩
    · unfold f_X9_snap
      rw [e1]; rfl
    · unfold f_X10_snap
      rw [e2, k1s, if_pos rfl, k1s, gset_n, k1s, up2_s, if_neg (by decide)]
