/-! ===== what is asked of a desk ===== -/
theorem x2f {α : Type} (x : Nat) (hx : x ≠ 0) (s : gSt) (q : Nat → gSt → α) (k : gSt → Option α) : g_x2 (some (x, s)) q k = some (q x s) := by
  cases x with
  | zero => exact absurd rfl hx
  | succ n => rfl
theorem RR.text {σ σ' τ : gSt} (R : RR σ τ) (x : Int32) (h : ∀ c, c ≠ 18 → c ≠ 19 → σ' c = σ c) : RR σ' (up2 τ 0 10 x) :=
  (R.thr x).fr (fun c hc => h c (by omega) (by omega)) (fun _ _ _ _ _ => rfl) (fun _ _ _ _ _ => rfl)
def spV (k : fK) (t c : Nat) (o : Option Nat) : Int32 := o.elim 0 (sShs k t c)
theorem c_shPart {σ : gSt} {h : fH} {k : fK} (F : FR σ 1 h k) {t c : Nat} (ht : t < 2) (hc : c < nT h t) : f_X2_sharedWithPartner σ (nI t) (nI c) = some (spV k t c (sPt (sShs k t c) (nT h (1 - t)))) := by
  unfold f_X2_sharedWithPartner
  rw [c_partner F ht hc, k1s]
  cases hb : sPt (sShs k t c) (nT h (1 - t)) with
  | none => rfl
  | some b =>
    have hlt := sPt_lt hb
    have hm := (F.trk (t := 1 - t) (by omega)).2.1
    rw [show oI (some b) = nI b from rfl, if_neg (show ¬ nI b = -1 from fun e => nI_pos (n := b) (by omega) (by rw [e]; decide)), c_trackOf σ 1 ht, k1s, c_trackBeside σ 1 ht, k1s, c_first (F.trk ht) hc, k1s, c_end (F.trk ht) hc, k1s, c_shared (F.trk (t := 1 - t) (by omega)) hlt, k1s]
    rfl
theorem m_shPart {σ : gSt} (I : Inv (σ 1) (gK (σ 1))) {t c : Nat} (ht : t < 2) (hc : c < nT (σ 1) t) : (g_k1 (f_X10_partner σ (nI t) (nI c)) fun v29 => (g_k1 (if 0 ≤ v29 then (g_k1 (f_X10_partner σ (nI t) (nI c)) fun v34 => (g_k1 (f_X10_shared σ (nI t) (nI c) v34) fun v35 => some v35)) else some (0 : Int32)) fun x30 => some (x30, σ))) = some (spV (gK (σ 1)) t c (sPt (sShs (gK (σ 1)) t c) (nT (σ 1) (1 - t))), σ) := by
  have h16 := I.n16 ht
  have h162 := I.n16 (t := 1 - t) (by omega)
  rw [m_partner I.trkL ht hc, k1s, k1s]
  cases hb : sPt (sShs (gK (σ 1)) t c) (nT (σ 1) (1 - t)) with
  | none => rfl
  | some b =>
    have hlt := sPt_lt hb
    rw [show oI (some b) = nI b from rfl, if_pos (nI_pos' (by omega)), m_shared ht (by omega) (by omega) (I.in0 (t := 1 - t) (by omega) hlt) (I.in1 (t := 1 - t) (by omega) hlt) (I.in0 ht hc) (I.in1 ht hc), k1s, k1s]
    rfl
theorem call_caption {σ τ : gSt} (R : RR σ τ) (a b q : Int32) : ∃ x r σ' r' τ', f_X9_caption σ a b q = some (x, r, σ') ∧ f_X10_caption τ a b q = some (r', τ') ∧ CR [0, 3, 1] σ' τ' x r r' := by
  rcases capCases R.1 a b with ⟨t, c, ht, hc, rfl, rfl⟩ | ⟨e1, e2⟩
  · have I := R.1.2
    have F := R.1.1
    have h16 := I.n16 ht
    have hc6 : c < 16 := by omega
    have cp := I.cap ht hc
    have FT0 := F.trk ht
    have R0 := R.thr 0
    have t1 : up2 τ 0 10 0 1 = τ 1 := up2_k (by omega)
    have I0 : Inv (up2 τ 0 10 0 1) (gK (up2 τ 0 10 0 1)) := by rw [t1]; exact I
    have hc0 : c < nT (up2 τ 0 10 0 1) t := by rw [t1]; exact hc
    have cp0 := I0.cap ht hc0
    rcases i_cases q 12 (by omega) with ⟨j, hj, rfl⟩ | h
    · have ec : f_X9_caption σ (nI t) (nI c) (nI j) = (if (nI j) = (0 : Int32) then (g_k1 (f_X8_first σ (tB 1 t) (nI c)) fun v5 => some (0, v5, σ)) else (if (nI j) = (1 : Int32) then (g_k1 (f_X8_end σ (tB 1 t) (nI c)) fun v7 => some (0, v7, σ)) else (if (nI j) = (2 : Int32) then (g_k1 (f_X8_kind σ (tB 1 t) (nI c)) fun v9 => some (0, v9, σ)) else (if (nI j) = (3 : Int32) then (g_k1 (f_X8_load σ (tB 1 t) (nI c)) fun v11 => some (0, v11, σ)) else (if (nI j) = (4 : Int32) then (g_k1 (f_X2_needs σ (nI t) (nI c)) fun v13 => some (0, v13, σ)) else (if (nI j) = (5 : Int32) then (g_k1 (f_X2_problems σ (nI t) (nI c)) fun v15 => some (0, v15, σ)) else (if (nI j) = (6 : Int32) then (g_k1 (f_X2_partner σ (nI t) (nI c)) fun v17 => some (0, v17, σ)) else (if (nI j) = (7 : Int32) then (g_k1 (f_X8_size σ (tB 1 t) (nI c)) fun v19 => some (0, v19, σ)) else (if (nI j) = (8 : Int32) then (g_k1 (f_X8_longestLine σ (tB 1 t) (nI c)) fun v21 => some (0, v21, σ)) else (if (nI j) = (9 : Int32) then (g_k1 (f_X2_cutsWithin σ (nI t) (nI c)) fun v23 => some (0, v23, σ)) else (if (nI j) = (10 : Int32) then (g_k1 (f_X8_gapBefore σ (tB 1 t) (nI c)) fun v25 => some (0, v25, σ)) else (if (nI j) = (11 : Int32) then (g_k1 (f_X2_sharedWithPartner σ (nI t) (nI c)) fun v27 => some (0, v27, σ)) else some (1, 0, σ))))))))))))) := by
        unfold f_X9_caption
        rw [c_reqC F ht hc, x2s, c_trackOf σ 1 ht, k1s]
      have em : f_X10_caption τ (nI t) (nI c) (nI j) = (if (nI j) = (3 : Int32) then (g_k1 (f_X10_load (up2 τ 0 10 0) (nI t) (nI c)) fun v8 => some (v8, (up2 τ 0 10 0))) else (if (nI j) = (4 : Int32) then (g_k1 (f_X10_needs (up2 τ 0 10 0) (nI t) (nI c)) fun v10 => some (v10, (up2 τ 0 10 0))) else (if (nI j) = (5 : Int32) then (g_k1 (f_X10_problems (up2 τ 0 10 0) (nI t) (nI c)) fun v12 => some (v12, (up2 τ 0 10 0))) else (if (nI j) = (6 : Int32) then (g_k1 (f_X10_partner (up2 τ 0 10 0) (nI t) (nI c)) fun v14 => some (v14, (up2 τ 0 10 0))) else (if (nI j) = (7 : Int32) then (g_k1 (f_X10_at (up2 τ 0 10 0) (nI t) (nI c) (3 : Int32)) fun v16 => (g_k1 (gald (up2 τ 0 10 0) 1 926 v16) fun v17 => some (v17, (up2 τ 0 10 0)))) else (if (nI j) = (8 : Int32) then (g_k1 (f_X10_longest (up2 τ 0 10 0) (nI t) (nI c)) fun v19 => some (v19, (up2 τ 0 10 0))) else (if (nI j) = (9 : Int32) then (g_k1 (f_X10_cutsWithin (up2 τ 0 10 0) (nI t) (nI c)) fun v21 => some (v21, (up2 τ 0 10 0))) else (if (nI j) = (10 : Int32) then (g_k1 (if (nI c) = 0 then some (-1 : Int32) else (g_k1 (f_X10_before (up2 τ 0 10 0) (nI t) (nI c)) fun v27 => some v27)) fun x23 => some (x23, (up2 τ 0 10 0))) else (if (nI j) = (11 : Int32) then (g_k1 (f_X10_partner (up2 τ 0 10 0) (nI t) (nI c)) fun v29 => (g_k1 (if 0 ≤ v29 then (g_k1 (f_X10_partner (up2 τ 0 10 0) (nI t) (nI c)) fun v34 => (g_k1 (f_X10_shared (up2 τ 0 10 0) (nI t) (nI c) v34) fun v35 => some v35)) else some (0 : Int32)) fun x30 => some (x30, (up2 τ 0 10 0)))) else (g_k1 (f_X10_at (up2 τ 0 10 0) (nI t) (nI c) (nI j)) fun v36 => (g_k1 (gald (up2 τ 0 10 0) 1 926 v36) fun v37 => some (v37, (up2 τ 0 10 0))))))))))))) := by
        unfold f_X10_caption
        rw [m_isCap I ht hc, k1s, if_neg (by decide), m_in, k1s, b01_t ⟨nI_pos' (by omega), show nI j ≤ 11 from nI_le (b := 11) (by omega) (by omega)⟩, if_neg (by decide), k1s, gset_n, k1s, up2_s, if_pos (by decide)]
      have fin : ∀ v, f_X9_caption σ (nI t) (nI c) (nI j) = some (0, v, σ) → f_X10_caption τ (nI t) (nI c) (nI j) = some (v, up2 τ 0 10 0) → ∃ x r σ' r' τ', f_X9_caption σ (nI t) (nI c) (nI j) = some (x, r, σ') ∧ f_X10_caption τ (nI t) (nI c) (nI j) = some (r', τ') ∧ CR [0, 3, 1] σ' τ' x r r' :=
        fun v h1 h2 => ⟨0, v, σ, v, up2 τ 0 10 0, h1, h2, R0, CO.z (L := [0, 3, 1]) (up2_s ..) (by decide), fun _ => rfl⟩
      rcases (show j = 0 ∨ j = 1 ∨ j = 2 ∨ j = 3 ∨ j = 4 ∨ j = 5 ∨ j = 6 ∨ j = 7 ∨ j = 8 ∨ j = 9 ∨ j = 10 ∨ j = 11 by omega) with rfl | rfl | rfl | rfl | rfl | rfl | rfl | rfl | rfl | rfl | rfl | rfl
      · refine fin (gK (τ 1) t c 0) (ec.trans ?_) (em.trans ?_)
        · rw [if_pos (by decide), c_first FT0 hc, k1s]
        · rw [if_neg (by decide), if_neg (by decide), if_neg (by decide), if_neg (by decide), if_neg (by decide), if_neg (by decide), if_neg (by decide), if_neg (by decide), if_neg (by decide), m_at, k1s, m_gK ht hc6 (by omega), k1s, t1]
      · refine fin (gK (τ 1) t c 1) (ec.trans ?_) (em.trans ?_)
        · rw [if_neg (by decide), if_pos (by decide), c_end FT0 hc, k1s]
        · rw [if_neg (by decide), if_neg (by decide), if_neg (by decide), if_neg (by decide), if_neg (by decide), if_neg (by decide), if_neg (by decide), if_neg (by decide), if_neg (by decide), m_at, k1s, m_gK ht hc6 (by omega), k1s, t1]
      · refine fin (gK (τ 1) t c 2) (ec.trans ?_) (em.trans ?_)
        · rw [if_neg (by decide), if_neg (by decide), if_pos (by decide), c_kind FT0 hc, k1s]
        · rw [if_neg (by decide), if_neg (by decide), if_neg (by decide), if_neg (by decide), if_neg (by decide), if_neg (by decide), if_neg (by decide), if_neg (by decide), if_neg (by decide), m_at, k1s, m_gK ht hc6 (by omega), k1s, t1]
      · refine fin (sLd (gK (τ 1) t c)) (ec.trans ?_) (em.trans ?_)
        · show g_k1 (f_X8_load σ (tB 1 t) (nI c)) _ = _
          rw [c_load FT0 hc cp.sz, k1s]
        · rw [if_pos (by decide), m_load ht hc6 cp0.sz, k1s, t1]
      · refine fin (sNd (gK (τ 1) t c) (τ 1 1)) (ec.trans ?_) (em.trans ?_)
        · show g_k1 (f_X2_needs σ (nI t) (nI c)) _ = _
          rw [c_needs F ht hc cp.sz I.rd, k1s]
        · show g_k1 (f_X10_needs (up2 τ 0 10 0) (nI t) (nI c)) _ = _
          rw [m_needs ht hc6 cp0.sz I0.rd, k1s, t1]
      · refine fin (sPr (τ 1) (gK (τ 1)) t c) (ec.trans ?_) (em.trans ?_)
        · show g_k1 (f_X2_problems σ (nI t) (nI c)) _ = _
          rw [c_problems F I ht hc, k1s]
        · show g_k1 (f_X10_problems (up2 τ 0 10 0) (nI t) (nI c)) _ = _
          rw [m_problems I0 ht hc0, k1s, t1]
      · refine fin (oI (sPt (sShs (gK (τ 1)) t c) (nT (τ 1) (1 - t)))) (ec.trans ?_) (em.trans ?_)
        · show g_k1 (f_X2_partner σ (nI t) (nI c)) _ = _
          rw [c_partner F ht hc, k1s]
        · show g_k1 (f_X10_partner (up2 τ 0 10 0) (nI t) (nI c)) _ = _
          rw [m_partner I0.trkL ht hc0, k1s, t1]
      · refine fin (gK (τ 1) t c 3) (ec.trans ?_) (em.trans ?_)
        · show g_k1 (f_X8_size σ (tB 1 t) (nI c)) _ = _
          rw [c_size FT0 hc, k1s]
        · rw [if_neg (by decide), if_neg (by decide), if_neg (by decide), if_neg (by decide), if_pos (by decide), m_at3, k1s, m_gK ht hc6 (by omega), k1s, t1]
      · refine fin (sLg (gK (τ 1) t c)) (ec.trans ?_) (em.trans ?_)
        · show g_k1 (f_X8_longestLine σ (tB 1 t) (nI c)) _ = _
          rw [c_longS FT0 hc cp, k1s]
        · show g_k1 (f_X10_longest (up2 τ 0 10 0) (nI t) (nI c)) _ = _
          rw [m_longS ht hc6 cp0, k1s, t1]
      · refine fin (nI (sCw (τ 1) (gK (τ 1)) t c)) (ec.trans ?_) (em.trans ?_)
        · show g_k1 (f_X2_cutsWithin σ (nI t) (nI c)) _ = _
          rw [c_cutsWithin F I.cutL I.trkL ht hc cp.2.1, k1s]; rfl
        · show g_k1 (f_X10_cutsWithin (up2 τ 0 10 0) (nI t) (nI c)) _ = _
          rw [m_cutsWithin I0.cutL ht hc6 (I0.in0 ht hc0) (I0.in1 ht hc0), k1s, t1]; rfl
      · refine fin (if c = 0 then -1 else gK (τ 1) t c 0 - gK (τ 1) t (c - 1) 1) (ec.trans ?_) (em.trans ?_)
        · show g_k1 (f_X8_gapBefore σ (tB 1 t) (nI c)) _ = _
          rw [c_gap FT0 hc, k1s]
        · show g_k1 (if (nI c) = 0 then some (-1 : Int32) else (g_k1 (f_X10_before (up2 τ 0 10 0) (nI t) (nI c)) fun v27 => some v27)) _ = _
          by_cases hz : c = 0
          · subst hz; rfl
          · rw [if_neg (show ¬ nI c = 0 from fun hh => hz ((nI_eq (a := c) (b := 0) (by omega) (by omega)).mp hh)), m_before ht hc6 (by omega), k1s, k1s, if_neg hz, t1]
      · refine fin (spV (gK (τ 1)) t c (sPt (sShs (gK (τ 1)) t c) (nT (τ 1) (1 - t)))) (ec.trans ?_) (em.trans ?_)
        · show g_k1 (f_X2_sharedWithPartner σ (nI t) (nI c)) _ = _
          rw [c_shPart F ht hc, k1s]
        · have := m_shPart I0 ht hc0
          rw [t1] at this
          exact this
    · refine ⟨1, 0, σ, 0, up2 τ 0 10 2, ?_, ?_, R.thr 2, CO.t (L := [0, 3, 1]) (up2_s ..) (by decide), fun h => by omega⟩
      · have hn : ∀ j, j < 12 → ¬ q = nI j := by
          rintro j hj rfl
          rcases h with h | h
          · exact nI_pos (by omega) h
          · exact nI_ge (a := j) (b := 12) (by omega) (by omega) h
        unfold f_X9_caption
        rw [c_reqC F ht hc, x2s, c_trackOf σ 1 ht, k1s, if_neg (show ¬ q = 0 from hn 0 (by omega)), if_neg (show ¬ q = 1 from hn 1 (by omega)), if_neg (show ¬ q = 2 from hn 2 (by omega)), if_neg (show ¬ q = 3 from hn 3 (by omega)), if_neg (show ¬ q = 4 from hn 4 (by omega)), if_neg (show ¬ q = 5 from hn 5 (by omega)), if_neg (show ¬ q = 6 from hn 6 (by omega)), if_neg (show ¬ q = 7 from hn 7 (by omega)), if_neg (show ¬ q = 8 from hn 8 (by omega)), if_neg (show ¬ q = 9 from hn 9 (by omega)), if_neg (show ¬ q = 10 from hn 10 (by omega)), if_neg (show ¬ q = 11 from hn 11 (by omega))]
      · unfold f_X10_caption
        rw [m_isCap I ht hc, k1s, if_neg (by decide), m_in, k1s, b01_f, if_pos rfl, k1s, gset_n, k1s, up2_s, if_neg (by decide)]
        rintro ⟨h1, h2⟩
        have : (nI 12 : Int32) = 12 := rfl
        rw [this] at h
        grind
  · refine ⟨3, 0, σ, 0, up2 τ 0 10 1, ?_, ?_, R.thr 1, CO.o (L := [0, 3, 1]) (up2_s ..) (by decide), fun h => by omega⟩
    · unfold f_X9_caption
      rw [e1]; rfl
    · unfold f_X10_caption
      rw [e2, k1s, if_pos rfl, k1s, gset_n, k1s, up2_s, if_neg (by decide)]
theorem call_letter {σ τ : gSt} (R : RR σ τ) (a b q : Int32) : ∃ x r σ' r' τ', f_X9_letter σ a b q = some (x, r, σ') ∧ f_X10_letter τ a b q = some (r', τ') ∧ CR [0, 3, 5] σ' τ' x r r' := by
  rcases capCases R.1 a b with ⟨t, c, ht, hc, rfl, rfl⟩ | ⟨e1, e2⟩
  · have I := R.1.2
    have F := R.1.1
    have h16 := I.n16 ht
    have hc6 : c < 16 := by omega
    have cp := I.cap ht hc
    have hs2 := cp.sz.2
    have t1 : up2 τ 0 10 0 1 = τ 1 := up2_k (by omega)
    rcases i_cases q (nN (gK (τ 1) t c 3)) (by omega) with ⟨i, hi, rfl⟩ | h
    · refine ⟨0, (((gK (τ 1) t c (4 + i)).toUInt32 % 65536).toInt32), σ, (((gK (τ 1) t c (4 + i)).toUInt32 % 65536).toInt32), up2 τ 0 10 0, ?_, ?_, R.thr 0, CO.z (L := [0, 3, 5]) (up2_s ..) (by decide), fun _ => rfl⟩
      · unfold f_X9_letter
        rw [c_reqC F ht hc, x2s, c_trackOf σ 1 ht, k1s, c_signAt (F.trk ht) hc cp.sz.1 cp.sz.2 hi, k1s, if_neg (cp.ne i hi)]
      · unfold f_X10_letter
        rw [m_isCap I ht hc, k1s, if_neg (by decide), m_at3, k1s, m_g3 ht hc6 cp.sz, k1s, m_in, k1s, nI_sub1 (by omega), b01_t ⟨nI_pos' (by omega), nI_le (by omega) (by omega)⟩, if_neg (by decide), k1s, gset_n, k1s, up2_s, if_pos (by decide), show (4 : Int32) = nI 4 from rfl, nI_add, m_at, k1s, m_gK ht hc6 (by omega), t1, k1s, k1s]
    · refine ⟨5, 0, σ, (((97 : Int32).toUInt32 % 65536).toInt32), up2 τ 0 10 2, ?_, ?_, R.thr 2, CO.t (L := [0, 3, 5]) (up2_s ..) (by decide), fun h => by omega⟩
      · unfold f_X9_letter
        rw [c_reqC F ht hc, x2s, c_trackOf σ 1 ht, k1s, c_signAt_out (F.trk ht) hc (by rw [cp.sz.1]; exact h), k1s, if_pos rfl]
      · unfold f_X10_letter
        rw [m_isCap I ht hc, k1s, if_neg (by decide), m_at3, k1s, m_g3 ht hc6 cp.sz, k1s, m_in, k1s, b01_f, if_pos rfl, k1s, gset_n, k1s, up2_s, if_neg (by decide), k1s]
        rintro ⟨h1, h2⟩
        rcases h with h | h
        · grind
        · rw [nI_sub1 (by have := cp.2.2.2.2.2.1; omega)] at h2
          exact nI_ge (show nN (gK (τ 1) t c 3) - 1 < nN (gK (τ 1) t c 3) by have := cp.2.2.2.2.2.1; omega) (by omega) (Int32.le_trans h h2)
  · refine ⟨3, 0, σ, (((97 : Int32).toUInt32 % 65536).toInt32), up2 τ 0 10 1, ?_, ?_, R.thr 1, CO.o (L := [0, 3, 5]) (up2_s ..) (by decide), fun h => by omega⟩
    · unfold f_X9_letter
      rw [e1]; rfl
    · unfold f_X10_letter
      rw [e2, k1s, if_pos rfl, k1s, gset_n, k1s, up2_s, if_neg (by decide), k1s]
