theorem trkCases (a : Int32) : (∃ t, t < 2 ∧ a = nI t) ∨ (a < 0 ∨ nI 2 ≤ a) := i_cases a 2 (by omega)
theorem c_hasFrame {σ : gSt} {h : fH} {k : fK} (F : FR σ 1 h k) (a : Int32) : f_X3_hasFrame σ 1 a = some (b01 (0 ≤ a ∧ a < h 0)) := by
  unfold f_X3_hasFrame
  simp only [k1i, k1s, gz0, gz1, F.1]
  by_cases h1 : a < 0
  · rw [if_pos h1, b01_f (by grind)]
  · rw [if_neg h1]
    by_cases h2 : h 0 ≤ a
    · rw [if_pos h2, b01_f (by grind)]
    · rw [if_neg h2, b01_t (by grind)]
theorem call_shown {σ τ : gSt} (R : RR σ τ) (a b : Int32) : ∃ x r σ' r' τ', f_X9_shown σ a b = some (x, r, σ') ∧ f_X10_shown τ a b = some (r', τ') ∧ CR [0, 3, 5] σ' τ' x r r' := by
  have hF := FU_ge
  have I := R.1.2
  have F := R.1.1
  have hl := I.1.1
  rcases trkCases a with ⟨t, ht, rfl⟩ | h
  · have t1 : up2 τ 0 10 0 1 = τ 1 := up2_k (by omega)
    have I0 : Inv (up2 τ 0 10 0 1) (gK (up2 τ 0 10 0 1)) := by rw [t1]; exact I
    have hn := I.n16 ht
    by_cases h1 : 0 ≤ b ∧ b < τ 1 0
    · have em : f_X10_shown τ (nI t) b = match sFd (onB (gK (τ 1) t) b) (nT (τ 1) t) 0 with | none => some (0, up2 (up2 τ 0 10 0) 0 10 2) | some c => some (nI c, up2 τ 0 10 0) := by
        unfold f_X10_shown
        rw [m_isTrack ht, k1s, if_neg (by decide), m_in, k1s, b01_t ⟨h1.1, by grind⟩, if_neg (by decide), k1s, gset_n, k1s, up2_s, if_pos (by decide)]
        have := m_shown_l I0 ht (x := b) (nT (τ 1) t) 0 FU (by rw [t1, Nat.zero_add]) (by omega)
        rw [t1] at this
        exact this
      have ec : f_X9_shown σ (nI t) b = (if oI (sFd (onB (gK (τ 1) t) b) (nT (τ 1) t) 0) = (-1 : Int32) then some (5, 0, σ) else some (0, oI (sFd (onB (gK (τ 1) t) b) (nT (τ 1) t) 0), σ)) := by
        unfold f_X9_shown
        rw [c_reqT ht, x2s, c_hasFrame F, k1s, b01_t h1, if_neg (by decide), c_trackOf σ 1 ht, k1s, c_captionOn (F.trk ht), k1s]
      cases hb : sFd (onB (gK (τ 1) t) b) (nT (τ 1) t) 0 with
      | none =>
        rw [hb] at em ec
        exact ⟨5, 0, σ, 0, up2 (up2 τ 0 10 0) 0 10 2, ec, em, (R.thr 0).thr 2, CO.t (L := [0, 3, 5]) (up2_s ..) (by decide), fun h => by omega⟩
      | some c =>
        rw [hb] at em ec
        have hlt := sFd_lt hb
        rw [show oI (some c) = nI c from rfl, if_neg (show ¬ nI c = -1 from fun e => nI_pos (n := c) (by omega) (by rw [e]; decide))] at ec
        exact ⟨0, nI c, σ, nI c, up2 τ 0 10 0, ec, em, R.thr 0, CO.z (L := [0, 3, 5]) (up2_s ..) (by decide), fun _ => rfl⟩
    · refine ⟨3, 0, σ, 0, up2 τ 0 10 1, ?_, ?_, R.thr 1, CO.o (L := [0, 3, 5]) (up2_s ..) (by decide), fun h => by omega⟩
      · unfold f_X9_shown
        rw [c_reqT ht, x2s, c_hasFrame F, k1s, b01_f h1, if_pos rfl]
      · unfold f_X10_shown
        rw [m_isTrack ht, k1s, if_neg (by decide), m_in, k1s, b01_f (fun hh => h1 ⟨hh.1, by grind⟩), if_pos rfl, k1s, gset_n, k1s, up2_s, if_neg (by decide)]
  · refine ⟨3, 0, σ, 0, up2 τ 0 10 1, ?_, ?_, R.thr 1, CO.o (L := [0, 3, 5]) (up2_s ..) (by decide), fun h => by omega⟩
    · unfold f_X9_shown
      rw [c_reqT_f h]; rfl
    · unfold f_X10_shown
      rw [m_isTrack_f h, k1s, if_pos rfl, k1s, gset_n, k1s, up2_s, if_neg (by decide)]
theorem call_fastest {σ τ : gSt} (R : RR σ τ) (a : Int32) : ∃ x r σ' r' τ', f_X9_fastest σ a = some (x, r, σ') ∧ f_X10_fastest τ a = some (r', τ') ∧ CR [0, 3, 5] σ' τ' x r r' := by
  have hF := FU_ge
  have I := R.1.2
  have F := R.1.1
  have stop : ∀ x : Int32, ¬ x = 0 → f_X10_fastest_l1 a (up2 τ 0 10 x) FU 1 0 = some 0 := by
    intro x hx
    obtain ⟨n, hn⟩ : ∃ n, FU = n + 1 := ⟨FU - 1, by omega⟩
    rw [hn, f_X10_fastest_l1, up2_s, if_neg hx]
  rcases trkCases a with ⟨t, ht, rfl⟩ | h
  · have t1 : up2 τ 0 10 0 1 = τ 1 := up2_k (by omega)
    have I0 : Inv (up2 τ 0 10 0 1) (gK (up2 τ 0 10 0 1)) := by rw [t1]; exact I
    have hn := I.n16 ht
    have ec : f_X9_fastest σ (nI t) = (if oI (sDn (gK (τ 1) t) (nT (τ 1) t)) = (-1 : Int32) then some (5, 0, σ) else some (0, oI (sDn (gK (τ 1) t) (nT (τ 1) t)), σ)) := by
      unfold f_X9_fastest
      rw [c_reqT ht, x2s, c_trackOf σ 1 ht, k1s, c_densest (F.trk ht) (fun c hc => (I.cap ht hc).sz), k1s]
    rcases Nat.eq_zero_or_pos (nT (τ 1) t) with hz | hz
    · refine ⟨5, 0, σ, 0, up2 τ 0 10 2, ?_, ?_, R.thr 2, CO.t (L := [0, 3, 5]) (up2_s ..) (by decide), fun h => by omega⟩
      · rw [ec, hz]; rfl
      · unfold f_X10_fastest
        rw [m_isTrack ht, k1s, if_neg (by decide), m_cnt ht, k1s, I.nT_eq ht, hz, if_pos (by decide), k1s, gset_n, k1s, stop 2 (by decide), k1s]
    · obtain ⟨b, e, hb⟩ := sDn_s (kp := gK (τ 1) t) hz
      have hne : ¬ nI (nT (τ 1) t) = 0 := fun hh => by
        have := (nI_eq (a := nT (τ 1) t) (b := 0) (by omega) (by omega)).mp hh
        omega
      refine ⟨0, nI b, σ, nI b, up2 τ 0 10 0, ?_, ?_, R.thr 0, CO.z (L := [0, 3, 5]) (up2_s ..) (by decide), fun _ => rfl⟩
      · rw [ec, e, show oI (some b) = nI b from rfl, if_neg (show ¬ nI b = -1 from fun e => nI_pos (n := b) (by omega) (by rw [e]; decide))]
      · unfold f_X10_fastest
        have := m_fastest_l I0 ht (up2_s ..) (nT (τ 1) t - 1) 1 FU (by rw [t1]; omega) (by omega) (by omega)
        rw [t1, e] at this
        rw [m_isTrack ht, k1s, if_neg (by decide), m_cnt ht, k1s, I.nT_eq ht, if_neg hne, k1s, gset_n, k1s, show f_X10_fastest_l1 (nI t) (up2 τ 0 10 0) FU 1 0 = some (oI (some b)) from this, k1s]
        rfl
  · refine ⟨3, 0, σ, 0, up2 τ 0 10 1, ?_, ?_, R.thr 1, CO.o (L := [0, 3, 5]) (up2_s ..) (by decide), fun h => by omega⟩
    · unfold f_X9_fastest
      rw [c_reqT_f h]; rfl
    · unfold f_X10_fastest
      rw [m_isTrack_f h, k1s, if_pos rfl, k1s, gset_n, k1s, stop 1 (by decide), k1s]
theorem call_track {σ τ : gSt} (R : RR σ τ) (a q : Int32) : ∃ x r σ' r' τ', f_X9_track σ a q = some (x, r, σ') ∧ f_X10_track τ a q = some (r', τ') ∧ CR [0, 3, 1] σ' τ' x r r' := by
  have I := R.1.2
  have F := R.1.1
  rcases trkCases a with ⟨t, ht, rfl⟩ | h
  · have t1 : up2 τ 0 10 0 1 = τ 1 := up2_k (by omega)
    have I0 : Inv (up2 τ 0 10 0 1) (gK (up2 τ 0 10 0 1)) := by rw [t1]; exact I
    have hsz : ∀ c, c < nT (τ 1) t → szOK (gK (τ 1) t c) := fun c hc => (I.cap ht hc).sz
    rcases i_cases q 9 (by omega) with ⟨j, hj, rfl⟩ | h
    · have fin : ∀ v, f_X9_track σ (nI t) (nI j) = some (0, v, σ) → f_X10_track τ (nI t) (nI j) = some (v, up2 τ 0 10 0) → ∃ x r σ' r' τ', f_X9_track σ (nI t) (nI j) = some (x, r, σ') ∧ f_X10_track τ (nI t) (nI j) = some (r', τ') ∧ CR [0, 3, 1] σ' τ' x r r' :=
        fun v h1 h2 => ⟨0, v, σ, v, up2 τ 0 10 0, h1, h2, R.thr 0, CO.z (L := [0, 3, 1]) (up2_s ..) (by decide), fun _ => rfl⟩
      have hin : b01 (0 ≤ nI j ∧ nI j ≤ 8) = 1 := b01_t ⟨nI_pos' (by omega), show nI j ≤ 8 from nI_le (b := 8) (by omega) (by omega)⟩
      rcases (show j = 0 ∨ j = 1 ∨ j = 2 ∨ j = 3 ∨ j = 4 ∨ j = 5 ∨ j = 6 ∨ j = 7 ∨ j = 8 by omega) with rfl | rfl | rfl | rfl | rfl | rfl | rfl | rfl | rfl
      · refine fin (sA (fun c => gK (τ 1) t c 1 - gK (τ 1) t c 0) 0 (nT (τ 1) t)) ?_ ?_
        · unfold f_X9_track
          rw [c_reqT ht, x2s, if_pos (by decide), c_trackOf σ 1 ht, k1s, c_allFrames (F.trk ht), k1s]
        · unfold f_X10_track
          rw [m_isTrack ht, k1s, if_neg (by decide), m_in, k1s, hin, if_neg (by decide), k1s, gset_n, k1s, up2_s, if_pos (by decide), if_pos (by decide), m_frames I0 ht, k1s, t1]
      · refine fin (sA (fun c => sLd (gK (τ 1) t c)) 0 (nT (τ 1) t)) ?_ ?_
        · unfold f_X9_track
          rw [c_reqT ht, x2s, if_neg (by decide), if_pos (by decide), c_trackOf σ 1 ht, k1s, c_allLoad (F.trk ht) hsz, k1s]
        · unfold f_X10_track
          rw [m_isTrack ht, k1s, if_neg (by decide), m_in, k1s, hin, if_neg (by decide), k1s, gset_n, k1s, up2_s, if_pos (by decide), if_neg (by decide), if_pos (by decide), m_loads I0 ht, k1s, t1]
      · refine fin (sA (fun c => if sPr (τ 1) (gK (τ 1)) t c &&& 1 = 0 then 0 else 1) 0 (nT (τ 1) t)) ?_ ?_
        · unfold f_X9_track
          rw [c_reqT ht, x2s, if_neg (by decide), if_neg (by decide), if_pos (by decide), c_with F I ht, k1s]
        · unfold f_X10_track
          rw [m_isTrack ht, k1s, if_neg (by decide), m_in, k1s, hin, if_neg (by decide), k1s, gset_n, k1s, up2_s, if_pos (by decide), if_neg (by decide), if_neg (by decide), if_pos (by decide), m_with I0 ht, k1s, t1]
      · refine fin (sA (fun c => if sPr (τ 1) (gK (τ 1)) t c &&& 6 = 0 then 0 else 1) 0 (nT (τ 1) t)) ?_ ?_
        · unfold f_X9_track
          rw [c_reqT ht, x2s, if_neg (by decide), if_neg (by decide), if_neg (by decide), if_pos (by decide), c_with F I ht, k1s]
        · unfold f_X10_track
          rw [m_isTrack ht, k1s, if_neg (by decide), m_in, k1s, hin, if_neg (by decide), k1s, gset_n, k1s, up2_s, if_pos (by decide), if_neg (by decide), if_neg (by decide), if_neg (by decide), if_pos (by decide), m_with I0 ht, k1s, t1]
      · refine fin (sA (fun c => if sPr (τ 1) (gK (τ 1)) t c &&& 8 = 0 then 0 else 1) 0 (nT (τ 1) t)) ?_ ?_
        · unfold f_X9_track
          rw [c_reqT ht, x2s, if_neg (by decide), if_neg (by decide), if_neg (by decide), if_neg (by decide), if_pos (by decide), c_with F I ht, k1s]
        · unfold f_X10_track
          rw [m_isTrack ht, k1s, if_neg (by decide), m_in, k1s, hin, if_neg (by decide), k1s, gset_n, k1s, up2_s, if_pos (by decide), if_neg (by decide), if_neg (by decide), if_neg (by decide), if_neg (by decide), if_pos (by decide), show ((8 : Int32) <<< ((nI 4 - (4 : Int32)) &&& 31)) = 8 by decide, m_with I0 ht, k1s, t1]
      · refine fin (sA (fun c => if sPr (τ 1) (gK (τ 1)) t c &&& 16 = 0 then 0 else 1) 0 (nT (τ 1) t)) ?_ ?_
        · unfold f_X9_track
          rw [c_reqT ht, x2s, if_neg (by decide), if_neg (by decide), if_neg (by decide), if_neg (by decide), if_neg (by decide), if_pos (by decide), c_with F I ht, k1s]
        · unfold f_X10_track
          rw [m_isTrack ht, k1s, if_neg (by decide), m_in, k1s, hin, if_neg (by decide), k1s, gset_n, k1s, up2_s, if_pos (by decide), if_neg (by decide), if_neg (by decide), if_neg (by decide), if_neg (by decide), if_neg (by decide), if_pos (by decide), show ((8 : Int32) <<< ((nI 5 - (4 : Int32)) &&& 31)) = 16 by decide, m_with I0 ht, k1s, t1]
      · refine fin (sA (fun c => if sPr (τ 1) (gK (τ 1)) t c &&& 32 = 0 then 0 else 1) 0 (nT (τ 1) t)) ?_ ?_
        · unfold f_X9_track
          rw [c_reqT ht, x2s, if_neg (by decide), if_neg (by decide), if_neg (by decide), if_neg (by decide), if_neg (by decide), if_neg (by decide), if_pos (by decide), c_with F I ht, k1s]
        · unfold f_X10_track
          rw [m_isTrack ht, k1s, if_neg (by decide), m_in, k1s, hin, if_neg (by decide), k1s, gset_n, k1s, up2_s, if_pos (by decide), if_neg (by decide), if_neg (by decide), if_neg (by decide), if_neg (by decide), if_neg (by decide), if_neg (by decide), if_pos (by decide), show ((8 : Int32) <<< ((nI 6 - (4 : Int32)) &&& 31)) = 32 by decide, m_with I0 ht, k1s, t1]
      · refine fin (sA (fun c => if nI (sCw (τ 1) (gK (τ 1)) t c) ≤ 0 then 0 else 1) 0 (nT (τ 1) t)) ?_ ?_
        · unfold f_X9_track
          rw [c_reqT ht, x2s, if_neg (by decide), if_neg (by decide), if_neg (by decide), if_neg (by decide), if_neg (by decide), if_neg (by decide), if_neg (by decide), if_pos (by decide), c_over F I ht, k1s]
        · unfold f_X10_track
          rw [m_isTrack ht, k1s, if_neg (by decide), m_in, k1s, hin, if_neg (by decide), k1s, gset_n, k1s, up2_s, if_pos (by decide), if_neg (by decide), if_neg (by decide), if_neg (by decide), if_neg (by decide), if_neg (by decide), if_neg (by decide), if_neg (by decide), if_pos (by decide), m_over I0 ht, k1s, t1]
      · obtain ⟨σ1, e1, fr⟩ := c_toMerge F I ht
        refine ⟨0, (sA (fun c => if sMg (τ 1) (gK (τ 1)) t c = 0 then 1 else 0) 0 (nT (τ 1) t)), σ1, (sA (fun c => if sMg (τ 1) (gK (τ 1)) t c = 0 then 1 else 0) 0 (nT (τ 1) t)), up2 τ 0 10 0, ?_, ?_, R.text 0 fr, CO.z (L := [0, 3, 1]) (up2_s ..) (by decide), fun _ => rfl⟩
        · unfold f_X9_track
          rw [c_reqT ht, x2s, if_neg (by decide), if_neg (by decide), if_neg (by decide), if_neg (by decide), if_neg (by decide), if_neg (by decide), if_neg (by decide), if_neg (by decide), if_pos (by decide), e1, k2s]
        · unfold f_X10_track
          rw [m_isTrack ht, k1s, if_neg (by decide), m_in, k1s, hin, if_neg (by decide), k1s, gset_n, k1s, up2_s, if_pos (by decide), if_neg (by decide), if_neg (by decide), if_neg (by decide), if_neg (by decide), if_neg (by decide), if_neg (by decide), if_neg (by decide), if_neg (by decide), m_merging I0 ht, k1s, t1]
    · refine ⟨1, 0, σ, 0, up2 τ 0 10 2, ?_, ?_, R.thr 2, CO.t (L := [0, 3, 1]) (up2_s ..) (by decide), fun h => by omega⟩
      · have hn : ∀ j, j < 9 → ¬ q = nI j := by
          rintro j hj rfl
          rcases h with h | h
          · exact nI_pos (by omega) h
          · exact nI_ge (a := j) (b := 9) (by omega) (by omega) h
        unfold f_X9_track
        rw [c_reqT ht, x2s, if_neg (show ¬ q = 0 from hn 0 (by omega)), if_neg (show ¬ q = 1 from hn 1 (by omega)), if_neg (show ¬ q = 2 from hn 2 (by omega)), if_neg (show ¬ q = 3 from hn 3 (by omega)), if_neg (show ¬ q = 4 from hn 4 (by omega)), if_neg (show ¬ q = 5 from hn 5 (by omega)), if_neg (show ¬ q = 6 from hn 6 (by omega)), if_neg (show ¬ q = 7 from hn 7 (by omega)), if_neg (show ¬ q = 8 from hn 8 (by omega))]
      · unfold f_X10_track
        rw [m_isTrack ht, k1s, if_neg (by decide), m_in, k1s, b01_f, if_pos rfl, k1s, gset_n, k1s, up2_s, if_neg (by decide)]
        rintro ⟨h1, h2⟩
        have : (nI 9 : Int32) = 9 := rfl
        rw [this] at h
        grind
  · refine ⟨3, 0, σ, 0, up2 τ 0 10 1, ?_, ?_, R.thr 1, CO.o (L := [0, 3, 1]) (up2_s ..) (by decide), fun h => by omega⟩
    · unfold f_X9_track
      rw [c_reqT_f h]; rfl
    · unfold f_X10_track
      rw [m_isTrack_f h, k1s, if_pos rfl, k1s, gset_n, k1s, up2_s, if_neg (by decide)]
theorem call_number {σ τ : gSt} (R : RR σ τ) (q : Int32) : ∃ x r σ' r' τ', f_X9_number σ q = some (x, r, σ') ∧ f_X10_number τ q = some (r', τ') ∧ CR [0, 1] σ' τ' x r r' := by
  have R0 := R
  obtain ⟨⟨F, I⟩, -, -, ⟨p, nx, H⟩, m, T, h12, -⟩ := R
  have t1 : up2 τ 0 10 0 1 = τ 1 := up2_k (by omega)
  have I0 : Inv (up2 τ 0 10 0 1) (gK (up2 τ 0 10 0 1)) := by rw [t1]; exact I
  rcases i_cases q 14 (by omega) with ⟨j, hj, rfl⟩ | h
  · have fin : ∀ v, f_X9_number σ (nI j) = some (0, v, σ) → f_X10_number τ (nI j) = some (v, up2 τ 0 10 0) → ∃ x r σ' r' τ', f_X9_number σ (nI j) = some (x, r, σ') ∧ f_X10_number τ (nI j) = some (r', τ') ∧ CR [0, 1] σ' τ' x r r' :=
      fun v h1 h2 => ⟨0, v, σ, v, up2 τ 0 10 0, h1, h2, R0.thr 0, CO.z (L := [0, 1]) (up2_s ..) (by decide), fun _ => rfl⟩
    have hin : b01 (0 ≤ nI j ∧ nI j ≤ 13) = 1 := b01_t ⟨nI_pos' (by omega), show nI j ≤ 13 from nI_le (b := 13) (by omega) (by omega)⟩
    by_cases h6 : j < 6
    · have hne : ∀ i, 6 ≤ i → i < 14 → ¬ nI j = nI i := fun i h1 h2 hh => by
        have := (nI_eq (a := j) (b := i) (by omega) (by omega)).mp hh
        omega
      refine fin (τ 1 (1 + j)) ?_ ?_
      · unfold f_X9_number
        rw [if_neg (show ¬ nI j = 6 from hne 6 (by omega) (by omega)), if_neg (show ¬ nI j = 7 from hne 7 (by omega) (by omega)), if_neg (show ¬ nI j = 8 from hne 8 (by omega) (by omega)), if_neg (show ¬ nI j = 9 from hne 9 (by omega) (by omega)), if_neg (show ¬ nI j = 10 from hne 10 (by omega) (by omega)), if_neg (show ¬ nI j = 11 from hne 11 (by omega) (by omega)), if_neg (show ¬ nI j = 12 from hne 12 (by omega) (by omega)), if_neg (show ¬ nI j = 13 from hne 13 (by omega) (by omega)), c_isSetting h6, k1s, if_neg (by decide), c_setting F h6, k1s]
      · unfold f_X10_number
        rw [m_in, k1s, hin, if_neg (by decide), k1s, gset_n, k1s, up2_s, if_pos (by decide), if_neg (show ¬ (6 : Int32) ≤ nI j from nI_ge (b := 6) (a := j) (by omega) (by omega)), show (1 : Int32) = nI 1 from rfl, nI_add, gald_n (by omega) (by omega), k1s, t1]
    · have em : f_X10_number τ (nI j) = (if nI j = (6 : Int32) then some (((up2 τ 0 10 0) 1 0), (up2 τ 0 10 0)) else (if nI j = (7 : Int32) then some (((up2 τ 0 10 0) 1 7), (up2 τ 0 10 0)) else (if nI j = (8 : Int32) then (g_k1 (gald (up2 τ 0 10 0) 1 926 (((28 : Int32) + nI j) - (8 : Int32))) fun v11 => some (v11, (up2 τ 0 10 0))) else (if nI j = (9 : Int32) then (g_k1 (gald (up2 τ 0 10 0) 1 926 (((28 : Int32) + nI j) - (8 : Int32))) fun v13 => some (v13, (up2 τ 0 10 0))) else (if nI j = (10 : Int32) then (g_k1 (f_X10_both (up2 τ 0 10 0) ) fun v15 => some (v15, (up2 τ 0 10 0))) else (if nI j = (11 : Int32) then (g_k1 (f_X10_with (up2 τ 0 10 0) (0 : Int32) (63 : Int32)) fun v17 => (g_k1 (f_X10_with (up2 τ 0 10 0) (1 : Int32) (63 : Int32)) fun v18 => some ((v17 + v18), (up2 τ 0 10 0)))) else (if nI j = (12 : Int32) then some (((up2 τ 0 10 0) 0 5), (up2 τ 0 10 0)) else some (((up2 τ 0 10 0) 0 12), (up2 τ 0 10 0))))))))) := by
        unfold f_X10_number
        rw [m_in, k1s, hin, if_neg (by decide), k1s, gset_n, k1s, up2_s, if_pos (by decide), if_pos (show (6 : Int32) ≤ nI j from nI_le (a := 6) (by omega) (by omega))]
      rcases (show j = 6 ∨ j = 7 ∨ j = 8 ∨ j = 9 ∨ j = 10 ∨ j = 11 ∨ j = 12 ∨ j = 13 by omega) with rfl | rfl | rfl | rfl | rfl | rfl | rfl | rfl
      · refine fin (τ 1 0) ?_ (em.trans ?_)
        · unfold f_X9_number
          rw [if_pos (by decide), F.1]
        · rw [if_pos (by decide), t1]
      · refine fin (τ 1 7) ?_ (em.trans ?_)
        · unfold f_X9_number
          rw [if_neg (by decide), if_pos (by decide), show σ (1 + 2) 1 = τ 1 7 from F.2.2.1]
        · rw [if_neg (by decide), if_pos (by decide), t1]
      · refine fin (τ 1 28) ?_ (em.trans ?_)
        · unfold f_X9_number
          rw [if_neg (by decide), if_neg (by decide), if_pos (by decide), show f_X3_trackOf σ 1 0 = some (tB 1 0) from rfl, k1s, (F.trk (t := 0) (by omega)).1, ← I.nT_eq (t := 0) (by omega)]
        · rw [if_neg (by decide), if_neg (by decide), if_pos (by decide), show ((28 : Int32) + nI 8) - 8 = nI 28 from rfl, gald_n (by omega) (by omega), k1s, t1]
      · refine fin (τ 1 29) ?_ (em.trans ?_)
        · unfold f_X9_number
          rw [if_neg (by decide), if_neg (by decide), if_neg (by decide), if_pos (by decide), show f_X3_trackOf σ 1 1 = some (tB 1 1) from rfl, k1s, (F.trk (t := 1) (by omega)).1, ← I.nT_eq (t := 1) (by omega)]
        · rw [if_neg (by decide), if_neg (by decide), if_neg (by decide), if_pos (by decide), show ((28 : Int32) + nI 9) - 8 = nI 29 from rfl, gald_n (by omega) (by omega), k1s, t1]
      · refine fin (sO (sShs (gK (τ 1)) 0) (nT (τ 1) 1) (nT (τ 1) 0)) ?_ (em.trans ?_)
        · unfold f_X9_number
          rw [if_neg (by decide), if_neg (by decide), if_neg (by decide), if_neg (by decide), if_pos (by decide), c_both F, k1s]
        · rw [if_neg (by decide), if_neg (by decide), if_neg (by decide), if_neg (by decide), if_pos (by decide), m_both I0, k1s, t1]
      · refine fin (sA (fun c => if sPr (τ 1) (gK (τ 1)) 0 c &&& 63 = 0 then 0 else 1) 0 (nT (τ 1) 0) + sA (fun c => if sPr (τ 1) (gK (τ 1)) 1 c &&& 63 = 0 then 0 else 1) 0 (nT (τ 1) 1)) ?_ (em.trans ?_)
        · unfold f_X9_number
          rw [if_neg (by decide), if_neg (by decide), if_neg (by decide), if_neg (by decide), if_neg (by decide), if_pos (by decide), show f_X2_captionsWith σ 0 63 = _ from c_with F I (t := 0) (by omega) 63, k1s, show f_X2_captionsWith σ 1 63 = _ from c_with F I (t := 1) (by omega) 63, k1s]
        · rw [if_neg (by decide), if_neg (by decide), if_neg (by decide), if_neg (by decide), if_neg (by decide), if_pos (by decide), show f_X10_with (up2 τ 0 10 0) 0 63 = _ from m_with I0 (t := 0) (by omega) 63, k1s, show f_X10_with (up2 τ 0 10 0) 1 63 = _ from m_with I0 (t := 1) (by omega) 63, k1s, t1]
      · refine fin (nI p) ?_ (em.trans ?_)
        · unfold f_X9_number
          rw [if_neg (by decide), if_neg (by decide), if_neg (by decide), if_neg (by decide), if_neg (by decide), if_neg (by decide), if_pos (by decide), H.2.2.1]
        · rw [if_neg (by decide), if_neg (by decide), if_neg (by decide), if_neg (by decide), if_neg (by decide), if_neg (by decide), if_pos (by decide), up2_j (by omega), H.2.2.2.2.1]
      · refine fin (nI m) ?_ (em.trans ?_)
        · unfold f_X9_number
          rw [if_neg (by decide), if_neg (by decide), if_neg (by decide), if_neg (by decide), if_neg (by decide), if_neg (by decide), if_neg (by decide), if_pos (by decide), T.1]
        · rw [if_neg (by decide), if_neg (by decide), if_neg (by decide), if_neg (by decide), if_neg (by decide), if_neg (by decide), if_neg (by decide), up2_j (by omega), h12]
  · have hn : ∀ j, j < 14 → ¬ q = nI j := by
      rintro j hj rfl
      rcases h with h | h
      · exact nI_pos (by omega) h
      · exact nI_ge (a := j) (b := 14) (by omega) (by omega) h
    refine ⟨1, 0, σ, 0, up2 τ 0 10 1, ?_, ?_, R0.thr 1, CO.o (L := [0, 1]) (up2_s ..) (by decide), fun h => by omega⟩
    · unfold f_X9_number
      rw [if_neg (show ¬ q = 6 from hn 6 (by omega)), if_neg (show ¬ q = 7 from hn 7 (by omega)), if_neg (show ¬ q = 8 from hn 8 (by omega)), if_neg (show ¬ q = 9 from hn 9 (by omega)), if_neg (show ¬ q = 10 from hn 10 (by omega)), if_neg (show ¬ q = 11 from hn 11 (by omega)), if_neg (show ¬ q = 12 from hn 12 (by omega)), if_neg (show ¬ q = 13 from hn 13 (by omega)), c_isSetting_f (by
        rcases h with h | h
        · exact Or.inl h
        · exact Or.inr (Int32.le_trans (by decide) h)), k1s, if_pos rfl]
    · unfold f_X10_number
      rw [m_in, k1s, b01_f, if_pos rfl, k1s, gset_n, k1s, up2_s, if_neg (by decide)]
      rintro ⟨h1, h2⟩
      have : (nI 14 : Int32) = 14 := rfl
      rw [this] at h
      grind
