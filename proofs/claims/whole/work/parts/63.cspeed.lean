/-! ===== the call speed ===== -/
theorem sA_bd {f : Nat → Int32} {lo : Int} (h0 : 0 ≤ lo ∧ lo ≤ 1) : ∀ n : Nat, n ≤ 16 → (∀ i, i < n → lo ≤ (f i).toInt ∧ (f i).toInt ≤ 9999) → lo * (n : Int) ≤ (sA f 0 n).toInt ∧ (sA f 0 n).toInt ≤ 9999 * (n : Int) := by
  intro n
  induction n with
  | zero =>
    intro _ _
    have z : (sA f 0 0).toInt = 0 := rfl
    omega
  | succ n ih =>
    intro hn h
    obtain ⟨i1, i2⟩ := ih (by omega) (fun i hi => h i (by omega))
    obtain ⟨h1, h2⟩ := h n (by omega)
    have hb : lo * (n : Int) = 0 ∨ lo * (n : Int) = n := by
      rcases (show lo = 0 ∨ lo = 1 by omega) with e | e
      · left; rw [e]; omega
      · right; rw [e]; omega
    have hb2 : lo * ((n + 1 : Nat) : Int) = lo * (n : Int) + lo := by
      rcases (show lo = 0 ∨ lo = 1 by omega) with e | e <;> rw [e] <;> omega
    have e : (sA f 0 (n + 1)).toInt = (sA f 0 n).toInt + (f n).toInt := by
      show (sA f 0 n + f n).toInt = _
      exact add_i (by omega) (by omega)
    omega
theorem sLd_bd {q : Nat → Int32} (hs : szOK q) : 0 ≤ (sLd q).toInt ∧ (sLd q).toInt ≤ 9999 := by
  have hs2 := hs.2
  have hle := nB_le (fun i => q (4 + i)) (nN (q 3))
  have eL : sLd q = nI (nN (q 3) - nB (fun i => q (4 + i)) (nN (q 3))) := by
    unfold sLd
    rw [← pk_sub hle, ← hs.1]
  rw [eL, nI_toInt (by omega)]
  omega
theorem frm_bd {h : fH} {k : fK} (I : Inv h k) {t : Nat} (ht : t < 2) : ∀ i, i < nT h t → 1 ≤ (k t i 1 - k t i 0).toInt ∧ (k t i 1 - k t i 0).toInt ≤ 9999 := by
  intro i hi
  have a := inL_i (I.in0 ht hi)
  have b := inL_i (I.in1 ht hi)
  have c := Int32.lt_iff_toInt_lt.mp (I.cap ht hi).2.1
  rw [sub_i (by omega) (by omega)]
  omega
theorem call_speed {σ τ : gSt} (R : RR σ τ) (a : Int32) : ∃ x r σ' r' τ', f_X9_speed σ a = some (x, r, σ') ∧ f_X10_speed τ a = some (r', τ') ∧ RR σ' τ' ∧ CO [0, 3, 6] (τ' 0 10) x ∧ (x = 0 → r = r' ∧ FP.dcmp r r = some .eq) := by
  have one : (1 : Int32).toInt = 1 := rfl
  have z : (0 : Int32).toInt = 0 := rfl
  rcases trkCases a with ⟨t, ht, rfl⟩ | h
  · have Z := R.1
    have I := Z.2
    have h16 := I.n16 ht
    have F1 := Z.1.trk ht
    have hs : ∀ c, c < nT (τ 1) t → szOK (gK (τ 1) t c) := fun c hc => (I.cap ht hc).sz
    have bf := sA_bd (f := fun c => gK (τ 1) t c 1 - gK (τ 1) t c 0) (lo := 1) (by omega) (nT (τ 1) t) h16 (frm_bd I ht)
    have bl := sA_bd (f := fun c => sLd (gK (τ 1) t c)) (lo := 0) (by omega) (nT (τ 1) t) h16 (fun i hi => sLd_bd (hs i hi))
    have ec : f_X9_speed σ (nI t) = if 0 < sA (fun c => gK (τ 1) t c 1 - gK (τ 1) t c 0) 0 (nT (τ 1) t) then (if 0 ≤ (sA (fun c => sLd (gK (τ 1) t c)) 0 (nT (τ 1) t)).toInt ∧ (sA (fun c => sLd (gK (τ 1) t c)) 0 (nT (τ 1) t)).toInt < 1000000 ∧ (sA (fun c => gK (τ 1) t c 1 - gK (τ 1) t c 0) 0 (nT (τ 1) t)).toInt < 1000000 then some (0, spD (sA (fun c => sLd (gK (τ 1) t c)) 0 (nT (τ 1) t)) (sA (fun c => gK (τ 1) t c 1 - gK (τ 1) t c 0) 0 (nT (τ 1) t)), σ) else none) else some (6, 0, σ) := by
      unfold f_X9_speed
      rw [c_reqT ht, x2s, c_trackOf σ 1 ht, k1s, c_allFrames F1, k1s, k1s, c_allLoad F1 hs, k1s]
    have em : ∀ κ : Int32, (if nT (τ 1) t = 0 then (2 : Int32) else 0) = κ → f_X10_speed τ (nI t) = if κ ≤ 0 then (if 0 ≤ (sA (fun c => sLd (gK (τ 1) t c)) 0 (nT (τ 1) t)).toInt ∧ (sA (fun c => sLd (gK (τ 1) t c)) 0 (nT (τ 1) t)).toInt < 1000000 ∧ 0 < (sA (fun c => gK (τ 1) t c 1 - gK (τ 1) t c 0) 0 (nT (τ 1) t)).toInt ∧ (sA (fun c => gK (τ 1) t c 1 - gK (τ 1) t c 0) 0 (nT (τ 1) t)).toInt < 1000000 then some (spD (sA (fun c => sLd (gK (τ 1) t c)) 0 (nT (τ 1) t)) (sA (fun c => gK (τ 1) t c 1 - gK (τ 1) t c 0) 0 (nT (τ 1) t)), up2 τ 0 10 κ) else none) else some (FP.dconst0, up2 τ 0 10 κ) := by
      intro κ hκ
      have t1 : up2 τ 0 10 κ 1 = τ 1 := up2_k (by omega)
      have I0 : Inv (up2 τ 0 10 κ 1) (gK (up2 τ 0 10 κ 1)) := by rw [t1]; exact I
      have e2 := m_loads I0 ht
      have e3 := m_frames I0 ht
      rw [t1] at e2 e3
      have e0 : (if nI (nT (τ 1) t) = 0 then (2 : Int32) else 0) = κ := by
        rw [← hκ]
        by_cases h0 : nT (τ 1) t = 0
        · rw [if_pos h0, h0, if_pos (show nI 0 = 0 from rfl)]
        · have hn : ¬ nI (nT (τ 1) t) = 0 := fun hh => h0 ((nI_eq (a := nT (τ 1) t) (b := 0) (by omega) (by omega)).mp hh)
          rw [if_neg h0, if_neg hn]
      unfold f_X10_speed
      rw [m_isTrack ht, k1s, if_neg (by decide), m_cnt ht, k1s, I.nT_eq ht, ite_some, e0, k1s, gset_n, k1s, up2_s, e2, k1s, e3, k1s]
    by_cases h0 : nT (τ 1) t = 0
    · have em := em 2 (by rw [if_pos h0])
      rw [h0] at ec em
      rw [if_neg (by decide)] at em
      have hz : ¬ (0 : Int32) < sA (fun c => gK (τ 1) t c 1 - gK (τ 1) t c 0) 0 0 := by show ¬ (0 : Int32) < 0; decide
      rw [if_neg hz] at ec
      exact ⟨6, 0, σ, FP.dconst0, up2 τ 0 10 2, ec, em, R.thr 2, CO.t (L := [0, 3, 6]) (up2_s ..) (by decide), fun h => by omega⟩
    · have em := em 0 (by rw [if_neg h0])
      generalize sA (fun c => gK (τ 1) t c 1 - gK (τ 1) t c 0) 0 (nT (τ 1) t) = fr at *
      generalize sA (fun c => sLd (gK (τ 1) t c)) 0 (nT (τ 1) t) = ld at *
      rw [if_pos (by decide), if_pos (by omega)] at em
      rw [if_pos (Int32.lt_iff_toInt_lt.mpr (by omega)), if_pos (by omega)] at ec
      exact ⟨0, spD ld fr, σ, spD ld fr, up2 τ 0 10 0, ec, em, R.thr 0, CO.z (L := [0, 3, 6]) (up2_s ..) (by decide), fun _ => ⟨rfl, sp_cmp (sp_div (by omega) (by omega) (by omega) (by omega))⟩⟩
  · refine ⟨3, 0, σ, FP.dconst0, up2 τ 0 10 1, ?_, ?_, R.thr 1, CO.o (L := [0, 3, 6]) (up2_s ..) (by decide), fun h => by omega⟩
    · unfold f_X9_speed
      rw [c_reqT_f h]; rfl
    · unfold f_X10_speed
      rw [m_isTrack_f h, k1s, if_pos rfl, k1s, gset_n, k1s, up2_s, if_neg (by decide)]
