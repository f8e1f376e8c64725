/-! ===== a caption is split: refused alike ===== -/
theorem nB_lt {u : Nat → Int32} {m : Nat} (hm : 1 ≤ m) (h0 : u 0 ≠ 124) : nB u m < m := by
  obtain ⟨n, rfl⟩ : ∃ n, m = 1 + n := ⟨m - 1, by omega⟩
  rw [nB_app]
  have e : nB u 1 = 0 := by rw [nB_s, if_neg h0]; rfl
  have := nB_le (fun i => u (1 + i)) n
  omega
theorem c_divide {σ : gSt} {t c n p : Nat} {kp : Nat → Nat → Int32} {len : Int32} (ht : t < 2) (F : FT σ (tB 1 t) n kp) (hc : c < n) (cp : capOK len (kp c)) (hp : p < nN (kp c 3)) :
    ∃ σ', f_X1_divideText σ (tB 1 t) (nI c) (nI p) = some σ' ∧ TX σ' 21 p (fun i => kp c (4 + i)) ∧ TX σ' 23 (nN (kp c 3) - (p + 1)) (fun i => kp c (4 + (p + 1 + i))) ∧ ∀ c, c ≠ 21 → c ≠ 22 → c ≠ 23 → c ≠ 24 → σ' c = σ c := by
  have bT := (tB_le ht).2
  have hs2 := cp.sz.2
  have hd1 : ∀ j, j ≤ 5 → tB 1 t + j ≠ 21 ∧ tB 1 t + j ≠ 21 + 1 := fun j hj => ⟨by omega, by omega⟩
  have hd2 : ∀ j, j ≤ 5 → tB 1 t + j ≠ 23 ∧ tB 1 t + j ≠ 23 + 1 := fun j hj => ⟨by omega, by omega⟩
  obtain ⟨s1, e1, T1, f1⟩ := c_clear (σ := σ) 21
  have F1 : FT s1 (tB 1 t) n kp := F.frame (fun j hj => f1 _ (by omega))
  obtain ⟨s2, e2, T2, f2⟩ := c_textTo (c := c) (p := 0) (q := p) F1 (T1 (fun _ => 0)) hc cp.sz.1 cp.sz.2 (by omega) (by omega) (by omega) hd1 (fun i hi => cp.ne i (by omega))
  have X2 : TX s2 21 p (fun i => kp c (4 + i)) := by
    rw [show 0 + (p - 0) = p by omega] at T2
    exact T2.congr (fun i hi => by simp)
  have F2 : FT s2 (tB 1 t) n kp := F1.frame (fun j hj => f2 _ (hd1 j hj).1 (hd1 j hj).2)
  obtain ⟨s3, e3, T3, f3⟩ := c_clear (σ := s2) 23
  have F3 : FT s3 (tB 1 t) n kp := F2.frame (fun j hj => f3 _ (by omega))
  obtain ⟨s4, e4, T4, f4⟩ := c_textTo (c := c) (p := p + 1) (q := nN (kp c 3)) F3 (T3 (fun _ => 0)) hc cp.sz.1 cp.sz.2 (by omega) (Nat.le_refl _) (by omega) hd2 cp.ne
  refine ⟨s4, ?_, ?_, ?_, fun c h1 h2 h3 h4 => by rw [f4 c h3 h4, f3 c h3, f2 c h1 h2, f1 c h1]⟩
  · unfold f_X1_divideText
    rw [e1, k1s, show f_X8_appendTextTo s1 (tB 1 t) 21 (nI c) 0 (nI p) = _ from e2, k1s, e3, k1s, c_sizeN F3 hc cp.sz, k1s, nI_s1, e4, k1s]
  · exact X2.frame (by rw [f4 21 (by omega) (by omega), f3 21 (by omega)]) (by rw [f4 22 (by omega) (by omega), f3 22 (by omega)])
  · rw [show 0 + (nN (kp c 3) - (p + 1)) = nN (kp c 3) - (p + 1) by omega] at T4
    exact T4.congr (fun i hi => by simp)
def hdA (q : Nat → Int32) (p : Nat) : Nat := p - nB (fun i => q (4 + i)) p
def hdB (q : Nat → Int32) (p : Nat) : Nat := nN (q 3) - (p + 1) - nB (fun i => q (4 + (p + 1 + i))) (nN (q 3) - (p + 1))
def sHd (q : Nat → Int32) (p : Nat) : Int32 := if 1 < ((q 1 - q 0) * nI (hdA q p)) / nI (hdA q p + hdB q p) then ((q 1 - q 0) * nI (hdA q p)) / nI (hdA q p + hdB q p) else 1
theorem c_head {σ : gSt} {T n c p : Nat} {kp : Nat → Nat → Int32} (F : FT σ T n kp) (hc : c < n) (hs : szOK (kp c)) (hp : p < nN (kp c 3)) (hpos : 0 < hdA (kp c) p) : f_X1_framesOfHead σ T (nI c) (nI p) = some (sHd (kp c) p) := by
  have hs2 := hs.2
  have eA : f_X8_loadBetween σ T (nI c) 0 (nI p) = some (nI (hdA (kp c) p)) := by
    have := c_loadBetween F hc hs (a := 0) (b := p) (by omega) (by omega)
    rw [show (0 : Int32) = nI 0 from rfl, this]
    unfold hdA
    simp only [Nat.sub_zero, Nat.zero_add]
  have eB : f_X8_loadBetween σ T (nI c) (nI (p + 1)) (nI (nN (kp c 3))) = some (nI (hdB (kp c) p)) := c_loadBetween F hc hs (a := p + 1) (b := nN (kp c 3)) (Nat.le_refl _) (by omega)
  have hA : hdA (kp c) p ≤ 24 := by unfold hdA; omega
  have hB : hdB (kp c) p ≤ 24 := by unfold hdB; omega
  have hz : ¬ nI (hdA (kp c) p + hdB (kp c) p) = 0 := fun hh => by
    have := (nI_eq (a := hdA (kp c) p + hdB (kp c) p) (b := 0) (by omega) (by omega)).mp hh
    omega
  unfold f_X1_framesOfHead
  rw [eA, k1s, c_sizeN F hc hs, k1s, nI_s1, eB, k1s, nI_add, if_neg (show ¬ nI (hdA (kp c) p + hdB (kp c) p) ≤ 0 from nI_ge (a := 0) (by omega) (by omega)), c_frames F hc, k1s]
  unfold gdiv
  rw [if_neg hz, k1s, k1s]
  rfl
noncomputable def sSp (h : fH) (k : fK) (t c p : Nat) : Int32 :=
  if k t c (4 + p) = 95 ∨ k t c (4 + p) = 124 then (if b01 (txtOK p (fun i => k t c (4 + i))) = 0 then 4 else if b01 (txtOK (nN (k t c 3) - (p + 1)) (fun i => k t c (4 + (p + 1 + i)))) = 0 then 4 else if sHd (k t c) p < k t c 1 - k t c 0 then (if nT h t < 16 then 0 else 8) else 2) else 4
theorem hdA_pos {q : Nat → Int32} {p : Nat} (h : txtOK p (fun i => q (4 + i))) : 0 < hdA q p := by
  have := nB_lt (u := fun i => q (4 + i)) h.1 h.2.2.2.2.1
  unfold hdA
  omega
theorem c_splitRef {σ : gSt} {h : fH} {k : fK} (F : FR σ 1 h k) (I : Inv h k) {t c p : Nat} (ht : t < 2) (hc : c < nT h t) (hp : p < nN (k t c 3)) :
    ∃ σ', f_X1_splitRefusal σ (nI t) (nI c) (nI p) = some (sSp h k t c p, σ') ∧ ∀ c, c ≠ 21 → c ≠ 22 → c ≠ 23 → c ≠ 24 → σ' c = σ c := by
  have cp := I.cap ht hc
  have bT := (tB_le ht).2
  have h16 := I.n16 ht
  have FT0 := F.trk ht
  obtain ⟨σ1, e1, X1, Y1, f1⟩ := c_divide ht FT0 hc cp hp
  have FT1 : FT σ1 (tB 1 t) (nT h t) (k t) := FT0.frame (fun j hj => f1 _ (by omega) (by omega) (by omega) (by omega))
  have eb : k t c (4 + p) = 95 ∨ k t c (4 + p) = 124 → f_X1_splitRefusal_b1 (nI t) (nI c) (nI p) (tB 1 t) σ = some (sSp h k t c p, σ1) := by
    intro hsg
    unfold f_X1_splitRefusal_b1 sSp
    rw [if_pos hsg, e1, k1s, c_isValid X1, k1s, c_isValid Y1, k1s]
    by_cases v1 : txtOK p (fun i => k t c (4 + i))
    · rw [b01_t v1, if_neg (show ¬ (1 : Int32) = 0 by decide), if_neg (show ¬ (1 : Int32) = 0 by decide)]
      by_cases v2 : b01 (txtOK (nN (k t c 3) - (p + 1)) (fun i => k t c (4 + (p + 1 + i)))) = 0
      · rw [if_pos v2, if_pos v2]
      · rw [if_neg v2, if_neg v2, c_head FT1 hc cp.sz hp (hdA_pos v1), k1s, c_frames FT1 hc, k1s, FT1.1]
        by_cases v3 : sHd (k t c) p < k t c 1 - k t c 0
        · rw [if_pos v3, if_pos v3]
          by_cases v4 : nT h t < 16
          · rw [if_pos v4, if_pos (show nI (nT h t) < 16 from nI_lt (b := 16) v4 (by omega)), k1s]
          · rw [if_neg v4, if_neg (show ¬ nI (nT h t) < 16 from nI_nlt (b := 16) (by omega) (by omega)), k1s]
        · rw [if_neg v3, if_neg v3]
    · rw [b01_f v1, if_pos rfl, if_pos rfl]
  unfold f_X1_splitRefusal
  rw [c_trackOf σ 1 ht, k1s, c_signAt FT0 hc cp.sz.1 cp.sz.2 hp, k1s]
  by_cases h1 : k t c (4 + p) = 95
  · rw [if_pos h1]; exact ⟨σ1, eb (Or.inl h1), f1⟩
  · rw [if_neg h1]
    by_cases h2 : k t c (4 + p) = 124
    · rw [if_pos h2]; exact ⟨σ1, eb (Or.inr h2), f1⟩
    · rw [if_neg h2]
      refine ⟨σ, ?_, fun _ _ _ _ _ => rfl⟩
      unfold sSp
      rw [if_neg (fun hh => hh.elim h1 h2)]
