theorem splitDo {σ1 τ0 τ1 : gSt} {t c p : Nat} (Z : FI σ1 τ1) (g1 : τ1 1 = τ0 1) (I : Inv (τ0 1) (gK (τ0 1))) (eC : f_X10_changes τ0 1 = some τ1) (ht : t < 2) (hc : c < nT (τ0 1) t) (hp : p < nN (gK (τ0 1) t c 3)) (h0 : sSp (τ0 1) (gK (τ0 1)) t c p = 0) :
    ∃ σ' τ', f_X1_splitCaption σ1 (nI t) (nI c) (nI p) = some (sHd (gK (τ0 1) t c) p, σ') ∧ f_X10_split_b1 (nI t) (nI c) (nI p) (nI (nN (gK (τ0 1) t c 3))) (nI (30 + 28 * (16 * t + c) + 4)) τ0 = some (sHd (gK (τ0 1) t c) p, τ') ∧ FI σ' τ' ∧ (∀ c, c = 0 ∨ (25 ≤ c ∧ c ≤ 188) → σ' c = σ1 c) ∧ ∀ c, c ≠ 1 → c ≠ 5 → τ' c = τ1 c := by
  have hF := FU_ge
  obtain ⟨hsg, v1, v2, v3, v4⟩ := sSp_0 h0
  have cp := I.cap ht hc
  have h16 := I.n16 ht
  have hs2 := cp.sz.2
  have hc6 : c < 16 := by omega
  have bT := (tB_le ht).2
  have bT1 := (tB_le ht).1
  have F1 : FR σ1 1 (τ0 1) (gK (τ0 1)) := by have := Z.1; rw [g1] at this; exact this
  have FT1 := F1.trk ht
  let x := sHd (gK (τ0 1) t c) p
  let E := gK (τ0 1) t c 0 + x
  have xs : gK (τ0 1) t c 0 < E ∧ E < gK (τ0 1) t c 1 := by
    have a := inL_i (I.in0 ht hc)
    have b := inL_i (I.in1 ht hc)
    have s1 := sub_i (a := gK (τ0 1) t c 1) (b := gK (τ0 1) t c 0) (by omega) (by omega)
    have x1 : 1 ≤ x.toInt := Int32.le_iff_toInt_le.mp (sHd_ge _ _)
    have x2 : x.toInt < (gK (τ0 1) t c 1 - gK (τ0 1) t c 0).toInt := Int32.lt_iff_toInt_lt.mp v3
    have s2 : E.toInt = (gK (τ0 1) t c 0).toInt + x.toInt := add_i (by omega) (by omega)
    exact ⟨Int32.lt_iff_toInt_lt.mpr (by omega), Int32.lt_iff_toInt_lt.mpr (by omega)⟩
  -- the class
  obtain ⟨σ5, e5, X5, Y5, f5⟩ := c_divide ht FT1 hc cp hp
  have FT5 : FT σ5 (tB 1 t) (nT (τ0 1) t) (gK (τ0 1) t) := FT1.frame (fun j hj => f5 _ (by omega) (by omega) (by omega) (by omega))
  let H := hdRow (gK (τ0 1) t c) E p
  have H0 : H 0 = gK (τ0 1) t c 0 := by
    show hdRow _ _ _ 0 = _
    unfold hdRow; rw [if_neg (by omega), if_neg (by omega), if_neg (by omega)]
  have H2 : H 2 = gK (τ0 1) t c 2 := by
    show hdRow _ _ _ 2 = _
    unfold hdRow; rw [if_neg (by omega), if_neg (by omega), if_neg (by omega)]
  obtain ⟨σ7, σ8, e7, e8, FT7, FT8, f8⟩ := c_reset (K := 21) FT5 (I.s24 ht) hc X5 (by omega) (fun j hj => ⟨by omega, by omega⟩) (q := H) (b := E) H0 rfl H2 rfl (fun i hi => by
    show hdRow _ _ _ (4 + i) = _
    unfold hdRow; rw [if_neg (by omega), if_neg (by omega), if_neg (by omega)])
  -- the reference
  obtain ⟨τa, ea, va, fa⟩ := m_owns (σ := τ1) ht hc6
  rw [g1] at va
  let τc := up2 (up2 τa 5 0 E) 5 3 (nI (nN (gK (τ0 1) t c 3) - (p + 1)))
  have fc : ∀ c, c ≠ 5 → τc c = τ1 c := fun c h => by
    show up2 (up2 τa 5 0 E) 5 3 _ c = _
    rw [up2_k h, up2_k h, fa c h]
  obtain ⟨τd, ed, fd, wd, vd⟩ := m_tail_l (σ := τc) (t := t) (c := c) (p := p) (m := nN (gK (τ0 1) t c 3) - (p + 1)) ht hc6 (by omega) (nI t) (nI c) 0 x τc 24 0 FU τc (by omega) (by omega) (fun _ _ => rfl) (fun _ _ => rfl) (up2_s ..) (fun j hj => by omega)
  rw [show τc 1 = τ0 1 from (fc 1 (by omega)).trans g1] at vd
  have td1 : τd 1 = τ0 1 := by rw [fd 1 (by omega), fc 1 (by omega), g1]
  have td0 : τd 5 0 = E := by
    rw [wd 0 (by omega)]
    show up2 (up2 τa 5 0 E) 5 3 _ 5 0 = _
    rw [up2_j (by omega), up2_s]
  let τe := up2 τd 1 (aT t c 1) E
  let τf := up2 τe 1 (aT t c 3) (nI p)
  have kf : ∀ c' w, c' < 16 → w < 28 → gK (τf 1) t c' w = if c' = c ∧ w = 3 then nI p else if c' = c ∧ w = 1 then E else gK (τ0 1) t c' w := fun c' w h1 h2 => by
    show gK (up2 τe 1 (aT t c 3) (nI p) 1) t c' w = _
    rw [gK_put hc6 (by omega) _ h1 h2]
    show (if c' = c ∧ w = 3 then nI p else gK (up2 τd 1 (aT t c 1) E 1) t c' w) = _
    rw [gK_put hc6 (by omega) _ h1 h2, td1]
  obtain ⟨τg, eg, fg, og, ng, kg⟩ := m_zero_l (σ := τf) (t := t) (c := c) (p := p) ht hc6 (nI t) x τf (24 - p) p FU τf (by omega) (by omega) (Nat.le_refl _) (fun _ _ => rfl) (offT.refl _ _) rfl (fun c' w h1 h2 => by rw [if_neg (by omega)])
  have of : offT (τ1 1) (τf 1) t := by
    have o1 : offT (τ1 1) (τe 1) t := offT.put (σ := τd) ht hc6 (show 1 < 28 by omega) (td1.trans g1.symm) _
    exact o1.trans (offT.put (σ := τe) ht hc6 (show 3 < 28 by omega) rfl _)
  have nf : τf 1 (28 + t) = nI (nT (τ0 1) t) := by
    show up2 (up2 τd 1 (aT t c 1) _) 1 (aT t c 3) _ 1 (28 + t) = _
    rw [up2_j (by unfold aT; omega), up2_j (by unfold aT; omega), td1]; exact I.nT_eq ht
  have kG : ∀ c' w, c' < 16 → w < 28 → gK (τg 1) t c' w = setRow (gK (τ0 1) t) c H c' w := fun c' w h1 h2 => by
    rw [kg c' w h1 h2, kf c' w h1 h2]
    unfold setRow
    by_cases h : c' = c
    · subst h
      rw [if_pos rfl]
      show _ = hdRow _ _ _ w
      unfold hdRow
      by_cases w1 : w = 1
      · rw [if_pos w1, if_neg (by omega), if_neg (by omega), if_pos ⟨rfl, w1⟩]
      · rw [if_neg w1]
        by_cases w3 : w = 3
        · rw [if_pos w3, if_neg (by omega), if_pos ⟨rfl, w3⟩]
        · rw [if_neg w3, if_neg (show ¬ (c' = c' ∧ w = 3) from fun hh => w3 hh.2), if_neg (show ¬ (c' = c' ∧ w = 1) from fun hh => w1 hh.2)]
          by_cases w4 : 4 + p ≤ w
          · rw [if_pos ⟨rfl, w4⟩, if_pos w4]
          · rw [if_neg (fun hh => w4 hh.2), if_neg w4]
    · rw [if_neg (fun hh => h hh.1), if_neg (fun hh => h hh.1), if_neg (fun hh => h hh.1), if_neg h]
  have Z8 : FI σ8 τg := Z.track ht FT8 (fun c' w h1 h2 => kG c' w (by omega) h2) (ng.trans nf) (of.trans og) (fun c' h1 h2 h3 => by rw [f8 c' h3, f5 c' (by omega) (by omega) (by omega) (by omega)]) (by
    rw [g1]
    exact setRow_ok (I.tOK ht) hc (hdRow_ok cp xs.1 (Int32.le_trans (Int32.le_of_lt xs.2) cp.2.2.1) v1) (fun i hi => by subst hi; rw [H0]; exact (I.tOK ht).2.2 i hc) (fun hn => by
      have := (I.tOK ht).2.2 c hn
      show E ≤ _
      have := xs.2
      grind))
  have nG : nT (τg 1) t = nT (τ0 1) t := by unfold nT; rw [ng, nf, nN_nI (by have := h16; unfold nT at *; omega)]; rfl
  have lG : τg 1 0 = τ0 1 0 := by rw [og.1 0 (by omega) (by omega), of.1 0 (by omega) (by omega), g1]
  have Y8 : TX σ8 23 (nN (gK (τ0 1) t c 3) - (p + 1)) (fun i => if i < nN (gK (τ0 1) t c 3) - (p + 1) then gK (τ0 1) t c (4 + (p + 1 + i)) else 0) := (Y5.frame (f8 23 (by omega)) (f8 24 (by omega))).congr (fun i hi => (if_pos hi).symm)
  have hq : capOK (τg 1 0) (capQ (gK (τ0 1) t c 2) E (gK (τ0 1) t c 1) (nN (gK (τ0 1) t c 3) - (p + 1)) (fun i => if i < nN (gK (τ0 1) t c 3) - (p + 1) then gK (τ0 1) t c (4 + (p + 1 + i)) else 0)) := by
    rw [lG]
    exact capQ_ok (by have := cp.1; have := xs.1; grind) xs.2 cp.2.2.1 cp.2.2.2.1 (txtOK_congr (fun i hi => (if_pos hi).symm) v2)
  have tg5 : τg 5 = τd 5 := by
    rw [fg 5 (by omega)]
    show up2 (up2 τd 1 _ _) 1 _ _ 5 = _
    rw [up2_k (by omega), up2_k (by omega)]
  obtain ⟨r, σ', τ', a1, a2, a3, a4, a5⟩ := insDo Z8 ht (by rw [nG]; exact v4) Y8 (by omega) (by omega) hq (fun w hw => by
    rw [tg5]
    by_cases h : w < 4
    · rw [wd w h]
      show up2 (up2 τa 5 0 E) 5 3 _ 5 w = _
      rcases (show w = 0 ∨ w = 1 ∨ w = 2 ∨ w = 3 by omega) with rfl | rfl | rfl | rfl
      · rw [up2_j (by omega), up2_s]; rfl
      · rw [up2_j (by omega), up2_j (by omega), va 1 (by omega)]; rfl
      · rw [up2_j (by omega), up2_j (by omega), va 2 (by omega)]; rfl
      · rw [up2_s]; rfl
    · have := vd (w - 4) (by omega)
      rw [show 4 + (w - 4) = w by omega] at this
      rw [this]
      unfold capQ
      rw [if_neg (show ¬ w = 0 by omega), if_neg (show ¬ w = 1 by omega), if_neg (show ¬ w = 2 by omega), if_neg (show ¬ w = 3 by omega)]) (fun i hi => by
    rw [nG] at hi
    rw [kG i 1 (by omega) (by omega), kG i 0 (by omega) (by omega)]
    unfold setRow
    have K := I.tOK ht
    by_cases h : i = c
    · rw [if_pos h]
      rintro ⟨hh, -⟩
      exact Int32.lt_irrefl hh
    · rw [if_neg h]
      rintro ⟨hh1, hh2⟩
      by_cases hlt : i < c
      · have := K.chain (c - i - 1) i (by omega)
        rw [show i + (c - i - 1) + 1 = c by omega] at this
        have := xs.1
        grind
      · have := K.chain (i - c - 1) c (by omega)
        rw [show c + (i - c - 1) + 1 = i by omega] at this
        grind)
  refine ⟨σ', τ', ?_, ?_, a3, fun c' hc' => ?_, fun c' h1 h5 => ?_⟩
  · have FT8k : f_X8_kind σ8 (tB 1 t) (nI c) = some (gK (τ0 1) t c 2) := by
      rw [c_kind FT8 hc]
      unfold setRow
      rw [if_pos rfl, H2]
    unfold f_X1_splitCaption
    rw [c_trackOf σ1 1 ht, k1s, c_head FT1 hc cp.sz hp (hdA_pos v1), k1s, c_first FT1 hc, k1s, c_end FT1 hc, k1s, e5, k1s, c_first FT5 hc, k1s]
    show g_k1 (f_X8_setFrames σ5 (tB 1 t) (nI c) (gK (τ0 1) t c 0) E) _ = _
    rw [e7, k1s, e8, k1s, FT8k, k1s]
    show g_k2 (f_X8_insertCaption σ8 (tB 1 t) (gK (τ0 1) t c 2) E (gK (τ0 1) t c 1) 23) _ = _
    rw [a1, k2s]
  · have i1 := m_isTextK (σ := τ0) (p := 0) (m := p) ht hc6 (by omega)
    have i2 := m_isTextK (σ := τ0) (p := p + 1) (m := nN (gK (τ0 1) t c 3) - (p + 1)) ht hc6 (by omega)
    have j1 := m_barsP (σ := τ0) (p := 0) (m := p) ht hc6 (by omega)
    have j2 := m_barsP (σ := τ0) (p := p + 1) (m := nN (gK (τ0 1) t c 3) - (p + 1)) ht hc6 (by omega)
    simp only [Nat.zero_add, Nat.add_zero] at i1 j1
    have ep : nI (30 + 28 * (16 * t + c) + 4) + nI p + 1 = nI (30 + 28 * (16 * t + c) + 4 + (p + 1)) := by rw [nI_add, nI_s1]; rfl
    have em : nI (nN (gK (τ0 1) t c 3)) - nI p - 1 = nI (nN (gK (τ0 1) t c 3) - (p + 1)) := by rw [pk_sub (by omega), nI_sub1 (by omega)]; rfl
    have hA := hdA_pos v1
    have lA := nB_le (fun i => gK (τ0 1) t c (4 + i)) p
    have lB := nB_le (fun i => gK (τ0 1) t c (4 + (p + 1 + i))) (nN (gK (τ0 1) t c 3) - (p + 1))
    have eA : nI p - nI (nB (fun i => gK (τ0 1) t c (4 + i)) p) = nI (hdA (gK (τ0 1) t c) p) := by rw [pk_sub lA]; rfl
    have eB : nI (nN (gK (τ0 1) t c 3) - (p + 1)) - nI (nB (fun i => gK (τ0 1) t c (4 + (p + 1 + i))) (nN (gK (τ0 1) t c 3) - (p + 1))) = nI (hdB (gK (τ0 1) t c) p) := by rw [pk_sub lB]; rfl
    have hAl : hdA (gK (τ0 1) t c) p ≤ 24 := by unfold hdA; omega
    have hBl : hdB (gK (τ0 1) t c) p ≤ 24 := by unfold hdB; omega
    have hz : ¬ nI (hdA (gK (τ0 1) t c) p + hdB (gK (τ0 1) t c) p) = 0 := fun hh => by
      have := (nI_eq (a := hdA (gK (τ0 1) t c) p + hdB (gK (τ0 1) t c) p) (b := 0) (by omega) (by omega)).mp hh
      omega
    have ex : (if (1 : Int32) ≤ (((gK (τ0 1) t c 1 - gK (τ0 1) t c 0) * nI (hdA (gK (τ0 1) t c) p)) / nI (hdA (gK (τ0 1) t c) p + hdB (gK (τ0 1) t c) p)) then some (((gK (τ0 1) t c 1 - gK (τ0 1) t c 0) * nI (hdA (gK (τ0 1) t c) p)) / nI (hdA (gK (τ0 1) t c) p + hdB (gK (τ0 1) t c) p)) else some (1 : Int32)) = some x := by
      rw [ite_some]
      congr 1
      show _ = sHd _ _
      unfold sHd
      grind
    have hne16 : ¬ nI (nT (τ0 1) t) = 16 := fun hh => by
      have := (nI_eq (a := nT (τ0 1) t) (b := 16) (by omega) (by omega)).mp hh
      omega
    unfold f_X10_split_b1
    rw [i1, k1s, ep, em, i2, k1s, b01_t v1, b01_t v2, if_neg (by decide), if_neg (by decide), j1, k1s, j2, k1s, m_end ht hc6, k1s, m_first ht hc6, k1s, eA, eB, nI_add]
    unfold gdiv
    rw [if_neg hz, k1s, ex, k1s, if_pos v3, m_cnt ht, k1s, I.nT_eq ht, if_neg hne16, eC, k1s, ea, k1s, va 0 (by omega), gset_n, k1s, gset_n, k1s]
    show g_k1 (f_X10_split_l2 (nI t) (nI c) (nI p) (nI (30 + 28 * (16 * t + c) + 4)) x τc FU 0 τc) _ = _
    rw [show f_X10_split_l2 (nI t) (nI c) (nI p) (nI (30 + 28 * (16 * t + c) + 4)) x τc FU 0 τc = some τd from ed, k1s, m_at1, k1s, show nI (30 + 28 * (16 * t + c) + 1) = nI (aT t c 1) from rfl, td0, m_put ht hc6 (by omega), k1s]
    show g_k1 (f_X10_at τe (nI t) (nI c) 3) _ = _
    rw [m_at3, k1s, show nI (30 + 28 * (16 * t + c) + 3) = nI (aT t c 3) from rfl, m_put ht hc6 (by omega), k1s]
    show g_k1 (f_X10_split_l3 (nI t) (nI (30 + 28 * (16 * t + c) + 4)) x τf FU (nI p) τf) _ = _
    rw [eg, k1s, a2, k2s]
  · rw [a4 c' (by omega), f8 c' (by omega), f5 c' (by omega) (by omega) (by omega) (by omega)]
  · rw [a5 c' h1, fg c' h1]
    show up2 (up2 τd 1 _ _) 1 _ _ c' = _
    rw [up2_k h1, up2_k h1, fd c' h5, fc c' h5]
theorem call_split {σ τ : gSt} (R : RR σ τ) (a b q : Int32) : ∃ x r σ' r' τ', f_X9_split σ a b q = some (x, r, σ') ∧ f_X10_split τ a b q = some (r', τ') ∧ CR [0, 3, 2] σ' τ' x r r' := by
  rcases capCases R.1 a b with ⟨t, c, ht, hc, rfl, rfl⟩ | ⟨e1, e2⟩
  · have Z := R.1
    have I := Z.2
    have h16 := I.n16 ht
    have hc6 : c < 16 := by omega
    have cp := I.cap ht hc
    have hs2 := cp.sz.2
    have t1 : up2 τ 0 10 0 1 = τ 1 := up2_k (by omega)
    have I0 : Inv (up2 τ 0 10 0 1) (gK (up2 τ 0 10 0 1)) := by rw [t1]; exact I
    rcases i_cases q (nN (gK (τ 1) t c 3)) (by omega) with ⟨p, hp, rfl⟩ | h
    · have ec : f_X9_split σ (nI t) (nI c) (nI p) = (g_k2 (f_X1_splitRefusal σ (nI t) (nI c) (nI p)) fun v7 σ8 => (g_x2 (f_X9_passOrRefuse σ8 v7) (fun x s => (x, (0 : Int32), s)) fun σ10 => (g_k1 (f_X4_keep σ10 1) fun σ11 => (g_k2 (f_X1_splitCaption σ11 (nI t) (nI c) (nI p)) fun v12 σ13 => some (0, v12, σ13))))) := by
        unfold f_X9_split
        rw [c_reqC Z.1 ht hc, x2s, if_neg (nI_pos (by omega)), c_trackOf σ 1 ht, k1s, c_sizeN (Z.1.trk ht) hc cp.sz, k1s, if_pos (nI_lt hp (by omega))]
      have em : f_X10_split τ (nI t) (nI c) (nI p) = (if gK (τ 1) t c (4 + p) = (95 : Int32) then (f_X10_split_b1 (nI t) (nI c) (nI p) (nI (nN (gK (τ 1) t c 3))) (nI (30 + 28 * (16 * t + c) + 4)) (up2 τ 0 10 0)) else (if gK (τ 1) t c (4 + p) = (124 : Int32) then (f_X10_split_b1 (nI t) (nI c) (nI p) (nI (nN (gK (τ 1) t c 3))) (nI (30 + 28 * (16 * t + c) + 4)) (up2 τ 0 10 0)) else (g_k2 (f_X10_refuses (up2 τ 0 10 0) (2 : Int32) (4 : Int32)) fun v67 σ68 => some (v67, σ68)))) := by
        have hsz0 : szOK (gK (up2 τ 0 10 0 1) t c) := by rw [t1]; exact cp.sz
        unfold f_X10_split
        rw [m_isCap I ht hc, k1s, if_neg (by decide), m_at3, k1s, m_g3 ht hc6 cp.sz, k1s, m_in, k1s, nI_sub1 (by omega), b01_t ⟨nI_pos' (by omega), nI_le (by omega) (by omega)⟩, if_neg (by decide), k1s, gset_n, k1s, up2_s, if_pos (by decide), m_at4, k1s, m_at3, k1s, m_g3 ht hc6 hsz0, k1s, nI_add, show nI (30 + 28 * (16 * t + c) + 4 + p) = nI (aT t c (4 + p)) from by unfold aT; rw [Nat.add_assoc _ 4 p], m_gK' ht hc6 (by omega), k1s, t1]
      obtain ⟨s1, r1, fr1⟩ := c_splitRef Z.1 I ht hc hp
      have R1 : RR s1 (up2 τ 0 10 0) := (R.thr 0).fr (fun c hc => fr1 c (by omega) (by omega) (by omega) (by omega)) (fun _ _ _ _ _ => rfl) (fun _ _ _ _ _ => rfl)
      by_cases h0 : sSp (τ 1) (gK (τ 1)) t c p = 0
      · obtain ⟨σ1, τ1, k1', k2', R2, fs, fs2, t0, tcc⟩ := keepRR R1
        have g1 : τ1 1 = up2 τ 0 10 0 1 := tcc 1 (by omega) (by omega)
        obtain ⟨σ2, τ2, a1, a2, a3, a4, a5⟩ := splitDo (p := p) R2.1 g1 I0 k2' ht (by rw [t1]; exact hc) (by rw [t1]; exact hp) (by rw [t1]; exact h0)
        rw [t1] at a1 a2
        refine ⟨0, sHd (gK (τ 1) t c) p, σ2, sHd (gK (τ 1) t c) p, τ2, ?_, ?_, R2.film2 a3 a4 a5, CO.z (L := [0, 3, 2]) (by rw [a5 0 (by omega) (by omega), t0 10 (by omega), up2_s]) (by decide), fun _ => rfl⟩
        · rw [ec, r1, k2s, h0, c_pass0, x2s, k1', k1s, a1, k2s]
        · rw [em]
          by_cases h1 : gK (τ 1) t c (4 + p) = 95
          · rw [if_pos h1]; exact a2
          · rw [if_neg h1, if_pos ((sSp_0 h0).1.resolve_left h1)]; exact a2
      · obtain ⟨σ1, τ1, k1', k2', R2, t10⟩ := R1.ref (sSp (τ 1) (gK (τ 1)) t c p) 2
        refine ⟨2, 0, σ1, 0, τ1, ?_, ?_, R2, CO.t (L := [0, 3, 2]) t10 (by decide), fun h => by omega⟩
        · rw [ec, r1, k2s, c_passv h0 k1', x2f 2 (by omega)]
        · have hb := fun hsg => m_splitB I0 ht (c := c) (p := p) (by rw [t1]; exact hc) (by rw [t1]; exact hp) hsg (by rw [t1]; exact h0)
          rw [t1] at hb
          rw [em]
          by_cases h1 : gK (τ 1) t c (4 + p) = 95
          · rw [if_pos h1, hb (Or.inl h1), k2', k2s]
          · rw [if_neg h1]
            by_cases h2 : gK (τ 1) t c (4 + p) = 124
            · rw [if_pos h2, hb (Or.inr h2), k2', k2s]
            · have e4 : sSp (τ 1) (gK (τ 1)) t c p = 4 := by
                unfold sSp
                rw [if_neg (fun hh => hh.elim h1 h2)]
              rw [e4] at k2'
              rw [if_neg h2, k2', k2s]
    · refine ⟨3, 0, σ, 0, up2 τ 0 10 1, ?_, ?_, R.thr 1, CO.o (L := [0, 3, 2]) (up2_s ..) (by decide), fun h => by omega⟩
      · unfold f_X9_split
        rw [c_reqC Z.1 ht hc, x2s]
        by_cases h1 : q < 0
        · rw [if_pos h1]
        · rw [if_neg h1, c_trackOf σ 1 ht, k1s, c_sizeN (Z.1.trk ht) hc cp.sz, k1s, if_neg (Int32.not_lt.mpr (h.resolve_left h1))]
      · unfold f_X10_split
        rw [m_isCap I ht hc, k1s, if_neg (by decide), m_at3, k1s, m_g3 ht hc6 cp.sz, k1s, m_in, k1s, b01_f, if_pos rfl, k1s, gset_n, k1s, up2_s, if_neg (by decide)]
        rintro ⟨h1, h2⟩
        rcases h with h | h
        · grind
        · rw [nI_sub1 (by have := cp.2.2.2.2.2.1; omega)] at h2
          exact nI_ge (show nN (gK (τ 1) t c 3) - 1 < nN (gK (τ 1) t c 3) by have := cp.2.2.2.2.2.1; omega) (by omega) (Int32.le_trans h h2)
  · refine ⟨3, 0, σ, 0, up2 τ 0 10 1, ?_, ?_, R.thr 1, CO.o (L := [0, 3, 2]) (up2_s ..) (by decide), fun h => by omega⟩
    · unfold f_X9_split
      rw [e1]; rfl
    · unfold f_X10_split
      rw [e2, k1s, if_pos rfl, k1s, gset_n, k1s, up2_s, if_neg (by decide)]
