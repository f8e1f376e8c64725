/-! ===== a caption fits ===== -/
def bd (x : Int32) : Prop := -1000 ≤ x.toInt ∧ x.toInt ≤ 20000
theorem inL_bd {x : Int32} (h : inL x) : bd x := by
  have := inL_i h
  unfold bd
  omega
theorem div_bd {a b : Int32} (ha : 0 ≤ a.toInt ∧ a.toInt ≤ 1000) (hb : 0 < b.toInt) : 0 ≤ (a / b).toInt ∧ (a / b).toInt ≤ 1000 := by
  have h1 := Int.tdiv_nonneg ha.1 (show 0 ≤ b.toInt by omega)
  have h2 : a.toInt.tdiv b.toInt ≤ a.toInt := Int.tdiv_le_self _ ha.1
  rw [Int32.toInt_div, Int.bmod_eq_of_le (by omega) (by omega)]
  omega
theorem add_i {a b : Int32} (ha : -100000000 ≤ a.toInt ∧ a.toInt ≤ 100000000) (hb : -100000000 ≤ b.toInt ∧ b.toInt ≤ 100000000) : (a + b).toInt = a.toInt + b.toInt := by
  rw [Int32.toInt_add, Int.bmod_eq_of_le (by omega) (by omega)]
theorem one_i : (1 : Int32).toInt = 1 := rfl
theorem two_i : (2 : Int32).toInt = 2 := rfl
theorem sNd_bd {q : Nat → Int32} {rd : Int32} (hs : szOK q) (hr : 5 ≤ rd ∧ rd ≤ 30) : 0 ≤ (sNd q rd).toInt ∧ (sNd q rd).toInt ≤ 1000 := by
  have hs2 := hs.2
  have hle := nB_le (fun i => q (4 + i)) (nN (q 3))
  have eL : sLd q = nI (nN (q 3) - nB (fun i => q (4 + i)) (nN (q 3))) := by
    unfold sLd
    rw [← pk_sub hle, ← hs.1]
  have r1 : 5 ≤ rd.toInt := Int32.le_iff_toInt_le.mp hr.1
  have r2 : rd.toInt ≤ 30 := Int32.le_iff_toInt_le.mp hr.2
  have v1 : ∀ k : Nat, k ≤ 25 → 0 ≤ ((nI k * sLd q + rd - 1) / rd).toInt ∧ ((nI k * sLd q + rd - 1) / rd).toInt ≤ 1000 := by
    intro k hk
    rw [eL, pk_mul]
    have hkm : k * (nN (q 3) - nB (fun i => q (4 + i)) (nN (q 3))) ≤ 25 * 24 := Nat.mul_le_mul hk (by omega)
    generalize k * (nN (q 3) - nB (fun i => q (4 + i)) (nN (q 3))) = z at hkm
    have e0 : (nI z).toInt = z := nI_toInt (by omega)
    have e1 : (nI z + rd).toInt = (nI z).toInt + rd.toInt := add_i (by omega) (by omega)
    have e2 : (nI z + rd - 1).toInt = (nI z + rd).toInt - (1 : Int32).toInt := sub_i (by omega) (by rw [one_i]; omega)
    rw [one_i] at e2
    exact div_bd (by omega) (by omega)
  have v2 : 0 ≤ (((if q 2 = 2 then (20 : Int32) else 25) * sLd q + rd - 1) / rd).toInt ∧ (((if q 2 = 2 then (20 : Int32) else 25) * sLd q + rd - 1) / rd).toInt ≤ 1000 := by
    by_cases h : q 2 = 2
    · rw [if_pos h]; exact v1 20 (by omega)
    · rw [if_neg h]; exact v1 25 (by omega)
  unfold sNd
  by_cases h1 : q 2 = 1
  · rw [if_pos h1]
    have h2 : ¬ q 2 = 2 := by rw [h1]; decide
    have v3 : 0 ≤ ((25 * sLd q + rd - 1) / rd).toInt ∧ ((25 * sLd q + rd - 1) / rd).toInt ≤ 629 := by
      have hh := v1 25 (by omega)
      refine ⟨hh.1, ?_⟩
      show ((nI 25 * sLd q + rd - 1) / rd).toInt ≤ 629
      rw [eL, pk_mul]
      have hkm : 25 * (nN (q 3) - nB (fun i => q (4 + i)) (nN (q 3))) ≤ 25 * 24 := Nat.mul_le_mul (by omega) (by omega)
      generalize 25 * (nN (q 3) - nB (fun i => q (4 + i)) (nN (q 3))) = z at hkm
      have e0 : (nI z).toInt = z := nI_toInt (by omega)
      have e1 : (nI z + rd).toInt = (nI z).toInt + rd.toInt := add_i (by omega) (by omega)
      have e2 : (nI z + rd - 1).toInt = (nI z + rd).toInt - (1 : Int32).toInt := sub_i (by omega) (by rw [one_i]; omega)
      rw [one_i] at e2
      have g1 := Int.tdiv_nonneg (show 0 ≤ (nI z + rd - 1).toInt by omega) (show 0 ≤ rd.toInt by omega)
      have g2 : (nI z + rd - 1).toInt.tdiv rd.toInt ≤ (nI z + rd - 1).toInt := Int.tdiv_le_self _ (by omega)
      rw [Int32.toInt_div, Int.bmod_eq_of_le (by omega) (by omega)]
      omega
    rw [if_neg h2]
    generalize (25 * sLd q + rd - 1) / rd = y at v3
    have e1 : (y + 2).toInt = y.toInt + (2 : Int32).toInt := add_i (by omega) (by rw [two_i]; omega)
    rw [two_i] at e1
    have e2 : (y + 2 - 1).toInt = (y + 2).toInt - (1 : Int32).toInt := sub_i (by omega) (by rw [one_i]; omega)
    rw [one_i] at e2
    exact div_bd (by omega) (by rw [two_i]; omega)
  · rw [if_neg h1]; exact v2
def mn (x y : Int32) : Int32 := if x ≤ y then x else y
theorem mn_lt (x y : Int32) : (if x < y then x else y) = mn x y := by unfold mn; grind
theorem mn_lt' (x y : Int32) : (if y < x then y else x) = mn x y := by unfold mn; grind
theorem mn_bd {x y : Int32} (hx : bd x) (hy : bd y) : bd (mn x y) := by unfold mn; split <;> assumption
theorem mn_l (x y : Int32) : mn x y ≤ x := by unfold mn; grind
theorem mn_r (x y : Int32) : mn x y ≤ y := by unfold mn; grind
def cutFrom (h : fH) (e : Int32) : Nat := cB (upB (hCut h) (e - 1)) (nC h)
noncomputable def minC (h : fH) (e x : Int32) : Int32 := if cutFrom h e < nC h then mn x (hCut h (cutFrom h e)) else x
theorem cutFrom_iff {h : fH} {k : fK} (I : Inv h k) {e : Int32} (he : inL e) {i : Nat} (hi : i < nC h) : hCut h i < e ↔ i < cutFrom h e := by
  unfold cutFrom
  rw [← cB_pre (p := upB (hCut h) (e - 1)) (m := nC h) (fun i hi h => by
    simp only [upB, decide_eq_true_eq] at h ⊢
    have := I.2.1.2.2.2 i hi
    unfold hCut at *
    grind) hi]
  simp only [upB, decide_eq_true_eq]
  unfold inL at he
  grind
theorem c_minC {σ : gSt} {h : fH} {k : fK} (F : FR σ 1 h k) (I : Inv h k) {e : Int32} (x : Int32) : (g_k1 (f_X0_firstFrom σ (1 + 2) e) fun v10 => (if v10 = (-1 : Int32) then some x else some (if v10 < x then v10 else x))) = some (minC h e x) := by
  have C := I.cutL
  have Fc := F.fc C
  have hle := cB_le_n (upB (hCut h) (e - 1)) (nC h)
  unfold f_X0_firstFrom minC cutFrom
  rw [c_upTo Fc, k1s]
  by_cases hs : cB (upB (hCut h) (e - 1)) (nC h) < nC h
  · rw [c_cutAt Fc hs, k1s, k1s, if_pos hs]
    have := C.2.2 _ hs
    rw [if_neg (by unfold inL at this; grind), mn_lt']
  · rw [c_cutAt_out Fc (Or.inr (nI_le (by omega) (by have := C.2.1; omega))), k1s, k1s, if_neg hs, if_pos rfl]
theorem m_minC {σ : gSt} (I : Inv (σ 1) (gK (σ 1))) {t c : Nat} (ht : t < 2) (hc : c < nT (σ 1) t) (x : Int32) : ∀ (i f : Nat), i < f → i ≤ nC (σ 1) → f_X10_fit_l1 (nI t) (nI c) σ f (nI i - 1) (if max (cutFrom (σ 1) (gK (σ 1) t c 1)) i < nC (σ 1) then mn x (hCut (σ 1) (max (cutFrom (σ 1) (gK (σ 1) t c 1)) i)) else x) = some (minC (σ 1) (gK (σ 1) t c 1) x) := by
  have C := I.cutL
  have h16 := I.n16 ht
  have hn := C.2.1
  intro i
  induction i with
  | zero =>
    intro f hf hi
    obtain ⟨f, rfl⟩ : ∃ m, f = m + 1 := ⟨f - 1, by omega⟩
    rw [f_X10_fit_l1, if_pos (by decide), Nat.max_zero]
    rfl
  | succ i ih =>
    intro f hf hi
    obtain ⟨f, rfl⟩ : ∃ m, f = m + 1 := ⟨f - 1, by omega⟩
    have := ih f (by omega) (by omega)
    have hiff := cutFrom_iff I (I.in1 ht hc) (i := i) (by omega)
    rw [f_X10_fit_l1, nI_sub1 (by omega), show i + 1 - 1 = i from rfl, if_neg (nI_pos (by omega)), m_cutG (by omega), k1s, m_end ht (by omega), k1s, show nI i + -1 = nI i - 1 from by grind]
    by_cases h1 : hCut (σ 1) i < gK (σ 1) t c 1
    · have h2 := hiff.mp h1
      rw [if_pos h1, k1s]
      rw [show max (cutFrom (σ 1) (gK (σ 1) t c 1)) i = max (cutFrom (σ 1) (gK (σ 1) t c 1)) (i + 1) by omega] at this
      exact this
    · have h2 : ¬ i < cutFrom (σ 1) (gK (σ 1) t c 1) := fun hh => h1 (hiff.mpr hh)
      rw [show max (cutFrom (σ 1) (gK (σ 1) t c 1)) i = i by omega, if_pos (by omega)] at this
      rw [if_neg h1, show max (cutFrom (σ 1) (gK (σ 1) t c 1)) (i + 1) = i + 1 by omega]
      have e : (if (if i + 1 < nC (σ 1) then mn x (hCut (σ 1) (i + 1)) else x) ≤ hCut (σ 1) i then some (if i + 1 < nC (σ 1) then mn x (hCut (σ 1) (i + 1)) else x) else (g_k1 (some (hCut (σ 1) i)) fun v28 => some v28)) = some (mn x (hCut (σ 1) i)) := by
        rw [k1s, ite_some]
        congr 1
        by_cases h3 : i + 1 < nC (σ 1)
        · have h4 := I.2.1.2.2.2 i h3
          rw [if_pos h3]
          unfold mn hCut
          grind
        · rw [if_neg h3]; rfl
      rw [k1s, e, k1s]
      exact this
def setRow (kp : Nat → Nat → Int32) (c : Nat) (q : Nat → Int32) : Nat → Nat → Int32 := fun c' => if c' = c then q else kp c'
theorem setRow_ok {len : Int32} {n c : Nat} {kp : Nat → Nat → Int32} {q : Nat → Int32} (K : tOK len n kp) (hc : c < n) (hq : capOK len q) (h0 : ∀ i, i + 1 = c → kp i 1 ≤ q 0) (h1 : c + 1 < n → q 1 ≤ kp (c + 1) 0) : tOK len n (setRow kp c q) := by
  obtain ⟨k1', k2', k3'⟩ := K
  refine ⟨k1', fun c' h => ?_, fun c' h => ?_⟩
  · unfold setRow
    split
    · exact hq
    · exact k2' c' h
  · unfold setRow
    by_cases e1 : c' = c
    · subst e1
      rw [if_pos rfl, if_neg (by omega)]; exact h1 h
    · rw [if_neg e1]
      by_cases e2 : c' + 1 = c
      · rw [if_pos e2]; exact h0 c' e2
      · rw [if_neg e2]; exact k3' c' h
def withEnd (q : Nat → Int32) (e : Int32) : Nat → Int32 := fun w => if w = 1 then e else q w
theorem capOK_wE {len e : Int32} {q : Nat → Int32} (h : capOK len q) (h1 : q 0 < e) (h2 : e ≤ len) : capOK len (withEnd q e) := by
  obtain ⟨a, b, d, f, g, i⟩ := h
  exact ⟨a, h1, h2, f, g, txtOK_congr (fun j hj => by unfold withEnd; rw [if_neg (by omega)]) i⟩
theorem call_fit {σ τ : gSt} (R : RR σ τ) (a b : Int32) : ∃ x r σ' r' τ', f_X9_fit σ a b = some (x, r, σ') ∧ f_X10_fit τ a b = some (r', τ') ∧ CR [0, 3] σ' τ' x r r' := by
  rcases capCases R.1 a b with ⟨t, c, ht, hc, rfl, rfl⟩ | ⟨e1, e2⟩
  · have hF := FU_ge
    have Z := R.1
    have I := Z.2
    have h16 := I.n16 ht
    have hc6 : c < 16 := by omega
    have cp := I.cap ht hc
    have q0 := I.in0 ht hc
    have q1 := I.in1 ht hc
    have t1 : up2 τ 0 10 0 1 = τ 1 := up2_k (by omega)
    have I0 : Inv (up2 τ 0 10 0 1) (gK (up2 τ 0 10 0 1)) := by rw [t1]; exact I
    have C := I.cutL
    obtain ⟨σ1, τ1, k1', k2', R1, fs, fs2, t0, tcc⟩ := keepRR (R.thr 0)
    have g1 : τ1 1 = τ 1 := by rw [tcc 1 (by omega) (by omega), t1]
    have Z1 := R1.1
    have F1 : FR σ1 1 (τ 1) (gK (τ 1)) := by have := Z1.1; rw [g1] at this; exact this
    have FT1 := F1.trk ht
    let N := sNd (gK (τ 1) t c) (τ 1 1)
    let L1 := mn (gK (τ 1) t c 0 + N) (τ 1 0)
    let L2 := if c + 1 < nT (τ 1) t then mn L1 (gK (τ 1) t (c + 1) 0 - τ 1 3) else L1
    let X := minC (τ 1) (gK (τ 1) t c 1) L2
    let D := if 0 < X - gK (τ 1) t c 1 then X - gK (τ 1) t c 1 else 0
    have hrd := I.1.2.1
    have hgap := I.1.2.2.2.1
    have hlen := I.1.1
    have Nb : 0 ≤ N.toInt ∧ N.toInt ≤ 1000 := sNd_bd cp.sz hrd
    have q0i := inL_i q0
    have q1i := inL_i q1
    have lenL : inL (τ 1 0) := ⟨by grind, by grind⟩
    have gapL : inL (τ 1 3) := ⟨by grind, by grind⟩
    have b1 : bd L1 := mn_bd (by
      have e : (gK (τ 1) t c 0 + N).toInt = (gK (τ 1) t c 0).toInt + N.toInt := add_i (by omega) (by omega)
      unfold bd; omega) (inL_bd lenL)
    have b2 : bd L2 := by
      show bd (if c + 1 < nT (τ 1) t then mn L1 (gK (τ 1) t (c + 1) 0 - τ 1 3) else L1)
      split
      · rename_i hn
        have z0 := inL_i (I.in0 ht hn)
        have z1 : (τ 1 3).toInt ≤ 9 := Int32.le_iff_toInt_le.mp hgap.2
        have z2 := inL_i gapL
        have e : (gK (τ 1) t (c + 1) 0 - τ 1 3).toInt = (gK (τ 1) t (c + 1) 0).toInt - (τ 1 3).toInt := sub_i (by omega) (by omega)
        exact mn_bd b1 (by unfold bd; omega)
      · exact b1
    have bX : bd X := by
      show bd (minC (τ 1) (gK (τ 1) t c 1) L2)
      unfold minC
      split
      · rename_i hs; exact mn_bd b2 (inL_bd (C.2.2 _ hs))
      · exact b2
    have X1 : X ≤ L2 := by
      show minC (τ 1) (gK (τ 1) t c 1) L2 ≤ L2
      unfold minC
      split
      · exact mn_l ..
      · exact Int32.le_refl _
    have L2a : L2 ≤ L1 := by
      show (if c + 1 < nT (τ 1) t then mn L1 (gK (τ 1) t (c + 1) 0 - τ 1 3) else L1) ≤ L1
      split
      · exact mn_l ..
      · exact Int32.le_refl _
    have L1a : L1 ≤ τ 1 0 := mn_r ..
    have bXd : (X - gK (τ 1) t c 1).toInt = X.toInt - (gK (τ 1) t c 1).toInt := sub_i (by unfold bd at bX; omega) (by omega)
    have hD : (if X ≤ gK (τ 1) t c 1 then (0 : Int32) else X - gK (τ 1) t c 1) = D := by
      show _ = (if 0 < X - gK (τ 1) t c 1 then X - gK (τ 1) t c 1 else 0)
      by_cases h : X ≤ gK (τ 1) t c 1
      · have h' := Int32.le_iff_toInt_le.mp h
        rw [if_pos h, if_neg (fun hh => by
          have := Int32.lt_iff_toInt_lt.mp hh
          have z : (0 : Int32).toInt = 0 := rfl
          omega)]
      · have h' : ¬ X.toInt ≤ (gK (τ 1) t c 1).toInt := fun hh => h (Int32.le_iff_toInt_le.mpr hh)
        rw [if_neg h, if_pos (Int32.lt_iff_toInt_lt.mpr (by
          have z : (0 : Int32).toInt = 0 := rfl
          omega))]
    have hE : gK (τ 1) t c 1 + D = gK (τ 1) t c 1 ∨ (gK (τ 1) t c 1 + D = X ∧ gK (τ 1) t c 1 < X) := by
      rw [← hD]
      by_cases h : X ≤ gK (τ 1) t c 1
      · rw [if_pos h]; exact Or.inl (Int32.add_zero _)
      · rw [if_neg h]; exact Or.inr ⟨by grind, Int32.not_le.mp h⟩
    let T := tB 1 t
    have bT := (tB_le ht).2
    have bT1 := (tB_le ht).1
    let σ2 := up2 (up2 σ1 (T + 1) c (gK (τ 1) t c 0)) (T + 2) c (gK (τ 1) t c 1 + D)
    let τ2 := up2 τ1 1 (aT t c 1) (gK (τ 1) t c 1 + D)
    have e2k : ∀ c' w, c' < 16 → w < 28 → gK (τ2 1) t c' w = setRow (gK (τ 1) t) c (withEnd (gK (τ 1) t c) (gK (τ 1) t c 1 + D)) c' w := fun c' w h1 h2 => by
      show gK (up2 τ1 1 (aT t c 1) (gK (τ 1) t c 1 + D) 1) t c' w = _
      rw [gK_put hc6 (by omega) _ h1 h2, g1]
      unfold setRow withEnd
      by_cases h : c' = c
      · subst h
        rw [if_pos rfl]
        by_cases hw : w = 1
        · rw [if_pos ⟨rfl, hw⟩, if_pos hw]
        · rw [if_neg (fun hh => hw hh.2), if_neg hw]
      · rw [if_neg (fun hh => h hh.1), if_neg h]
    have F2 : FT σ2 (tB 1 t) (nT (τ 1) t) (setRow (gK (τ 1) t) c (withEnd (gK (τ 1) t c) (gK (τ 1) t c 1 + D))) := by
      have v1 : ∀ j, σ2 (tB 1 t + 1) j = if j = c then gK (τ 1) t c 0 else σ1 (tB 1 t + 1) j := fun j => by
        show up2 (up2 σ1 (tB 1 t + 1) c _) (tB 1 t + 2) c _ (tB 1 t + 1) j = _
        rw [up2_k (by omega), up2_ap]; simp
      have v2 : ∀ j, σ2 (tB 1 t + 2) j = if j = c then gK (τ 1) t c 1 + D else σ1 (tB 1 t + 2) j := fun j => by
        show up2 (up2 σ1 (tB 1 t + 1) c _) (tB 1 t + 2) c _ (tB 1 t + 2) j = _
        rw [up2_ap, up2_k (by omega)]; simp
      have v3 : ∀ w, w ≠ 1 → w ≠ 2 → σ2 (tB 1 t + w) = σ1 (tB 1 t + w) := fun w h1 h2 => by
        show up2 (up2 σ1 (tB 1 t + 1) c _) (tB 1 t + 2) c _ (tB 1 t + w) = _
        rw [up2_k (by omega), up2_k (by omega)]
      refine ⟨by have := v3 0 (by omega) (by omega); rw [Nat.add_zero] at this; rw [this]; exact FT1.1, FT1.2.1, fun c' hc' => ?_⟩
      obtain ⟨f1, f2, f3, f4, f5⟩ := FT1.2.2 c' hc'
      rw [v1, v2, v3 3 (by omega) (by omega), v3 4 (by omega) (by omega), v3 5 (by omega) (by omega)]
      unfold setRow withEnd
      by_cases h : c' = c
      · subst h
        refine ⟨by simp, by simp, by simpa using f3, by simpa using f4, fun i hi => ?_⟩
        rw [if_pos rfl] at hi ⊢
        show σ1 (tB 1 t + 5) (24 * c' + i) = if 4 + i = 1 then _ else gK (τ 1) t c' (4 + i)
        rw [if_neg (by omega)]
        exact f5 i hi
      · simp only [if_neg h]
        exact ⟨f1, f2, f3, f4, f5⟩
    have K2 : tOK (τ 1 0) (nT (τ 1) t) (setRow (gK (τ 1) t) c (withEnd (gK (τ 1) t c) (gK (τ 1) t c 1 + D))) := by
      refine setRow_ok (I.tOK ht) hc (capOK_wE cp ?_ ?_) (fun i hi => ?_) (fun hn => ?_)
      · have := cp.2.1
        rcases hE with h | ⟨h, h'⟩
        · rw [h]; exact this
        · rw [h]; grind
      · have := cp.2.2.1
        rcases hE with h | ⟨h, h'⟩
        · rw [h]; exact this
        · rw [h]; exact Int32.le_trans X1 (Int32.le_trans L2a L1a)
      · subst hi
        exact (I.tOK ht).2.2 i hc
      · show gK (τ 1) t c 1 + D ≤ _
        have := (I.tOK ht).2.2 c hn
        rcases hE with h | ⟨h, h'⟩
        · rw [h]; exact this
        · rw [h]
          have e : L2 = mn L1 (gK (τ 1) t (c + 1) 0 - τ 1 3) := if_pos hn
          have z : X ≤ gK (τ 1) t (c + 1) 0 - τ 1 3 := by rw [e] at X1; exact Int32.le_trans X1 (mn_r ..)
          have z0 := inL_i (I.in0 ht hn)
          have z2 := inL_i gapL
          have e' : (gK (τ 1) t (c + 1) 0 - τ 1 3).toInt = (gK (τ 1) t (c + 1) 0).toInt - (τ 1 3).toInt := sub_i (by omega) (by omega)
          have z' := Int32.le_iff_toInt_le.mp z
          exact Int32.le_iff_toInt_le.mpr (by omega)
    have Z2 : FI σ2 τ2 := by
      refine Z1.track ht F2 (fun c' w h1 h2 => e2k c' w (by omega) h2) ?_ (offT.put (σ := τ1) ht hc6 (show 1 < 28 by omega) rfl _) (fun c' h1 h2 h3 => ?_) (by rw [g1]; exact K2)
      · show up2 τ1 1 (aT t c 1) _ 1 (28 + t) = _
        rw [up2_j (by unfold aT; omega), g1]; exact I.nT_eq ht
      · show up2 (up2 σ1 (tB 1 t + 1) c _) (tB 1 t + 2) c _ c' = _
        rw [up2_k (by omega), up2_k (by omega)]
    have R2 := R1.film2 Z2 (fun c' hc' => by
      show up2 (up2 σ1 (tB 1 t + 1) c _) (tB 1 t + 2) c _ c' = _
      rw [up2_k (by omega), up2_k (by omega)]) (fun c' h1 h2 => up2_k h1)
    refine ⟨0, D, σ2, D, τ2, ?_, ?_, R2, CO.z (L := [0, 3]) (by
      show up2 τ1 1 (aT t c 1) _ 0 10 = 0
      rw [up2_k (by omega), t0 10 (by omega), up2_s]) (by decide), fun _ => rfl⟩
    · have hcut := c_minC F1 I (e := gK (τ 1) t c 1) L2
      have elim : (if (if c + 1 < nT (τ 1) t then (1 : Int32) else 0) = 0 then some (if (gK (τ 1) t c 0 + N) < τ 1 0 then (gK (τ 1) t c 0 + N) else τ 1 0) else (g_k1 (f_X8_first σ1 (tB 1 t) (nI (c + 1))) fun v20 => (g_k1 (some (τ 1 3)) fun v21 => some (if (v20 - v21) < (if (gK (τ 1) t c 0 + N) < τ 1 0 then (gK (τ 1) t c 0 + N) else τ 1 0) then (v20 - v21) else (if (gK (τ 1) t c 0 + N) < τ 1 0 then (gK (τ 1) t c 0 + N) else τ 1 0))))) = some L2 := by
        rw [mn_lt]
        by_cases hn : c + 1 < nT (τ 1) t
        · rw [if_pos hn, if_neg (by decide), c_first FT1 hn, k1s, k1s, mn_lt', show L2 = mn L1 (gK (τ 1) t (c + 1) 0 - τ 1 3) from if_pos hn]
        · rw [if_neg hn, if_pos rfl, show L2 = L1 from if_neg hn]
      have ehas : f_X8_has σ1 (tB 1 t) (nI (c + 1)) = some (if c + 1 < nT (τ 1) t then 1 else 0) := by
        by_cases hn : c + 1 < nT (τ 1) t
        · rw [if_pos hn]; exact c_has_t FT1.1 FT1.2.1 hn
        · rw [if_neg hn]; exact c_has_f FT1.1 (Or.inr (nI_le (by omega) (by omega)))
      unfold f_X9_fit f_X1_fitCaption
      rw [c_reqC Z.1 ht hc, x2s, k1', k1s, c_trackOf σ1 1 ht, k1s, c_end FT1 hc, k1s, c_first FT1 hc, k1s, c_needs F1 ht hc cp.sz I.rd, k1s, nI_s1, ehas, k1s, c_set2 F1, F1.1]
      rw [show sNd (gK (τ 1) t c) (τ 1 1) = N from rfl, elim, k1s, ← k1k, hcut, k1s, k1s, c_setFrames FT1.1 FT1.2.1 hc, k1s, k2s]
    · have em := m_minC I0 ht (c := c) (by rw [t1]; exact hc) L2 (nC (τ 1)) FU (by have := C.2.1; omega) (by rw [t1]; exact Nat.le_refl _)
      rw [t1, if_neg (by omega)] at em
      have elim : (if nI (nT (τ 1) t) ≤ nI (c + 1) then some L1 else (g_k1 (f_X10_first (up2 τ 0 10 0) (nI t) (nI (c + 1))) fun v41 => (if L1 ≤ (v41 - τ 1 3) then some L1 else (g_k1 (f_X10_first (up2 τ 0 10 0) (nI t) (nI (c + 1))) fun v43 => some (v43 - τ 1 3))))) = some L2 := by
        by_cases hn : c + 1 < nT (τ 1) t
        · rw [if_neg (nI_ge hn (by omega)), m_first ht (by omega), t1, k1s, k1s, ite_some, show L2 = mn L1 (gK (τ 1) t (c + 1) 0 - τ 1 3) from if_pos hn]; rfl
        · rw [if_pos (nI_le (by omega) (by omega)), show L2 = L1 from if_neg hn]
      unfold f_X10_fit
      rw [m_isCap I ht hc, k1s, if_neg (by decide), k1s, gset_n, k1s, up2_s, if_pos (by decide), m_first ht hc6, t1, k1s, m_needs ht hc6 (by rw [t1]; exact cp.sz) I0.rd, t1, k1s, ite_some, k1s]
      rw [show (if gK (τ 1) t c 0 + sNd (gK (τ 1) t c) (τ 1 1) ≤ τ 1 0 then gK (τ 1) t c 0 + sNd (gK (τ 1) t c) (τ 1 1) else τ 1 0) = L1 from rfl]
      rw [m_cnt ht, t1, k1s, I.nT_eq ht, nI_s1, elim, k1s, C.1, em, k1s, k2', k1s, m_end ht hc6, g1, k1s, k1s, ite_some, hD, k1s, m_at1, k1s]
      rw [show nI (30 + 28 * (16 * t + c) + 1) = nI (aT t c 1) from rfl, m_gK' ht hc6 (by omega), g1, k1s, m_put ht hc6 (by omega), k1s]
  · refine ⟨3, 0, σ, 0, up2 τ 0 10 1, ?_, ?_, R.thr 1, CO.o (L := [0, 3]) (up2_s ..) (by decide), fun h => by omega⟩
    · unfold f_X9_fit
      rw [e1]; rfl
    · unfold f_X10_fit
      rw [e2, k1s, if_pos rfl, k1s, gset_n, k1s, up2_s, if_neg (by decide)]
