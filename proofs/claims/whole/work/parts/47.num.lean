theorem tOK.chain {len : Int32} {n : Nat} {kp : Nat → Nat → Int32} (K : tOK len n kp) : ∀ d i, i + d + 1 < n → kp i 1 ≤ kp (i + d + 1) 0 := by
  intro d
  induction d with
  | zero => intro i hi; exact K.2.2 i hi
  | succ d ih =>
    intro i hi
    have h1 := ih i (by omega)
    have h2 := (K.2.1 (i + d + 1) (by omega)).2.1
    have h3 := K.2.2 (i + d + 1) (by omega)
    rw [show i + (d + 1) + 1 = i + d + 1 + 1 by omega]
    grind
theorem sHd_ge (q : Nat → Int32) (p : Nat) : 1 ≤ sHd q p := by
  unfold sHd
  split
  · rename_i h; exact Int32.le_of_lt h
  · exact Int32.le_refl _
theorem sSp_nn (h : fH) (k : fK) (t c p : Nat) : 0 ≤ sSp h k t c p := by
  unfold sSp
  repeat' split
  all_goals decide
def hdRow (q : Nat → Int32) (e : Int32) (p : Nat) : Nat → Int32 := fun w => if w = 1 then e else if w = 3 then nI p else if 4 + p ≤ w then 0 else q w
theorem m_isTextK {σ : gSt} {t c p m : Nat} (ht : t < 2) (hc : c < 16) (hp : p + m ≤ 24) : f_X10_isText σ 1 (nI (30 + 28 * (16 * t + c) + 4 + p)) (nI m) = some (b01 (txtOK m (fun i => gK (σ 1) t c (4 + (p + i))))) := by
  have e : (fun i => σ 1 (30 + 28 * (16 * t + c) + 4 + p + i)) = fun i => gK (σ 1) t c (4 + (p + i)) := by
    funext i
    unfold gK
    congr 1
    omega
  rw [m_isText (fun _ _ => by show _ ≤ 926; omega) (by omega) (by omega) (by decide), e]
theorem m_barsP {σ : gSt} {t c p m : Nat} (ht : t < 2) (hc : c < 16) (hp : p + m ≤ 24) : f_X10_bars σ 1 (nI (30 + 28 * (16 * t + c) + 4 + p)) (nI m) = some (nI (nB (fun i => gK (σ 1) t c (4 + (p + i))) m)) := by
  have e : (fun i => σ 1 (30 + 28 * (16 * t + c) + 4 + p + i)) = fun i => gK (σ 1) t c (4 + (p + i)) := by
    funext i
    unfold gK
    congr 1
    omega
  rw [m_bars (by show _ ≤ 926; omega) (by decide), e]
/-- the reference's refusal of a split, down to what it does -/
theorem m_splitB {σ : gSt} (I : Inv (σ 1) (gK (σ 1))) {t c p : Nat} (ht : t < 2) (hc : c < nT (σ 1) t) (hp : p < nN (gK (σ 1) t c 3)) (hsg : gK (σ 1) t c (4 + p) = 95 ∨ gK (σ 1) t c (4 + p) = 124) (hne : sSp (σ 1) (gK (σ 1)) t c p ≠ 0) :
    f_X10_split_b1 (nI t) (nI c) (nI p) (nI (nN (gK (σ 1) t c 3))) (nI (30 + 28 * (16 * t + c) + 4)) σ = g_k2 (f_X10_refuses σ 2 (sSp (σ 1) (gK (σ 1)) t c p)) fun v s => some (v, s) := by
  have cp := I.cap ht hc
  have h16 := I.n16 ht
  have hs2 := cp.sz.2
  have hc6 : c < 16 := by omega
  have i1 := m_isTextK (σ := σ) (p := 0) (m := p) ht hc6 (by omega)
  have i2 := m_isTextK (σ := σ) (p := p + 1) (m := nN (gK (σ 1) t c 3) - (p + 1)) ht hc6 (by omega)
  simp only [Nat.zero_add, Nat.add_zero] at i1
  unfold f_X10_split_b1
  rw [i1, k1s]
  have ep : nI (30 + 28 * (16 * t + c) + 4) + nI p + 1 = nI (30 + 28 * (16 * t + c) + 4 + (p + 1)) := by rw [nI_add, nI_s1]; rfl
  have em : nI (nN (gK (σ 1) t c 3)) - nI p - 1 = nI (nN (gK (σ 1) t c 3) - (p + 1)) := by rw [pk_sub (by omega), nI_sub1 (by omega)]; rfl
  rw [ep, em, i2, k1s]
  unfold sSp at hne ⊢
  rw [if_pos hsg] at hne ⊢
  by_cases v1 : txtOK p (fun i => gK (σ 1) t c (4 + i))
  · rw [b01_t v1, if_neg (show ¬ (1 : Int32) = 0 by decide)] at hne ⊢
    rw [if_neg (show ¬ (1 : Int32) = 0 by decide)]
    by_cases v2 : b01 (txtOK (nN (gK (σ 1) t c 3) - (p + 1)) (fun i => gK (σ 1) t c (4 + (p + 1 + i)))) = 0
    · rw [if_pos v2, if_pos v2]
    · rw [if_neg v2] at hne ⊢
      rw [if_neg v2]
      have j1 := m_barsP (σ := σ) (p := 0) (m := p) ht hc6 (by omega)
      have j2 := m_barsP (σ := σ) (p := p + 1) (m := nN (gK (σ 1) t c 3) - (p + 1)) ht hc6 (by omega)
      simp only [Nat.zero_add, Nat.add_zero] at j1
      have hA := hdA_pos v1
      have lA := nB_le (fun i => gK (σ 1) t c (4 + i)) p
      have lB := nB_le (fun i => gK (σ 1) t c (4 + (p + 1 + i))) (nN (gK (σ 1) t c 3) - (p + 1))
      have eA : nI p - nI (nB (fun i => gK (σ 1) t c (4 + i)) p) = nI (hdA (gK (σ 1) t c) p) := by rw [pk_sub lA]; rfl
      have eB : nI (nN (gK (σ 1) t c 3) - (p + 1)) - nI (nB (fun i => gK (σ 1) t c (4 + (p + 1 + i))) (nN (gK (σ 1) t c 3) - (p + 1))) = nI (hdB (gK (σ 1) t c) p) := by rw [pk_sub lB]; rfl
      have hAl : hdA (gK (σ 1) t c) p ≤ 24 := by unfold hdA; omega
      have hBl : hdB (gK (σ 1) t c) p ≤ 24 := by unfold hdB; omega
      have hz : ¬ nI (hdA (gK (σ 1) t c) p + hdB (gK (σ 1) t c) p) = 0 := fun hh => by
        have := (nI_eq (a := hdA (gK (σ 1) t c) p + hdB (gK (σ 1) t c) p) (b := 0) (by omega) (by omega)).mp hh
        omega
      rw [j1, k1s, j2, k1s, m_end ht hc6, k1s, m_first ht hc6, k1s, eA, eB, nI_add]
      unfold gdiv
      rw [if_neg hz, k1s]
      have ex : (if (1 : Int32) ≤ (((gK (σ 1) t c 1 - gK (σ 1) t c 0) * nI (hdA (gK (σ 1) t c) p)) / nI (hdA (gK (σ 1) t c) p + hdB (gK (σ 1) t c) p)) then some (((gK (σ 1) t c 1 - gK (σ 1) t c 0) * nI (hdA (gK (σ 1) t c) p)) / nI (hdA (gK (σ 1) t c) p + hdB (gK (σ 1) t c) p)) else some (1 : Int32)) = some (sHd (gK (σ 1) t c) p) := by
        rw [ite_some]
        congr 1
        unfold sHd
        grind
      rw [ex, k1s]
      by_cases v3 : sHd (gK (σ 1) t c) p < gK (σ 1) t c 1 - gK (σ 1) t c 0
      · rw [if_pos v3] at hne ⊢
        rw [if_pos v3]
        by_cases v4 : nT (σ 1) t < 16
        · rw [if_pos v4] at hne; exact absurd rfl hne
        · rw [if_neg v4, m_cnt ht, k1s, I.nT_eq ht, if_pos (show nI (nT (σ 1) t) = 16 by rw [show nT (σ 1) t = 16 by omega]; rfl)]
      · rw [if_neg v3, if_neg v3]
  · rw [b01_f v1, if_pos rfl, if_pos rfl]
