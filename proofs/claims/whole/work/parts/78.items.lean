/-! ===== the items of a text ===== -/
theorem IR1.fr {σ σ' τ τ' : gSt} {m j : Nat} (I : IR1 σ τ m j) (h1 : ∀ c, 192 ≤ c → c ≤ 198 → σ' c j = σ c j) (h2 : ∀ k, k < 6 → τ' 7 (6 * j + k) = τ 7 (6 * j + k)) : IR1 σ' τ' m j := by
  have t0 : τ' 7 (6 * j) = τ 7 (6 * j) := h2 0 (by omega)
  unfold IR1
  rw [t0, h2 1 (by omega), h2 2 (by omega), h2 3 (by omega), h2 4 (by omega), h2 5 (by omega), h1 192 (by omega) (by omega), h1 193 (by omega) (by omega), h1 194 (by omega) (by omega), h1 195 (by omega) (by omega), h1 196 (by omega) (by omega), h1 197 (by omega) (by omega), h1 198 (by omega) (by omega)]
  exact I
theorem items_both {m : Nat} {u : Nat → Int32} {σ0 τ0 : gSt} : ∀ (d i p f f' : Nat) (σ τ : gSt), CB σ m u → MB τ m u → p ≤ m → m - p < d → 3 * i ≤ p → d ≤ f → d ≤ f' → σ 191 7 = nI i → τ 0 16 = nI i → (∀ j, j < i → IR1 σ τ m j) →
    ∃ ok p' n σ' τ', f_X5_readText_l1 σ0 f (nI i) (cs σ p) = some (ok, cs σ' p') ∧ f_X10_isItems_l1 τ0 f' (ms τ p) = some (ok, ms τ' p') ∧ p' ≤ m ∧ (∀ c, (c < 191 ∨ 198 < c) → σ' c = σ c) ∧ (∀ c, c ≠ 0 → c ≠ 7 → τ' c = τ c) ∧ (∀ j, j ≠ 14 → j ≠ 16 → τ' 0 j = τ 0 j) ∧ (ok = 0 ∨ (ok = 1 ∧ n ≤ 30 ∧ σ' 191 7 = nI n ∧ τ' 0 16 = nI n ∧ ∀ j, j < n → IR1 σ' τ' m j)) := by
  intro d
  induction d with
  | zero => intro i p f f' σ τ B M hp hd; exact absurd hd (by omega)
  | succ d ih =>
    intro i p f f' σ τ B M hp hd h3 hf hf' h7 h16 hI
    have hm := M.2.1
    obtain ⟨n, rfl⟩ : ∃ n, f = n + 1 := ⟨f - 1, by omega⟩
    obtain ⟨n', rfl⟩ : ∃ n', f' = n' + 1 := ⟨f' - 1, by omega⟩
    obtain ⟨ok, p1, σ1, τ1, e1, e2, q1, q2, F1, F2, hok⟩ := item_both B M hp (show i < 30 by omega) h16
    have ec : f_X5_readText_l1 σ0 (n + 1) (nI i) (cs σ p) = (if ok = 0 then some ((0 : Int32), cs σ1 p1) else (g_k1 (gset (cs σ1 p1) 191 7 (((cs σ1 p1) 191 7) + (1 : Int32))) fun σ10 => (if gkd ((σ10 191 9).toNatClampNeg) = 7 then (if (σ10 191 8) < (σ10 ((σ10 191 9).toNatClampNeg) 1) then (g_k2 (f_X5_takeSign σ10 (59 : Int32)) fun v13 σ14 => (if v13 = 0 then some ((0 : Int32), σ14) else (f_X5_readText_l1 σ0 n ((nI i) + 1) σ14))) else some ((1 : Int32), σ10)) else none))) := by
      rw [f_X5_readText_l1, if_neg (show ¬ (30 : Int32) ≤ nI i from nI_ge (b := 30) (by omega) (by omega)), e1, k2s]
    have em : f_X10_isItems_l1 τ0 (n' + 1) (ms τ p) = (if ok = 0 then some ((0 : Int32), ms τ1 p1) else (g_k2 (f_X10_skips (ms τ1 p1) (59 : Int32)) fun v7 σ8 => (if v7 = 0 then (g_k1 (if (σ8 0 13) = (σ8 0 12) then some (1 : Int32) else some (0 : Int32)) fun x10 => (g_k1 (gzb x10) fun v13 => some (v13, σ8))) else (f_X10_isItems_l1 τ0 n' σ8)))) := by
      rw [f_X10_isItems_l1, e2, k2s]
    have M1 : MB τ1 m u := ⟨by rw [F2.2.1 12 (by omega) (by omega)]; exact M.1, hm, by rw [F2.1 6 (by omega) (by omega)]; exact M.2.2⟩
    have B1 : CB σ1 m u := B.of (by rw [F1.1 191 (by omega)]) (F1.1 187 (by omega)) (F1.1 188 (by omega))
    rcases hok with rfl | ⟨rfl, q3, q16, I1⟩
    · exact ⟨0, p1, 0, σ1, τ1, by rw [ec, if_pos rfl], by rw [em, if_pos rfl], q2, fun c hc => F1.1 c (by omega), F2.1, F2.2.1, Or.inl rfl⟩
    · obtain ⟨σ2, eσ2⟩ : ∃ t, t = up2 σ1 191 7 (nI (i + 1)) := ⟨_, rfl⟩
      have B2 : CB σ2 m u := by rw [eσ2]; exact B1.up (Or.inr ⟨rfl, rfl⟩)
      have g7 : gset (cs σ1 p1) 191 7 (((cs σ1 p1) 191 7) + (1 : Int32)) = some (cs σ2 p1) := by
        have : cs σ1 p1 191 7 = nI i := by unfold cs; rw [up2_j (by omega), F1.1 191 (by omega), h7]
        rw [gset_n, this, nI_s1, eσ2]
        exact congrArg some (up2_sw (by omega))
      have c2 : ∀ c, (c < 191 ∨ 198 < c) → σ2 c = σ c := fun c hc => by rw [eσ2, up2_k (by omega)]; exact F1.1 c (by omega)
      have I2 : ∀ j, j < i + 1 → IR1 σ2 τ1 m j := fun j hj => by
        by_cases hji : j = i
        · subst hji
          exact I1.fr (fun c h1 h2 => by rw [eσ2, up2_k (by omega)]) (fun k hk => rfl)
        · exact (hI j (by omega)).fr (fun c h1 h2 => by rw [eσ2, up2_k (by omega)]; exact F1.2 c j hji) (fun k hk => F2.2.2 _ (by omega))
      have s7 : σ2 191 7 = nI (i + 1) := by rw [eσ2, up2_s]
      have hlen : (cs σ2 p1) 187 1 = nI m := (B2.cs p1).2.1
      have ec2 : f_X5_readText_l1 σ0 (n + 1) (nI i) (cs σ p) = (if nI p1 < nI m then (g_k2 (f_X5_takeSign (cs σ2 p1) (59 : Int32)) fun v13 σ14 => (if v13 = 0 then some ((0 : Int32), σ14) else (f_X5_readText_l1 σ0 n ((nI i) + 1) σ14))) else some ((1 : Int32), cs σ2 p1)) := by
        rw [ec, if_neg (by decide), g7, k1s, if_pos (c_gk B2), (B2.cs p1).1, n187, cs_s, hlen]
      have em2 : f_X10_isItems_l1 τ0 (n' + 1) (ms τ p) = (g_k2 (f_X10_skips (ms τ1 p1) (59 : Int32)) fun v7 σ8 => (if v7 = 0 then (g_k1 (if (σ8 0 13) = (σ8 0 12) then some (1 : Int32) else some (0 : Int32)) fun x10 => (g_k1 (gzb x10) fun v13 => some (v13, σ8))) else (f_X10_isItems_l1 τ0 n' σ8))) := by
        rw [em, if_neg (by decide)]
      have e12 : ms τ1 p1 0 12 = nI m := by unfold ms; rw [up2_j (by omega)]; exact M1.1
      by_cases hlt : p1 < m
      · by_cases h59 : sg m u p1 = 59
        · obtain ⟨ok', p', n2, σ', τ', a1, a2, a3, a4, a5, a6, a7⟩ := ih (i + 1) (p1 + 1) n n' σ2 τ1 B2 M1 (by omega) (by omega) (by omega) (by omega) (by omega) s7 q16 I2
          refine ⟨ok', p', n2, σ', τ', ?_, ?_, a3, fun c hc => (a4 c hc).trans (c2 c hc), fun c h0 h1 => (a5 c h0 h1).trans (F2.1 c h0 h1), fun j h0 h1 => (a6 j h0 h1).trans (F2.2.1 j h0 h1), a7⟩
          · rw [ec2, if_pos (nI_lt hlt (by omega)), c_takeSign B2 (by omega), if_pos h59, k2s, if_neg (by decide), nI_s1, a1]
          · rw [em2, m_skips M1 (by omega), if_pos h59, k2s, if_neg (by decide), a2]
        · refine ⟨0, p1, 0, σ2, τ1, ?_, ?_, q2, c2, F2.1, F2.2.1, Or.inl rfl⟩
          · rw [ec2, if_pos (nI_lt hlt (by omega)), c_takeSign B2 (by omega), if_neg h59, k2s, if_pos rfl]
          · rw [em2, m_skips M1 (by omega), if_neg h59, k2s, if_pos rfl, ms_s, e12, if_neg (fun e => by rw [nI_eq (by omega) (by omega)] at e; omega), k1s]; rfl
      · have hpm : p1 = m := by omega
        refine ⟨1, p1, i + 1, σ2, τ1, ?_, ?_, q2, c2, F2.1, F2.2.1, Or.inr ⟨rfl, by omega, s7, q16, I2⟩⟩
        · rw [ec2, if_neg (nI_nlt (by omega) (by omega))]
        · rw [em2, m_skips M1 (by omega), if_neg (by unfold sg; rw [if_neg hlt]; decide), k2s, if_pos rfl, ms_s, e12, if_pos (by rw [hpm]), k1s]; rfl
theorem text_both {σ τ : gSt} {m : Nat} (T : TX σ 187 m (τ 6)) (h12 : τ 0 12 = nI m) :
    ∃ ok p' n σ' τ', f_X5_readText σ 187 = some (ok, cs σ' p') ∧ f_X10_isItems τ = some (ok, ms τ' p') ∧ p' ≤ m ∧ (∀ c, (c < 191 ∨ 198 < c) → σ' c = σ c) ∧ (∀ c, c ≠ 0 → c ≠ 7 → τ' c = τ c) ∧ (∀ j, j ≠ 14 → j ≠ 16 → τ' 0 j = τ 0 j) ∧ (ok = 0 ∨ (ok = 1 ∧ n ≤ 30 ∧ σ' 191 7 = nI n ∧ τ' 0 16 = nI n ∧ ∀ j, j < n → IR1 σ' τ' m j)) := by
  have hm := T.2.1
  have hF := FU_ge
  obtain ⟨σ1, e1⟩ : ∃ t, t = up2 (up2 σ 191 9 (nI 187)) 191 7 (nI 0) := ⟨_, rfl⟩
  obtain ⟨τ1, e2⟩ : ∃ t, t = up2 τ 0 16 (nI 0) := ⟨_, rfl⟩
  have c1 : ∀ c, c ≠ 191 → σ1 c = σ c := fun c hc => by rw [e1, up2_k hc, up2_k hc]
  have B : CB σ1 m (τ 6) := ⟨by rw [e1, up2_j (by omega), up2_s], T.frame (c1 187 (by omega)) (c1 188 (by omega))⟩
  have M : MB τ1 m (τ 6) := ⟨by rw [e2, up2_j (by omega)]; exact h12, hm, by rw [e2, up2_k (by omega)]⟩
  obtain ⟨ok, p', n, σ', τ', a1, a2, a3, a4, a5, a6, a7⟩ := items_both (σ0 := cs σ1 0) (τ0 := ms τ1 0) 100 0 0 FU FU σ1 τ1 B M (Nat.zero_le m) (by omega) (by omega) (by omega) (by omega) (by rw [e1, up2_s]) (by rw [e2, up2_s]) (fun j hj => absurd hj (Nat.not_lt_zero j))
  refine ⟨ok, p', n, σ', τ', ?_, ?_, a3, fun c hc => (a4 c hc).trans (c1 c (by omega)), fun c h0 h7 => (a5 c h0 h7).trans (by rw [e2, up2_k h0]), fun j h1 h2 => (a6 j h1 h2).trans (by rw [e2, up2_j h2]), a7⟩
  · unfold f_X5_readText
    rw [gset_n, k1s, gset_n, k1s, gset_n, k1s]
    have e : up2 (up2 (up2 σ 191 9 (nI 187)) 191 8 0) 191 7 0 = cs σ1 0 := by rw [e1]; exact up2_sw (by omega)
    rw [e]
    exact a1
  · unfold f_X10_isItems
    rw [gset_n, k1s, gset_n, k1s]
    have e : up2 (up2 τ 0 13 0) 0 16 0 = ms τ1 0 := by rw [e2]; exact up2_sw (by omega)
    rw [e]
    exact a2
