/-! ===== the call read ===== -/
theorem HR.frN {σ σ' τ τ' : gSt} {p nx : Nat} (H : HR σ τ p nx) (h1 : σ' 25 = σ 25) (h2 : ∀ c, 27 ≤ c → c < 171 → (c < gFx nx ∨ gFx nx + 16 ≤ c) → σ' c = σ c) (h3 : τ' 0 5 = τ 0 5) (h4 : τ' 4 = τ 4) : HR σ' τ' p nx := by
  obtain ⟨a, b, d, e, f, g⟩ := H
  refine ⟨a, b, by rw [h1]; exact d, by rw [h1]; exact e, h3.trans f, fun j hj => ?_⟩
  obtain ⟨g1, g2⟩ := g j hj
  have e2 : pRow τ' j = pRow τ j := by unfold pRow; rw [h4]
  rw [e2]
  have h9 : (nx + 9 - p + j) % 9 < 9 := Nat.mod_lt _ (by omega)
  have hne : (nx + 9 - p + j) % 9 ≠ nx := by omega
  generalize (nx + 9 - p + j) % 9 = q at *
  exact ⟨g1.frame (fun c hc1 hc2 => h2 c (by unfold gFx at hc1; omega) (by unfold gFx at hc2; omega) (by unfold gFx at *; omega)), g2⟩
theorem c_clr (σ : gSt) (k : Nat) : f_X7_clear σ k = some (up2 σ k 1 0) := rfl
theorem call_read {σ τ : gSt} (R : RR σ τ) : ∃ x r σ' r' τ', f_X9_read σ = some (x, r, σ') ∧ f_X10_read τ = some (r', τ') ∧ CR [0, 1, 2] σ' τ' x r r' := by
  have hF := FU_ge
  obtain ⟨a, b, d, ⟨p, nx, H⟩, m, T, h12, hl⟩ := R
  have hp := H.1
  have hn := H.2.1
  have hg : gFx nx + 16 ≤ 171 ∧ 27 ≤ gFx nx := by unfold gFx; omega
  have t6 : up2 τ 0 10 0 6 = τ 6 := up2_k (by omega)
  obtain ⟨ok, p', n, σ1, τ1, t1, t2, hp', c1, c2, c3, hok⟩ := text_both (σ := σ) (τ := up2 τ 0 10 0) (by rw [t6]; exact T) (by rw [up2_j (by omega)]; exact h12)
  have cc : ∀ c, (c < 191 ∨ 198 < c) → cs σ1 p' c = σ c := fun c hc => by unfold cs; rw [up2_k (by omega)]; exact c1 c hc
  obtain ⟨τ2, eτ2⟩ : ∃ t, t = up2 (ms τ1 p') 0 12 0 := ⟨_, rfl⟩
  have d0 : ∀ j, j ≠ 10 → j ≠ 12 → j ≠ 13 → j ≠ 14 → j ≠ 16 → τ2 0 j = τ 0 j := fun j h1 h2 h3 h4 h5 => by
    rw [eτ2, up2_j h2]; unfold ms; rw [up2_j h3, c3 j h4 h5, up2_j h1]
  have d10 : τ2 0 10 = 0 := by rw [eτ2, up2_j (by omega)]; unfold ms; rw [up2_j (by omega), c3 10 (by omega) (by omega), up2_s]
  have d12 : τ2 0 12 = nI 0 := by rw [eτ2, up2_s]; rfl
  have d13 : τ2 0 13 = nI p' := by rw [eτ2, up2_j (by omega)]; exact ms_s ..
  have d16 : τ2 0 16 = τ1 0 16 := by rw [eτ2, up2_j (by omega)]; unfold ms; rw [up2_j (by omega)]
  have d7 : τ2 7 = τ1 7 := by rw [eτ2, up2_k (by omega)]; unfold ms; rw [up2_k (by omega)]
  have dc : ∀ c, c ≠ 0 → c ≠ 7 → τ2 c = τ c := fun c h0 h7 => by rw [eτ2, up2_k h0]; unfold ms; rw [up2_k h0, c2 c h0 h7, up2_k h0]
  have em : f_X10_read τ = (if ok = 0 then (g_k1 (gset τ2 0 9 (τ2 0 13)) fun σ18 => (g_k2 (f_X10_fails σ18 (1 : Int32)) fun v19 σ20 => some (v19, σ20))) else (g_k1 (f_X10_copies τ2 1 (0 : Int32) 3 (0 : Int32)) fun σ6 => (f_X10_read_l1 σ6 FU (0 : Int32) σ6))) := by
    unfold f_X10_read
    rw [gset_n, k1s, t2, k2s, gset_n, k1s, eτ2]
  rcases hok with rfl | ⟨rfl, hn30, s7, s16, hI⟩
  · obtain ⟨σ', eσ'⟩ : ∃ t, t = up2 (up2 (cs σ1 p') 187 1 0) 0 9 (nI p') := ⟨_, rfl⟩
    obtain ⟨τ', eτ'⟩ : ∃ t, t = up2 (up2 τ2 0 9 (nI p')) 0 10 1 := ⟨_, rfl⟩
    have sc : ∀ c, c ≠ 0 → c ≠ 187 → (c < 191 ∨ 198 < c) → σ' c = σ c := fun c h0 h1 h2 => by rw [eσ', up2_k h0, up2_k h1, cc c h2]
    have s0 : ∀ j, j ≠ 9 → σ' 0 j = σ 0 j := fun j hj => by rw [eσ', up2_j hj, up2_k (by omega), cc 0 (by omega)]
    have u0 : ∀ j, j ≠ 9 → j ≠ 10 → j ≠ 12 → j ≠ 13 → j ≠ 14 → j ≠ 16 → τ' 0 j = τ 0 j := fun j h1 h2 h3 h4 h5 h6 => by rw [eτ', up2_j h2, up2_j h1, d0 j h2 h3 h4 h5 h6]
    have uc : ∀ c, c ≠ 0 → c ≠ 7 → τ' c = τ c := fun c h0 h7 => by rw [eτ', up2_k h0, up2_k h0, dc c h0 h7]
    refine ⟨1, 0, σ', 0, τ', ?_, ?_, ⟨a.frame (fun c h1 h2 => sc c (by omega) (by omega) (by omega)) (uc 1 (by omega) (by omega)), b.frame (s0 5 (by omega)) (fun c h1 h2 => sc c (by omega) (by omega) (by omega)) (u0 3 (by omega) (by omega) (by omega) (by omega) (by omega) (by omega)) (uc 2 (by omega) (by omega)), ⟨?_, ?_, ?_, ?_⟩, ⟨p, nx, H.frame (sc 25 (by omega) (by omega) (by omega)) (fun c h1 h2 => sc c (by omega) (by omega) (by omega)) (u0 5 (by omega) (by omega) (by omega) (by omega) (by omega) (by omega)) (uc 4 (by omega) (by omega))⟩, 0, ⟨?_, by omega, fun i hi => absurd hi (Nat.not_lt_zero i)⟩, ?_, fun i hi => absurd hi (Nat.not_lt_zero i)⟩, CO.o (L := [0, 1, 2]) (by rw [eτ', up2_s]) (by decide), fun h => absurd h (by decide)⟩
    · unfold f_X9_read
      have e8 : up2 (cs σ1 p') 187 1 0 191 8 = nI p' := by rw [up2_k (by omega)]; exact cs_s ..
      rw [t1, k2s, if_pos rfl, k2s, c_clr, k1s, if_pos rfl, gset_n, k1s, e8, eσ']
    · rw [em, if_pos rfl, gset_n, k1s, d13]
      unfold f_X10_fails
      rw [gset_n, k1s, k2s, eτ']
    · rw [s0 10 (by omega), u0 7 (by omega) (by omega) (by omega) (by omega) (by omega) (by omega)]; exact d.1
    · rw [s0 11 (by omega), u0 8 (by omega) (by omega) (by omega) (by omega) (by omega) (by omega)]; exact d.2.1
    · rw [eσ', up2_s, eτ', up2_j (by omega), up2_s]
    · rw [eτ', up2_j (by omega), up2_s]; exact Or.inr (nI_pos' (by have := T.2.1; omega))
    · rw [eσ', up2_k (by omega), up2_s]; rfl
    · rw [eτ', up2_j (by omega), up2_j (by omega), d12]
  · have Fc : FR (cs σ1 p') 1 (τ 1) (gK (τ 1)) := a.1.frame (fun c h1 h2 => cc c (by omega))
    obtain ⟨σ2, e2, g2, f2⟩ := c_prepare (σ := cs σ1 p') (a0 := 1) Fc a.2 hn (by rw [cc 25 (by omega)]; exact H.2.2.2.1) (by omega)
    have f2' : ∀ c, (c < 191 ∨ 198 < c) → (c < gFx nx ∨ gFx nx + 16 ≤ c) → σ2 c = σ c := fun c h1 h2 => (f2 c h2).trans (cc c h1)
    obtain ⟨τ3, e3, f3, r3⟩ := copies0 (σ := τ2) (a0 := 1) (a2 := 3) (by omega) (by decide) (by decide)
    have r3' : rowEq (τ 1) (τ3 3) := by rw [← dc 1 (by omega) (by omega)]; exact r3
    have fc3 : ∀ c, c ≠ 0 → c ≠ 7 → c ≠ 3 → τ3 c = τ c := fun c h0 h7 h3 => (f3 c h3).trans (dc c h0 h7)
    have T3 : TX σ2 187 m (τ3 6) := by
      rw [fc3 6 (by omega) (by omega) (by omega)]
      exact T.frame (f2' 187 (by omega) (by omega)) (f2' 188 (by omega) (by omega))
    have Z3 : FI σ2 τ3 := a.frame (fun c h1 h2 => f2' c (by omega) (by omega)) (fc3 1 (by omega) (by omega) (by omega))
    obtain ⟨σ3, τ4, Z4, F4, M4, hcase⟩ := carry_both (m := m) (σ0 := σ2) (τ0 := τ3) hn30 n 0 FU FU σ2 τ3 (Nat.zero_add n) (by omega) (by omega) Z3 T3 (fun j hj => by rw [fc3 6 (by omega) (by omega) (by omega)]; exact (hl j hj).1)
      (by rw [f2 191 (by omega)]; unfold cs; rw [up2_j (by omega)]; exact s7) (by rw [f3 0 (by omega), d16]; exact s16)
      (fun j _ hj => (hI j hj).fr (fun c h1 h2 => by rw [f2 c (by omega)]; unfold cs; rw [up2_k (by omega)]) (fun k hk => by rw [f3 7 (by omega), d7]))
    have z0 : (0 : Int32) = nI 0 := rfl
    have eci : f_X9_carryOutItems (cs σ1 p') = f_X9_carryOutItems_l1 σ2 FU (nI 0) σ2 := by
      unfold f_X9_carryOutItems
      rw [e2, k1s]; rfl
    have em2 : f_X10_read τ = f_X10_read_l1 τ3 FU (nI 0) τ3 := by
      rw [em, if_neg (by decide), e3, k1s]; rfl
    have s3 : ∀ c, (c = 0 ∨ 17 ≤ c) → c ≠ 189 → c ≠ 190 → (c < 191 ∨ 198 < c) → (c < gFx nx ∨ gFx nx + 16 ≤ c) → σ3 c = σ c := fun c h1 h2 h3 h4 h5 => (F4 c h1 h2 h3).trans (f2' c h4 h5)
    have u0 : τ4 0 = τ2 0 := (M4 0 (by omega) (by omega)).trans (f3 0 (by omega))
    have uc : ∀ c, c ≠ 0 → c ≠ 7 → c ≠ 3 → c ≠ 1 → c ≠ 5 → τ4 c = τ c := fun c h0 h7 h3 h1 h5 => (M4 c h1 h5).trans (fc3 c h0 h7 h3)
    have gr : FR σ3 (gFx nx) (τ 1) (gK (τ 1)) := g2.frame (fun c h1 h2 => F4 c (by omega) (by omega) (by omega))
    have r4 : rowEq (τ 1) (τ4 3) := by rw [M4 3 (by omega) (by omega)]; exact r3'
    have v7 : σ3 191 7 = nI n := by
      rw [F4 191 (by omega) (by omega) (by omega), f2 191 (by omega)]; unfold cs; rw [up2_j (by omega)]; exact s7
    rcases hcase with ⟨x1, x2⟩ | ⟨k, v, hv, hk, x1, x2⟩
    · obtain ⟨σ4, y1, y2, y3, y4⟩ := c_commit (σ := σ3) hp hn (by rw [s3 25 (by omega) (by omega) (by omega) (by omega) (by omega)]; exact H.2.2.1) (by rw [s3 25 (by omega) (by omega) (by omega) (by omega) (by omega)]; exact H.2.2.2.1)
      obtain ⟨τ5, w1, w2, w3, w4, w5, w6⟩ := m_changes3 (τ := τ4) hp (by rw [u0, d0 5 (by omega) (by omega) (by omega) (by omega) (by omega)]; exact H.2.2.2.2.1)
      obtain ⟨σ5, eσ5⟩ : ∃ t, t = up2 σ4 187 1 0 := ⟨_, rfl⟩
      have s5 : ∀ c, c ≠ 187 → c ≠ 25 → σ5 c = σ3 c := fun c h1 h2 => by rw [eσ5, up2_k h1, y4 c h2]
      have s50 : ∀ c, (c = 0 ∨ 17 ≤ c) → c ≠ 187 → c ≠ 25 → c ≠ 189 → c ≠ 190 → (c < 191 ∨ 198 < c) → (c < gFx nx ∨ gFx nx + 16 ≤ c) → σ5 c = σ c := fun c h1 h2 h3 h4 h5 h6 h7 => (s5 c h2 h3).trans (s3 c h1 h4 h5 h6 h7)
      have j5 : ∀ j, j ≠ 5 → j ≠ 10 → j ≠ 12 → j ≠ 13 → j ≠ 14 → j ≠ 16 → τ5 0 j = τ 0 j := fun j h1 h2 h3 h4 h5 h6 => by rw [w3 j h1, u0, d0 j h2 h3 h4 h5 h6]
      have v5 : σ5 191 7 = nI n := by rw [s5 191 (by omega) (by omega)]; exact v7
      have v16 : τ5 0 16 = nI n := by rw [w3 16 (by omega), u0, d16]; exact s16
      have ep : ∀ j, pRow τ4 j = pRow τ j := fun j => by unfold pRow; rw [uc 4 (by omega) (by omega) (by omega) (by omega) (by omega)]
      have HK : HR (fun c => if 25 ≤ c ∧ c < 171 then σ5 c else σ c) τ5 (p1 p) (nx1 nx) := by
        have s25 : (fun c => if 25 ≤ c ∧ c < 171 then σ5 c else σ c) 25 = σ4 25 := by
          show (if 25 ≤ 25 ∧ 25 < 171 then σ5 25 else σ 25) = _
          rw [if_pos (by omega), eσ5, up2_k (by omega)]
        refine H.keep a.2 (gr.frame (fun c h1 h2 => ?_)) ((congrFun s25 1).trans y2) ((congrFun s25 2).trans y3) (fun c h1 h2 => ?_) w2 (fun j hj => ?_) (fun j hj => (r4 j hj).trans (w6 j hj))
        · show (if 25 ≤ c ∧ c < 171 then σ5 c else σ c) = _
          rw [if_pos (by omega)]; exact s5 c (by omega) (by omega)
        · show (if 25 ≤ c ∧ c < 171 then σ5 c else σ c) = _
          by_cases hc : 25 ≤ c ∧ c < 171
          · rw [if_pos hc]; exact s50 c (by omega) (by omega) h1 (by omega) (by omega) (by omega) h2
          · rw [if_neg hc]
        · rw [← ep]; exact w5 j hj
      refine ⟨0, nI n, σ5, nI n, τ5, ?_, ?_, ⟨Z4.frame (fun c h1 h2 => s5 c (by omega) (by omega)) (w4 1 (by omega) (by omega)), b.frame (by rw [s50 0 (by omega) (by omega) (by omega) (by omega) (by omega) (by omega) (by omega)]) (fun c h1 h2 => s50 c (by omega) (by omega) (by omega) (by omega) (by omega) (by omega) (by omega)) (j5 3 (by omega) (by omega) (by omega) (by omega) (by omega) (by omega)) ((w4 2 (by omega) (by omega)).trans (uc 2 (by omega) (by omega) (by omega) (by omega) (by omega))),
        d.frame (by rw [s50 0 (by omega) (by omega) (by omega) (by omega) (by omega) (by omega) (by omega)]) (by rw [s50 0 (by omega) (by omega) (by omega) (by omega) (by omega) (by omega) (by omega)]) (by rw [s50 0 (by omega) (by omega) (by omega) (by omega) (by omega) (by omega) (by omega)]) (j5 7 (by omega) (by omega) (by omega) (by omega) (by omega) (by omega)) (j5 8 (by omega) (by omega) (by omega) (by omega) (by omega) (by omega)) (j5 9 (by omega) (by omega) (by omega) (by omega) (by omega) (by omega)),
        ⟨p1 p, nx1 nx, HK.frame (if_pos (by omega)).symm (fun c h1 h2 => (if_pos (by omega)).symm) rfl rfl⟩, 0, ⟨?_, by omega, fun i hi => absurd hi (Nat.not_lt_zero i)⟩, ?_, fun i hi => absurd hi (Nat.not_lt_zero i)⟩, CO.z (L := [0, 1, 2]) (by rw [w3 10 (by omega), u0]; exact d10) (by decide), fun _ => rfl⟩
      · unfold f_X9_read
        rw [t1, k2s, if_neg (by decide), eci, x1, y1, k1s, k2s, if_neg (by decide), k2s, c_clr, k1s, if_neg (by decide), if_neg (by decide), ← eσ5, v5]
      · rw [em2, x2, w1, k1s, v16]
      · rw [eσ5, up2_s]; rfl
      · rw [w3 12 (by omega), u0, d12]
    · obtain ⟨σ4, y1, y2, y3⟩ := c_copyFilm (σ := σ3) (k := 1) (a0 := gFx nx) gr a.2 (by omega)
      obtain ⟨τ5, w1, w2, w3⟩ := copies0 (σ := τ4) (a0 := 3) (a2 := 1) (by omega) (by decide) (by decide)
      have r5 : rowEq (τ 1) (τ5 1) := fun j hj => (r4 j hj).trans (w3 j hj)
      obtain ⟨σ5, eσ5⟩ : ∃ t, t = up2 (up2 (up2 σ4 0 10 v) 0 11 (nI k)) 187 1 0 := ⟨_, rfl⟩
      obtain ⟨τ6, eτ6⟩ : ∃ t, t = up2 (up2 (up2 (up2 τ5 0 7 v) 0 8 0) 0 10 2) 0 8 (nI k) := ⟨_, rfl⟩
      have s5 : ∀ c, c ≠ 0 → c ≠ 187 → σ5 c = σ4 c := fun c h0 h1 => by rw [eσ5, up2_k h1, up2_k h0, up2_k h0]
      have s50 : ∀ c, 17 ≤ c → c ≠ 187 → c ≠ 189 → c ≠ 190 → (c < 191 ∨ 198 < c) → (c < gFx nx ∨ gFx nx + 16 ≤ c) → σ5 c = σ c := fun c h1 h2 h4 h5 h6 h7 => ((s5 c (by omega) h2).trans (y3 c (by omega))).trans (s3 c (by omega) h4 h5 h6 h7)
      have z5 : ∀ j, j ≠ 10 → j ≠ 11 → σ5 0 j = σ 0 j := fun j h1 h2 => by rw [eσ5, up2_k (by omega), up2_j h2, up2_j h1, y3 0 (by omega), s3 0 (by omega) (by omega) (by omega) (by omega) (by omega)]
      have j6 : ∀ j, j ≠ 7 → j ≠ 8 → j ≠ 10 → j ≠ 12 → j ≠ 13 → j ≠ 14 → j ≠ 16 → τ6 0 j = τ 0 j := fun j h1 h2 h3 h4 h5 h6 h7 => by rw [eτ6, up2_j h2, up2_j h3, up2_j h2, up2_j h1, w2 0 (by omega), u0, d0 j h3 h4 h5 h6 h7]
      have j6c : ∀ c, c ≠ 0 → τ6 c = τ5 c := fun c h0 => by rw [eτ6, up2_k h0, up2_k h0, up2_k h0, up2_k h0]
      have uc6 : ∀ c, c ≠ 0 → c ≠ 7 → c ≠ 3 → c ≠ 1 → c ≠ 5 → τ6 c = τ c := fun c h0 h7 h3 h1 h5 => by rw [j6c c h0, w2 c h1, uc c h0 h7 h3 h1 h5]
      have g6 : τ6 1 = τ5 1 := j6c 1 (by omega)
      refine ⟨2, 0, σ5, 0, τ6, ?_, ?_, ⟨⟨?_, ?_⟩, b.frame (z5 5 (by omega) (by omega)) (fun c h1 h2 => s50 c (by omega) (by omega) (by omega) (by omega) (by omega) (by omega)) (j6 3 (by omega) (by omega) (by omega) (by omega) (by omega) (by omega) (by omega)) (uc6 2 (by omega) (by omega) (by omega) (by omega) (by omega)), ⟨?_, ?_, ?_, ?_⟩,
        ⟨p, nx, H.frN (s50 25 (by omega) (by omega) (by omega) (by omega) (by omega) (by omega)) (fun c h1 h2 h3 => s50 c (by omega) (by omega) (by omega) (by omega) (by omega) h3) (j6 5 (by omega) (by omega) (by omega) (by omega) (by omega) (by omega) (by omega)) (uc6 4 (by omega) (by omega) (by omega) (by omega) (by omega))⟩, 0, ⟨?_, by omega, fun i hi => absurd hi (Nat.not_lt_zero i)⟩, ?_, fun i hi => absurd hi (Nat.not_lt_zero i)⟩, CO.t (L := [0, 1, 2]) (by rw [eτ6, up2_j (by omega), up2_s]) (by decide), fun h => absurd h (by decide)⟩
      · have etb : f_X4_takeBackInto σ3 1 = some σ4 := by
          unfold f_X4_takeBackInto
          rw [s3 25 (by omega) (by omega) (by omega) (by omega) (by omega), H.2.2.2.1, c_rowAt σ3 hn, k1s]
          show g_k1 (f_X3_copyFrom σ3 1 (gFx nx)) (fun σ3 => some σ3) = _
          rw [y1, k1s]
        unfold f_X9_read
        rw [t1, k2s, if_neg (by decide), eci, x1, etb, k1s]
        unfold f_X9_keepRefusal
        rw [gset_n, k1s, gset_n, k1s, k1s, k2s, if_pos rfl, k2s, c_clr, k1s, if_neg (by decide), if_pos rfl, ← eσ5]
      · rw [em2, x2, w1, k1s]
        unfold f_X10_refuses f_X10_fails
        rw [gset_n, k1s, gset_n, k1s, gset_n, k1s, k2s, k2s, gset_n, k1s, ← eτ6]
      · rw [g6]
        exact (FR.congr r5 a.2 y2).frame (fun c h1 h2 => s5 c (by omega) (by omega))
      · rw [g6]; exact Inv.congr r5 a.2
      · rw [eσ5, up2_k (by omega), up2_j (by omega), up2_s, eτ6, up2_j (by omega), up2_j (by omega), up2_j (by omega), up2_s]
      · rw [eσ5, up2_k (by omega), up2_s, eτ6, up2_s]
      · rw [z5 9 (by omega) (by omega), j6 9 (by omega) (by omega) (by omega) (by omega) (by omega) (by omega) (by omega)]; exact d.2.2.1
      · rw [j6 9 (by omega) (by omega) (by omega) (by omega) (by omega) (by omega) (by omega)]; exact d.2.2.2
      · rw [eσ5, up2_s]; rfl
      · rw [eτ6, up2_j (by omega), up2_j (by omega), up2_j (by omega), up2_j (by omega), w2 0 (by omega), u0, d12]
