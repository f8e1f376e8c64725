/-! ===== calls ===== -/
/-- the class's outcome x is what the reference says with κ, by the call's own list -/
def CO (L : List Nat) (κ : Int32) (x : Nat) : Prop := ∃ i, i < L.length ∧ κ = nI i ∧ L.getD i 99 = x
def CR (L : List Nat) (σ' τ' : gSt) (x : Nat) (r r' : Int32) : Prop := RR σ' τ' ∧ CO L (τ' 0 10) x ∧ (x = 0 → r = r')
theorem CO.z {L : List Nat} {κ : Int32} (h : κ = 0) (hl : 0 < L.length) : CO L κ (L.getD 0 99) := ⟨0, hl, h, rfl⟩
theorem CO.o {L : List Nat} {κ : Int32} (h : κ = 1) (hl : 1 < L.length) : CO L κ (L.getD 1 99) := ⟨1, hl, h, rfl⟩
theorem CO.t {L : List Nat} {κ : Int32} (h : κ = 2) (hl : 2 < L.length) : CO L κ (L.getD 2 99) := ⟨2, hl, h, rfl⟩
theorem CO.d {L : List Nat} {κ : Int32} (h : κ = 3) (hl : 3 < L.length) : CO L κ (L.getD 3 99) := ⟨3, hl, h, rfl⟩
theorem c_count {σ : gSt} {f : Nat} {h : fH} {k : fK} (F : FR σ f h k) (I : Inv h k) : f_X3_captionCount σ f = some (h 28 + h 29) := by
  unfold f_X3_captionCount
  have a : σ (f + 4) 5 = nI (nT h 0) := (F.trk (t := 0) (by omega)).1
  have b : σ (f + 10) 5 = nI (nT h 1) := (F.trk (t := 1) (by omega)).1
  rw [a, b, ← I.nT_eq (t := 0) (by omega), ← I.nT_eq (t := 1) (by omega)]
theorem copies0 {σ : gSt} {a0 a2 : Nat} (hne : a0 ≠ a2) (h0 : gml a0 = 926) (h2 : gml a2 = 926) : ∃ σ', f_X10_copies σ a0 0 a2 0 = some σ' ∧ (∀ c, c ≠ a2 → σ' c = σ c) ∧ rowEq (σ a0) (σ' a2) := by
  obtain ⟨σ', e, f, v⟩ := m_copies (σ := σ) (a0 := a0) (a2 := a2) (p := 0) (q := 0) hne (by omega) (by omega) (by omega) (by omega)
  refine ⟨σ', e, f, fun j hj => ?_⟩
  rw [v, if_pos (by omega)]
  congr 1
  omega
theorem call_save {σ τ : gSt} (R : RR σ τ) : ∃ r σ' r' τ', f_X9_saveSnapshot σ = some (r, σ') ∧ f_X10_saveSnapshot τ = some (r', τ') ∧ CR [0] σ' τ' 0 r r' := by
  obtain ⟨a, b, d, ⟨p, nx, H⟩, m, f⟩ := R
  obtain ⟨σ1, e1, g1, f1⟩ := c_copyFilm (k := 171) a.1 a.2 (by omega)
  obtain ⟨τ1, e2, f2, g2⟩ := copies0 (σ := up2 (up2 τ 0 10 0) 0 3 1) (a0 := 1) (a2 := 2) (by omega) (by decide) (by decide)
  have t1 : τ1 1 = τ 1 := by rw [f2 1 (by omega), up2_k (by omega), up2_k (by omega)]
  have t0 : ∀ j, j ≠ 3 → j ≠ 10 → τ1 0 j = τ 0 j := fun j h1 h2 => by rw [f2 0 (by omega), up2_j h1, up2_j h2]
  have tc : ∀ c, c ≠ 0 → c ≠ 2 → τ1 c = τ c := fun c h1 h2 => by rw [f2 c h2, up2_k h1, up2_k h1]
  rw [up2_k (by omega), up2_k (by omega)] at g2
  have s1 : ∀ c, c ≠ 0 → (c < 171 ∨ 187 ≤ c) → up2 σ1 0 5 1 c = σ c := fun c h1 h2 => by rw [up2_k h1, f1 c h2]
  have s0 : ∀ j, j ≠ 5 → up2 σ1 0 5 1 0 j = σ 0 j := fun j h1 => by rw [up2_j h1, f1 0 (by omega)]
  have F' : FI (up2 σ1 0 5 1) τ1 := a.frame (fun c h1 h2 => s1 c (by omega) (by omega)) t1
  refine ⟨τ 1 28 + τ 1 29, up2 σ1 0 5 1, τ 1 28 + τ 1 29, τ1, ?_, ?_, ⟨F', ⟨?_, fun _ => ⟨?_, ?_⟩⟩, ?_, ⟨p, nx, ?_⟩, m, ?_⟩, ?_, fun _ => rfl⟩
  · unfold f_X9_saveSnapshot
    rw [e1, k1s, gset_n, k1s, c_count F'.1 F'.2, k1s, t1]
  · unfold f_X10_saveSnapshot
    rw [gset_n, k1s, gset_n, k1s, e2, k1s, t1]
  · rw [up2_s, f2 0 (by omega), up2_s]
  · exact FR.congr g2 a.2 (g1.frame (fun c h1 h2 => up2_k (by omega)))
  · exact Inv.congr g2 a.2
  · exact d.frame (s0 10 (by omega)) (s0 11 (by omega)) (s0 9 (by omega)) (t0 7 (by omega) (by omega)) (t0 8 (by omega) (by omega)) (t0 9 (by omega) (by omega))
  · exact H.frame (s1 25 (by omega) (by omega)) (fun c h1 h2 => s1 c (by omega) (by omega)) (t0 5 (by omega) (by omega)) (tc 4 (by omega) (by omega))
  · exact f.frame (s1 187 (by omega) (by omega)) (s1 188 (by omega) (by omega)) (t0 12 (by omega) (by omega)) (tc 6 (by omega) (by omega))
  · exact CO.z (L := [0]) (by rw [f2 0 (by omega), up2_j (by omega), up2_s]) (by decide)
theorem call_restore {σ τ : gSt} (R : RR σ τ) : ∃ x r σ' r' τ', f_X9_restoreSnapshot σ = some (x, r, σ') ∧ f_X10_restoreSnapshot τ = some (r', τ') ∧ CR [0, 4] σ' τ' x r r' := by
  have R0 := R
  obtain ⟨a, b, d, ⟨p, nx, H⟩, m, f⟩ := R
  by_cases h0 : σ 0 5 = 0
  · refine ⟨4, 0, σ, 0, up2 τ 0 10 1, ?_, ?_, R0.thr 1, CO.o (L := [0, 4]) (up2_s ..) (by decide), fun h => by omega⟩
    · unfold f_X9_restoreSnapshot; rw [if_pos h0]
    · unfold f_X10_restoreSnapshot
      rw [← b.1, if_pos h0, k1s, gset_n, k1s, up2_j (by omega), ← b.1, if_pos h0]
  · obtain ⟨b1, b2⟩ := b.2 h0
    obtain ⟨σ1, e1, g1, f1⟩ := c_copyFilm (k := 1) b1 b2 (by omega)
    obtain ⟨τ1, e2, f2, g2⟩ := copies0 (σ := up2 τ 0 10 0) (a0 := 2) (a2 := 1) (by omega) (by decide) (by decide)
    rw [up2_k (by omega)] at g2
    have t0 : ∀ j, j ≠ 5 → j ≠ 10 → up2 τ1 0 5 0 0 j = τ 0 j := fun j h1 h2 => by rw [up2_j h1, f2 0 (by omega), up2_j h2]
    have tc : ∀ c, c ≠ 0 → c ≠ 1 → up2 τ1 0 5 0 c = τ c := fun c h1 h2 => by rw [up2_k h1, f2 c h2, up2_k h1]
    have s1 : ∀ c, c ≠ 25 → (c < 1 ∨ 17 ≤ c) → up2 σ1 25 1 0 c = σ c := fun c h1 h2 => by rw [up2_k h1, f1 c h2]
    have t1 : up2 τ1 0 5 0 1 = τ1 1 := up2_k (by omega)
    have F' : FI (up2 σ1 25 1 0) (up2 τ1 0 5 0) := by
      refine ⟨?_, ?_⟩
      · rw [t1]; exact FR.congr g2 b2 (g1.frame (fun c h1 h2 => up2_k (by omega)))
      · rw [t1]; exact Inv.congr g2 b2
    refine ⟨0, up2 τ1 0 5 0 1 28 + up2 τ1 0 5 0 1 29, up2 σ1 25 1 0, up2 τ1 0 5 0 1 28 + up2 τ1 0 5 0 1 29, up2 τ1 0 5 0, ?_, ?_, ⟨F', b.frame (by rw [s1 0 (by omega) (by omega)]) (fun c h1 h2 => s1 c (by omega) (by omega)) (t0 3 (by omega) (by omega)) (tc 2 (by omega) (by omega)), ?_, ⟨0, nx, ?_⟩, m, ?_⟩, ?_, fun _ => rfl⟩
    · unfold f_X9_restoreSnapshot f_X4_forgetAll
      rw [if_neg h0, e1, k1s, gset_n, k1s, k1s, c_count F'.1 F'.2, k1s]
    · unfold f_X10_restoreSnapshot
      rw [← b.1, if_neg h0, k1s, gset_n, k1s, up2_j (by omega), ← b.1, if_neg h0, e2, k1s, gset_n, k1s]
    · exact d.frame (by rw [s1 0 (by omega) (by omega)]) (by rw [s1 0 (by omega) (by omega)]) (by rw [s1 0 (by omega) (by omega)]) (t0 7 (by omega) (by omega)) (t0 8 (by omega) (by omega)) (t0 9 (by omega) (by omega))
    · refine ⟨by omega, H.2.1, up2_s .., ?_, up2_s .., fun j hj => by omega⟩
      rw [up2_j (by omega), f1 25 (by omega)]; exact H.2.2.2.1
    · exact f.frame (s1 187 (by omega) (by omega)) (s1 188 (by omega) (by omega)) (t0 12 (by omega) (by omega)) (tc 6 (by omega) (by omega))
    · exact CO.z (L := [0, 4]) (by rw [up2_j (by omega), f2 0 (by omega), up2_s]) (by decide)
theorem call_undo {σ τ : gSt} (R : RR σ τ) : ∃ x r σ' r' τ', f_X9_undo σ = some (x, r, σ') ∧ f_X10_undo τ = some (r', τ') ∧ CR [0, 4] σ' τ' x r r' := by
  have R0 := R
  obtain ⟨a, b, d, ⟨p, nx, H⟩, m, f⟩ := R
  obtain ⟨hp, hn, h1, h2, h3, h4⟩ := H
  by_cases h0 : p = 0
  · subst h0
    refine ⟨4, 0, σ, 0, up2 τ 0 10 1, ?_, ?_, R0.thr 1, CO.o (L := [0, 4]) (up2_s ..) (by decide), fun h => by omega⟩
    · unfold f_X9_undo; rw [h1, if_neg (by decide)]
    · unfold f_X10_undo
      rw [h3, if_pos (by decide), k1s, gset_n, k1s, up2_s, if_neg (by decide)]
  · obtain ⟨q, rfl⟩ : ∃ q, p = q + 1 := ⟨p - 1, by omega⟩
    obtain ⟨i1, i2⟩ := h4 q (by omega)
    have hix : (nx + 9 - (q + 1) + q) % 9 = (nx + 8) % 9 := by congr 1; omega
    rw [hix] at i1
    have h9 : (nx + 8) % 9 < 9 := Nat.mod_lt _ (by omega)
    have hx2 : (if nI nx ≤ 0 then some (8 : Int32) else some (nI nx - 1)) = some (nI ((nx + 8) % 9)) := by
      by_cases hz : nx = 0
      · subst hz; rfl
      · rw [if_neg (show ¬ nI nx ≤ 0 from nI_ge (a := 0) (by omega) (by omega)), nI_sub1 (by omega)]
        congr 2; omega
    obtain ⟨σ1, e1, g1, f1⟩ := c_copyFilm (σ := up2 (up2 σ 25 2 (nI ((nx + 8) % 9))) 25 1 (nI q)) (k := 1) (a0 := gFx ((nx + 8) % 9)) (i1.frame (fun c c1 c2 => by rw [up2_k (by unfold gFx at c1; omega), up2_k (by unfold gFx at c1; omega)])) i2 (by unfold gFx; omega)
    obtain ⟨τ1, e2, f2, g2⟩ := m_copies (σ := up2 (up2 τ 0 10 0) 0 5 (nI q)) (a0 := 4) (a2 := 1) (p := 926 * q) (q := 0) (by omega) (by show _ ≤ 7408; omega) (by decide) (by decide) (by decide)
    have g3 : rowEq (pRow τ q) (τ1 1) := fun j hj => by
      rw [g2, if_pos (by omega), up2_k (by omega), up2_k (by omega)]
      show τ 4 (926 * q + j) = _
      congr 1
    have t0 : ∀ j, j ≠ 5 → j ≠ 10 → τ1 0 j = τ 0 j := fun j h1 h2 => by rw [f2 0 (by omega), up2_j h1, up2_j h2]
    have tc : ∀ c, c ≠ 0 → c ≠ 1 → τ1 c = τ c := fun c h1 h2 => by rw [f2 c h2, up2_k h1, up2_k h1]
    have s1 : ∀ c, c ≠ 25 → (c < 1 ∨ 17 ≤ c) → σ1 c = σ c := fun c h1 h2 => by rw [f1 c h2, up2_k h1, up2_k h1]
    have s25 : σ1 25 1 = nI q := by rw [f1 25 (by omega), up2_s]
    have t5 : τ1 0 5 = nI q := by rw [f2 0 (by omega), up2_s]
    refine ⟨0, nI q, σ1, nI q, τ1, ?_, ?_, ⟨⟨FR.congr g3 i2 g1, Inv.congr g3 i2⟩, b.frame (by rw [s1 0 (by omega) (by omega)]) (fun c h1 h2 => s1 c (by omega) (by omega)) (t0 3 (by omega) (by omega)) (tc 2 (by omega) (by omega)), ?_, ⟨q, (nx + 8) % 9, ?_⟩, m, ?_⟩, ?_, fun _ => rfl⟩
    · unfold f_X9_undo f_X4_undoInto f_X4_takeBackInto
      have hpos : (0 : Int32) < nI (q + 1) := nI_lt (a := 0) (by omega) (by omega)
      rw [h1, if_pos hpos, if_pos hpos, h2, hx2, k1s, gset_n, k1s, up2_j (show 1 ≠ 2 by omega), h1, nI_sub1 (by omega), gset_n, k1s, up2_j (show 2 ≠ 1 by omega), up2_s, c_rowAt _ h9, k1s]
      show g_k1 (g_k1 (g_k1 (f_X3_copyFrom _ 1 (gFx ((nx + 8) % 9))) fun σ3 => some σ3) fun σ7 => some σ7) (fun σ2 => some (0, σ2 25 1, σ2)) = _
      rw [show q + 1 - 1 = q from rfl, e1, k1s, k1s, k1s, s25]
    · unfold f_X10_undo
      have hne : ¬ nI (q + 1) = 0 := fun hh => by
        have := (nI_eq (a := q + 1) (b := 0) (by omega) (by omega)).mp hh
        omega
      rw [h3, if_neg hne, k1s, gset_n, k1s, up2_s, if_pos (by decide), up2_j (show 5 ≠ 10 by omega), h3, nI_sub1 (by omega), gset_n, k1s, show q + 1 - 1 = q from rfl, up2_s, show (926 : Int32) = nI 926 from rfl, pk_mul, show f_X10_copies _ 4 (nI (926 * q)) 1 0 = _ from e2, k1s, t5]
    · exact d.frame (by rw [s1 0 (by omega) (by omega)]) (by rw [s1 0 (by omega) (by omega)]) (by rw [s1 0 (by omega) (by omega)]) (t0 7 (by omega) (by omega)) (t0 8 (by omega) (by omega)) (t0 9 (by omega) (by omega))
    · refine ⟨by omega, h9, s25, ?_, t5, fun j hj => ?_⟩
      · rw [f1 25 (by omega), up2_j (by omega), up2_s]
      · obtain ⟨j1, j2⟩ := h4 j (by omega)
        have e4 : pRow τ1 j = pRow τ j := by unfold pRow; rw [tc 4 (by omega) (by omega)]
        have hix2 : ((nx + 8) % 9 + 9 - q + j) % 9 = (nx + 9 - (q + 1) + j) % 9 := by omega
        rw [e4, hix2]
        have h92 : (nx + 9 - (q + 1) + j) % 9 < 9 := Nat.mod_lt _ (by omega)
        exact ⟨j1.frame (fun c c1 c2 => s1 c (by unfold gFx at c1; omega) (by unfold gFx at c1; omega)), j2⟩
    · exact f.frame (s1 187 (by omega) (by omega)) (s1 188 (by omega) (by omega)) (t0 12 (by omega) (by omega)) (tc 6 (by omega) (by omega))
    · exact CO.z (L := [0, 4]) (by rw [f2 0 (by omega), up2_j (by omega), up2_s]) (by decide)
/-! faults and refusals -/
theorem call_fault {σ τ : gSt} (R : RR σ τ) : ∃ x r σ' r' τ', f_X9_faultPosition σ = some (x, r, σ') ∧ f_X10_faultPosition τ = some (r', τ') ∧ CR [0, 5] σ' τ' x r r' := by
  obtain ⟨z1, z2, z3, z4⟩ := R.2.2.1
  rcases z4 with h | h
  · refine ⟨5, 0, σ, 0, up2 τ 0 10 1, ?_, ?_, R.thr 1, CO.o (L := [0, 5]) (up2_s ..) (by decide), fun h => by omega⟩
    · unfold f_X9_faultPosition; rw [z3, h]; rfl
    · unfold f_X10_faultPosition
      rw [h, if_neg (by decide), k1s, gset_n, k1s, up2_s, if_neg (by decide), k1s]
  · refine ⟨0, τ 0 9, σ, τ 0 9, up2 τ 0 10 0, ?_, ?_, R.thr 0, CO.z (L := [0, 5]) (up2_s ..) (by decide), fun _ => rfl⟩
    · unfold f_X9_faultPosition; rw [z3, if_neg (by grind)]
    · unfold f_X10_faultPosition
      rw [if_pos h, k1s, gset_n, k1s, up2_s, if_pos (by decide), up2_j (by omega), k1s]
theorem call_refusal {σ τ : gSt} (R : RR σ τ) (a : Int32) : ∃ x r σ' r' τ', f_X9_refusal σ a = some (x, r, σ') ∧ f_X10_refusal τ a = some (r', τ') ∧ CR [0, 5] σ' τ' x r r' := by
  obtain ⟨z1, z2, z3, z4⟩ := R.2.2.1
  by_cases h : τ 0 7 = 0
  · refine ⟨5, 0, σ, if a = 0 then τ 0 8 else τ 0 7, up2 τ 0 10 1, ?_, ?_, R.thr 1, CO.o (L := [0, 5]) (up2_s ..) (by decide), fun h => by omega⟩
    · unfold f_X9_refusal; rw [z1, if_pos h]
    · unfold f_X10_refusal
      rw [if_pos h, k1s, gset_n, k1s, up2_j (by omega), up2_j (by omega), ite_some, k1s]
  · refine ⟨0, if a = 0 then τ 0 8 else τ 0 7, σ, if a = 0 then τ 0 8 else τ 0 7, up2 τ 0 10 0, ?_, ?_, R.thr 0, CO.z (L := [0, 5]) (up2_s ..) (by decide), fun _ => rfl⟩
    · unfold f_X9_refusal; rw [z1, z2, if_neg h, ite_some, k1s]
    · unfold f_X10_refusal
      rw [if_neg h, k1s, gset_n, k1s, up2_j (by omega), up2_j (by omega), ite_some, k1s]
