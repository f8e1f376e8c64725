/-! ===== one item, read on both sides ===== -/
def IR1 (σ τ : gSt) (m i : Nat) : Prop :=
  (((τ 7 (6 * i) = 99 ∧ σ 192 i = 1) ∨ (τ 7 (6 * i) = 117 ∧ σ 192 i = 2)) ∧ σ 195 i = τ 7 (6 * i + 2)) ∨
  (∃ t f z : Nat, t < 2 ∧ τ 7 (6 * i) = nI (97 + t) ∧ σ 192 i = 0 ∧ σ 193 i = nI t ∧ (0 ≤ σ 194 i ∧ σ 194 i ≤ 2) ∧ σ 194 i = τ 7 (6 * i + 1) ∧ σ 195 i = τ 7 (6 * i + 2) ∧ σ 196 i = τ 7 (6 * i + 3) ∧ σ 197 i = nI f ∧ σ 198 i = nI (f + z) ∧ τ 7 (6 * i + 4) = nI f ∧ τ 7 (6 * i + 5) = nI z ∧ f + z ≤ m)
def ItF (σ σ' : gSt) (i : Nat) : Prop := (∀ c, (c < 192 ∨ 198 < c) → σ' c = σ c) ∧ ∀ c j, j ≠ i → σ' c j = σ c j
def ItM (τ τ' : gSt) (i : Nat) : Prop := (∀ c, c ≠ 0 → c ≠ 7 → τ' c = τ c) ∧ (∀ j, j ≠ 14 → j ≠ 16 → τ' 0 j = τ 0 j) ∧ ∀ k, (k < 6 * i ∨ 6 * i + 6 ≤ k) → τ' 7 k = τ 7 k
theorem ItF.rf (σ : gSt) (i : Nat) : ItF σ σ i := ⟨fun _ _ => rfl, fun _ _ _ => rfl⟩
theorem ItM.rf (τ : gSt) (i : Nat) : ItM τ τ i := ⟨fun _ _ _ => rfl, fun _ _ _ => rfl, fun _ _ => rfl⟩
theorem ItF.up {σ σ' : gSt} {i : Nat} (h : ItF σ σ' i) (k : Nat) (x : Int32) (hk : 192 ≤ k ∧ k ≤ 198) : ItF σ (up2 σ' k i x) i :=
  ⟨fun c hc => by rw [up2_k (by omega)]; exact h.1 c hc, fun c j hj => by rw [up2_ap, if_neg (fun e => hj e.2)]; exact h.2 c j hj⟩
theorem ItM.up7 {τ τ' : gSt} {i : Nat} (h : ItM τ τ' i) (k : Nat) (x : Int32) (hk : 6 * i ≤ k ∧ k < 6 * i + 6) : ItM τ (up2 τ' 7 k x) i :=
  ⟨fun c h0 h7 => by rw [up2_k h7]; exact h.1 c h0 h7, fun j h1 h2 => by rw [up2_k (by omega)]; exact h.2.1 j h1 h2, fun q hq => by rw [up2_j (by omega)]; exact h.2.2 q hq⟩
theorem ItM.up0 {τ τ' : gSt} {i : Nat} (h : ItM τ τ' i) (j : Nat) (x : Int32) (hj : j = 14 ∨ j = 16) : ItM τ (up2 τ' 0 j x) i :=
  ⟨fun c h0 h7 => by rw [up2_k h0]; exact h.1 c h0 h7, fun q h1 h2 => by rw [up2_j (by omega)]; exact h.2.1 q h1 h2, fun q hq => by rw [up2_k (by omega)]; exact h.2.2 q hq⟩
theorem cs_up {σ : gSt} {q k j : Nat} {x : Int32} (h : k ≠ 191) : up2 (cs σ q) k j x = cs (up2 σ k j x) q := up2_sw (by omega)
theorem ms_up {τ : gSt} {q k j : Nat} {x : Int32} (h : ¬ (k = 0 ∧ j = 13)) : up2 (ms τ q) k j x = ms (up2 τ k j x) q := up2_sw (by omega)
theorem c_isItem (σ : gSt) {i : Nat} (hi : i < 30) : f_X5_isItem σ (nI i) = some 1 := by
  unfold f_X5_isItem
  rw [if_neg (nI_pos (by omega)), if_neg (show ¬ (30 : Int32) ≤ nI i from nI_ge (b := 30) hi (by omega)), k1s]; rfl
theorem c_cut {σ : gSt} {m q i : Nat} {u : Nat → Int32} (B : CB σ m u) (hm : m ≤ 60) (hq : q ≤ m) (hi : i < 30) (w : Int32) : f_X5_readCut (cs σ q) (nI i) w = some (if (pnum m u 4 q 0).1 = q then (0, cs σ q) else (1, cs (up2 (up2 σ 192 i w) 195 i (pnum m u 4 q 0).2) (pnum m u 4 q 0).1)) := by
  unfold f_X5_readCut
  rw [c_num B hm hq, k2s]
  by_cases h : (pnum m u 4 q 0).1 = q
  · rw [if_pos h, if_pos rfl, if_pos h, h]
  · rw [if_neg h, if_neg pnum_n1, c_isItem _ hi, k1s, if_neg (by decide), gast_n hi (by omega), k1s, cs_up (by omega), gast_n hi (by omega), k1s, cs_up (by omega), if_neg h]
theorem m_b1 {τ : gSt} {m p i : Nat} {u : Nat → Int32} (hi : i < 30) (h16 : τ 0 16 = nI i) (s : Int32) :
    gast (ms τ p) 7 180 (nI (6 * i)) s = some (ms (up2 τ 7 (6 * i) s) p) ∧ gset (ms (up2 τ 7 (6 * i) s) (p + 1)) 0 16 ((ms (up2 τ 7 (6 * i) s) (p + 1)) 0 16 + 1) = some (ms (up2 (up2 τ 7 (6 * i) s) 0 16 (nI (i + 1))) (p + 1)) := by
  refine ⟨by rw [gast_n (by omega) (by omega), ms_up (by omega)], ?_⟩
  have e : ms (up2 τ 7 (6 * i) s) (p + 1) 0 16 = nI i := by unfold ms; rw [up2_j (by omega), up2_k (by omega), h16]
  rw [gset_n, e, nI_s1, ms_up (by omega)]
theorem i6 (i k : Nat) : nI (6 * i) + nI k = nI (6 * i + k) := nI_add ..
theorem item_both {σ τ : gSt} {m p i : Nat} {u : Nat → Int32} (B : CB σ m u) (M : MB τ m u) (hp : p ≤ m) (hi : i < 30) (h16 : τ 0 16 = nI i) :
    ∃ ok p' σ' τ', f_X5_readItem (cs σ p) (nI i) = some (ok, cs σ' p') ∧ f_X10_item (ms τ p) = some (ok, ms τ' p') ∧ p ≤ p' ∧ p' ≤ m ∧ ItF σ σ' i ∧ ItM τ τ' i ∧ (ok = 0 ∨ (ok = 1 ∧ p + 2 ≤ p' ∧ τ' 0 16 = nI (i + 1) ∧ IR1 σ' τ' m i)) := by
  have hm := M.2.1
  have e16 : (6 : Int32) * ms τ p 0 16 = nI (6 * i) := by
    have : ms τ p 0 16 = nI i := by unfold ms; rw [up2_j (by omega), h16]
    rw [this, show (6 : Int32) = nI 6 from rfl, pk_mul]
  obtain ⟨g1, g2⟩ := m_b1 (p := p) (m := m) (u := u) hi h16 (sg m u p)
  have z2 : nI (6 * i) + (2 : Int32) = nI (6 * i + 2) := i6 i 2
  have z1 : nI (6 * i) + (1 : Int32) = nI (6 * i + 1) := i6 i 1
  have z3 : nI (6 * i) + (3 : Int32) = nI (6 * i + 3) := i6 i 3
  obtain ⟨τ1, e1⟩ : ∃ t, t = up2 (up2 τ 7 (6 * i) (sg m u p)) 0 16 (nI (i + 1)) := ⟨_, rfl⟩
  rw [← e1] at g2
  have M1 : MB τ1 m u := by rw [e1]; exact (M.up (Or.inl rfl)).up (Or.inr ⟨rfl, by omega⟩)
  have F1 : ItM τ τ1 i := by rw [e1]; exact ((ItM.rf τ i).up7 _ _ (by omega)).up0 _ _ (Or.inr rfl)
  have v0 : τ1 7 (6 * i) = sg m u p := by rw [e1, up2_k (by omega), up2_s]
  have v16 : τ1 0 16 = nI (i + 1) := by rw [e1, up2_s]
  have hd : f_X10_item_b1 (sg m u p) (nI (6 * i)) (ms τ p) = (if sg m u p = (99 : Int32) then (g_k2 (f_X10_digits (ms τ1 (p + 1)) (nI (6 * i + 2))) fun v10 σ11 => (g_k1 (gzb v10) fun v12 => some (v12, σ11))) else (if sg m u p = (117 : Int32) then (g_k2 (f_X10_digits (ms τ1 (p + 1)) (nI (6 * i + 2))) fun v46 σ47 => (g_k1 (gzb v46) fun v48 => some (v48, σ47))) else (g_k1 (f_X10_here (ms τ1 (p + 1)) ) fun v14 => (g_k1 (if v14 = (46 : Int32) then some (0 : Int32) else (g_k1 (f_X10_here (ms τ1 (p + 1)) ) fun v42 => (if v42 = (33 : Int32) then some (1 : Int32) else (g_k1 (f_X10_here (ms τ1 (p + 1)) ) fun v44 => (if v44 = (42 : Int32) then some (2 : Int32) else some (-1 : Int32)))))) fun x15 => (if 0 ≤ x15 then (g_k1 (gast (ms τ1 (p + 1)) 7 180 (nI (6 * i + 1)) x15) fun σ19 => (g_k1 (gset σ19 0 13 ((σ19 0 13) + (1 : Int32))) fun σ20 => (g_k2 (f_X10_digits σ20 (nI (6 * i + 2))) fun v21 σ22 => (g_k2 (if v21 = 0 then some ((0 : Int32), σ22) else (g_k2 (f_X10_skips σ22 (45 : Int32)) fun v29 σ30 => (if v29 = 0 then some ((0 : Int32), σ30) else (g_k2 (f_X10_digits σ30 (nI (6 * i + 3))) fun v32 σ33 => (if v32 = 0 then some ((0 : Int32), σ33) else (g_k2 (f_X10_skips σ33 (58 : Int32)) fun v35 σ36 => (if v35 = 0 then some ((0 : Int32), σ36) else (g_k2 (f_X10_words σ36 (nI (6 * i))) fun v38 σ39 => (if v38 = 0 then some ((0 : Int32), σ39) else some ((1 : Int32), σ39)))))))))) fun x23 σ24 => (g_k1 (gzb x23) fun v27 => some (v27, σ24)))))) else some ((0 : Int32), (ms τ1 (p + 1)))))))) := by
    unfold f_X10_item_b1
    rw [g1, k1s, m_step, k1s, g2, k1s, z1, z2, z3]
  have hit : (sg m u p = 97 ∨ sg m u p = 98 ∨ sg m u p = 99 ∨ sg m u p = 117) → f_X10_item (ms τ p) = f_X10_item_b1 (sg m u p) (nI (6 * i)) (ms τ p) := fun h => by
    unfold f_X10_item
    rw [m_here M (by omega), k1s, e16]
    rcases h with h | h | h | h
    · rw [if_pos h]
    · rw [if_neg (by rw [h]; decide), if_pos h]
    · rw [if_neg (by rw [h]; decide), if_neg (by rw [h]; decide), if_pos h]
    · rw [if_neg (by rw [h]; decide), if_neg (by rw [h]; decide), if_neg (by rw [h]; decide), if_pos h]
  by_cases hc : sg m u p = 99 ∨ sg m u p = 117
  · have hlt : p < m := sg_lt (fun e => by rw [e] at hc; revert hc; decide)
    have hb := pnum_b (m := m) (u := u) 4 (p + 1) 0 hlt
    have ec : ∀ w : Int32, f_X5_readCut (cs σ (p + 1)) (nI i) w = some (if (pnum m u 4 (p + 1) 0).1 = p + 1 then (0, cs σ (p + 1)) else (1, cs (up2 (up2 σ 192 i w) 195 i (pnum m u 4 (p + 1) 0).2) (pnum m u 4 (p + 1) 0).1)) := fun w => c_cut B hm hlt hi w
    have em := m_digits (a0 := 6 * i + 2) M1 (show p + 1 ≤ m from hlt) (by omega)
    have eit : f_X5_readItem (cs σ p) (nI i) = (g_k2 (f_X5_readCut (cs σ (p + 1)) (nI i) (if sg m u p = 99 then 1 else 2)) fun v13 σ14 => (g_k1 (gzb v13) fun v15 => some (v15, σ14))) := by
      unfold f_X5_readItem
      rw [c_takeSign B (by omega)]
      by_cases h : sg m u p = 99
      · rw [if_pos h, if_pos h, k2s, if_neg (by decide)]
      · have h2 := hc.resolve_left h
        rw [if_neg h, if_neg h, k2s, if_pos rfl, c_takeSign B (by omega), if_pos h2, k2s, if_neg (by decide)]
    have emt : f_X10_item (ms τ p) = (g_k2 (f_X10_digits (ms τ1 (p + 1)) (nI (6 * i + 2))) fun v10 σ11 => (g_k1 (gzb v10) fun v12 => some (v12, σ11))) := by
      rw [hit (Or.inr (Or.inr hc)), hd]
      by_cases h : sg m u p = 99
      · rw [if_pos h]
      · rw [if_neg h, if_pos (hc.resolve_left h)]
    by_cases hq : (pnum m u 4 (p + 1) 0).1 = p + 1
    · refine ⟨0, p + 1, σ, τ1, ?_, ?_, by omega, hlt, ItF.rf σ i, F1, Or.inl rfl⟩
      · rw [eit, ec, if_pos hq, k2s]; rfl
      · rw [emt, em, if_pos hq, k2s]; rfl
    · refine ⟨1, (pnum m u 4 (p + 1) 0).1, up2 (up2 σ 192 i (if sg m u p = 99 then 1 else 2)) 195 i (pnum m u 4 (p + 1) 0).2, up2 (up2 τ1 0 14 (pnum m u 4 (p + 1) 0).2) 7 (6 * i + 2) (pnum m u 4 (p + 1) 0).2, ?_, ?_, by omega, hb.2.2, ((ItF.rf σ i).up 192 _ (by omega)).up 195 _ (by omega), (F1.up0 14 _ (Or.inl rfl)).up7 (6 * i + 2) _ (by omega), Or.inr ⟨rfl, by omega, ?_, Or.inl ⟨?_, ?_⟩⟩⟩
      · rw [eit, ec, if_neg hq, k2s]; rfl
      · rw [emt, em, if_neg hq, k2s]; rfl
      · rw [up2_k (by omega), up2_j (by omega), v16]
      · rw [up2_j (by omega), up2_k (by omega), v0, up2_k (by omega), up2_s]
        by_cases h : sg m u p = 99
        · exact Or.inl ⟨h, if_pos h⟩
        · exact Or.inr ⟨hc.resolve_left h, if_neg h⟩
      · rw [up2_s, up2_s]
  · have n99 : ¬ sg m u p = 99 := fun h => hc (Or.inl h)
    have n117 : ¬ sg m u p = 117 := fun h => hc (Or.inr h)
    have eit : f_X5_readItem (cs σ p) (nI i) = (g_k2 (f_X5_readCaption (cs σ p) (nI i)) fun v7 σ8 => (g_k1 (gzb v7) fun v9 => some (v9, σ8))) := by
      unfold f_X5_readItem
      rw [c_takeSign B (by omega), if_neg n99, k2s, if_pos rfl, c_takeSign B (by omega), if_neg n117, k2s, if_pos rfl]
    by_cases hab : sg m u p = 97 ∨ sg m u p = 98
    · have hlt : p < m := sg_lt (fun e => by rw [e] at hab; revert hab; decide)
      obtain ⟨t, ht, et⟩ : ∃ t, t < 2 ∧ sg m u p = nI (97 + t) := by
        rcases hab with h | h
        · exact ⟨0, by omega, h⟩
        · exact ⟨1, by omega, h⟩
      have eA : f_X5_takeOneOf (cs σ p) 97 98 (-1) = some (nI t, cs σ (p + 1)) := by
        rw [c_oneOf B (by omega), if_neg (by rw [et]; rcases (show t = 0 ∨ t = 1 by omega) with rfl | rfl <;> decide)]
        rcases (show t = 0 ∨ t = 1 by omega) with rfl | rfl
        · rw [if_pos (show sg m u p = 97 from et)]; rfl
        · rw [if_neg (by rw [et]; decide), if_pos (show sg m u p = 98 from et)]; rfl
      have nt : ¬ nI t = -1 := by rcases (show t = 0 ∨ t = 1 by omega) with rfl | rfl <;> decide
      obtain ⟨κ, eκ⟩ : ∃ κ : Int32, κ = if sg m u (p + 1) = 46 then 0 else if sg m u (p + 1) = 33 then 1 else if sg m u (p + 1) = 42 then 2 else -1 := ⟨_, rfl⟩
      have hκ : κ = -1 ∨ (¬ κ = -1 ∧ 0 ≤ κ ∧ κ ≤ 2 ∧ p + 1 < m) := by
        rw [eκ]
        by_cases a1 : sg m u (p + 1) = 46
        · rw [if_pos a1]; exact Or.inr ⟨by decide, by decide, by decide, sg_lt (by rw [a1]; decide)⟩
        · rw [if_neg a1]
          by_cases a2 : sg m u (p + 1) = 33
          · rw [if_pos a2]; exact Or.inr ⟨by decide, by decide, by decide, sg_lt (by rw [a2]; decide)⟩
          · rw [if_neg a2]
            by_cases a3 : sg m u (p + 1) = 42
            · rw [if_pos a3]; exact Or.inr ⟨by decide, by decide, by decide, sg_lt (by rw [a3]; decide)⟩
            · rw [if_neg a3]; exact Or.inl rfl
      have eB : f_X5_takeOneOf (cs σ (p + 1)) 46 33 42 = some (κ, cs σ (if κ = -1 then p + 1 else p + 2)) := by
        rw [c_oneOf B (by omega), eκ]
        by_cases a1 : sg m u (p + 1) = 46
        · rw [if_neg (by rw [a1]; decide), if_pos a1, if_pos a1, if_neg (by decide)]
        · rw [if_neg a1, if_neg a1]
          by_cases a2 : sg m u (p + 1) = 33
          · rw [if_neg (by rw [a2]; decide), if_pos a2, if_pos a2, if_neg (by decide)]
          · rw [if_neg a2, if_neg a2]
            by_cases a3 : sg m u (p + 1) = 42
            · rw [if_neg (by rw [a3]; decide), if_pos a3, if_pos a3, if_neg (by decide)]
            · rw [if_neg a3, if_neg a3, if_pos rfl]
              by_cases a0 : sg m u (p + 1) = -1
              · rw [if_pos a0]
              · rw [if_neg a0]
      have eK : (g_k1 (f_X10_here (ms τ1 (p + 1)) ) fun v14 => (g_k1 (if v14 = (46 : Int32) then some (0 : Int32) else (g_k1 (f_X10_here (ms τ1 (p + 1)) ) fun v42 => (if v42 = (33 : Int32) then some (1 : Int32) else (g_k1 (f_X10_here (ms τ1 (p + 1)) ) fun v44 => (if v44 = (42 : Int32) then some (2 : Int32) else some (-1 : Int32)))))) fun x15 => some x15)) = some κ := by
        rw [m_here M1 (by omega), k1s, k1s, k1s, eκ]
        by_cases a1 : sg m u (p + 1) = 46
        · rw [if_pos a1, if_pos a1, k1s]
        · rw [if_neg a1, if_neg a1]
          by_cases a2 : sg m u (p + 1) = 33
          · rw [if_pos a2, if_pos a2, k1s]
          · rw [if_neg a2, if_neg a2]
            by_cases a3 : sg m u (p + 1) = 42
            · rw [if_pos a3, if_pos a3, k1s]
            · rw [if_neg a3, if_neg a3, k1s]
      have eK2 : ∀ k : Int32 → Option (Int32 × gSt), (g_k1 (f_X10_here (ms τ1 (p + 1)) ) fun v14 => (g_k1 (if v14 = (46 : Int32) then some (0 : Int32) else (g_k1 (f_X10_here (ms τ1 (p + 1)) ) fun v42 => (if v42 = (33 : Int32) then some (1 : Int32) else (g_k1 (f_X10_here (ms τ1 (p + 1)) ) fun v44 => (if v44 = (42 : Int32) then some (2 : Int32) else some (-1 : Int32)))))) fun x15 => k x15)) = k κ := fun k => by
        rw [m_here M1 (by omega), k1s, k1s, k1s] at eK ⊢
        revert eK
        cases (if sg m u (p + 1) = 46 then some (0 : Int32) else if sg m u (p + 1) = 33 then some 1 else if sg m u (p + 1) = 42 then some 2 else some (-1)) with
        | none => intro eK; cases eK
        | some a => intro eK; cases eK; rfl
      have emt : f_X10_item (ms τ p) = (if 0 ≤ κ then (g_k1 (gast (ms τ1 (p + 1)) 7 180 (nI (6 * i + 1)) κ) fun σ19 => (g_k1 (gset σ19 0 13 ((σ19 0 13) + (1 : Int32))) fun σ20 => (g_k2 (f_X10_digits σ20 (nI (6 * i + 2))) fun v21 σ22 => (g_k2 (if v21 = 0 then some ((0 : Int32), σ22) else (g_k2 (f_X10_skips σ22 (45 : Int32)) fun v29 σ30 => (if v29 = 0 then some ((0 : Int32), σ30) else (g_k2 (f_X10_digits σ30 (nI (6 * i + 3))) fun v32 σ33 => (if v32 = 0 then some ((0 : Int32), σ33) else (g_k2 (f_X10_skips σ33 (58 : Int32)) fun v35 σ36 => (if v35 = 0 then some ((0 : Int32), σ36) else (g_k2 (f_X10_words σ36 (nI (6 * i))) fun v38 σ39 => (if v38 = 0 then some ((0 : Int32), σ39) else some ((1 : Int32), σ39)))))))))) fun x23 σ24 => (g_k1 (gzb x23) fun v27 => some (v27, σ24)))))) else some ((0 : Int32), (ms τ1 (p + 1)))) := by
        rw [hit (hab.elim Or.inl (fun h => Or.inr (Or.inl h))), hd, if_neg n99, if_neg n117]
        exact eK2 _
      rcases hκ with hκ | ⟨hκ, k0, k2, hlt2⟩
      · refine ⟨0, p + 1, σ, τ1, ?_, ?_, by omega, hlt, ItF.rf σ i, F1, Or.inl rfl⟩
        · rw [if_pos hκ] at eB
          rw [eit]
          unfold f_X5_readCaption
          rw [eA, k2s, if_neg nt, eB, k2s, k2s, if_pos hκ, k2s, if_pos rfl, k2s, if_pos rfl, k2s]; rfl
        · rw [emt, if_neg (by rw [hκ]; decide)]
      · rw [if_neg hκ] at eB
        have hp2 : p + 2 ≤ m := hlt2
        have hb1 := pnum_b (m := m) (u := u) 4 (p + 2) 0 hp2
        have M2 : MB (up2 τ1 7 (6 * i + 1) κ) m u := M1.up (Or.inl rfl)
        have M3 : MB (up2 (up2 (up2 τ1 7 (6 * i + 1) κ) 0 14 (pnum m u 4 (p + 2) 0).2) 7 (6 * i + 2) (pnum m u 4 (p + 2) 0).2) m u := (M2.up (Or.inr ⟨rfl, by omega⟩)).up (Or.inl rfl)
        have F2 : ItM τ (up2 τ1 7 (6 * i + 1) κ) i := F1.up7 _ _ (by omega)
        have F3 : ItM τ (up2 (up2 (up2 τ1 7 (6 * i + 1) κ) 0 14 (pnum m u 4 (p + 2) 0).2) 7 (6 * i + 2) (pnum m u 4 (p + 2) 0).2) i := (F2.up0 _ _ (Or.inl rfl)).up7 _ _ (by omega)
        by_cases h1 : (pnum m u 4 (p + 2) 0).1 = p + 2
        · refine ⟨0, p + 2, σ, (up2 τ1 7 (6 * i + 1) κ), ?_, ?_, by omega, hp2, ItF.rf σ i, F2, Or.inl rfl⟩
          · rw [eit]
            unfold f_X5_readCaption
            rw [eA, k2s, if_neg nt, eB, k2s, k2s, if_neg hκ, c_num B hm hp2, k2s, k2s, if_pos h1, if_pos rfl, k2s, if_pos rfl, k2s, h1]; rfl
          · rw [emt, if_pos k0, gast_n (by omega) (by omega), k1s, ms_up (by omega), m_step, k1s, m_digits M2 hp2 (by omega), if_pos h1, k2s, if_pos rfl, k2s]; rfl
        · by_cases h2 : sg m u (pnum m u 4 (p + 2) 0).1 = 45
          · have hl3 : (pnum m u 4 (p + 2) 0).1 + 1 ≤ m := sg_lt (by rw [h2]; decide)
            have hb2 := pnum_b (m := m) (u := u) 4 ((pnum m u 4 (p + 2) 0).1 + 1) 0 hl3
            have M4 : MB (up2 (up2 (up2 (up2 (up2 τ1 7 (6 * i + 1) κ) 0 14 (pnum m u 4 (p + 2) 0).2) 7 (6 * i + 2) (pnum m u 4 (p + 2) 0).2) 0 14 (pnum m u 4 ((pnum m u 4 (p + 2) 0).1 + 1) 0).2) 7 (6 * i + 3) (pnum m u 4 ((pnum m u 4 (p + 2) 0).1 + 1) 0).2) m u := (M3.up (Or.inr ⟨rfl, by omega⟩)).up (Or.inl rfl)
            have F4 : ItM τ (up2 (up2 (up2 (up2 (up2 τ1 7 (6 * i + 1) κ) 0 14 (pnum m u 4 (p + 2) 0).2) 7 (6 * i + 2) (pnum m u 4 (p + 2) 0).2) 0 14 (pnum m u 4 ((pnum m u 4 (p + 2) 0).1 + 1) 0).2) 7 (6 * i + 3) (pnum m u 4 ((pnum m u 4 (p + 2) 0).1 + 1) 0).2) i := (F3.up0 _ _ (Or.inl rfl)).up7 _ _ (by omega)
            by_cases h3 : (pnum m u 4 ((pnum m u 4 (p + 2) 0).1 + 1) 0).1 = (pnum m u 4 (p + 2) 0).1 + 1
            · refine ⟨0, (pnum m u 4 (p + 2) 0).1 + 1, σ, (up2 (up2 (up2 τ1 7 (6 * i + 1) κ) 0 14 (pnum m u 4 (p + 2) 0).2) 7 (6 * i + 2) (pnum m u 4 (p + 2) 0).2), ?_, ?_, by omega, hl3, ItF.rf σ i, F3, Or.inl rfl⟩
              · rw [eit]
                unfold f_X5_readCaption
                rw [eA, k2s, if_neg nt, eB, k2s, k2s, if_neg hκ, c_num B hm hp2, k2s, k2s, if_neg h1, if_neg pnum_n1, c_takeSign B (by omega), if_pos h2, k2s, if_neg (by decide), c_num B hm hl3, k2s, k2s, if_pos h3, if_pos rfl, k2s, h3]; rfl
              · rw [emt, if_pos k0, gast_n (by omega) (by omega), k1s, ms_up (by omega), m_step, k1s, m_digits M2 hp2 (by omega), if_neg h1, k2s, if_neg (by decide), m_skips M3 (by omega), if_pos h2, k2s, if_neg (by decide), m_digits M3 hl3 (by omega), if_pos h3, k2s, if_pos rfl, k2s]; rfl
            · by_cases h4 : sg m u (pnum m u 4 ((pnum m u 4 (p + 2) 0).1 + 1) 0).1 = 58
              · have hl5 : (pnum m u 4 ((pnum m u 4 (p + 2) 0).1 + 1) 0).1 + 1 ≤ m := sg_lt (by rw [h4]; decide)
                have hb3 := pw_b (m := m) (u := u) 24 ((pnum m u 4 ((pnum m u 4 (p + 2) 0).1 + 1) 0).1 + 1) hl5
                have B6 : CB (up2 (up2 (up2 (up2 (up2 (up2 σ 192 i 0) 193 i (nI t)) 194 i κ) 195 i (pnum m u 4 (p + 2) 0).2) 196 i (pnum m u 4 ((pnum m u 4 (p + 2) 0).1 + 1) 0).2) 197 i (nI ((pnum m u 4 ((pnum m u 4 (p + 2) 0).1 + 1) 0).1 + 1))) m u := (((((B.up (by omega)).up (by omega)).up (by omega)).up (by omega)).up (by omega)).up (by omega)
                have G7 : ItF σ (up2 (up2 (up2 (up2 (up2 (up2 (up2 σ 192 i 0) 193 i (nI t)) 194 i κ) 195 i (pnum m u 4 (p + 2) 0).2) 196 i (pnum m u 4 ((pnum m u 4 (p + 2) 0).1 + 1) 0).2) 197 i (nI ((pnum m u 4 ((pnum m u 4 (p + 2) 0).1 + 1) 0).1 + 1))) 198 i (nI (pw m u 24 ((pnum m u 4 ((pnum m u 4 (p + 2) 0).1 + 1) 0).1 + 1)))) i := (((((((ItF.rf σ i).up 192 _ (by omega)).up 193 _ (by omega)).up 194 _ (by omega)).up 195 _ (by omega)).up 196 _ (by omega)).up 197 _ (by omega)).up 198 _ (by omega)
                have F5 : ItM τ (up2 (up2 (up2 (up2 (up2 (up2 (up2 τ1 7 (6 * i + 1) κ) 0 14 (pnum m u 4 (p + 2) 0).2) 7 (6 * i + 2) (pnum m u 4 (p + 2) 0).2) 0 14 (pnum m u 4 ((pnum m u 4 (p + 2) 0).1 + 1) 0).2) 7 (6 * i + 3) (pnum m u 4 ((pnum m u 4 (p + 2) 0).1 + 1) 0).2) 7 (6 * i + 4) (nI ((pnum m u 4 ((pnum m u 4 (p + 2) 0).1 + 1) 0).1 + 1))) 7 (6 * i + 5) (nI ((pw m u 24 ((pnum m u 4 ((pnum m u 4 (p + 2) 0).1 + 1) 0).1 + 1)) - ((pnum m u 4 ((pnum m u 4 (p + 2) 0).1 + 1) 0).1 + 1)))) i := (F4.up7 _ _ (by omega)).up7 _ _ (by omega)
                have a98 : cs (up2 (up2 (up2 (up2 (up2 (up2 (up2 σ 192 i 0) 193 i (nI t)) 194 i κ) 195 i (pnum m u 4 (p + 2) 0).2) 196 i (pnum m u 4 ((pnum m u 4 (p + 2) 0).1 + 1) 0).2) 197 i (nI ((pnum m u 4 ((pnum m u 4 (p + 2) 0).1 + 1) 0).1 + 1))) 198 i (nI (pw m u 24 ((pnum m u 4 ((pnum m u 4 (p + 2) 0).1 + 1) 0).1 + 1)))) (pw m u 24 ((pnum m u 4 ((pnum m u 4 (p + 2) 0).1 + 1) 0).1 + 1)) 198 i = nI (pw m u 24 ((pnum m u 4 ((pnum m u 4 (p + 2) 0).1 + 1) 0).1 + 1)) := by unfold cs; rw [up2_k (by omega), up2_s]
                have a97 : cs (up2 (up2 (up2 (up2 (up2 (up2 (up2 σ 192 i 0) 193 i (nI t)) 194 i κ) 195 i (pnum m u 4 (p + 2) 0).2) 196 i (pnum m u 4 ((pnum m u 4 (p + 2) 0).1 + 1) 0).2) 197 i (nI ((pnum m u 4 ((pnum m u 4 (p + 2) 0).1 + 1) 0).1 + 1))) 198 i (nI (pw m u 24 ((pnum m u 4 ((pnum m u 4 (p + 2) 0).1 + 1) 0).1 + 1)))) (pw m u 24 ((pnum m u 4 ((pnum m u 4 (p + 2) 0).1 + 1) 0).1 + 1)) 197 i = nI ((pnum m u 4 ((pnum m u 4 (p + 2) 0).1 + 1) 0).1 + 1) := by unfold cs; rw [up2_k (by omega), up2_k (by omega), up2_s]
                have ecl : f_X5_readItem (cs σ p) (nI i) = some (if (pw m u 24 ((pnum m u 4 ((pnum m u 4 (p + 2) 0).1 + 1) 0).1 + 1)) = ((pnum m u 4 ((pnum m u 4 (p + 2) 0).1 + 1) 0).1 + 1) then 0 else 1, cs (up2 (up2 (up2 (up2 (up2 (up2 (up2 σ 192 i 0) 193 i (nI t)) 194 i κ) 195 i (pnum m u 4 (p + 2) 0).2) 196 i (pnum m u 4 ((pnum m u 4 (p + 2) 0).1 + 1) 0).2) 197 i (nI ((pnum m u 4 ((pnum m u 4 (p + 2) 0).1 + 1) 0).1 + 1))) 198 i (nI (pw m u 24 ((pnum m u 4 ((pnum m u 4 (p + 2) 0).1 + 1) 0).1 + 1)))) (pw m u 24 ((pnum m u 4 ((pnum m u 4 (p + 2) 0).1 + 1) 0).1 + 1))) := by
                  rw [eit]
                  unfold f_X5_readCaption
                  rw [eA, k2s, if_neg nt, eB, k2s, k2s, if_neg hκ, c_num B hm hp2, k2s, k2s, if_neg h1, if_neg pnum_n1, c_takeSign B (by omega), if_pos h2, k2s, if_neg (by decide), c_num B hm hl3, k2s, k2s, if_neg h3, if_neg pnum_n1, c_takeSign B (by omega), if_pos h4, k2s, if_neg (by decide), c_isItem _ hi, k1s, if_neg (by decide)]
                  rw [gast_n hi (by omega), k1s, cs_up (by omega), gast_n hi (by omega), k1s, cs_up (by omega), gast_n hi (by omega), k1s, cs_up (by omega), gast_n hi (by omega), k1s, cs_up (by omega), gast_n hi (by omega), k1s, cs_up (by omega), gast_n hi (by omega), k1s, cs_up (by omega), cs_s, c_skip B6 hm hl5, k1s, gast_n hi (by omega), k1s, cs_up (by omega), cs_s, gald_n hi (by omega), k1s, gald_n hi (by omega), k1s, a98, a97]
                  by_cases h5 : (pw m u 24 ((pnum m u 4 ((pnum m u 4 (p + 2) 0).1 + 1) 0).1 + 1)) = ((pnum m u 4 ((pnum m u 4 (p + 2) 0).1 + 1) 0).1 + 1)
                  · rw [if_pos (by rw [h5]; exact nI_le (Nat.le_refl _) (by omega)), k1s, if_pos h5]; rfl
                  · rw [if_neg (nI_ge (by omega) (by omega)), k1s, if_neg h5]; rfl
                have eml : f_X10_item (ms τ p) = some (if (pw m u 24 ((pnum m u 4 ((pnum m u 4 (p + 2) 0).1 + 1) 0).1 + 1)) = ((pnum m u 4 ((pnum m u 4 (p + 2) 0).1 + 1) 0).1 + 1) then 0 else 1, ms (up2 (up2 (up2 (up2 (up2 (up2 (up2 τ1 7 (6 * i + 1) κ) 0 14 (pnum m u 4 (p + 2) 0).2) 7 (6 * i + 2) (pnum m u 4 (p + 2) 0).2) 0 14 (pnum m u 4 ((pnum m u 4 (p + 2) 0).1 + 1) 0).2) 7 (6 * i + 3) (pnum m u 4 ((pnum m u 4 (p + 2) 0).1 + 1) 0).2) 7 (6 * i + 4) (nI ((pnum m u 4 ((pnum m u 4 (p + 2) 0).1 + 1) 0).1 + 1))) 7 (6 * i + 5) (nI ((pw m u 24 ((pnum m u 4 ((pnum m u 4 (p + 2) 0).1 + 1) 0).1 + 1)) - ((pnum m u 4 ((pnum m u 4 (p + 2) 0).1 + 1) 0).1 + 1)))) (pw m u 24 ((pnum m u 4 ((pnum m u 4 (p + 2) 0).1 + 1) 0).1 + 1))) := by
                  rw [emt, if_pos k0, gast_n (by omega) (by omega), k1s, ms_up (by omega), m_step, k1s, m_digits M2 hp2 (by omega), if_neg h1, k2s, if_neg (by decide), m_skips M3 (by omega), if_pos h2, k2s, if_neg (by decide), m_digits M3 hl3 (by omega), if_neg h3, k2s, if_neg (by decide), m_skips M4 (by omega), if_pos h4, k2s, if_neg (by decide), m_words M4 hl5 (by omega), k2s]
                  by_cases h5 : (pw m u 24 ((pnum m u 4 ((pnum m u 4 (p + 2) 0).1 + 1) 0).1 + 1)) = ((pnum m u 4 ((pnum m u 4 (p + 2) 0).1 + 1) 0).1 + 1)
                  · rw [if_pos h5, if_pos rfl, k2s]; rfl
                  · rw [if_neg h5, if_neg (by decide), k2s]; rfl
                refine ⟨_, (pw m u 24 ((pnum m u 4 ((pnum m u 4 (p + 2) 0).1 + 1) 0).1 + 1)), (up2 (up2 (up2 (up2 (up2 (up2 (up2 σ 192 i 0) 193 i (nI t)) 194 i κ) 195 i (pnum m u 4 (p + 2) 0).2) 196 i (pnum m u 4 ((pnum m u 4 (p + 2) 0).1 + 1) 0).2) 197 i (nI ((pnum m u 4 ((pnum m u 4 (p + 2) 0).1 + 1) 0).1 + 1))) 198 i (nI (pw m u 24 ((pnum m u 4 ((pnum m u 4 (p + 2) 0).1 + 1) 0).1 + 1)))), (up2 (up2 (up2 (up2 (up2 (up2 (up2 τ1 7 (6 * i + 1) κ) 0 14 (pnum m u 4 (p + 2) 0).2) 7 (6 * i + 2) (pnum m u 4 (p + 2) 0).2) 0 14 (pnum m u 4 ((pnum m u 4 (p + 2) 0).1 + 1) 0).2) 7 (6 * i + 3) (pnum m u 4 ((pnum m u 4 (p + 2) 0).1 + 1) 0).2) 7 (6 * i + 4) (nI ((pnum m u 4 ((pnum m u 4 (p + 2) 0).1 + 1) 0).1 + 1))) 7 (6 * i + 5) (nI ((pw m u 24 ((pnum m u 4 ((pnum m u 4 (p + 2) 0).1 + 1) 0).1 + 1)) - ((pnum m u 4 ((pnum m u 4 (p + 2) 0).1 + 1) 0).1 + 1)))), ecl, eml, by omega, hb3.2.2, G7, F5, ?_⟩
                by_cases h5 : (pw m u 24 ((pnum m u 4 ((pnum m u 4 (p + 2) 0).1 + 1) 0).1 + 1)) = ((pnum m u 4 ((pnum m u 4 (p + 2) 0).1 + 1) 0).1 + 1)
                · exact Or.inl (if_pos h5)
                · refine Or.inr ⟨if_neg h5, by omega, ?_, Or.inr ⟨t, ((pnum m u 4 ((pnum m u 4 (p + 2) 0).1 + 1) 0).1 + 1), (pw m u 24 ((pnum m u 4 ((pnum m u 4 (p + 2) 0).1 + 1) 0).1 + 1)) - ((pnum m u 4 ((pnum m u 4 (p + 2) 0).1 + 1) 0).1 + 1), ht, ?_, by simp [up2_ap], by simp [up2_ap], ?_, by simp [up2_ap], by simp [up2_ap], by simp [up2_ap], by simp [up2_ap], ?_, by simp [up2_ap], by simp [up2_ap], by omega⟩⟩
                  · simp [up2_ap, v16]
                  · simp [up2_ap, v0, et]
                  · have e : (up2 (up2 (up2 (up2 (up2 (up2 (up2 σ 192 i 0) 193 i (nI t)) 194 i κ) 195 i (pnum m u 4 (p + 2) 0).2) 196 i (pnum m u 4 ((pnum m u 4 (p + 2) 0).1 + 1) 0).2) 197 i (nI ((pnum m u 4 ((pnum m u 4 (p + 2) 0).1 + 1) 0).1 + 1))) 198 i (nI (pw m u 24 ((pnum m u 4 ((pnum m u 4 (p + 2) 0).1 + 1) 0).1 + 1)))) 194 i = κ := by simp [up2_ap]
                    rw [e]; exact ⟨k0, k2⟩
                  · rw [show ((pnum m u 4 ((pnum m u 4 (p + 2) 0).1 + 1) 0).1 + 1) + ((pw m u 24 ((pnum m u 4 ((pnum m u 4 (p + 2) 0).1 + 1) 0).1 + 1)) - ((pnum m u 4 ((pnum m u 4 (p + 2) 0).1 + 1) 0).1 + 1)) = (pw m u 24 ((pnum m u 4 ((pnum m u 4 (p + 2) 0).1 + 1) 0).1 + 1)) by omega]; simp [up2_ap]
              · refine ⟨0, (pnum m u 4 ((pnum m u 4 (p + 2) 0).1 + 1) 0).1, σ, (up2 (up2 (up2 (up2 (up2 τ1 7 (6 * i + 1) κ) 0 14 (pnum m u 4 (p + 2) 0).2) 7 (6 * i + 2) (pnum m u 4 (p + 2) 0).2) 0 14 (pnum m u 4 ((pnum m u 4 (p + 2) 0).1 + 1) 0).2) 7 (6 * i + 3) (pnum m u 4 ((pnum m u 4 (p + 2) 0).1 + 1) 0).2), ?_, ?_, by omega, hb2.2.2, ItF.rf σ i, F4, Or.inl rfl⟩
                · rw [eit]
                  unfold f_X5_readCaption
                  rw [eA, k2s, if_neg nt, eB, k2s, k2s, if_neg hκ, c_num B hm hp2, k2s, k2s, if_neg h1, if_neg pnum_n1, c_takeSign B (by omega), if_pos h2, k2s, if_neg (by decide), c_num B hm hl3, k2s, k2s, if_neg h3, if_neg pnum_n1, c_takeSign B (by omega), if_neg h4, k2s, if_pos rfl, k2s]; rfl
                · rw [emt, if_pos k0, gast_n (by omega) (by omega), k1s, ms_up (by omega), m_step, k1s, m_digits M2 hp2 (by omega), if_neg h1, k2s, if_neg (by decide), m_skips M3 (by omega), if_pos h2, k2s, if_neg (by decide), m_digits M3 hl3 (by omega), if_neg h3, k2s, if_neg (by decide), m_skips M4 (by omega), if_neg h4, k2s, if_pos rfl, k2s]; rfl
          · refine ⟨0, (pnum m u 4 (p + 2) 0).1, σ, (up2 (up2 (up2 τ1 7 (6 * i + 1) κ) 0 14 (pnum m u 4 (p + 2) 0).2) 7 (6 * i + 2) (pnum m u 4 (p + 2) 0).2), ?_, ?_, by omega, hb1.2.2, ItF.rf σ i, F3, Or.inl rfl⟩
            · rw [eit]
              unfold f_X5_readCaption
              rw [eA, k2s, if_neg nt, eB, k2s, k2s, if_neg hκ, c_num B hm hp2, k2s, k2s, if_neg h1, if_neg pnum_n1, c_takeSign B (by omega), if_neg h2, k2s, if_pos rfl, k2s, if_pos rfl, k2s]; rfl
            · rw [emt, if_pos k0, gast_n (by omega) (by omega), k1s, ms_up (by omega), m_step, k1s, m_digits M2 hp2 (by omega), if_neg h1, k2s, if_neg (by decide), m_skips M3 (by omega), if_neg h2, k2s, if_pos rfl, k2s]; rfl
    · refine ⟨0, p, σ, τ, ?_, ?_, Nat.le_refl _, hp, ItF.rf σ i, ItM.rf τ i, Or.inl rfl⟩
      · have eA : f_X5_takeOneOf (cs σ p) 97 98 (-1) = some (-1, cs σ p) := by
          rw [c_oneOf B (by omega)]
          by_cases h : sg m u p = -1
          · rw [if_pos h]
          · rw [if_neg h, if_neg (fun e => hab (Or.inl e)), if_neg (fun e => hab (Or.inr e)), if_neg h]
        rw [eit]
        unfold f_X5_readCaption
        rw [eA, k2s, if_pos rfl, k2s, if_pos rfl, k2s, if_pos rfl, k2s, if_pos rfl, k2s]; rfl
      · unfold f_X10_item
        rw [m_here M (by omega), k1s, if_neg (fun e => hab (Or.inl e)), if_neg (fun e => hab (Or.inr e)), if_neg n99, if_neg n117]
