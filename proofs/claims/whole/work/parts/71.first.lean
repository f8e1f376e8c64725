/-! ===== the two desks when they are new ===== -/
def gM0 : gSt := fun k j => if k = 0 then (if j = 9 then -1 else 0) else if k = 1 then gM0g j else 0
theorem gM0_1 : gM0 1 = gM0g := rfl
theorem RR0 : RR gI0s gM0 := by
  have hC : nC gM0g = 0 := by decide +kernel
  have hT : ∀ t, t < 2 → nT gM0g t = 0 := by decide +kernel
  refine ⟨⟨?_, ?_⟩, ⟨by decide +kernel, fun h => absurd (by decide +kernel) h⟩, ⟨by decide +kernel, by decide +kernel, by decide +kernel, Or.inl (by decide +kernel)⟩, ⟨0, 0, by omega, by omega, by decide +kernel, by decide +kernel, by decide +kernel, fun j hj => absurd hj (Nat.not_lt_zero j)⟩, 0, ⟨by decide +kernel, by omega, fun i hi => absurd hi (Nat.not_lt_zero i)⟩, by decide +kernel, fun i hi => absurd hi (Nat.not_lt_zero i)⟩
  · rw [gM0_1]
    refine ⟨by decide +kernel, by decide +kernel, by decide +kernel, fun i hi => ?_, fun t ht => ?_⟩
    · rw [hC] at hi; exact absurd hi (Nat.not_lt_zero i)
    · rw [hT t ht]
      refine ⟨?_, by omega, fun c hc => absurd hc (Nat.not_lt_zero c)⟩
      exact (by decide +kernel : ∀ t, t < 2 → gI0s (tB 1 t) 5 = nI 0) t ht
  · rw [gM0_1]
    refine ⟨by unfold setOK; decide +kernel, ⟨by rw [hC]; decide +kernel, by rw [hC]; omega, fun i hi => ?_, fun i hi => ?_⟩, fun t ht => ⟨?_, ?_, fun c hc => ?_, fun c hc => ?_⟩⟩
    · rw [hC] at hi; omega
    · rw [hC] at hi; omega
    · rw [hT t ht]
      exact (by decide +kernel : ∀ t, t < 2 → gM0g (28 + t) = nI 0) t ht
    · rw [hT t ht]; omega
    · rw [hT t ht] at hc; omega
    · rw [hT t ht] at hc; omega
def ad0 (b k : Nat) : Nat := if k = 201 then b + 209 else b + k
def adM0 (b j : Nat) : Nat := b + 201 + j
theorem lwA0 (b : Nat) : lwA (ad0 b) (adM0 b) (b + 210) b := by
  refine ⟨fun i j hi hj h => ?_, fun i j hi hj h => ?_, fun k hk => ⟨?_, ?_, fun j hj => ?_⟩, fun j hj => ⟨?_, ?_⟩, by omega⟩ <;> simp only [ad0, adM0] at * <;> (try split at *) <;> (try split at *) <;> omega
theorem celC_ad0 {Γ : gG} {b k : Nat} (hk : k < 201) : celC Γ (ad0 b) k (gI0s k) = celC Γ (fun q => b + q) k (gI0s k) := by
  have hj : ∀ j, j ≠ 201 → ad0 b j = b + j := fun j h => if_neg h
  have lt : ∀ {i c : Nat}, gkd i = c → c ≠ 30 → ad0 b i = b + i := fun {i c} h hc => hj _ (fun e => by subst e; exact hc (h.symm.trans kd_s201))
  rcases kd_all k (by omega) with h | h | h | h | h | h | h | h | h | h | h | h | h | h | h | h | h | h
  · rw [ceC_0 h, ceC_0 h, lt (kd_0_1 h) (by decide)]
  · rw [ceC_1 h, ceC_1 h, hj 1 (by decide), hj 17 (by decide), hj 21 (by decide), hj 23 (by decide)]
  · rw [ceC_2 h, ceC_2 h, hj 1 (by decide), hj 18 (by decide)]
  · rw [ceC_3 h, ceC_3 h, lt (kd_3_1 h) (by decide), lt (kd_3_2 h) (by decide), lt (kd_3_4 h) (by decide), lt (kd_3_10 h) (by decide)]
  · rw [ceC_4 h, ceC_4 h, hj 26 (by decide)]
  · have hk5 : k = 191 := kd5_191 k (by omega) h
    subst hk5
    have h9 : (gI0s 191 9).toNatClampNeg = 199 := by decide +kernel
    rw [ceC_5 h, ceC_5 h, hj 192 (by decide), hj 193 (by decide), hj 194 (by decide), hj 195 (by decide), hj 196 (by decide), hj 197 (by decide), hj 198 (by decide), h9, hj 199 (by decide)]
  · rw [ceC_6 h, ceC_6 h]
  · rw [ceC_7 h, ceC_7 h, lt (kd_7_1 h) (by decide)]
  · rw [ceC_8 h, ceC_8 h, lt (kd_8_1 h) (by decide), lt (kd_8_2 h) (by decide), lt (kd_8_3 h) (by decide), lt (kd_8_4 h) (by decide), lt (kd_8_5 h) (by decide)]
  · rw [ceC_9 h, ceC_9 h, hj 1 (by decide), hj 17 (by decide), hj 20 (by decide), hj 25 (by decide), hj 171 (by decide), hj 187 (by decide), hj 189 (by decide), hj 191 (by decide)]
  · rw [ceC_30 h, ceC_30 h]
  · rw [ceC_106 h, ceC_106 h]
  · rw [ceC_116 h, ceC_116 h]
  · rw [ceC_120 h, ceC_120 h]
  · rw [ceC_130 h, ceC_130 h]
  · rw [ceC_160 h, ceC_160 h]
  · rw [ceC_484 h, ceC_484 h]
  · rw [ceC_209 h, ceC_209 h]
    have e : (fun j => some (ad0 b (gFx j))) = fun j => some (b + gFx j) := funext fun j => by rw [hj _ (by unfold gFx; omega)]
    rw [e]
def M8 (Γ : gG) (b : Nat) : List va_E := [.inr (10, [.ref (b + 1), .ref (b + 2), .ref (b + 3), .int 0, .ref (b + 4), .int 0, .ref (b + 5), .int 0, .int 0, .int (-1), .int 0, .ref (b + 6), .int 0, .int 0, .int 0, .ref (b + 7), .int 0]), .inl (Γ.2.1, 926, .inl gM0g), .inl (Γ.2.1, 926, .inl (fun _ => 0)), .inl (Γ.2.1, 926, .inl (fun _ => 0)), .inl (Γ.2.1, 7408, .inl (fun _ => 0)), .inl (Γ.2.1, 28, .inl (fun _ => 0)), .inl (Γ.2.1, 60, .inl (fun _ => 0)), .inl (Γ.2.1, 180, .inl (fun _ => 0))]
theorem M8_get {Γ : gG} {b j : Nat} (hj : j < 8) : (M8 Γ (b + 201))[j]? = some (celM Γ (adM0 b) j (gM0 j)) := by
  rcases (show j = 0 ∨ j = 1 ∨ j = 2 ∨ j = 3 ∨ j = 4 ∨ j = 5 ∨ j = 6 ∨ j = 7 by omega) with rfl | rfl | rfl | rfl | rfl | rfl | rfl | rfl <;> rfl
theorem lwS0 {Γ : gG} {cD : Nat} {s : State} {H : Heap} {locs : List Loc} (B : gB Γ s.heap.size 211 (((gRes Γ s.heap.size 0 201 ++ M8 Γ (s.heap.size + 201)) ++ [.inl (Γ.2.2.2, 1, .inr (.inl (fun _ => 0)))]) ++ [.inl (cD, 1, .inr (.inr (.inr (.inl (fun _ => 0)))))]) s H locs) : lwS Γ (ad0 s.heap.size) (adM0 s.heap.size) cD (s.heap.size + 210) gI0s gM0 (fun _ => 0) s H locs := by
  obtain ⟨-, -, hB, hS⟩ := B
  obtain ⟨b, hb0⟩ : ∃ b, b = s.heap.size := ⟨_, rfl⟩
  rw [← hb0] at hB ⊢
  have l1 : (gRes Γ b 0 201).length = 201 := gRes_len Γ b 0 201
  have l2 : (M8 Γ (b + 201)).length = 8 := rfl
  have l3 : (gRes Γ b 0 201 ++ M8 Γ (b + 201)).length = 209 := by rw [List.length_append, l1, l2]
  refine ⟨fun k x hk => ?_, fun k x hk => ?_, ?_, hS⟩
  · obtain ⟨h1, rfl⟩ := gws_inv hk
    by_cases h : k = 201
    · subst h
      have := hB 209 (.inl (Γ.2.2.2, 1, .inr (.inl (fun _ => 0)))) (by
        rw [List.getElem?_append_left (by rw [List.length_append, l3]; show 209 < 209 + 1; omega), List.getElem?_append_right (by omega), l3]; rfl)
      rw [ceC_30 kd_s201]
      exact this
    · have := hB k (cellI Γ b (0 + k)) (by
        rw [List.getElem?_append_left (by rw [List.length_append, l3]; show k < 209 + 1; omega), List.getElem?_append_left (by omega), List.getElem?_append_left (by omega)]
        exact gRes_get (by omega))
      rw [celC_ad0 (by omega), show ad0 b k = b + k from if_neg h]
      rw [Nat.zero_add] at this
      exact this
  · obtain ⟨h1, rfl⟩ := gws_inv hk
    have := hB (201 + k) (celM Γ (adM0 b) k (gM0 k)) (by
      rw [List.getElem?_append_left (by rw [List.length_append, l3]; show 201 + k < 209 + 1; omega), List.getElem?_append_left (by omega), List.getElem?_append_right (by omega), l1, show 201 + k - 201 = k by omega]
      exact M8_get h1)
    rw [← Nat.add_assoc] at this
    exact this
  · have := hB 210 (.inl (cD, 1, .inr (.inr (.inr (.inl (fun _ => 0)))))) (by
      rw [List.getElem?_append_right (by rw [List.length_append, l3]; show 209 + 1 ≤ 210; omega), List.length_append, l3]; rfl)
    exact this
