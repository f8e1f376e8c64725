noncomputable def f_X9_dividedUp (σ : gSt) (a0 : Int32) (a1 : Int32) : Option (Int32) :=
  (g_k1 (if a1 ≤ 0 then some (0 : Int32) else (g_k1 (gdiv ((a0 + a1) - (1 : Int32)) a1) fun _ => some (((a0 + a1) - (1 : Int32)) / a1))) fun x1 => some x1)
set_option maxRecDepth 100000 in
set_option maxHeartbeats 4000000 in
theorem c_X9_dividedUp (l : Launch) {Γ : gG} {ad : Nat → Nat} {N : Nat} (hN : 202 ≤ N) {σ : gSt} {a0 : Int32} {a1 : Int32}  {r : Int32} (hf : f_X9_dividedUp σ a0 a1 = some r) : gMi l celC Γ ad N yX9_dividedUp cX9_dividedUp 2 (some .int) (gR 1 0 0) [.int a0, .int a1] σ r σ := by
  intro sz
  refine gOf (Qc := fun sz => gQci celC Γ ad N r σ sz) RX9 (by decide) rfl (Nat.le_of_ble_eq_true rfl) (fun p e s m args below meth c H locs ls X S hl => ?_)
  have hl : lv_has ls 2 [(0, .int a0), (1, .int a1)] := hl
  have hx := X.1
  have hb := X.2.1
  unfold f_X9_dividedUp at hf
  refine lv_iload_n hx hb dX9_dividedUp_0 rfl (lv_at hl 1 rfl) ?_
  obtain ⟨x1, hr2, hf⟩ := g_s1 hf
  have J3 : ∀ (H : Heap) (locs : List Loc) (ls : Array Slot), gS celC Γ ad N σ s H locs → lv_has ls 2 [] → W p l e (gR 1 0 0) s m args below meth c H locs 0 0 (gQi celC Γ ad N r σ below args s) (F0 m 15 ls [.int x1]) := by
    intro H locs ls S hl
    cases hf
    exact g_reti X S rfl dX9_dividedUp_15
  replace hf := hr2
  refine lv_if_le (tgt := 14) hx hb dX9_dividedUp_1 (by decide) (fun c4 => ?_) (fun c4 => ?_)
  · have hf := (if_pos c4).symm.trans hf
    refine lv_iconst (v := (0 : Int32)) hx hb dX9_dividedUp_14 (by decide) ?_
    cases hf
    exact J3 _ _ _ S (lv_sub hl [] rfl)
  · have hf := (if_neg c4).symm.trans hf
    refine lv_iload_n hx hb dX9_dividedUp_4 rfl (lv_at hl 0 rfl) ?_
    refine lv_iload_n hx hb dX9_dividedUp_5 rfl (lv_at hl 1 rfl) ?_
    refine lv_iadd hx hb dX9_dividedUp_6 ?_
    refine lv_iconst (v := (1 : Int32)) hx hb dX9_dividedUp_7 (by decide) ?_
    refine lv_isub hx hb dX9_dividedUp_8 ?_
    refine lv_iload_n hx hb dX9_dividedUp_9 rfl (lv_at hl 1 rfl) ?_
    obtain ⟨v5, hv5, hf⟩ := g_s1 hf
    obtain ⟨hzv5, rfl⟩ := gdiv_some hv5
    refine lv_idiv hx hb dX9_dividedUp_10 hzv5 ?_
    refine lv_goto (tgt := 15) hx hb dX9_dividedUp_11 (by decide) ?_
    cases hf
    exact J3 _ _ _ S (lv_sub hl [] rfl)

theorem dJ9_floorDiv_7cf53_0 : decode cJ9_floorDiv_7cf53 0 = .ok (.iload_n 0, 1) := by decide +kernel
theorem dJ9_floorDiv_7cf53_1 : decode cJ9_floorDiv_7cf53 1 = .ok (.iload_n 1, 1) := by decide +kernel
theorem dJ9_floorDiv_7cf53_2 : decode cJ9_floorDiv_7cf53 2 = .ok (.idiv, 1) := by decide +kernel
theorem dJ9_floorDiv_7cf53_3 : decode cJ9_floorDiv_7cf53 3 = .ok (.istore_n 2, 1) := by decide +kernel
theorem dJ9_floorDiv_7cf53_4 : decode cJ9_floorDiv_7cf53 4 = .ok (.iload_n 0, 1) := by decide +kernel
theorem dJ9_floorDiv_7cf53_5 : decode cJ9_floorDiv_7cf53 5 = .ok (.iload_n 1, 1) := by decide +kernel
theorem dJ9_floorDiv_7cf53_6 : decode cJ9_floorDiv_7cf53 6 = .ok (.ixor, 1) := by decide +kernel
theorem dJ9_floorDiv_7cf53_7 : decode cJ9_floorDiv_7cf53 7 = .ok (.ifCond .ge 14, 3) := by decide +kernel
theorem dJ9_floorDiv_7cf53_10 : decode cJ9_floorDiv_7cf53 10 = .ok (.iload_n 2, 1) := by decide +kernel
theorem dJ9_floorDiv_7cf53_11 : decode cJ9_floorDiv_7cf53 11 = .ok (.iload_n 1, 1) := by decide +kernel
theorem dJ9_floorDiv_7cf53_12 : decode cJ9_floorDiv_7cf53 12 = .ok (.imul, 1) := by decide +kernel
theorem dJ9_floorDiv_7cf53_13 : decode cJ9_floorDiv_7cf53 13 = .ok (.iload_n 0, 1) := by decide +kernel
theorem dJ9_floorDiv_7cf53_14 : decode cJ9_floorDiv_7cf53 14 = .ok (.if_icmp .eq 7, 3) := by decide +kernel
theorem dJ9_floorDiv_7cf53_17 : decode cJ9_floorDiv_7cf53 17 = .ok (.iload_n 2, 1) := by decide +kernel
theorem dJ9_floorDiv_7cf53_18 : decode cJ9_floorDiv_7cf53 18 = .ok (.iconst 1, 1) := by decide +kernel
theorem dJ9_floorDiv_7cf53_19 : decode cJ9_floorDiv_7cf53 19 = .ok (.isub, 1) := by decide +kernel
theorem dJ9_floorDiv_7cf53_20 : decode cJ9_floorDiv_7cf53 20 = .ok (.ireturn, 1) := by decide +kernel
theorem dJ9_floorDiv_7cf53_21 : decode cJ9_floorDiv_7cf53 21 = .ok (.iload_n 2, 1) := by decide +kernel
theorem dJ9_floorDiv_7cf53_22 : decode cJ9_floorDiv_7cf53 22 = .ok (.ireturn, 1) := by decide +kernel
theorem dJ9_abs_0f7a4_0 : decode cJ9_abs_0f7a4 0 = .ok (.iload_n 0, 1) := by decide +kernel
theorem dJ9_abs_0f7a4_1 : decode cJ9_abs_0f7a4 1 = .ok (.ifCond .ge 8, 3) := by decide +kernel
theorem dJ9_abs_0f7a4_4 : decode cJ9_abs_0f7a4 4 = .ok (.iload_n 0, 1) := by decide +kernel
theorem dJ9_abs_0f7a4_5 : decode cJ9_abs_0f7a4 5 = .ok (.ineg, 1) := by decide +kernel
theorem dJ9_abs_0f7a4_6 : decode cJ9_abs_0f7a4 6 = .ok (.goto 4, 3) := by decide +kernel
theorem dJ9_abs_0f7a4_9 : decode cJ9_abs_0f7a4 9 = .ok (.iload_n 0, 1) := by decide +kernel
theorem dJ9_abs_0f7a4_10 : decode cJ9_abs_0f7a4 10 = .ok (.ireturn, 1) := by decide +kernel
theorem dJ9_max_7cf53_0 : decode cJ9_max_7cf53 0 = .ok (.iload_n 0, 1) := by decide +kernel
theorem dJ9_max_7cf53_1 : decode cJ9_max_7cf53 1 = .ok (.iload_n 1, 1) := by decide +kernel
theorem dJ9_max_7cf53_2 : decode cJ9_max_7cf53 2 = .ok (.if_icmp .lt 7, 3) := by decide +kernel
theorem dJ9_max_7cf53_5 : decode cJ9_max_7cf53 5 = .ok (.iload_n 0, 1) := by decide +kernel
theorem dJ9_max_7cf53_6 : decode cJ9_max_7cf53 6 = .ok (.goto 4, 3) := by decide +kernel
theorem dJ9_max_7cf53_9 : decode cJ9_max_7cf53 9 = .ok (.iload_n 1, 1) := by decide +kernel
theorem dJ9_max_7cf53_10 : decode cJ9_max_7cf53 10 = .ok (.ireturn, 1) := by decide +kernel
theorem dJ9_min_7cf53_0 : decode cJ9_min_7cf53 0 = .ok (.iload_n 0, 1) := by decide +kernel
theorem dJ9_min_7cf53_1 : decode cJ9_min_7cf53 1 = .ok (.iload_n 1, 1) := by decide +kernel
theorem dJ9_min_7cf53_2 : decode cJ9_min_7cf53 2 = .ok (.if_icmp .gt 7, 3) := by decide +kernel
theorem dJ9_min_7cf53_5 : decode cJ9_min_7cf53 5 = .ok (.iload_n 0, 1) := by decide +kernel
theorem dJ9_min_7cf53_6 : decode cJ9_min_7cf53 6 = .ok (.goto 4, 3) := by decide +kernel
theorem dJ9_min_7cf53_9 : decode cJ9_min_7cf53 9 = .ok (.iload_n 1, 1) := by decide +kernel
theorem dJ9_min_7cf53_10 : decode cJ9_min_7cf53 10 = .ok (.ireturn, 1) := by decide +kernel
noncomputable def f_J9_floorDiv_7cf53 (σ : gSt) (a0 : Int32) (a1 : Int32) : Option (Int32) :=
  (g_k1 (gdiv a0 a1) fun _ => (if 0 ≤ (a0 ^^^ a1) then some (a0 / a1) else (if ((a0 / a1) * a1) = a0 then some (a0 / a1) else some ((a0 / a1) - (1 : Int32)))))
set_option maxRecDepth 100000 in
set_option maxHeartbeats 4000000 in
theorem c_J9_floorDiv_7cf53 (l : Launch) {Γ : gG} {ad : Nat → Nat} {N : Nat} (hN : 202 ≤ N) {σ : gSt} {a0 : Int32} {a1 : Int32}  {r : Int32} (hf : f_J9_floorDiv_7cf53 σ a0 a1 = some r) : gMi l celC Γ ad N yJ9_floorDiv_7cf53 cJ9_floorDiv_7cf53 3 (some .int) (gR 1 0 0) [.int a0, .int a1] σ r σ := by
  intro sz
  refine gOfJ (Qc := fun sz => gQci celC Γ ad N r σ sz) RJ9 (by decide +kernel) rfl (Nat.le_of_ble_eq_true rfl) (fun p e s m args below meth c H locs ls X S hl => ?_)
  have hl : lv_has ls 3 [(0, .int a0), (1, .int a1)] := hl
  have hx := X.1
  have hb := X.2.1
  unfold f_J9_floorDiv_7cf53 at hf
  refine lv_iload_n hx hb dJ9_floorDiv_7cf53_0 rfl (lv_at hl 0 rfl) ?_
  refine lv_iload_n hx hb dJ9_floorDiv_7cf53_1 rfl (lv_at hl 1 rfl) ?_
  obtain ⟨v1, hv1, hf⟩ := g_s1 hf
  obtain ⟨hzv1, rfl⟩ := gdiv_some hv1
  refine lv_idiv hx hb dJ9_floorDiv_7cf53_2 hzv1 ?_
  refine lv_istore_n (lv' := [(2, .int (a0 / a1)), (0, .int a0), (1, .int a1)]) hx hb dJ9_floorDiv_7cf53_3 rfl hl (by decide) rfl (fun ls hl => ?_)
  refine lv_iload_n hx hb dJ9_floorDiv_7cf53_4 rfl (lv_at hl 1 rfl) ?_
  refine lv_iload_n hx hb dJ9_floorDiv_7cf53_5 rfl (lv_at hl 2 rfl) ?_
  refine lv_ixor hx hb dJ9_floorDiv_7cf53_6 ?_
  refine lv_if_ge (tgt := 21) hx hb dJ9_floorDiv_7cf53_7 (by decide) (fun c2 => ?_) (fun c2 => ?_)
  · have hf := (if_pos c2).symm.trans hf
    refine lv_iload_n hx hb dJ9_floorDiv_7cf53_21 rfl (lv_at hl 0 rfl) ?_
    cases hf
    exact g_reti X S rfl dJ9_floorDiv_7cf53_22
  · have hf := (if_neg c2).symm.trans hf
    refine lv_iload_n hx hb dJ9_floorDiv_7cf53_10 rfl (lv_at hl 0 rfl) ?_
    refine lv_iload_n hx hb dJ9_floorDiv_7cf53_11 rfl (lv_at hl 2 rfl) ?_
    refine lv_imul hx hb dJ9_floorDiv_7cf53_12 ?_
    refine lv_iload_n hx hb dJ9_floorDiv_7cf53_13 rfl (lv_at hl 1 rfl) ?_
    refine lv_icmp_eq (tgt := 21) hx hb dJ9_floorDiv_7cf53_14 (by decide) (fun c3 => ?_) (fun c3 => ?_)
    · have hf := (if_pos c3).symm.trans hf
      refine lv_iload_n hx hb dJ9_floorDiv_7cf53_21 rfl (lv_at hl 0 rfl) ?_
      cases hf
      exact g_reti X S rfl dJ9_floorDiv_7cf53_22
    · have hf := (if_neg c3).symm.trans hf
      refine lv_iload_n hx hb dJ9_floorDiv_7cf53_17 rfl (lv_at hl 0 rfl) ?_
      refine lv_iconst (v := (1 : Int32)) hx hb dJ9_floorDiv_7cf53_18 (by decide) ?_
      refine lv_isub hx hb dJ9_floorDiv_7cf53_19 ?_
      cases hf
      exact g_reti X S rfl dJ9_floorDiv_7cf53_20

noncomputable def f_X6_frameFor (σ : gSt) (k : Nat) (a0 : Int32) : Option (Int32) :=
  (if 0 < (σ k 3) then (g_k1 (f_J9_floorDiv_7cf53 σ ((((2 : Int32) * (a0 - (σ k 0))) * (σ k 2)) + (σ k 3)) ((2 : Int32) * (σ k 3))) fun v2 => some ((σ k 1) + v2)) else some a0)
set_option maxRecDepth 100000 in
set_option maxHeartbeats 4000000 in
theorem c_X6_frameFor (l : Launch) {Γ : gG} {ad : Nat → Nat} {N : Nat} (hN : 202 ≤ N) {σ : gSt} {k : Nat} {a0 : Int32} (hk : gkd k = 6) (hk6 : k < N) {r : Int32} (hf : f_X6_frameFor σ k a0 = some r) : gMi l celC Γ ad N yX6_frameFor cX6_frameFor 2 (some .int) (gR 2 0 0) [.ref (ad k), .int a0] σ r σ := by
  intro sz
  refine gOf (Qc := fun sz => gQci celC Γ ad N r σ sz) RX6 (by decide) rfl (Nat.le_of_ble_eq_true rfl) (fun p e s m args below meth c H locs ls X S hl => ?_)
  have hl : lv_has ls 2 [(0, .ref (ad k)), (1, .int a0)] := hl
  have hx := X.1
  have hb := X.2.1
  unfold f_X6_frameFor at hf
  refine lv_aload_n hx hb dX6_frameFor_0 rfl (lv_at hl 0 rfl) ?_
  refine gfX6_25 X S hN hk hk6 dX6_frameFor_1 ?_
  refine lv_if_gt (tgt := 9) hx hb dX6_frameFor_4 (by decide) (fun c1 => ?_) (fun c1 => ?_)
  · have hf := (if_pos c1).symm.trans hf
    refine lv_aload_n hx hb dX6_frameFor_9 rfl (lv_at hl 0 rfl) ?_
    refine gfX6_13 X S hN hk hk6 dX6_frameFor_10 ?_
    refine lv_iconst (v := (2 : Int32)) hx hb dX6_frameFor_13 (by decide) ?_
    refine lv_iload_n hx hb dX6_frameFor_14 rfl (lv_at hl 1 rfl) ?_
    refine lv_aload_n hx hb dX6_frameFor_15 rfl (lv_at hl 0 rfl) ?_
    refine gfX6_7 X S hN hk hk6 dX6_frameFor_16 ?_
    refine lv_isub hx hb dX6_frameFor_19 ?_
    refine lv_imul hx hb dX6_frameFor_20 ?_
    refine lv_aload_n hx hb dX6_frameFor_21 rfl (lv_at hl 0 rfl) ?_
    refine gfX6_22 X S hN hk hk6 dX6_frameFor_22 ?_
    refine lv_imul hx hb dX6_frameFor_25 ?_
    refine lv_aload_n hx hb dX6_frameFor_26 rfl (lv_at hl 0 rfl) ?_
    refine gfX6_25 X S hN hk hk6 dX6_frameFor_27 ?_
    refine lv_iadd hx hb dX6_frameFor_30 ?_
    refine lv_iconst (v := (2 : Int32)) hx hb dX6_frameFor_31 (by decide) ?_
    refine lv_aload_n hx hb dX6_frameFor_32 rfl (lv_at hl 0 rfl) ?_
    refine gfX6_25 X S hN hk hk6 dX6_frameFor_33 ?_
    refine lv_imul hx hb dX6_frameFor_36 ?_
    obtain ⟨v2, hv2, hf⟩ := g_s1 hf
    refine g_ki S (g_runS (rest := [.int (σ k 1)]) X S (c_J9_floorDiv_7cf53 l hN  hv2 _) csJ9_floorDiv_7cf53 mlX6_28 rfl rfl hl.1 (Nat.le_of_ble_eq_true rfl) ⟨⟨rfl, rfl⟩, ⟨Nat.le_of_ble_eq_true rfl, Nat.le_of_ble_eq_true rfl⟩, Nat.le_of_ble_eq_true rfl, Nat.le_of_ble_eq_true rfl⟩ dX6_frameFor_37) (fun H locs S => ?_)
    refine lv_iadd hx hb dX6_frameFor_40 ?_
    cases hf
    exact g_reti X S rfl dX6_frameFor_41
  · have hf := (if_neg c1).symm.trans hf
    refine lv_iload_n hx hb dX6_frameFor_7 rfl (lv_at hl 1 rfl) ?_
    cases hf
    exact g_reti X S rfl dX6_frameFor_8

noncomputable def f_X8_gapBefore (σ : gSt) (k : Nat) (a0 : Int32) : Option (Int32) :=
  (g_k1 (f_X8_has σ k (a0 - (1 : Int32))) fun v1 => (g_k1 (if v1 = 0 then some (-1 : Int32) else (g_k1 (f_X8_first σ k a0) fun v6 => (g_k1 (f_X8_end σ k (a0 - (1 : Int32))) fun v7 => some (v6 - v7)))) fun x2 => some x2))
set_option maxRecDepth 100000 in
set_option maxHeartbeats 4000000 in
theorem c_X8_gapBefore (l : Launch) {Γ : gG} {ad : Nat → Nat} {N : Nat} (hN : 202 ≤ N) {σ : gSt} {k : Nat} {a0 : Int32} (hk : gkd k = 8) {r : Int32} (hf : f_X8_gapBefore σ k a0 = some r) : gMi l celC Γ ad N yX8_gapBefore cX8_gapBefore 2 (some .int) (gR 3 0 0) [.ref (ad k), .int a0] σ r σ := by
  intro sz
  refine gOf (Qc := fun sz => gQci celC Γ ad N r σ sz) RX8 (by decide) rfl (Nat.le_of_ble_eq_true rfl) (fun p e s m args below meth c H locs ls X S hl => ?_)
  have hl : lv_has ls 2 [(0, .ref (ad k)), (1, .int a0)] := hl
  have hx := X.1
  have hb := X.2.1
  unfold f_X8_gapBefore at hf
  refine lv_aload_n hx hb dX8_gapBefore_0 rfl (lv_at hl 0 rfl) ?_
  refine lv_iload_n hx hb dX8_gapBefore_1 rfl (lv_at hl 1 rfl) ?_
  refine lv_iconst (v := (1 : Int32)) hx hb dX8_gapBefore_2 (by decide) ?_
  refine lv_isub hx hb dX8_gapBefore_3 ?_
  obtain ⟨v1, hv1, hf⟩ := g_s1 hf
  refine g_ki S (g_runV (rest := []) X S (c_X8_has l hN hk hv1 _) cvX8_has mlX8_37 (kd_N hk (by decide) hN) (ceC_8 hk _) rfl rfl rfl hl.1 (Nat.le_of_ble_eq_true rfl) ⟨⟨rfl, rfl⟩, ⟨Nat.le_of_ble_eq_true rfl, Nat.le_of_ble_eq_true rfl⟩, Nat.le_of_ble_eq_true rfl, Nat.le_of_ble_eq_true rfl⟩ dX8_gapBefore_4) (fun H locs S => ?_)
  obtain ⟨x2, hr3, hf⟩ := g_s1 hf
  have J4 : ∀ (H : Heap) (locs : List Loc) (ls : Array Slot), gS celC Γ ad N σ s H locs → lv_has ls 2 [] → W p l e (gR 3 0 0) s m args below meth c H locs 0 0 (gQi celC Γ ad N r σ below args s) (F0 m 27 ls [.int x2]) := by
    intro H locs ls S hl
    cases hf
    exact g_reti X S rfl dX8_gapBefore_27
  replace hf := hr3
  refine lv_if_eq (tgt := 26) hx hb dX8_gapBefore_7 (by decide) (fun c5 => ?_) (fun c5 => ?_)
  · have hf := (if_pos c5).symm.trans hf
    refine lv_iconst (v := (-1 : Int32)) hx hb dX8_gapBefore_26 (by decide) ?_
    cases hf
    exact J4 _ _ _ S (lv_sub hl [] rfl)
  · have hf := (if_neg c5).symm.trans hf
    refine lv_aload_n hx hb dX8_gapBefore_10 rfl (lv_at hl 0 rfl) ?_
    refine lv_iload_n hx hb dX8_gapBefore_11 rfl (lv_at hl 1 rfl) ?_
    obtain ⟨v6, hv6, hf⟩ := g_s1 hf
    refine g_ki S (g_runV (rest := []) X S (c_X8_first l hN hk hv6 _) cvX8_first mlX8_45 (kd_N hk (by decide) hN) (ceC_8 hk _) rfl rfl rfl hl.1 (Nat.le_of_ble_eq_true rfl) ⟨⟨rfl, rfl⟩, ⟨Nat.le_of_ble_eq_true rfl, Nat.le_of_ble_eq_true rfl⟩, Nat.le_of_ble_eq_true rfl, Nat.le_of_ble_eq_true rfl⟩ dX8_gapBefore_12) (fun H locs S => ?_)
    refine lv_aload_n hx hb dX8_gapBefore_15 rfl (lv_at hl 0 rfl) ?_
    refine lv_iload_n hx hb dX8_gapBefore_16 rfl (lv_at hl 1 rfl) ?_
    refine lv_iconst (v := (1 : Int32)) hx hb dX8_gapBefore_17 (by decide) ?_
    refine lv_isub hx hb dX8_gapBefore_18 ?_
    obtain ⟨v7, hv7, hf⟩ := g_s1 hf
    refine g_ki S (g_runV (rest := [.int v6]) X S (c_X8_end l hN hk hv7 _) cvX8_end mlX8_41 (kd_N hk (by decide) hN) (ceC_8 hk _) rfl rfl rfl hl.1 (Nat.le_of_ble_eq_true rfl) ⟨⟨rfl, rfl⟩, ⟨Nat.le_of_ble_eq_true rfl, Nat.le_of_ble_eq_true rfl⟩, Nat.le_of_ble_eq_true rfl, Nat.le_of_ble_eq_true rfl⟩ dX8_gapBefore_19) (fun H locs S => ?_)
    refine lv_isub hx hb dX8_gapBefore_22 ?_
    refine lv_goto (tgt := 27) hx hb dX8_gapBefore_23 (by decide) ?_
    cases hf
    exact J4 _ _ _ S (lv_sub hl [] rfl)

noncomputable def f_X8_longestLine_l1 (σ : gSt) (k : Nat) (a0 : Int32) : Nat → Int32 → Int32 → Int32 → Option (Int32)
  | 0, _, _, _ => none
  | n + 1, i1, i2, i3 => (g_k1 (f_X8_size σ k a0) fun v5 => (if v5 ≤ i1 then some i3 else (g_k1 (f_X8_signAt σ k a0 i1) fun v7 => (g_k1 (if v7 = (124 : Int32) then some (0 : Int32) else some (i2 + (1 : Int32))) fun x8 => (f_X8_longestLine_l1 σ k a0 n (i1 + 1) x8 (if i3 < x8 then x8 else i3))))))
set_option maxRecDepth 100000 in
set_option maxHeartbeats 4000000 in
theorem w_X8_longestLine_l1 {l : Launch} {Γ : gG} {ad : Nat → Nat} {N : Nat} {p : Program} {e : Env} {s : State} {m : MethodId} {args : Array Value} {below : List Frame} {meth : Method} {c : Code} {Q : State → Prop} (hN : 202 ≤ N) (X : gX celC Γ ad N RX8 cX8_longestLine 5 (some .int) p s m args meth c) {σ : gSt} {k : Nat} {a0 : Int32} (hk : gkd k = 8) : ∀ (n : Nat) (i1 : Int32) (i2 : Int32) (i3 : Int32) (r4 : Int32), f_X8_longestLine_l1 σ k a0 n i1 i2 i3 = some r4 → (∀ (H : Heap) (locs : List Loc) (ls : Array Slot), gS celC Γ ad N σ s H locs → lv_has ls 5 [(2, .int r4)] → W p l e (gR 3 0 0) s m args below meth c H locs 0 0 (Q) (F0 m 49 ls [])) → ∀ (H : Heap) (locs : List Loc) (ls : Array Slot), gS celC Γ ad N σ s H locs → lv_has ls 5 [(4, .int i1), (3, .int i2), (2, .int i3), (0, .ref (ad k)), (1, .int a0)] → W p l e (gR 3 0 0) s m args below meth c H locs 0 0 (Q) (F0 m 7 ls []) := by
  have hx := X.1
  have hb := X.2.1
  intro n
  induction n with
  | zero =>
    intro i1 i2 i3 r4 hf
    cases hf
  | succ n ih =>
    intro i1 i2 i3 r4 hf J H locs ls S hl
    rw [f_X8_longestLine_l1] at hf
    refine lv_iload hx hb dX8_longestLine_7 (lv_at hl 0 rfl) ?_
    refine lv_aload_n hx hb dX8_longestLine_9 rfl (lv_at hl 3 rfl) ?_
    refine lv_iload_n hx hb dX8_longestLine_10 rfl (lv_at hl 4 rfl) ?_
    obtain ⟨v5, hv5, hf⟩ := g_s1 hf
    refine g_ki S (g_runV (rest := [.int i1]) X S (c_X8_size l hN hk hv5 _) cvX8_size mlX8_48 (kd_N hk (by decide) hN) (ceC_8 hk _) rfl rfl rfl hl.1 (Nat.le_of_ble_eq_true rfl) ⟨⟨rfl, rfl⟩, ⟨Nat.le_of_ble_eq_true rfl, Nat.le_of_ble_eq_true rfl⟩, Nat.le_of_ble_eq_true rfl, Nat.le_of_ble_eq_true rfl⟩ dX8_longestLine_11) (fun H locs S => ?_)
    refine lv_icmp_ge (tgt := 49) hx hb dX8_longestLine_14 (by decide) (fun c6 => ?_) (fun c6 => ?_)
    · have hf := (if_pos c6).symm.trans hf
      cases hf
      exact J _ _ _ S (lv_sub hl [2] rfl)
    · have hf := (if_neg c6).symm.trans hf
      refine lv_aload_n hx hb dX8_longestLine_17 rfl (lv_at hl 3 rfl) ?_
      refine lv_iload_n hx hb dX8_longestLine_18 rfl (lv_at hl 4 rfl) ?_
      refine lv_iload hx hb dX8_longestLine_19 (lv_at hl 0 rfl) ?_
      obtain ⟨v7, hv7, hf⟩ := g_s1 hf
      refine g_ki S (g_runV (rest := []) X S (c_X8_signAt l hN hk hv7 _) cvX8_signAt mlX8_55 (kd_N hk (by decide) hN) (ceC_8 hk _) rfl rfl rfl hl.1 (Nat.le_of_ble_eq_true rfl) ⟨⟨rfl, rfl⟩, ⟨Nat.le_of_ble_eq_true rfl, Nat.le_of_ble_eq_true rfl⟩, Nat.le_of_ble_eq_true rfl, Nat.le_of_ble_eq_true rfl⟩ dX8_longestLine_21) (fun H locs S => ?_)
      refine lv_bipush (v := (124 : Int32)) hx hb dX8_longestLine_24 (by decide) ?_
      obtain ⟨x8, hr9, hf⟩ := g_s1 hf
      have J10 : ∀ (H : Heap) (locs : List Loc) (ls : Array Slot), gS celC Γ ad N σ s H locs → lv_has ls 5 [(4, .int i1), (2, .int i3), (0, .ref (ad k)), (1, .int a0)] → W p l e (gR 3 0 0) s m args below meth c H locs 0 0 (Q) (F0 m 36 ls [.int x8]) := by
        intro H locs ls S hl
        refine lv_istore_n (lv' := [(3, .int x8), (4, .int i1), (2, .int i3), (0, .ref (ad k)), (1, .int a0)]) hx hb dX8_longestLine_36 rfl hl (by decide) rfl (fun ls hl => ?_)
        refine lv_iload_n hx hb dX8_longestLine_37 rfl (lv_at hl 2 rfl) ?_
        refine lv_iload_n hx hb dX8_longestLine_38 rfl (lv_at hl 0 rfl) ?_
        refine g_max X hl.1 mwX8_59 ⟨⟨by decide, Nat.le_of_ble_eq_true rfl⟩, Nat.le_of_ble_eq_true rfl, Nat.le_of_ble_eq_true rfl⟩ dX8_longestLine_39 ?_
        refine lv_istore_n (lv' := [(2, .int (if i3 < x8 then x8 else i3)), (3, .int x8), (4, .int i1), (0, .ref (ad k)), (1, .int a0)]) hx hb dX8_longestLine_42 rfl hl (by decide) rfl (fun ls hl => ?_)
        refine lv_iinc (v := (i1 + 1)) (lv' := [(4, .int (i1 + 1)), (2, .int (if i3 < x8 then x8 else i3)), (3, .int x8), (0, .ref (ad k)), (1, .int a0)]) hx hb dX8_longestLine_43 hl (k := 2) rfl rfl (by decide) rfl (fun ls hl => ?_)
        refine lv_goto (tgt := 7) hx hb dX8_longestLine_46 (by decide) ?_
        exact ih _ _ _ _  hf J _ _ _ S (lv_sub hl [0, 2, 1, 3, 4] rfl)
      replace hf := hr9
      refine lv_icmp_ne (tgt := 33) hx hb dX8_longestLine_26 (by decide) (fun c12 => ?_) (fun c12 => ?_)
      · have hf := (if_neg c12).symm.trans hf
        refine lv_iload_n hx hb dX8_longestLine_33 rfl (lv_at hl 1 rfl) ?_
        refine lv_iconst (v := (1 : Int32)) hx hb dX8_longestLine_34 (by decide) ?_
        refine lv_iadd hx hb dX8_longestLine_35 ?_
        cases hf
        exact J10 _ _ _ S (lv_sub hl [0, 2, 3, 4] rfl)
      · have hf := (if_pos c12).symm.trans hf
        refine lv_iconst (v := (0 : Int32)) hx hb dX8_longestLine_29 (by decide) ?_
        refine lv_goto (tgt := 36) hx hb dX8_longestLine_30 (by decide) ?_
        cases hf
        exact J10 _ _ _ S (lv_sub hl [0, 2, 3, 4] rfl)
noncomputable def f_X8_longestLine (σ : gSt) (k : Nat) (a0 : Int32) : Option (Int32) :=
  (g_k1 (f_X8_longestLine_l1 σ k a0 FU (0 : Int32) (0 : Int32) (0 : Int32)) fun r4 => some r4)
set_option maxRecDepth 100000 in
set_option maxHeartbeats 4000000 in
theorem c_X8_longestLine (l : Launch) {Γ : gG} {ad : Nat → Nat} {N : Nat} (hN : 202 ≤ N) {σ : gSt} {k : Nat} {a0 : Int32} (hk : gkd k = 8) {r : Int32} (hf : f_X8_longestLine σ k a0 = some r) : gMi l celC Γ ad N yX8_longestLine cX8_longestLine 5 (some .int) (gR 3 0 0) [.ref (ad k), .int a0] σ r σ := by
  intro sz
  refine gOf (Qc := fun sz => gQci celC Γ ad N r σ sz) RX8 (by decide) rfl (Nat.le_of_ble_eq_true rfl) (fun p e s m args below meth c H locs ls X S hl => ?_)
  have hl : lv_has ls 5 [(0, .ref (ad k)), (1, .int a0)] := hl
  have hx := X.1
  have hb := X.2.1
  unfold f_X8_longestLine at hf
  refine lv_iconst (v := (0 : Int32)) hx hb dX8_longestLine_0 (by decide) ?_
  refine lv_istore_n (lv' := [(2, .int (0 : Int32)), (0, .ref (ad k)), (1, .int a0)]) hx hb dX8_longestLine_1 rfl hl (by decide) rfl (fun ls hl => ?_)
  refine lv_iconst (v := (0 : Int32)) hx hb dX8_longestLine_2 (by decide) ?_
  refine lv_istore_n (lv' := [(3, .int (0 : Int32)), (2, .int (0 : Int32)), (0, .ref (ad k)), (1, .int a0)]) hx hb dX8_longestLine_3 rfl hl (by decide) rfl (fun ls hl => ?_)
  refine lv_iconst (v := (0 : Int32)) hx hb dX8_longestLine_4 (by decide) ?_
  refine lv_istore (lv' := [(4, .int (0 : Int32)), (3, .int (0 : Int32)), (2, .int (0 : Int32)), (0, .ref (ad k)), (1, .int a0)]) hx hb dX8_longestLine_5 hl (by decide) rfl (fun ls hl => ?_)
  obtain ⟨r4, hr13, hf⟩ := g_s1 hf
  refine w_X8_longestLine_l1 hN X hk FU _ _ _ _  hr13 (fun H locs ls S hl => ?_) _ _ _ S (lv_sub hl [0, 1, 2, 3, 4] rfl)
  refine lv_iload_n hx hb dX8_longestLine_49 rfl (lv_at hl 0 rfl) ?_
  cases hf
  exact g_reti X S rfl dX8_longestLine_50

noncomputable def f_X8_copyFrom (σ : gSt) (k : Nat) (a0 : Nat) : Option (gSt) :=
  (g_k1 (gcpy σ (a0 + 1) 16 (k + 1) 16 (0 : Int32) (0 : Int32) (16 : Int32)) fun σ1 => (g_k1 (gcpy σ1 (a0 + 2) 16 (k + 2) 16 (0 : Int32) (0 : Int32) (16 : Int32)) fun σ2 => (g_k1 (gcpy σ2 (a0 + 3) 16 (k + 3) 16 (0 : Int32) (0 : Int32) (16 : Int32)) fun σ3 => (g_k1 (gcpy σ3 (a0 + 4) 16 (k + 4) 16 (0 : Int32) (0 : Int32) (16 : Int32)) fun σ4 => (g_k1 (gcpy σ4 (a0 + 5) 384 (k + 5) 384 (0 : Int32) (0 : Int32) (384 : Int32)) fun σ5 => (g_k1 (gset σ5 k 5 (σ5 a0 5)) fun σ6 => some σ6))))))
set_option maxRecDepth 100000 in
set_option maxHeartbeats 4000000 in
theorem c_X8_copyFrom (l : Launch) {Γ : gG} {ad : Nat → Nat} {N : Nat} (hN : 202 ≤ N) {σ : gSt} {k : Nat} {a0 : Nat} (hk : gkd k = 8) (ha0 : gkd a0 = 8) {σ' : gSt} (hf : f_X8_copyFrom σ k a0 = some σ') : gMv l celC Γ ad N yX8_copyFrom cX8_copyFrom 2 none (gR 2 0 0) [.ref (ad k), .ref (ad a0)] σ σ' := by
  intro sz
  refine gOf (Qc := fun sz => gQcv celC Γ ad N σ' sz) RX8 (by decide) rfl (Nat.le_of_ble_eq_true rfl) (fun p e s m args below meth c H locs ls X S hl => ?_)
  have hl : lv_has ls 2 [(0, .ref (ad k)), (1, .ref (ad a0))] := hl
  have hx := X.1
  have hb := X.2.1
  unfold f_X8_copyFrom at hf
  refine lv_aload_n hx hb dX8_copyFrom_0 rfl (lv_at hl 1 rfl) ?_
  refine gfX8_9 X S hN ha0 dX8_copyFrom_1 ?_
  refine lv_iconst (v := (0 : Int32)) hx hb dX8_copyFrom_4 (by decide) ?_
  refine lv_aload_n hx hb dX8_copyFrom_5 rfl (lv_at hl 0 rfl) ?_
  refine gfX8_9 X S hN hk dX8_copyFrom_6 ?_
  refine lv_iconst (v := (0 : Int32)) hx hb dX8_copyFrom_9 (by decide) ?_
  refine lv_bipush (v := (16 : Int32)) hx hb dX8_copyFrom_10 (by decide) ?_
  obtain ⟨σ1, hσ1, hf⟩ := g_s1 hf
  refine g_copy X S hl.1 mlX8_31 wac_n wac_s wac_i (kd_N (kd_8_1 ha0) (by decide) hN) (kd_N (kd_8_1 hk) (by decide) hN) (ceC_116 (kd_8_1 ha0)) (ceC_116 (kd_8_1 hk)) hσ1 (by decide) (Nat.le_of_ble_eq_true rfl) dX8_copyFrom_12 (fun H locs S => ?_)
  refine lv_aload_n hx hb dX8_copyFrom_15 rfl (lv_at hl 1 rfl) ?_
  refine gfX8_15 X S hN ha0 dX8_copyFrom_16 ?_
  refine lv_iconst (v := (0 : Int32)) hx hb dX8_copyFrom_19 (by decide) ?_
  refine lv_aload_n hx hb dX8_copyFrom_20 rfl (lv_at hl 0 rfl) ?_
  refine gfX8_15 X S hN hk dX8_copyFrom_21 ?_
  refine lv_iconst (v := (0 : Int32)) hx hb dX8_copyFrom_24 (by decide) ?_
  refine lv_bipush (v := (16 : Int32)) hx hb dX8_copyFrom_25 (by decide) ?_
  obtain ⟨σ2, hσ2, hf⟩ := g_s1 hf
  refine g_copy X S hl.1 mlX8_31 wac_n wac_s wac_i (kd_N (kd_8_2 ha0) (by decide) hN) (kd_N (kd_8_2 hk) (by decide) hN) (ceC_116 (kd_8_2 ha0)) (ceC_116 (kd_8_2 hk)) hσ2 (by decide) (Nat.le_of_ble_eq_true rfl) dX8_copyFrom_27 (fun H locs S => ?_)
  refine lv_aload_n hx hb dX8_copyFrom_30 rfl (lv_at hl 1 rfl) ?_
  refine gfX8_18 X S hN ha0 dX8_copyFrom_31 ?_
  refine lv_iconst (v := (0 : Int32)) hx hb dX8_copyFrom_34 (by decide) ?_
  refine lv_aload_n hx hb dX8_copyFrom_35 rfl (lv_at hl 0 rfl) ?_
  refine gfX8_18 X S hN hk dX8_copyFrom_36 ?_
  refine lv_iconst (v := (0 : Int32)) hx hb dX8_copyFrom_39 (by decide) ?_
  refine lv_bipush (v := (16 : Int32)) hx hb dX8_copyFrom_40 (by decide) ?_
  obtain ⟨σ3, hσ3, hf⟩ := g_s1 hf
  refine g_copy X S hl.1 mlX8_31 wac_n wac_s wac_i (kd_N (kd_8_3 ha0) (by decide) hN) (kd_N (kd_8_3 hk) (by decide) hN) (ceC_116 (kd_8_3 ha0)) (ceC_116 (kd_8_3 hk)) hσ3 (by decide) (Nat.le_of_ble_eq_true rfl) dX8_copyFrom_42 (fun H locs S => ?_)
  refine lv_aload_n hx hb dX8_copyFrom_45 rfl (lv_at hl 1 rfl) ?_
  refine gfX8_21 X S hN ha0 dX8_copyFrom_46 ?_
  refine lv_iconst (v := (0 : Int32)) hx hb dX8_copyFrom_49 (by decide) ?_
  refine lv_aload_n hx hb dX8_copyFrom_50 rfl (lv_at hl 0 rfl) ?_
  refine gfX8_21 X S hN hk dX8_copyFrom_51 ?_
  refine lv_iconst (v := (0 : Int32)) hx hb dX8_copyFrom_54 (by decide) ?_
  refine lv_bipush (v := (16 : Int32)) hx hb dX8_copyFrom_55 (by decide) ?_
  obtain ⟨σ4, hσ4, hf⟩ := g_s1 hf
  refine g_copy X S hl.1 mlX8_31 wac_n wac_s wac_i (kd_N (kd_8_4 ha0) (by decide) hN) (kd_N (kd_8_4 hk) (by decide) hN) (ceC_116 (kd_8_4 ha0)) (ceC_116 (kd_8_4 hk)) hσ4 (by decide) (Nat.le_of_ble_eq_true rfl) dX8_copyFrom_57 (fun H locs S => ?_)
  refine lv_aload_n hx hb dX8_copyFrom_60 rfl (lv_at hl 1 rfl) ?_
  refine gfX8_24 X S hN ha0 dX8_copyFrom_61 ?_
  refine lv_iconst (v := (0 : Int32)) hx hb dX8_copyFrom_64 (by decide) ?_
  refine lv_aload_n hx hb dX8_copyFrom_65 rfl (lv_at hl 0 rfl) ?_
  refine gfX8_24 X S hN hk dX8_copyFrom_66 ?_
  refine lv_iconst (v := (0 : Int32)) hx hb dX8_copyFrom_69 (by decide) ?_
  refine lv_sipush (v := (384 : Int32)) hx hb dX8_copyFrom_70 (by decide) ?_
  obtain ⟨σ5, hσ5, hf⟩ := g_s1 hf
  refine g_copy X S hl.1 mlX8_31 wac_n wac_s wac_i (kd_N (kd_8_5 ha0) (by decide) hN) (kd_N (kd_8_5 hk) (by decide) hN) (ceC_484 (kd_8_5 ha0)) (ceC_484 (kd_8_5 hk)) hσ5 (by decide) (Nat.le_of_ble_eq_true rfl) dX8_copyFrom_73 (fun H locs S => ?_)
  refine lv_aload_n hx hb dX8_copyFrom_76 rfl (lv_at hl 0 rfl) ?_
  refine lv_aload_n hx hb dX8_copyFrom_77 rfl (lv_at hl 1 rfl) ?_
  refine gfX8_27 X S hN ha0 dX8_copyFrom_78 ?_
  obtain ⟨σ6, hσ6, hf⟩ := g_s1 hf
  refine pfX8_27 X S hN hk hσ6 dX8_copyFrom_81 (fun H locs S => ?_)
  cases hf
  exact g_retv X S dX8_copyFrom_84

noncomputable def f_X7_appendPart_l1 (σ : gSt) (k : Nat) (a0 : Nat) (a2 : Int32) : Nat → Int32 → gSt → Option (gSt)
  | 0, _, _ => none
  | n + 1, i1, σ2 => (if a2 ≤ i1 then some σ2 else (g_k1 (f_X7_signAt σ2 a0 i1) fun v5 => (g_k1 (if v5 = (-1 : Int32) then some σ2 else (g_k2 (f_X7_append σ2 k v5) fun v10 σ11 => some σ11)) fun σ6 => (f_X7_appendPart_l1 σ k a0 a2 n (i1 + 1) σ6))))
set_option maxRecDepth 100000 in
set_option maxHeartbeats 4000000 in
theorem w_X7_appendPart_l1 {l : Launch} {Γ : gG} {ad : Nat → Nat} {N : Nat} {p : Program} {e : Env} {s : State} {m : MethodId} {args : Array Value} {below : List Frame} {meth : Method} {c : Code} {Q : State → Prop} (hN : 202 ≤ N) (X : gX celC Γ ad N RX7 cX7_appendPart 6 none p s m args meth c) {σ : gSt} {k : Nat} {a0 : Nat} {a2 : Int32} (hk : gkd k = 7) (ha0 : gkd a0 = 7) : ∀ (n : Nat) (i1 : Int32) (σ2 : gSt) (σ3 : gSt), f_X7_appendPart_l1 σ k a0 a2 n i1 σ2 = some σ3 → (∀ (H : Heap) (locs : List Loc) (ls : Array Slot), gS celC Γ ad N σ3 s H locs → lv_has ls 6 [] → W p l e (gR 2 0 0) s m args below meth c H locs 0 0 (Q) (F0 m 36 ls [])) → ∀ (H : Heap) (locs : List Loc) (ls : Array Slot), gS celC Γ ad N σ2 s H locs → lv_has ls 6 [(4, .int i1), (0, .ref (ad k)), (1, .ref (ad a0)), (3, .int a2)] → W p l e (gR 2 0 0) s m args below meth c H locs 0 0 (Q) (F0 m 3 ls []) := by
  have hx := X.1
  have hb := X.2.1
  intro n
  induction n with
  | zero =>
    intro i1 σ2 σ3 hf
    cases hf
  | succ n ih =>
    intro i1 σ2 σ3 hf J H locs ls S hl
    rw [f_X7_appendPart_l1] at hf
    refine lv_iload hx hb dX7_appendPart_3 (lv_at hl 0 rfl) ?_
    refine lv_iload_n hx hb dX7_appendPart_5 rfl (lv_at hl 3 rfl) ?_
    refine lv_icmp_ge (tgt := 36) hx hb dX7_appendPart_6 (by decide) (fun c4 => ?_) (fun c4 => ?_)
    · have hf := (if_pos c4).symm.trans hf
      cases hf
      exact J _ _ _ S (lv_sub hl [] rfl)
    · have hf := (if_neg c4).symm.trans hf
      refine lv_aload_n hx hb dX7_appendPart_9 rfl (lv_at hl 2 rfl) ?_
      refine lv_iload hx hb dX7_appendPart_10 (lv_at hl 0 rfl) ?_
      obtain ⟨v5, hv5, hf⟩ := g_s1 hf
      refine g_ki S (g_runV (rest := []) X S (c_X7_signAt l hN ha0 hv5 _) cvX7_signAt mlX7_19 (kd_N ha0 (by decide) hN) (ceC_7 ha0 _) rfl rfl rfl hl.1 (Nat.le_of_ble_eq_true rfl) ⟨⟨rfl, rfl⟩, ⟨Nat.le_of_ble_eq_true rfl, Nat.le_of_ble_eq_true rfl⟩, Nat.le_of_ble_eq_true rfl, Nat.le_of_ble_eq_true rfl⟩ dX7_appendPart_12) (fun H locs S => ?_)
      refine lv_istore (lv' := [(5, .int v5), (4, .int i1), (0, .ref (ad k)), (1, .ref (ad a0)), (3, .int a2)]) hx hb dX7_appendPart_15 hl (by decide) rfl (fun ls hl => ?_)
      refine lv_iload hx hb dX7_appendPart_17 (lv_at hl 0 rfl) ?_
      refine lv_iconst (v := (-1 : Int32)) hx hb dX7_appendPart_19 (by decide) ?_
      obtain ⟨σ6, hr7, hf⟩ := g_s1 hf
      have J8 : ∀ (H : Heap) (locs : List Loc) (ls : Array Slot), gS celC Γ ad N σ6 s H locs → lv_has ls 6 [(4, .int i1), (0, .ref (ad k)), (1, .ref (ad a0)), (3, .int a2)] → W p l e (gR 2 0 0) s m args below meth c H locs 0 0 (Q) (F0 m 30 ls []) := by
        intro H locs ls S hl
        refine lv_iinc (v := (i1 + 1)) (lv' := [(4, .int (i1 + 1)), (0, .ref (ad k)), (1, .ref (ad a0)), (3, .int a2)]) hx hb dX7_appendPart_30 hl (k := 0) rfl rfl (by decide) rfl (fun ls hl => ?_)
        refine lv_goto (tgt := 3) hx hb dX7_appendPart_33 (by decide) ?_
        exact ih _ _ _  hf J _ _ _ S (lv_sub hl [0, 1, 2, 3] rfl)
      replace hf := hr7
      refine lv_icmp_eq (tgt := 30) hx hb dX7_appendPart_20 (by decide) (fun c9 => ?_) (fun c9 => ?_)
      · have hf := (if_pos c9).symm.trans hf
        cases hf
        exact J8 _ _ _ S (lv_sub hl [1, 2, 3, 4] rfl)
      · have hf := (if_neg c9).symm.trans hf
        refine lv_aload_n hx hb dX7_appendPart_23 rfl (lv_at hl 2 rfl) ?_
        refine lv_iload hx hb dX7_appendPart_24 (lv_at hl 0 rfl) ?_
        obtain ⟨v10, σ11, hv10, hf⟩ := g_s2 hf
        refine g_ki S (g_runV (rest := []) X S (c_X7_append l hN hk hv10 _) cvX7_append mlX7_23 (kd_N hk (by decide) hN) (ceC_7 hk _) rfl rfl rfl hl.1 (Nat.le_of_ble_eq_true rfl) ⟨⟨rfl, rfl⟩, ⟨Nat.le_of_ble_eq_true rfl, Nat.le_of_ble_eq_true rfl⟩, Nat.le_of_ble_eq_true rfl, Nat.le_of_ble_eq_true rfl⟩ dX7_appendPart_26) (fun H locs S => ?_)
        refine lv_pop hx hb dX7_appendPart_29 rfl ?_
        cases hf
        exact J8 _ _ _ S (lv_sub hl [1, 2, 3, 4] rfl)
noncomputable def f_X7_appendPart (σ : gSt) (k : Nat) (a0 : Nat) (a1 : Int32) (a2 : Int32) : Option (gSt) :=
  (g_k1 (f_X7_appendPart_l1 σ k a0 a2 FU a1 σ) fun σ3 => some σ3)
set_option maxRecDepth 100000 in
set_option maxHeartbeats 4000000 in
theorem c_X7_appendPart (l : Launch) {Γ : gG} {ad : Nat → Nat} {N : Nat} (hN : 202 ≤ N) {σ : gSt} {k : Nat} {a0 : Nat} {a1 : Int32} {a2 : Int32} (hk : gkd k = 7) (ha0 : gkd a0 = 7) {σ' : gSt} (hf : f_X7_appendPart σ k a0 a1 a2 = some σ') : gMv l celC Γ ad N yX7_appendPart cX7_appendPart 6 none (gR 2 0 0) [.ref (ad k), .ref (ad a0), .int a1, .int a2] σ σ' := by
  intro sz
  refine gOf (Qc := fun sz => gQcv celC Γ ad N σ' sz) RX7 (by decide) rfl (Nat.le_of_ble_eq_true rfl) (fun p e s m args below meth c H locs ls X S hl => ?_)
  have hl : lv_has ls 6 [(0, .ref (ad k)), (1, .ref (ad a0)), (2, .int a1), (3, .int a2)] := hl
  have hx := X.1
  have hb := X.2.1
  unfold f_X7_appendPart at hf
  refine lv_iload_n hx hb dX7_appendPart_0 rfl (lv_at hl 2 rfl) ?_
  refine lv_istore (lv' := [(4, .int a1), (0, .ref (ad k)), (1, .ref (ad a0)), (2, .int a1), (3, .int a2)]) hx hb dX7_appendPart_1 hl (by decide) rfl (fun ls hl => ?_)
  obtain ⟨σ3, hr12, hf⟩ := g_s1 hf
  refine w_X7_appendPart_l1 hN X hk ha0 FU _ _ _  hr12 (fun H locs ls S hl => ?_) _ _ _ S (lv_sub hl [0, 1, 2, 4] rfl)
  cases hf
  exact g_retv X S dX7_appendPart_36

noncomputable def f_X8_captionOn_l1 (σ : gSt) (k : Nat) (a0 : Int32) : Nat → Int32 → Option (Int32)
  | 0, _ => none
  | n + 1, i1 => (if (σ k 5) ≤ i1 then some (-1 : Int32) else (g_k1 (f_X8_first σ k i1) fun v3 => (if a0 < v3 then (f_X8_captionOn_l1 σ k a0 n (i1 + 1)) else (g_k1 (f_X8_end σ k i1) fun v5 => (if v5 ≤ a0 then (f_X8_captionOn_l1 σ k a0 n (i1 + 1)) else some i1)))))
set_option maxRecDepth 100000 in
set_option maxHeartbeats 4000000 in
theorem w_X8_captionOn_l1 {l : Launch} {Γ : gG} {ad : Nat → Nat} {N : Nat} {p : Program} {e : Env} {s : State} {m : MethodId} {args : Array Value} {below : List Frame} {meth : Method} {c : Code} (hN : 202 ≤ N) (X : gX celC Γ ad N RX8 cX8_captionOn 3 (some .int) p s m args meth c) {σ : gSt} {k : Nat} {a0 : Int32} (hk : gkd k = 8) : ∀ (n : Nat) (i1 : Int32) (r : Int32), f_X8_captionOn_l1 σ k a0 n i1 = some r → ∀ (H : Heap) (locs : List Loc) (ls : Array Slot), gS celC Γ ad N σ s H locs → lv_has ls 3 [(2, .int i1), (0, .ref (ad k)), (1, .int a0)] → W p l e (gR 3 0 0) s m args below meth c H locs 0 0 (gQi celC Γ ad N r σ below args s) (F0 m 2 ls []) := by
  have hx := X.1
  have hb := X.2.1
  intro n
  induction n with
  | zero =>
    intro i1 r hf
    cases hf
  | succ n ih =>
    intro i1 r hf H locs ls S hl
    rw [f_X8_captionOn_l1] at hf
    refine lv_iload_n hx hb dX8_captionOn_2 rfl (lv_at hl 0 rfl) ?_
    refine lv_aload_n hx hb dX8_captionOn_3 rfl (lv_at hl 1 rfl) ?_
    refine gfX8_27 X S hN hk dX8_captionOn_4 ?_
    refine lv_icmp_ge (tgt := 36) hx hb dX8_captionOn_7 (by decide) (fun c2 => ?_) (fun c2 => ?_)
    · have hf := (if_pos c2).symm.trans hf
      refine lv_iconst (v := (-1 : Int32)) hx hb dX8_captionOn_36 (by decide) ?_
      cases hf
      exact g_reti X S rfl dX8_captionOn_37
    · have hf := (if_neg c2).symm.trans hf
      refine lv_aload_n hx hb dX8_captionOn_10 rfl (lv_at hl 1 rfl) ?_
      refine lv_iload_n hx hb dX8_captionOn_11 rfl (lv_at hl 0 rfl) ?_
      obtain ⟨v3, hv3, hf⟩ := g_s1 hf
      refine g_ki S (g_runV (rest := []) X S (c_X8_first l hN hk hv3 _) cvX8_first mlX8_45 (kd_N hk (by decide) hN) (ceC_8 hk _) rfl rfl rfl hl.1 (Nat.le_of_ble_eq_true rfl) ⟨⟨rfl, rfl⟩, ⟨Nat.le_of_ble_eq_true rfl, Nat.le_of_ble_eq_true rfl⟩, Nat.le_of_ble_eq_true rfl, Nat.le_of_ble_eq_true rfl⟩ dX8_captionOn_12) (fun H locs S => ?_)
      refine lv_iload_n hx hb dX8_captionOn_15 rfl (lv_at hl 2 rfl) ?_
      refine lv_icmp_gt (tgt := 30) hx hb dX8_captionOn_16 (by decide) (fun c4 => ?_) (fun c4 => ?_)
      · have hf := (if_pos c4).symm.trans hf
        refine lv_iinc (v := (i1 + 1)) (lv' := [(2, .int (i1 + 1)), (0, .ref (ad k)), (1, .int a0)]) hx hb dX8_captionOn_30 hl (k := 0) rfl rfl (by decide) rfl (fun ls hl => ?_)
        refine lv_goto (tgt := 2) hx hb dX8_captionOn_33 (by decide) ?_
        exact ih _ _  hf _ _ _ S (lv_sub hl [0, 1, 2] rfl)
      · have hf := (if_neg c4).symm.trans hf
        refine lv_iload_n hx hb dX8_captionOn_19 rfl (lv_at hl 2 rfl) ?_
        refine lv_aload_n hx hb dX8_captionOn_20 rfl (lv_at hl 1 rfl) ?_
        refine lv_iload_n hx hb dX8_captionOn_21 rfl (lv_at hl 0 rfl) ?_
        obtain ⟨v5, hv5, hf⟩ := g_s1 hf
        refine g_ki S (g_runV (rest := [.int a0]) X S (c_X8_end l hN hk hv5 _) cvX8_end mlX8_41 (kd_N hk (by decide) hN) (ceC_8 hk _) rfl rfl rfl hl.1 (Nat.le_of_ble_eq_true rfl) ⟨⟨rfl, rfl⟩, ⟨Nat.le_of_ble_eq_true rfl, Nat.le_of_ble_eq_true rfl⟩, Nat.le_of_ble_eq_true rfl, Nat.le_of_ble_eq_true rfl⟩ dX8_captionOn_22) (fun H locs S => ?_)
        refine lv_icmp_ge (tgt := 30) hx hb dX8_captionOn_25 (by decide) (fun c6 => ?_) (fun c6 => ?_)
        · have hf := (if_pos c6).symm.trans hf
          refine lv_iinc (v := (i1 + 1)) (lv' := [(2, .int (i1 + 1)), (0, .ref (ad k)), (1, .int a0)]) hx hb dX8_captionOn_30 hl (k := 0) rfl rfl (by decide) rfl (fun ls hl => ?_)
          refine lv_goto (tgt := 2) hx hb dX8_captionOn_33 (by decide) ?_
          exact ih _ _  hf _ _ _ S (lv_sub hl [0, 1, 2] rfl)
        · have hf := (if_neg c6).symm.trans hf
          refine lv_iload_n hx hb dX8_captionOn_28 rfl (lv_at hl 0 rfl) ?_
          cases hf
          exact g_reti X S rfl dX8_captionOn_29
noncomputable def f_X8_captionOn (σ : gSt) (k : Nat) (a0 : Int32) : Option (Int32) :=
  (f_X8_captionOn_l1 σ k a0 FU (0 : Int32))
set_option maxRecDepth 100000 in
set_option maxHeartbeats 4000000 in
theorem c_X8_captionOn (l : Launch) {Γ : gG} {ad : Nat → Nat} {N : Nat} (hN : 202 ≤ N) {σ : gSt} {k : Nat} {a0 : Int32} (hk : gkd k = 8) {r : Int32} (hf : f_X8_captionOn σ k a0 = some r) : gMi l celC Γ ad N yX8_captionOn cX8_captionOn 3 (some .int) (gR 3 0 0) [.ref (ad k), .int a0] σ r σ := by
  intro sz
  refine gOf (Qc := fun sz => gQci celC Γ ad N r σ sz) RX8 (by decide) rfl (Nat.le_of_ble_eq_true rfl) (fun p e s m args below meth c H locs ls X S hl => ?_)
  have hl : lv_has ls 3 [(0, .ref (ad k)), (1, .int a0)] := hl
  have hx := X.1
  have hb := X.2.1
  unfold f_X8_captionOn at hf
  refine lv_iconst (v := (0 : Int32)) hx hb dX8_captionOn_0 (by decide) ?_
  refine lv_istore_n (lv' := [(2, .int (0 : Int32)), (0, .ref (ad k)), (1, .int a0)]) hx hb dX8_captionOn_1 rfl hl (by decide) rfl (fun ls hl => ?_)
  exact w_X8_captionOn_l1 hN X hk FU _ _  hf _ _ _ S (lv_sub hl [0, 1, 2] rfl)

noncomputable def f_X8_allFrames_l1 (σ : gSt) (k : Nat) : Nat → Int32 → Int32 → Option (Int32)
  | 0, _, _ => none
  | n + 1, i1, i2 => (if (σ k 5) ≤ i1 then some i2 else (g_k1 (f_X8_frames σ k i1) fun v5 => (f_X8_allFrames_l1 σ k n (i1 + 1) (i2 + v5))))
set_option maxRecDepth 100000 in
set_option maxHeartbeats 4000000 in
theorem w_X8_allFrames_l1 {l : Launch} {Γ : gG} {ad : Nat → Nat} {N : Nat} {p : Program} {e : Env} {s : State} {m : MethodId} {args : Array Value} {below : List Frame} {meth : Method} {c : Code} {Q : State → Prop} (hN : 202 ≤ N) (X : gX celC Γ ad N RX8 cX8_allFrames 3 (some .int) p s m args meth c) {σ : gSt} {k : Nat} (hk : gkd k = 8) : ∀ (n : Nat) (i1 : Int32) (i2 : Int32) (r3 : Int32), f_X8_allFrames_l1 σ k n i1 i2 = some r3 → (∀ (H : Heap) (locs : List Loc) (ls : Array Slot), gS celC Γ ad N σ s H locs → lv_has ls 3 [(1, .int r3)] → W p l e (gR 4 0 0) s m args below meth c H locs 0 0 (Q) (F0 m 26 ls [])) → ∀ (H : Heap) (locs : List Loc) (ls : Array Slot), gS celC Γ ad N σ s H locs → lv_has ls 3 [(2, .int i1), (1, .int i2), (0, .ref (ad k))] → W p l e (gR 4 0 0) s m args below meth c H locs 0 0 (Q) (F0 m 4 ls []) := by
  have hx := X.1
  have hb := X.2.1
  intro n
  induction n with
  | zero =>
    intro i1 i2 r3 hf
    cases hf
  | succ n ih =>
    intro i1 i2 r3 hf J H locs ls S hl
    rw [f_X8_allFrames_l1] at hf
    refine lv_iload_n hx hb dX8_allFrames_4 rfl (lv_at hl 0 rfl) ?_
    refine lv_aload_n hx hb dX8_allFrames_5 rfl (lv_at hl 2 rfl) ?_
    refine gfX8_27 X S hN hk dX8_allFrames_6 ?_
    refine lv_icmp_ge (tgt := 26) hx hb dX8_allFrames_9 (by decide) (fun c4 => ?_) (fun c4 => ?_)
    · have hf := (if_pos c4).symm.trans hf
      cases hf
      exact J _ _ _ S (lv_sub hl [1] rfl)
    · have hf := (if_neg c4).symm.trans hf
      refine lv_iload_n hx hb dX8_allFrames_12 rfl (lv_at hl 1 rfl) ?_
      refine lv_aload_n hx hb dX8_allFrames_13 rfl (lv_at hl 2 rfl) ?_
      refine lv_iload_n hx hb dX8_allFrames_14 rfl (lv_at hl 0 rfl) ?_
      obtain ⟨v5, hv5, hf⟩ := g_s1 hf
      refine g_ki S (g_runV (rest := [.int i2]) X S (c_X8_frames l hN hk hv5 _) cvX8_frames mlX8_70 (kd_N hk (by decide) hN) (ceC_8 hk _) rfl rfl rfl hl.1 (Nat.le_of_ble_eq_true rfl) ⟨⟨rfl, rfl⟩, ⟨Nat.le_of_ble_eq_true rfl, Nat.le_of_ble_eq_true rfl⟩, Nat.le_of_ble_eq_true rfl, Nat.le_of_ble_eq_true rfl⟩ dX8_allFrames_15) (fun H locs S => ?_)
      refine lv_iadd hx hb dX8_allFrames_18 ?_
      refine lv_istore_n (lv' := [(1, .int (i2 + v5)), (2, .int i1), (0, .ref (ad k))]) hx hb dX8_allFrames_19 rfl hl (by decide) rfl (fun ls hl => ?_)
      refine lv_iinc (v := (i1 + 1)) (lv' := [(2, .int (i1 + 1)), (1, .int (i2 + v5)), (0, .ref (ad k))]) hx hb dX8_allFrames_20 hl (k := 1) rfl rfl (by decide) rfl (fun ls hl => ?_)
      refine lv_goto (tgt := 4) hx hb dX8_allFrames_23 (by decide) ?_
      exact ih _ _ _  hf J _ _ _ S (lv_sub hl [0, 1, 2] rfl)
noncomputable def f_X8_allFrames (σ : gSt) (k : Nat) : Option (Int32) :=
  (g_k1 (f_X8_allFrames_l1 σ k FU (0 : Int32) (0 : Int32)) fun r3 => some r3)
set_option maxRecDepth 100000 in
set_option maxHeartbeats 4000000 in
theorem c_X8_allFrames (l : Launch) {Γ : gG} {ad : Nat → Nat} {N : Nat} (hN : 202 ≤ N) {σ : gSt} {k : Nat} (hk : gkd k = 8) {r : Int32} (hf : f_X8_allFrames σ k = some r) : gMi l celC Γ ad N yX8_allFrames cX8_allFrames 3 (some .int) (gR 4 0 0) [.ref (ad k)] σ r σ := by
  intro sz
  refine gOf (Qc := fun sz => gQci celC Γ ad N r σ sz) RX8 (by decide) rfl (Nat.le_of_ble_eq_true rfl) (fun p e s m args below meth c H locs ls X S hl => ?_)
  have hl : lv_has ls 3 [(0, .ref (ad k))] := hl
  have hx := X.1
  have hb := X.2.1
  unfold f_X8_allFrames at hf
  refine lv_iconst (v := (0 : Int32)) hx hb dX8_allFrames_0 (by decide) ?_
  refine lv_istore_n (lv' := [(1, .int (0 : Int32)), (0, .ref (ad k))]) hx hb dX8_allFrames_1 rfl hl (by decide) rfl (fun ls hl => ?_)
  refine lv_iconst (v := (0 : Int32)) hx hb dX8_allFrames_2 (by decide) ?_
  refine lv_istore_n (lv' := [(2, .int (0 : Int32)), (1, .int (0 : Int32)), (0, .ref (ad k))]) hx hb dX8_allFrames_3 rfl hl (by decide) rfl (fun ls hl => ?_)
  obtain ⟨r3, hr6, hf⟩ := g_s1 hf
  refine w_X8_allFrames_l1 hN X hk FU _ _ _  hr6 (fun H locs ls S hl => ?_) _ _ _ S (lv_sub hl [0, 1, 2] rfl)
  refine lv_iload_n hx hb dX8_allFrames_26 rfl (lv_at hl 0 rfl) ?_
  cases hf
  exact g_reti X S rfl dX8_allFrames_27

noncomputable def f_X8_allLoad_l1 (σ : gSt) (k : Nat) : Nat → Int32 → Int32 → Option (Int32)
  | 0, _, _ => none
  | n + 1, i1, i2 => (if (σ k 5) ≤ i1 then some i2 else (g_k1 (f_X8_load σ k i1) fun v5 => (f_X8_allLoad_l1 σ k n (i1 + 1) (i2 + v5))))
set_option maxRecDepth 100000 in
set_option maxHeartbeats 4000000 in
theorem w_X8_allLoad_l1 {l : Launch} {Γ : gG} {ad : Nat → Nat} {N : Nat} {p : Program} {e : Env} {s : State} {m : MethodId} {args : Array Value} {below : List Frame} {meth : Method} {c : Code} {Q : State → Prop} (hN : 202 ≤ N) (X : gX celC Γ ad N RX8 cX8_allLoad 3 (some .int) p s m args meth c) {σ : gSt} {k : Nat} (hk : gkd k = 8) : ∀ (n : Nat) (i1 : Int32) (i2 : Int32) (r3 : Int32), f_X8_allLoad_l1 σ k n i1 i2 = some r3 → (∀ (H : Heap) (locs : List Loc) (ls : Array Slot), gS celC Γ ad N σ s H locs → lv_has ls 3 [(1, .int r3)] → W p l e (gR 5 0 0) s m args below meth c H locs 0 0 (Q) (F0 m 26 ls [])) → ∀ (H : Heap) (locs : List Loc) (ls : Array Slot), gS celC Γ ad N σ s H locs → lv_has ls 3 [(2, .int i1), (1, .int i2), (0, .ref (ad k))] → W p l e (gR 5 0 0) s m args below meth c H locs 0 0 (Q) (F0 m 4 ls []) := by
  have hx := X.1
  have hb := X.2.1
  intro n
  induction n with
  | zero =>
    intro i1 i2 r3 hf
    cases hf
  | succ n ih =>
    intro i1 i2 r3 hf J H locs ls S hl
    rw [f_X8_allLoad_l1] at hf
    refine lv_iload_n hx hb dX8_allLoad_4 rfl (lv_at hl 0 rfl) ?_
    refine lv_aload_n hx hb dX8_allLoad_5 rfl (lv_at hl 2 rfl) ?_
    refine gfX8_27 X S hN hk dX8_allLoad_6 ?_
    refine lv_icmp_ge (tgt := 26) hx hb dX8_allLoad_9 (by decide) (fun c4 => ?_) (fun c4 => ?_)
    · have hf := (if_pos c4).symm.trans hf
      cases hf
      exact J _ _ _ S (lv_sub hl [1] rfl)
    · have hf := (if_neg c4).symm.trans hf
      refine lv_iload_n hx hb dX8_allLoad_12 rfl (lv_at hl 1 rfl) ?_
      refine lv_aload_n hx hb dX8_allLoad_13 rfl (lv_at hl 2 rfl) ?_
      refine lv_iload_n hx hb dX8_allLoad_14 rfl (lv_at hl 0 rfl) ?_
      obtain ⟨v5, hv5, hf⟩ := g_s1 hf
      refine g_ki S (g_runV (rest := [.int i2]) X S (c_X8_load l hN hk hv5 _) cvX8_load mlX8_73 (kd_N hk (by decide) hN) (ceC_8 hk _) rfl rfl rfl hl.1 (Nat.le_of_ble_eq_true rfl) ⟨⟨rfl, rfl⟩, ⟨Nat.le_of_ble_eq_true rfl, Nat.le_of_ble_eq_true rfl⟩, Nat.le_of_ble_eq_true rfl, Nat.le_of_ble_eq_true rfl⟩ dX8_allLoad_15) (fun H locs S => ?_)
      refine lv_iadd hx hb dX8_allLoad_18 ?_
      refine lv_istore_n (lv' := [(1, .int (i2 + v5)), (2, .int i1), (0, .ref (ad k))]) hx hb dX8_allLoad_19 rfl hl (by decide) rfl (fun ls hl => ?_)
      refine lv_iinc (v := (i1 + 1)) (lv' := [(2, .int (i1 + 1)), (1, .int (i2 + v5)), (0, .ref (ad k))]) hx hb dX8_allLoad_20 hl (k := 1) rfl rfl (by decide) rfl (fun ls hl => ?_)
      refine lv_goto (tgt := 4) hx hb dX8_allLoad_23 (by decide) ?_
      exact ih _ _ _  hf J _ _ _ S (lv_sub hl [0, 1, 2] rfl)
noncomputable def f_X8_allLoad (σ : gSt) (k : Nat) : Option (Int32) :=
  (g_k1 (f_X8_allLoad_l1 σ k FU (0 : Int32) (0 : Int32)) fun r3 => some r3)
set_option maxRecDepth 100000 in
set_option maxHeartbeats 4000000 in
theorem c_X8_allLoad (l : Launch) {Γ : gG} {ad : Nat → Nat} {N : Nat} (hN : 202 ≤ N) {σ : gSt} {k : Nat} (hk : gkd k = 8) {r : Int32} (hf : f_X8_allLoad σ k = some r) : gMi l celC Γ ad N yX8_allLoad cX8_allLoad 3 (some .int) (gR 5 0 0) [.ref (ad k)] σ r σ := by
  intro sz
  refine gOf (Qc := fun sz => gQci celC Γ ad N r σ sz) RX8 (by decide) rfl (Nat.le_of_ble_eq_true rfl) (fun p e s m args below meth c H locs ls X S hl => ?_)
  have hl : lv_has ls 3 [(0, .ref (ad k))] := hl
  have hx := X.1
  have hb := X.2.1
  unfold f_X8_allLoad at hf
  refine lv_iconst (v := (0 : Int32)) hx hb dX8_allLoad_0 (by decide) ?_
  refine lv_istore_n (lv' := [(1, .int (0 : Int32)), (0, .ref (ad k))]) hx hb dX8_allLoad_1 rfl hl (by decide) rfl (fun ls hl => ?_)
  refine lv_iconst (v := (0 : Int32)) hx hb dX8_allLoad_2 (by decide) ?_
  refine lv_istore_n (lv' := [(2, .int (0 : Int32)), (1, .int (0 : Int32)), (0, .ref (ad k))]) hx hb dX8_allLoad_3 rfl hl (by decide) rfl (fun ls hl => ?_)
  obtain ⟨r3, hr6, hf⟩ := g_s1 hf
  refine w_X8_allLoad_l1 hN X hk FU _ _ _  hr6 (fun H locs ls S hl => ?_) _ _ _ S (lv_sub hl [0, 1, 2] rfl)
  refine lv_iload_n hx hb dX8_allLoad_26 rfl (lv_at hl 0 rfl) ?_
  cases hf
  exact g_reti X S rfl dX8_allLoad_27

noncomputable def f_X8_densest_l1 (σ : gSt) (k : Nat) : Nat → Int32 → Int32 → Option (Int32)
  | 0, _, _ => none
  | n + 1, i1, i2 => (if (σ k 5) ≤ i1 then some i2 else (g_k1 (if i2 = (-1 : Int32) then some i1 else (g_k1 (f_X8_load σ k i1) fun v9 => (g_k1 (f_X8_frames σ k i2) fun v10 => (g_k1 (f_X8_load σ k i2) fun v11 => (g_k1 (f_X8_frames σ k i1) fun v12 => (if (v9 * v10) ≤ (v11 * v12) then some i2 else some i1)))))) fun x5 => (f_X8_densest_l1 σ k n (i1 + 1) x5)))
set_option maxRecDepth 100000 in
set_option maxHeartbeats 4000000 in
theorem w_X8_densest_l1 {l : Launch} {Γ : gG} {ad : Nat → Nat} {N : Nat} {p : Program} {e : Env} {s : State} {m : MethodId} {args : Array Value} {below : List Frame} {meth : Method} {c : Code} {Q : State → Prop} (hN : 202 ≤ N) (X : gX celC Γ ad N RX8 cX8_densest 3 (some .int) p s m args meth c) {σ : gSt} {k : Nat} (hk : gkd k = 8) : ∀ (n : Nat) (i1 : Int32) (i2 : Int32) (r3 : Int32), f_X8_densest_l1 σ k n i1 i2 = some r3 → (∀ (H : Heap) (locs : List Loc) (ls : Array Slot), gS celC Γ ad N σ s H locs → lv_has ls 3 [(1, .int r3)] → W p l e (gR 5 0 0) s m args below meth c H locs 0 0 (Q) (F0 m 50 ls [])) → ∀ (H : Heap) (locs : List Loc) (ls : Array Slot), gS celC Γ ad N σ s H locs → lv_has ls 3 [(2, .int i1), (1, .int i2), (0, .ref (ad k))] → W p l e (gR 5 0 0) s m args below meth c H locs 0 0 (Q) (F0 m 4 ls []) := by
  have hx := X.1
  have hb := X.2.1
  intro n
  induction n with
  | zero =>
    intro i1 i2 r3 hf
    cases hf
  | succ n ih =>
    intro i1 i2 r3 hf J H locs ls S hl
    rw [f_X8_densest_l1] at hf
    refine lv_iload_n hx hb dX8_densest_4 rfl (lv_at hl 0 rfl) ?_
    refine lv_aload_n hx hb dX8_densest_5 rfl (lv_at hl 2 rfl) ?_
    refine gfX8_27 X S hN hk dX8_densest_6 ?_
    refine lv_icmp_ge (tgt := 50) hx hb dX8_densest_9 (by decide) (fun c4 => ?_) (fun c4 => ?_)
    · have hf := (if_pos c4).symm.trans hf
      cases hf
      exact J _ _ _ S (lv_sub hl [1] rfl)
    · have hf := (if_neg c4).symm.trans hf
      refine lv_iload_n hx hb dX8_densest_12 rfl (lv_at hl 1 rfl) ?_
      refine lv_iconst (v := (-1 : Int32)) hx hb dX8_densest_13 (by decide) ?_
      obtain ⟨x5, hr6, hf⟩ := g_s1 hf
      have J7 : ∀ (H : Heap) (locs : List Loc) (ls : Array Slot), gS celC Γ ad N σ s H locs → lv_has ls 3 [(2, .int i1), (1, .int x5), (0, .ref (ad k))] → W p l e (gR 5 0 0) s m args below meth c H locs 0 0 (Q) (F0 m 44 ls []) := by
        intro H locs ls S hl
        refine lv_iinc (v := (i1 + 1)) (lv' := [(2, .int (i1 + 1)), (1, .int x5), (0, .ref (ad k))]) hx hb dX8_densest_44 hl (k := 0) rfl rfl (by decide) rfl (fun ls hl => ?_)
        refine lv_goto (tgt := 4) hx hb dX8_densest_47 (by decide) ?_
        exact ih _ _ _  hf J _ _ _ S (lv_sub hl [0, 1, 2] rfl)
      replace hf := hr6
      refine lv_icmp_eq (tgt := 42) hx hb dX8_densest_14 (by decide) (fun c8 => ?_) (fun c8 => ?_)
      · have hf := (if_pos c8).symm.trans hf
        refine lv_iload_n hx hb dX8_densest_42 rfl (lv_at hl 0 rfl) ?_
        refine lv_istore_n (lv' := [(1, .int i1), (2, .int i1), (0, .ref (ad k))]) hx hb dX8_densest_43 rfl hl (by decide) rfl (fun ls hl => ?_)
        cases hf
        exact J7 _ _ _ S (lv_sub hl [1, 0, 2] rfl)
      · have hf := (if_neg c8).symm.trans hf
        refine lv_aload_n hx hb dX8_densest_17 rfl (lv_at hl 2 rfl) ?_
        refine lv_iload_n hx hb dX8_densest_18 rfl (lv_at hl 0 rfl) ?_
        obtain ⟨v9, hv9, hf⟩ := g_s1 hf
        refine g_ki S (g_runV (rest := []) X S (c_X8_load l hN hk hv9 _) cvX8_load mlX8_73 (kd_N hk (by decide) hN) (ceC_8 hk _) rfl rfl rfl hl.1 (Nat.le_of_ble_eq_true rfl) ⟨⟨rfl, rfl⟩, ⟨Nat.le_of_ble_eq_true rfl, Nat.le_of_ble_eq_true rfl⟩, Nat.le_of_ble_eq_true rfl, Nat.le_of_ble_eq_true rfl⟩ dX8_densest_19) (fun H locs S => ?_)
        refine lv_aload_n hx hb dX8_densest_22 rfl (lv_at hl 2 rfl) ?_
        refine lv_iload_n hx hb dX8_densest_23 rfl (lv_at hl 1 rfl) ?_
        obtain ⟨v10, hv10, hf⟩ := g_s1 hf
        refine g_ki S (g_runV (rest := [.int v9]) X S (c_X8_frames l hN hk hv10 _) cvX8_frames mlX8_70 (kd_N hk (by decide) hN) (ceC_8 hk _) rfl rfl rfl hl.1 (Nat.le_of_ble_eq_true rfl) ⟨⟨rfl, rfl⟩, ⟨Nat.le_of_ble_eq_true rfl, Nat.le_of_ble_eq_true rfl⟩, Nat.le_of_ble_eq_true rfl, Nat.le_of_ble_eq_true rfl⟩ dX8_densest_24) (fun H locs S => ?_)
        refine lv_imul hx hb dX8_densest_27 ?_
        refine lv_aload_n hx hb dX8_densest_28 rfl (lv_at hl 2 rfl) ?_
        refine lv_iload_n hx hb dX8_densest_29 rfl (lv_at hl 1 rfl) ?_
        obtain ⟨v11, hv11, hf⟩ := g_s1 hf
        refine g_ki S (g_runV (rest := [.int (v9 * v10)]) X S (c_X8_load l hN hk hv11 _) cvX8_load mlX8_73 (kd_N hk (by decide) hN) (ceC_8 hk _) rfl rfl rfl hl.1 (Nat.le_of_ble_eq_true rfl) ⟨⟨rfl, rfl⟩, ⟨Nat.le_of_ble_eq_true rfl, Nat.le_of_ble_eq_true rfl⟩, Nat.le_of_ble_eq_true rfl, Nat.le_of_ble_eq_true rfl⟩ dX8_densest_30) (fun H locs S => ?_)
        refine lv_aload_n hx hb dX8_densest_33 rfl (lv_at hl 2 rfl) ?_
        refine lv_iload_n hx hb dX8_densest_34 rfl (lv_at hl 0 rfl) ?_
        obtain ⟨v12, hv12, hf⟩ := g_s1 hf
        refine g_ki S (g_runV (rest := [.int v11, .int (v9 * v10)]) X S (c_X8_frames l hN hk hv12 _) cvX8_frames mlX8_70 (kd_N hk (by decide) hN) (ceC_8 hk _) rfl rfl rfl hl.1 (Nat.le_of_ble_eq_true rfl) ⟨⟨rfl, rfl⟩, ⟨Nat.le_of_ble_eq_true rfl, Nat.le_of_ble_eq_true rfl⟩, Nat.le_of_ble_eq_true rfl, Nat.le_of_ble_eq_true rfl⟩ dX8_densest_35) (fun H locs S => ?_)
        refine lv_imul hx hb dX8_densest_38 ?_
        refine lv_icmp_le (tgt := 44) hx hb dX8_densest_39 (by decide) (fun c13 => ?_) (fun c13 => ?_)
        · have hf := (if_pos c13).symm.trans hf
          cases hf
          exact J7 _ _ _ S (lv_sub hl [0, 1, 2] rfl)
        · have hf := (if_neg c13).symm.trans hf
          refine lv_iload_n hx hb dX8_densest_42 rfl (lv_at hl 0 rfl) ?_
          refine lv_istore_n (lv' := [(1, .int i1), (2, .int i1), (0, .ref (ad k))]) hx hb dX8_densest_43 rfl hl (by decide) rfl (fun ls hl => ?_)
          cases hf
          exact J7 _ _ _ S (lv_sub hl [1, 0, 2] rfl)
noncomputable def f_X8_densest (σ : gSt) (k : Nat) : Option (Int32) :=
  (g_k1 (f_X8_densest_l1 σ k FU (0 : Int32) (-1 : Int32)) fun r3 => some r3)
set_option maxRecDepth 100000 in
set_option maxHeartbeats 4000000 in
theorem c_X8_densest (l : Launch) {Γ : gG} {ad : Nat → Nat} {N : Nat} (hN : 202 ≤ N) {σ : gSt} {k : Nat} (hk : gkd k = 8) {r : Int32} (hf : f_X8_densest σ k = some r) : gMi l celC Γ ad N yX8_densest cX8_densest 3 (some .int) (gR 5 0 0) [.ref (ad k)] σ r σ := by
  intro sz
  refine gOf (Qc := fun sz => gQci celC Γ ad N r σ sz) RX8 (by decide) rfl (Nat.le_of_ble_eq_true rfl) (fun p e s m args below meth c H locs ls X S hl => ?_)
  have hl : lv_has ls 3 [(0, .ref (ad k))] := hl
  have hx := X.1
  have hb := X.2.1
  unfold f_X8_densest at hf
  refine lv_iconst (v := (-1 : Int32)) hx hb dX8_densest_0 (by decide) ?_
  refine lv_istore_n (lv' := [(1, .int (-1 : Int32)), (0, .ref (ad k))]) hx hb dX8_densest_1 rfl hl (by decide) rfl (fun ls hl => ?_)
  refine lv_iconst (v := (0 : Int32)) hx hb dX8_densest_2 (by decide) ?_
  refine lv_istore_n (lv' := [(2, .int (0 : Int32)), (1, .int (-1 : Int32)), (0, .ref (ad k))]) hx hb dX8_densest_3 rfl hl (by decide) rfl (fun ls hl => ?_)
  obtain ⟨r3, hr14, hf⟩ := g_s1 hf
  refine w_X8_densest_l1 hN X hk FU _ _ _  hr14 (fun H locs ls S hl => ?_) _ _ _ S (lv_sub hl [0, 1, 2] rfl)
  refine lv_iload_n hx hb dX8_densest_50 rfl (lv_at hl 0 rfl) ?_
  cases hf
  exact g_reti X S rfl dX8_densest_51

noncomputable def f_X9_keepRefusal (σ : gSt) (a0 : Int32) (a1 : Int32) : Option (gSt) :=
  (g_k1 (gset σ 0 10 a0) fun σ1 => (g_k1 (gset σ1 0 11 a1) fun σ2 => some σ2))
set_option maxRecDepth 100000 in
set_option maxHeartbeats 4000000 in
theorem c_X9_keepRefusal (l : Launch) {Γ : gG} {ad : Nat → Nat} {N : Nat} (hN : 202 ≤ N) {σ : gSt} {a0 : Int32} {a1 : Int32}  {σ' : gSt} (hf : f_X9_keepRefusal σ a0 a1 = some σ') : gMv l celC Γ ad N yX9_keepRefusal cX9_keepRefusal 3 none (gR 1 0 0) [.ref (ad 0), .int a0, .int a1] σ σ' := by
  intro sz
  refine gOf (Qc := fun sz => gQcv celC Γ ad N σ' sz) RX9 (by decide) rfl (Nat.le_of_ble_eq_true rfl) (fun p e s m args below meth c H locs ls X S hl => ?_)
  have hl : lv_has ls 3 [(0, .ref (ad 0)), (1, .int a0), (2, .int a1)] := hl
  have hx := X.1
  have hb := X.2.1
  unfold f_X9_keepRefusal at hf
  refine lv_aload_n hx hb dX9_keepRefusal_0 rfl (lv_at hl 0 rfl) ?_
  refine lv_iload_n hx hb dX9_keepRefusal_1 rfl (lv_at hl 1 rfl) ?_
  obtain ⟨σ1, hσ1, hf⟩ := g_s1 hf
  refine pfX9_69 X S hN kd_s0 hσ1 dX9_keepRefusal_2 (fun H locs S => ?_)
  refine lv_aload_n hx hb dX9_keepRefusal_5 rfl (lv_at hl 0 rfl) ?_
  refine lv_iload_n hx hb dX9_keepRefusal_6 rfl (lv_at hl 2 rfl) ?_
  obtain ⟨σ2, hσ2, hf⟩ := g_s1 hf
  refine pfX9_72 X S hN kd_s0 hσ2 dX9_keepRefusal_7 (fun H locs S => ?_)
  cases hf
  exact g_retv X S dX9_keepRefusal_10

noncomputable def f_X9_isSettingValue (σ : gSt) (a0 : Int32) (a1 : Int32) : Option (Int32) :=
  (g_k1 (f_X9_isSetting σ a0) fun v1 => (g_k1 (if v1 = 0 then some (0 : Int32) else (g_k1 (gtl gFrom 6 a0) fun v8 => (if a1 < v8 then some (0 : Int32) else (g_k1 (gtl gTo 6 a0) fun v11 => (if v11 < a1 then some (0 : Int32) else some (1 : Int32)))))) fun x2 => (g_k1 (gzb x2) fun v5 => some v5)))
set_option maxRecDepth 100000 in
set_option maxHeartbeats 4000000 in
theorem c_X9_isSettingValue (l : Launch) {Γ : gG} {ad : Nat → Nat} {N : Nat} (hN : 202 ≤ N) {σ : gSt} {a0 : Int32} {a1 : Int32}  {r : Int32} (hf : f_X9_isSettingValue σ a0 a1 = some r) : gMi l celC Γ ad N yX9_isSettingValue cX9_isSettingValue 2 (some .boolean) (gR 2 0 0) [.int a0, .int a1] σ r σ := by
  intro sz
  refine gOf (Qc := fun sz => gQci celC Γ ad N r σ sz) RX9 (by decide) rfl (Nat.le_of_ble_eq_true rfl) (fun p e s m args below meth c H locs ls X S hl => ?_)
  have hl : lv_has ls 2 [(0, .int a0), (1, .int a1)] := hl
  have hx := X.1
  have hb := X.2.1
  unfold f_X9_isSettingValue at hf
  refine lv_iload_n hx hb dX9_isSettingValue_0 rfl (lv_at hl 0 rfl) ?_
  obtain ⟨v1, hv1, hf⟩ := g_s1 hf
  refine g_ki S (g_runS (rest := []) X S (c_X9_isSetting l hN  hv1 _) csX9_isSetting mlX9_156 rfl rfl hl.1 (Nat.le_of_ble_eq_true rfl) ⟨⟨rfl, rfl⟩, ⟨Nat.le_of_ble_eq_true rfl, Nat.le_of_ble_eq_true rfl⟩, Nat.le_of_ble_eq_true rfl, Nat.le_of_ble_eq_true rfl⟩ dX9_isSettingValue_1) (fun H locs S => ?_)
  obtain ⟨x2, hr3, hf⟩ := g_s1 hf
  have J4 : ∀ (H : Heap) (locs : List Loc) (ls : Array Slot), gS celC Γ ad N σ s H locs → lv_has ls 2 [] → W p l e (gR 2 0 0) s m args below meth c H locs 0 0 (gQi celC Γ ad N r σ below args s) (F0 m 30 ls [.int x2]) := by
    intro H locs ls S hl
    obtain ⟨v5, hv5, hf⟩ := g_s1 hf
    obtain ⟨hnv5, rfl⟩ := gzb_some hv5
    cases hf
    exact g_reti X S hnv5 dX9_isSettingValue_30
  replace hf := hr3
  refine lv_if_eq (tgt := 29) hx hb dX9_isSettingValue_4 (by decide) (fun c6 => ?_) (fun c6 => ?_)
  · have hf := (if_pos c6).symm.trans hf
    refine lv_iconst (v := (0 : Int32)) hx hb dX9_isSettingValue_29 (by decide) ?_
    cases hf
    exact J4 _ _ _ S (lv_sub hl [] rfl)
  · have hf := (if_neg c6).symm.trans hf
    refine lv_iload_n hx hb dX9_isSettingValue_7 rfl (lv_at hl 1 rfl) ?_
    refine g_tab X S X.F.2.2.2.2.2.1 flX9_405 dX9_isSettingValue_8 (fun t7 ht7 => ?_)
    refine lv_iload_n hx hb dX9_isSettingValue_11 rfl (lv_at hl 0 rfl) ?_
    obtain ⟨v8, hv8, hf⟩ := g_s1 hf
    refine g_tald X S ht7 hv8 dX9_isSettingValue_12 ?_
    refine lv_icmp_lt (tgt := 29) hx hb dX9_isSettingValue_13 (by decide) (fun c9 => ?_) (fun c9 => ?_)
    · have hf := (if_pos c9).symm.trans hf
      refine lv_iconst (v := (0 : Int32)) hx hb dX9_isSettingValue_29 (by decide) ?_
      cases hf
      exact J4 _ _ _ S (lv_sub hl [] rfl)
    · have hf := (if_neg c9).symm.trans hf
      refine lv_iload_n hx hb dX9_isSettingValue_16 rfl (lv_at hl 1 rfl) ?_
      refine g_tab X S X.F.2.2.2.2.2.2 flX9_409 dX9_isSettingValue_17 (fun t10 ht10 => ?_)
      refine lv_iload_n hx hb dX9_isSettingValue_20 rfl (lv_at hl 0 rfl) ?_
      obtain ⟨v11, hv11, hf⟩ := g_s1 hf
      refine g_tald X S ht10 hv11 dX9_isSettingValue_21 ?_
      refine lv_icmp_gt (tgt := 29) hx hb dX9_isSettingValue_22 (by decide) (fun c12 => ?_) (fun c12 => ?_)
      · have hf := (if_pos c12).symm.trans hf
        refine lv_iconst (v := (0 : Int32)) hx hb dX9_isSettingValue_29 (by decide) ?_
        cases hf
        exact J4 _ _ _ S (lv_sub hl [] rfl)
      · have hf := (if_neg c12).symm.trans hf
        refine lv_iconst (v := (1 : Int32)) hx hb dX9_isSettingValue_25 (by decide) ?_
        refine lv_goto (tgt := 30) hx hb dX9_isSettingValue_26 (by decide) ?_
        cases hf
        exact J4 _ _ _ S (lv_sub hl [] rfl)

noncomputable def f_X9_isTrack (σ : gSt) (a0 : Int32) : Option (Int32) :=
  (g_k1 (if a0 < 0 then some (0 : Int32) else (if (2 : Int32) ≤ a0 then some (0 : Int32) else some (1 : Int32))) fun x1 => (g_k1 (gzb x1) fun v4 => some v4))
set_option maxRecDepth 100000 in
set_option maxHeartbeats 4000000 in
theorem c_X9_isTrack (l : Launch) {Γ : gG} {ad : Nat → Nat} {N : Nat} (hN : 202 ≤ N) {σ : gSt} {a0 : Int32}  {r : Int32} (hf : f_X9_isTrack σ a0 = some r) : gMi l celC Γ ad N yX9_isTrack cX9_isTrack 1 (some .boolean) (gR 1 0 0) [.int a0] σ r σ := by
  intro sz
  refine gOf (Qc := fun sz => gQci celC Γ ad N r σ sz) RX9 (by decide) rfl (Nat.le_of_ble_eq_true rfl) (fun p e s m args below meth c H locs ls X S hl => ?_)
  have hl : lv_has ls 1 [(0, .int a0)] := hl
  have hx := X.1
  have hb := X.2.1
  unfold f_X9_isTrack at hf
  refine lv_iload_n hx hb dX9_isTrack_0 rfl (lv_at hl 0 rfl) ?_
  obtain ⟨x1, hr2, hf⟩ := g_s1 hf
  have J3 : ∀ (H : Heap) (locs : List Loc) (ls : Array Slot), gS celC Γ ad N σ s H locs → lv_has ls 1 [] → W p l e (gR 1 0 0) s m args below meth c H locs 0 0 (gQi celC Γ ad N r σ below args s) (F0 m 14 ls [.int x1]) := by
    intro H locs ls S hl
    obtain ⟨v4, hv4, hf⟩ := g_s1 hf
    obtain ⟨hnv4, rfl⟩ := gzb_some hv4
    cases hf
    exact g_reti X S hnv4 dX9_isTrack_14
  replace hf := hr2
  refine lv_if_lt (tgt := 13) hx hb dX9_isTrack_1 (by decide) (fun c5 => ?_) (fun c5 => ?_)
  · have hf := (if_pos c5).symm.trans hf
    refine lv_iconst (v := (0 : Int32)) hx hb dX9_isTrack_13 (by decide) ?_
    cases hf
    exact J3 _ _ _ S (lv_sub hl [] rfl)
  · have hf := (if_neg c5).symm.trans hf
    refine lv_iload_n hx hb dX9_isTrack_4 rfl (lv_at hl 0 rfl) ?_
    refine lv_iconst (v := (2 : Int32)) hx hb dX9_isTrack_5 (by decide) ?_
    refine lv_icmp_ge (tgt := 13) hx hb dX9_isTrack_6 (by decide) (fun c6 => ?_) (fun c6 => ?_)
    · have hf := (if_pos c6).symm.trans hf
      refine lv_iconst (v := (0 : Int32)) hx hb dX9_isTrack_13 (by decide) ?_
      cases hf
      exact J3 _ _ _ S (lv_sub hl [] rfl)
    · have hf := (if_neg c6).symm.trans hf
      refine lv_iconst (v := (1 : Int32)) hx hb dX9_isTrack_9 (by decide) ?_
      refine lv_goto (tgt := 14) hx hb dX9_isTrack_10 (by decide) ?_
      cases hf
      exact J3 _ _ _ S (lv_sub hl [] rfl)

noncomputable def f_X9_isPointFrame (σ : gSt) (a0 : Int32) : Option (Int32) :=
  (g_k1 (if a0 < 0 then some (0 : Int32) else (if (9999 : Int32) < a0 then some (0 : Int32) else some (1 : Int32))) fun x1 => (g_k1 (gzb x1) fun v4 => some v4))
set_option maxRecDepth 100000 in
set_option maxHeartbeats 4000000 in
theorem c_X9_isPointFrame (l : Launch) {Γ : gG} {ad : Nat → Nat} {N : Nat} (hN : 202 ≤ N) {σ : gSt} {a0 : Int32}  {r : Int32} (hf : f_X9_isPointFrame σ a0 = some r) : gMi l celC Γ ad N yX9_isPointFrame cX9_isPointFrame 1 (some .boolean) (gR 1 0 0) [.int a0] σ r σ := by
  intro sz
  refine gOf (Qc := fun sz => gQci celC Γ ad N r σ sz) RX9 (by decide) rfl (Nat.le_of_ble_eq_true rfl) (fun p e s m args below meth c H locs ls X S hl => ?_)
  have hl : lv_has ls 1 [(0, .int a0)] := hl
  have hx := X.1
  have hb := X.2.1
  unfold f_X9_isPointFrame at hf
  refine lv_iload_n hx hb dX9_isPointFrame_0 rfl (lv_at hl 0 rfl) ?_
  obtain ⟨x1, hr2, hf⟩ := g_s1 hf
  have J3 : ∀ (H : Heap) (locs : List Loc) (ls : Array Slot), gS celC Γ ad N σ s H locs → lv_has ls 1 [] → W p l e (gR 1 0 0) s m args below meth c H locs 0 0 (gQi celC Γ ad N r σ below args s) (F0 m 16 ls [.int x1]) := by
    intro H locs ls S hl
    obtain ⟨v4, hv4, hf⟩ := g_s1 hf
    obtain ⟨hnv4, rfl⟩ := gzb_some hv4
    cases hf
    exact g_reti X S hnv4 dX9_isPointFrame_16
  replace hf := hr2
  refine lv_if_lt (tgt := 15) hx hb dX9_isPointFrame_1 (by decide) (fun c5 => ?_) (fun c5 => ?_)
  · have hf := (if_pos c5).symm.trans hf
    refine lv_iconst (v := (0 : Int32)) hx hb dX9_isPointFrame_15 (by decide) ?_
    cases hf
    exact J3 _ _ _ S (lv_sub hl [] rfl)
  · have hf := (if_neg c5).symm.trans hf
    refine lv_iload_n hx hb dX9_isPointFrame_4 rfl (lv_at hl 0 rfl) ?_
    refine lv_sipush (v := (9999 : Int32)) hx hb dX9_isPointFrame_5 (by decide) ?_
    refine lv_icmp_gt (tgt := 15) hx hb dX9_isPointFrame_8 (by decide) (fun c6 => ?_) (fun c6 => ?_)
    · have hf := (if_pos c6).symm.trans hf
      refine lv_iconst (v := (0 : Int32)) hx hb dX9_isPointFrame_15 (by decide) ?_
      cases hf
      exact J3 _ _ _ S (lv_sub hl [] rfl)
    · have hf := (if_neg c6).symm.trans hf
      refine lv_iconst (v := (1 : Int32)) hx hb dX9_isPointFrame_11 (by decide) ?_
      refine lv_goto (tgt := 16) hx hb dX9_isPointFrame_12 (by decide) ?_
      cases hf
      exact J3 _ _ _ S (lv_sub hl [] rfl)

noncomputable def f_X9_arePoints (σ : gSt) (a0 : Int32) (a1 : Int32) (a2 : Int32) (a3 : Int32) : Option (Int32) :=
  (g_k1 (f_X9_isPointFrame σ a0) fun v1 => (if v1 = 0 then some (0 : Int32) else (g_k1 (f_X9_isPointFrame σ a1) fun v3 => (if v3 = 0 then some (0 : Int32) else (g_k1 (f_X9_isPointFrame σ a2) fun v5 => (if v5 = 0 then some (0 : Int32) else (g_k1 (f_X9_isPointFrame σ a3) fun v7 => (if v7 = 0 then some (0 : Int32) else (g_k1 (if a0 = a2 then some (0 : Int32) else (if a1 = a3 then some (0 : Int32) else (g_k1 (if a2 ≤ a0 then some (0 : Int32) else some (1 : Int32)) fun x15 => (g_k1 (if a3 ≤ a1 then some (0 : Int32) else some (1 : Int32)) fun x18 => (if x15 = x18 then some (1 : Int32) else some (0 : Int32)))))) fun x9 => (g_k1 (gzb x9) fun v12 => some v12))))))))))
set_option maxRecDepth 100000 in
set_option maxHeartbeats 4000000 in
theorem c_X9_arePoints (l : Launch) {Γ : gG} {ad : Nat → Nat} {N : Nat} (hN : 202 ≤ N) {σ : gSt} {a0 : Int32} {a1 : Int32} {a2 : Int32} {a3 : Int32}  {r : Int32} (hf : f_X9_arePoints σ a0 a1 a2 a3 = some r) : gMi l celC Γ ad N yX9_arePoints cX9_arePoints 4 (some .boolean) (gR 2 0 0) [.int a0, .int a1, .int a2, .int a3] σ r σ := by
  intro sz
  refine gOf (Qc := fun sz => gQci celC Γ ad N r σ sz) RX9 (by decide) rfl (Nat.le_of_ble_eq_true rfl) (fun p e s m args below meth c H locs ls X S hl => ?_)
  have hl : lv_has ls 4 [(0, .int a0), (1, .int a1), (2, .int a2), (3, .int a3)] := hl
  have hx := X.1
  have hb := X.2.1
  unfold f_X9_arePoints at hf
  refine lv_iload_n hx hb dX9_arePoints_0 rfl (lv_at hl 0 rfl) ?_
  obtain ⟨v1, hv1, hf⟩ := g_s1 hf
  refine g_ki S (g_runS (rest := []) X S (c_X9_isPointFrame l hN  hv1 _) csX9_isPointFrame mlX9_412 rfl rfl hl.1 (Nat.le_of_ble_eq_true rfl) ⟨⟨rfl, rfl⟩, ⟨Nat.le_of_ble_eq_true rfl, Nat.le_of_ble_eq_true rfl⟩, Nat.le_of_ble_eq_true rfl, Nat.le_of_ble_eq_true rfl⟩ dX9_arePoints_1) (fun H locs S => ?_)
  refine lv_if_eq (tgt := 28) hx hb dX9_arePoints_4 (by decide) (fun c2 => ?_) (fun c2 => ?_)
  · have hf := (if_pos c2).symm.trans hf
    refine lv_iconst (v := (0 : Int32)) hx hb dX9_arePoints_28 (by decide) ?_
    cases hf
    exact g_reti X S (by decide +kernel) dX9_arePoints_29
  · have hf := (if_neg c2).symm.trans hf
    refine lv_iload_n hx hb dX9_arePoints_7 rfl (lv_at hl 1 rfl) ?_
    obtain ⟨v3, hv3, hf⟩ := g_s1 hf
    refine g_ki S (g_runS (rest := []) X S (c_X9_isPointFrame l hN  hv3 _) csX9_isPointFrame mlX9_412 rfl rfl hl.1 (Nat.le_of_ble_eq_true rfl) ⟨⟨rfl, rfl⟩, ⟨Nat.le_of_ble_eq_true rfl, Nat.le_of_ble_eq_true rfl⟩, Nat.le_of_ble_eq_true rfl, Nat.le_of_ble_eq_true rfl⟩ dX9_arePoints_8) (fun H locs S => ?_)
    refine lv_if_eq (tgt := 28) hx hb dX9_arePoints_11 (by decide) (fun c4 => ?_) (fun c4 => ?_)
    · have hf := (if_pos c4).symm.trans hf
      refine lv_iconst (v := (0 : Int32)) hx hb dX9_arePoints_28 (by decide) ?_
      cases hf
      exact g_reti X S (by decide +kernel) dX9_arePoints_29
    · have hf := (if_neg c4).symm.trans hf
      refine lv_iload_n hx hb dX9_arePoints_14 rfl (lv_at hl 2 rfl) ?_
      obtain ⟨v5, hv5, hf⟩ := g_s1 hf
      refine g_ki S (g_runS (rest := []) X S (c_X9_isPointFrame l hN  hv5 _) csX9_isPointFrame mlX9_412 rfl rfl hl.1 (Nat.le_of_ble_eq_true rfl) ⟨⟨rfl, rfl⟩, ⟨Nat.le_of_ble_eq_true rfl, Nat.le_of_ble_eq_true rfl⟩, Nat.le_of_ble_eq_true rfl, Nat.le_of_ble_eq_true rfl⟩ dX9_arePoints_15) (fun H locs S => ?_)
      refine lv_if_eq (tgt := 28) hx hb dX9_arePoints_18 (by decide) (fun c6 => ?_) (fun c6 => ?_)
      · have hf := (if_pos c6).symm.trans hf
        refine lv_iconst (v := (0 : Int32)) hx hb dX9_arePoints_28 (by decide) ?_
        cases hf
        exact g_reti X S (by decide +kernel) dX9_arePoints_29
      · have hf := (if_neg c6).symm.trans hf
        refine lv_iload_n hx hb dX9_arePoints_21 rfl (lv_at hl 3 rfl) ?_
        obtain ⟨v7, hv7, hf⟩ := g_s1 hf
        refine g_ki S (g_runS (rest := []) X S (c_X9_isPointFrame l hN  hv7 _) csX9_isPointFrame mlX9_412 rfl rfl hl.1 (Nat.le_of_ble_eq_true rfl) ⟨⟨rfl, rfl⟩, ⟨Nat.le_of_ble_eq_true rfl, Nat.le_of_ble_eq_true rfl⟩, Nat.le_of_ble_eq_true rfl, Nat.le_of_ble_eq_true rfl⟩ dX9_arePoints_22) (fun H locs S => ?_)
        refine lv_if_ne (tgt := 30) hx hb dX9_arePoints_25 (by decide) (fun c8 => ?_) (fun c8 => ?_)
        · have hf := (if_neg c8).symm.trans hf
          refine lv_iload_n hx hb dX9_arePoints_30 rfl (lv_at hl 0 rfl) ?_
          refine lv_iload_n hx hb dX9_arePoints_31 rfl (lv_at hl 2 rfl) ?_
          obtain ⟨x9, hr10, hf⟩ := g_s1 hf
          have J11 : ∀ (H : Heap) (locs : List Loc) (ls : Array Slot), gS celC Γ ad N σ s H locs → lv_has ls 4 [] → W p l e (gR 2 0 0) s m args below meth c H locs 0 0 (gQi celC Γ ad N r σ below args s) (F0 m 68 ls [.int x9]) := by
            intro H locs ls S hl
            obtain ⟨v12, hv12, hf⟩ := g_s1 hf
            obtain ⟨hnv12, rfl⟩ := gzb_some hv12
            cases hf
            exact g_reti X S hnv12 dX9_arePoints_68
          replace hf := hr10
          refine lv_icmp_eq (tgt := 67) hx hb dX9_arePoints_32 (by decide) (fun c13 => ?_) (fun c13 => ?_)
          · have hf := (if_pos c13).symm.trans hf
            refine lv_iconst (v := (0 : Int32)) hx hb dX9_arePoints_67 (by decide) ?_
            cases hf
            exact J11 _ _ _ S (lv_sub hl [] rfl)
          · have hf := (if_neg c13).symm.trans hf
            refine lv_iload_n hx hb dX9_arePoints_35 rfl (lv_at hl 1 rfl) ?_
            refine lv_iload_n hx hb dX9_arePoints_36 rfl (lv_at hl 3 rfl) ?_
            refine lv_icmp_eq (tgt := 67) hx hb dX9_arePoints_37 (by decide) (fun c14 => ?_) (fun c14 => ?_)
            · have hf := (if_pos c14).symm.trans hf
              refine lv_iconst (v := (0 : Int32)) hx hb dX9_arePoints_67 (by decide) ?_
              cases hf
              exact J11 _ _ _ S (lv_sub hl [] rfl)
            · have hf := (if_neg c14).symm.trans hf
              refine lv_iload_n hx hb dX9_arePoints_40 rfl (lv_at hl 0 rfl) ?_
              refine lv_iload_n hx hb dX9_arePoints_41 rfl (lv_at hl 2 rfl) ?_
              obtain ⟨x15, hr16, hf⟩ := g_s1 hf
              have J17 : ∀ (H : Heap) (locs : List Loc) (ls : Array Slot), gS celC Γ ad N σ s H locs → lv_has ls 4 [(1, .int a1), (3, .int a3)] → W p l e (gR 2 0 0) s m args below meth c H locs 0 0 (gQi celC Γ ad N r σ below args s) (F0 m 50 ls [.int x15]) := by
                intro H locs ls S hl
                refine lv_iload_n hx hb dX9_arePoints_50 rfl (lv_at hl 0 rfl) ?_
                refine lv_iload_n hx hb dX9_arePoints_51 rfl (lv_at hl 1 rfl) ?_
                obtain ⟨x18, hr19, hf⟩ := g_s1 hf
                have J20 : ∀ (H : Heap) (locs : List Loc) (ls : Array Slot), gS celC Γ ad N σ s H locs → lv_has ls 4 [] → W p l e (gR 2 0 0) s m args below meth c H locs 0 0 (gQi celC Γ ad N r σ below args s) (F0 m 60 ls [.int x18, .int x15]) := by
                  intro H locs ls S hl
                  refine lv_icmp_ne (tgt := 67) hx hb dX9_arePoints_60 (by decide) (fun c21 => ?_) (fun c21 => ?_)
                  · have hf := (if_neg c21).symm.trans hf
                    refine lv_iconst (v := (0 : Int32)) hx hb dX9_arePoints_67 (by decide) ?_
                    cases hf
                    exact J11 _ _ _ S (lv_sub hl [] rfl)
                  · have hf := (if_pos c21).symm.trans hf
                    refine lv_iconst (v := (1 : Int32)) hx hb dX9_arePoints_63 (by decide) ?_
                    refine lv_goto (tgt := 68) hx hb dX9_arePoints_64 (by decide) ?_
                    cases hf
                    exact J11 _ _ _ S (lv_sub hl [] rfl)
                replace hf := hr19
                refine lv_icmp_ge (tgt := 59) hx hb dX9_arePoints_52 (by decide) (fun c22 => ?_) (fun c22 => ?_)
                · have hf := (if_pos c22).symm.trans hf
                  refine lv_iconst (v := (0 : Int32)) hx hb dX9_arePoints_59 (by decide) ?_
                  cases hf
                  exact J20 _ _ _ S (lv_sub hl [] rfl)
                · have hf := (if_neg c22).symm.trans hf
                  refine lv_iconst (v := (1 : Int32)) hx hb dX9_arePoints_55 (by decide) ?_
                  refine lv_goto (tgt := 60) hx hb dX9_arePoints_56 (by decide) ?_
                  cases hf
                  exact J20 _ _ _ S (lv_sub hl [] rfl)
              replace hf := hr16
              refine lv_icmp_ge (tgt := 49) hx hb dX9_arePoints_42 (by decide) (fun c23 => ?_) (fun c23 => ?_)
              · have hf := (if_pos c23).symm.trans hf
                refine lv_iconst (v := (0 : Int32)) hx hb dX9_arePoints_49 (by decide) ?_
                cases hf
                exact J17 _ _ _ S (lv_sub hl [1, 3] rfl)
              · have hf := (if_neg c23).symm.trans hf
                refine lv_iconst (v := (1 : Int32)) hx hb dX9_arePoints_45 (by decide) ?_
                refine lv_goto (tgt := 50) hx hb dX9_arePoints_46 (by decide) ?_
                cases hf
                exact J17 _ _ _ S (lv_sub hl [1, 3] rfl)
        · have hf := (if_pos c8).symm.trans hf
          refine lv_iconst (v := (0 : Int32)) hx hb dX9_arePoints_28 (by decide) ?_
          cases hf
          exact g_reti X S (by decide +kernel) dX9_arePoints_29

noncomputable def f_X3_trackOf (σ : gSt) (k : Nat) (a0 : Int32) : Option (Nat) :=
  (g_k1 (if a0 = 0 then some (k + 4) else some (k + 10)) fun x1 => some x1)
set_option maxRecDepth 100000 in
set_option maxHeartbeats 4000000 in
theorem c_X3_trackOf (l : Launch) {Γ : gG} {ad : Nat → Nat} {N : Nat} (hN : 202 ≤ N) {σ : gSt} {k : Nat} {a0 : Int32} (hk : gkd k = 3) {r : Nat} (hf : f_X3_trackOf σ k a0 = some r) : gMr l celC Γ ad N yX3_trackOf cX3_trackOf 2 (some (.object "SubtitleDesk$Track")) (gR 1 0 0) [.ref (ad k), .int a0] σ (some r) σ := by
  intro sz
  refine gOf (Qc := fun sz => gQcr celC Γ ad N (some r) σ sz) RX3 (by decide) rfl (Nat.le_of_ble_eq_true rfl) (fun p e s m args below meth c H locs ls X S hl => ?_)
  have hl : lv_has ls 2 [(0, .ref (ad k)), (1, .int a0)] := hl
  have hx := X.1
  have hb := X.2.1
  unfold f_X3_trackOf at hf
  refine lv_iload_n hx hb dX3_trackOf_0 rfl (lv_at hl 1 rfl) ?_
  obtain ⟨x1, hr2, hf⟩ := g_s1 hf
  have J3 : ∀ (hkx1 : gkd x1 = 8) (H : Heap) (locs : List Loc) (ls : Array Slot), gS celC Γ ad N σ s H locs → lv_has ls 2 [] → W p l e (gR 1 0 0) s m args below meth c H locs 0 0 (gQr celC Γ ad N (some r) σ below args s) (F0 m 15 ls [.ref (ad x1)]) := by
    intro hkx1 H locs ls S hl
    cases hf
    exact g_retr X S dX3_trackOf_15
  replace hf := hr2
  refine lv_if_ne (tgt := 11) hx hb dX3_trackOf_1 (by decide) (fun c4 => ?_) (fun c4 => ?_)
  · have hf := (if_neg c4).symm.trans hf
    refine lv_aload_n hx hb dX3_trackOf_11 rfl (lv_at hl 0 rfl) ?_
    refine gfX3_42 X S hN hk dX3_trackOf_12 ?_
    cases hf
    exact J3 (kd_3_10 hk) _ _ _ S (lv_sub hl [] rfl)
  · have hf := (if_pos c4).symm.trans hf
    refine lv_aload_n hx hb dX3_trackOf_4 rfl (lv_at hl 0 rfl) ?_
    refine gfX3_38 X S hN hk dX3_trackOf_5 ?_
    refine lv_goto (tgt := 15) hx hb dX3_trackOf_8 (by decide) ?_
    cases hf
    exact J3 (kd_3_4 hk) _ _ _ S (lv_sub hl [] rfl)
theorem kr_X3_trackOf {σ : gSt} {k : Nat} {a0 : Int32} {r : Nat} (hk : gkd k = 3) (h : f_X3_trackOf σ k a0 = some r) : gkd r = 8 := by
  unfold f_X3_trackOf at h
  obtain ⟨x, hx, h⟩ := g_s1 h
  cases h
  split at hx <;> cases hx
  · exact kd_3_4 hk
  · exact kd_3_10 hk

