noncomputable def f_X1_carryOutCut (σ : gSt) (a0 : Int32) (a1 : Int32) : Option (Int32 × gSt) :=
  (g_k1 (f_X3_canBeCut σ 1 a0) fun v1 => (if v1 = 0 then some ((1 : Int32), σ) else (if a1 = 0 then (g_k1 (f_X0_takeAway σ (1 + 2) a0) fun σ7 => some ((0 : Int32), σ7)) else (g_k1 (f_X0_lacksRoomFor σ (1 + 2) a0) fun v4 => (if v4 = 0 then (g_k1 (f_X0_make σ (1 + 2) a0) fun σ6 => some ((0 : Int32), σ6)) else some ((8 : Int32), σ))))))
set_option maxRecDepth 100000 in
set_option maxHeartbeats 4000000 in
theorem c_X1_carryOutCut (l : Launch) {Γ : gG} {ad : Nat → Nat} {N : Nat} (hN : 202 ≤ N) {σ : gSt} {a0 : Int32} {a1 : Int32}  {r : Int32} {σ' : gSt} (hf : f_X1_carryOutCut σ a0 a1 = some (r, σ')) : gMi l celC Γ ad N yX1_carryOutCut cX1_carryOutCut 3 (some .int) (gR 4 0 0) [.ref (ad 20), .int a0, .int a1] σ r σ' := by
  intro sz
  refine gOf (Qc := fun sz => gQci celC Γ ad N r σ' sz) RX1 (by decide) rfl (Nat.le_of_ble_eq_true rfl) (fun p e s m args below meth c H locs ls X S hl => ?_)
  have hl : lv_has ls 3 [(0, .ref (ad 20)), (1, .int a0), (2, .int a1)] := hl
  have hx := X.1
  have hb := X.2.1
  unfold f_X1_carryOutCut at hf
  refine lv_aload_n hx hb dX1_carryOutCut_0 rfl (lv_at hl 0 rfl) ?_
  refine gfX1_9 X S hN kd_s20 dX1_carryOutCut_1 ?_
  refine lv_iload_n hx hb dX1_carryOutCut_4 rfl (lv_at hl 1 rfl) ?_
  obtain ⟨v1, hv1, hf⟩ := g_s1 hf
  refine g_ki S (g_runV (rest := []) X S (c_X3_canBeCut l hN kd_s1 hv1 _) cvX3_canBeCut mlX1_167 (kd_N kd_s1 (by decide) hN) (ceC_3 kd_s1 _) rfl rfl rfl hl.1 (Nat.le_of_ble_eq_true rfl) ⟨⟨rfl, rfl⟩, ⟨Nat.le_of_ble_eq_true rfl, Nat.le_of_ble_eq_true rfl⟩, Nat.le_of_ble_eq_true rfl, Nat.le_of_ble_eq_true rfl⟩ dX1_carryOutCut_5) (fun H locs S => ?_)
  refine lv_if_ne (tgt := 13) hx hb dX1_carryOutCut_8 (by decide) (fun c2 => ?_) (fun c2 => ?_)
  · have hf := (if_neg c2).symm.trans hf
    refine lv_iload_n hx hb dX1_carryOutCut_13 rfl (lv_at hl 2 rfl) ?_
    refine lv_if_ne (tgt := 30) hx hb dX1_carryOutCut_14 (by decide) (fun c3 => ?_) (fun c3 => ?_)
    · have hf := (if_neg c3).symm.trans hf
      refine lv_aload_n hx hb dX1_carryOutCut_30 rfl (lv_at hl 0 rfl) ?_
      refine gfX1_9 X S hN kd_s20 dX1_carryOutCut_31 ?_
      refine gfX1_118 X S hN kd_s1 dX1_carryOutCut_34 ?_
      refine lv_iload_n hx hb dX1_carryOutCut_37 rfl (lv_at hl 1 rfl) ?_
      obtain ⟨v4, hv4, hf⟩ := g_s1 hf
      refine g_ki S (g_runV (rest := []) X S (c_X0_lacksRoomFor l hN (kd_3_2 kd_s1) hv4 _) cvX0_lacksRoomFor mlX1_173 (kd_N (kd_3_2 kd_s1) (by decide) hN) (ceC_0 (kd_3_2 kd_s1) _) rfl rfl rfl hl.1 (Nat.le_of_ble_eq_true rfl) ⟨⟨rfl, rfl⟩, ⟨Nat.le_of_ble_eq_true rfl, Nat.le_of_ble_eq_true rfl⟩, Nat.le_of_ble_eq_true rfl, Nat.le_of_ble_eq_true rfl⟩ dX1_carryOutCut_38) (fun H locs S => ?_)
      refine lv_if_eq (tgt := 47) hx hb dX1_carryOutCut_41 (by decide) (fun c5 => ?_) (fun c5 => ?_)
      · have hf := (if_pos c5).symm.trans hf
        refine lv_aload_n hx hb dX1_carryOutCut_47 rfl (lv_at hl 0 rfl) ?_
        refine gfX1_9 X S hN kd_s20 dX1_carryOutCut_48 ?_
        refine gfX1_118 X S hN kd_s1 dX1_carryOutCut_51 ?_
        refine lv_iload_n hx hb dX1_carryOutCut_54 rfl (lv_at hl 1 rfl) ?_
        obtain ⟨σ6, hσ6, hf⟩ := g_s1 hf
        refine g_kv S (g_runV (rest := []) X S (c_X0_make l hN (kd_3_2 kd_s1) hσ6 _) cvX0_make mlX1_176 (kd_N (kd_3_2 kd_s1) (by decide) hN) (ceC_0 (kd_3_2 kd_s1) _) rfl rfl rfl hl.1 (Nat.le_of_ble_eq_true rfl) ⟨⟨rfl, rfl⟩, ⟨Nat.le_of_ble_eq_true rfl, Nat.le_of_ble_eq_true rfl⟩, Nat.le_of_ble_eq_true rfl, Nat.le_of_ble_eq_true rfl⟩ dX1_carryOutCut_55) (fun H locs S => ?_)
        refine lv_iconst (v := (0 : Int32)) hx hb dX1_carryOutCut_58 (by decide) ?_
        cases hf
        exact g_reti X S rfl dX1_carryOutCut_59
      · have hf := (if_neg c5).symm.trans hf
        refine lv_bipush (v := (8 : Int32)) hx hb dX1_carryOutCut_44 (by decide) ?_
        cases hf
        exact g_reti X S rfl dX1_carryOutCut_46
    · have hf := (if_pos c3).symm.trans hf
      refine lv_aload_n hx hb dX1_carryOutCut_17 rfl (lv_at hl 0 rfl) ?_
      refine gfX1_9 X S hN kd_s20 dX1_carryOutCut_18 ?_
      refine gfX1_118 X S hN kd_s1 dX1_carryOutCut_21 ?_
      refine lv_iload_n hx hb dX1_carryOutCut_24 rfl (lv_at hl 1 rfl) ?_
      obtain ⟨σ7, hσ7, hf⟩ := g_s1 hf
      refine g_kv S (g_runV (rest := []) X S (c_X0_takeAway l hN (kd_3_2 kd_s1) hσ7 _) cvX0_takeAway mlX1_170 (kd_N (kd_3_2 kd_s1) (by decide) hN) (ceC_0 (kd_3_2 kd_s1) _) rfl rfl rfl hl.1 (Nat.le_of_ble_eq_true rfl) ⟨⟨rfl, rfl⟩, ⟨Nat.le_of_ble_eq_true rfl, Nat.le_of_ble_eq_true rfl⟩, Nat.le_of_ble_eq_true rfl, Nat.le_of_ble_eq_true rfl⟩ dX1_carryOutCut_25) (fun H locs S => ?_)
      refine lv_iconst (v := (0 : Int32)) hx hb dX1_carryOutCut_28 (by decide) ?_
      cases hf
      exact g_reti X S rfl dX1_carryOutCut_29
  · have hf := (if_pos c2).symm.trans hf
    refine lv_iconst (v := (1 : Int32)) hx hb dX1_carryOutCut_11 (by decide) ?_
    cases hf
    exact g_reti X S rfl dX1_carryOutCut_12

noncomputable def f_X5_isItem (σ : gSt) (a0 : Int32) : Option (Int32) :=
  (g_k1 (if a0 < 0 then some (0 : Int32) else (if (30 : Int32) ≤ a0 then some (0 : Int32) else some (1 : Int32))) fun x1 => (g_k1 (gzb x1) fun v4 => some v4))
set_option maxRecDepth 100000 in
set_option maxHeartbeats 4000000 in
theorem c_X5_isItem (l : Launch) {Γ : gG} {ad : Nat → Nat} {N : Nat} (hN : 202 ≤ N) {σ : gSt} {a0 : Int32}  {r : Int32} (hf : f_X5_isItem σ a0 = some r) : gMi l celC Γ ad N yX5_isItem cX5_isItem 1 (some .boolean) (gR 1 0 0) [.int a0] σ r σ := by
  intro sz
  refine gOf (Qc := fun sz => gQci celC Γ ad N r σ sz) RX5 (by decide) rfl (Nat.le_of_ble_eq_true rfl) (fun p e s m args below meth c H locs ls X S hl => ?_)
  have hl : lv_has ls 1 [(0, .int a0)] := hl
  have hx := X.1
  have hb := X.2.1
  unfold f_X5_isItem at hf
  refine lv_iload_n hx hb dX5_isItem_0 rfl (lv_at hl 0 rfl) ?_
  obtain ⟨x1, hr2, hf⟩ := g_s1 hf
  have J3 : ∀ (H : Heap) (locs : List Loc) (ls : Array Slot), gS celC Γ ad N σ s H locs → lv_has ls 1 [] → W p l e (gR 1 0 0) s m args below meth c H locs 0 0 (gQi celC Γ ad N r σ below args s) (F0 m 15 ls [.int x1]) := by
    intro H locs ls S hl
    obtain ⟨v4, hv4, hf⟩ := g_s1 hf
    obtain ⟨hnv4, rfl⟩ := gzb_some hv4
    cases hf
    exact g_reti X S hnv4 dX5_isItem_15
  replace hf := hr2
  refine lv_if_lt (tgt := 14) hx hb dX5_isItem_1 (by decide) (fun c5 => ?_) (fun c5 => ?_)
  · have hf := (if_pos c5).symm.trans hf
    refine lv_iconst (v := (0 : Int32)) hx hb dX5_isItem_14 (by decide) ?_
    cases hf
    exact J3 _ _ _ S (lv_sub hl [] rfl)
  · have hf := (if_neg c5).symm.trans hf
    refine lv_iload_n hx hb dX5_isItem_4 rfl (lv_at hl 0 rfl) ?_
    refine lv_bipush (v := (30 : Int32)) hx hb dX5_isItem_5 (by decide) ?_
    refine lv_icmp_ge (tgt := 14) hx hb dX5_isItem_7 (by decide) (fun c6 => ?_) (fun c6 => ?_)
    · have hf := (if_pos c6).symm.trans hf
      refine lv_iconst (v := (0 : Int32)) hx hb dX5_isItem_14 (by decide) ?_
      cases hf
      exact J3 _ _ _ S (lv_sub hl [] rfl)
    · have hf := (if_neg c6).symm.trans hf
      refine lv_iconst (v := (1 : Int32)) hx hb dX5_isItem_10 (by decide) ?_
      refine lv_goto (tgt := 15) hx hb dX5_isItem_11 (by decide) ?_
      cases hf
      exact J3 _ _ _ S (lv_sub hl [] rfl)

noncomputable def f_X5_what (σ : gSt) (a0 : Int32) : Option (Int32) :=
  (g_k1 (f_X5_isItem σ a0) fun v1 => (g_k1 (if v1 = 0 then some (0 : Int32) else (g_k1 (gald σ 192 30 a0) fun v6 => some v6)) fun x2 => some x2))
set_option maxRecDepth 100000 in
set_option maxHeartbeats 4000000 in
theorem c_X5_what (l : Launch) {Γ : gG} {ad : Nat → Nat} {N : Nat} (hN : 202 ≤ N) {σ : gSt} {a0 : Int32}  {r : Int32} (hf : f_X5_what σ a0 = some r) : gMi l celC Γ ad N yX5_what cX5_what 2 (some .int) (gR 2 0 0) [.ref (ad 191), .int a0] σ r σ := by
  intro sz
  refine gOf (Qc := fun sz => gQci celC Γ ad N r σ sz) RX5 (by decide) rfl (Nat.le_of_ble_eq_true rfl) (fun p e s m args below meth c H locs ls X S hl => ?_)
  have hl : lv_has ls 2 [(0, .ref (ad 191)), (1, .int a0)] := hl
  have hx := X.1
  have hb := X.2.1
  unfold f_X5_what at hf
  refine lv_iload_n hx hb dX5_what_0 rfl (lv_at hl 1 rfl) ?_
  obtain ⟨v1, hv1, hf⟩ := g_s1 hf
  refine g_ki S (g_runS (rest := []) X S (c_X5_isItem l hN  hv1 _) csX5_isItem mlX5_47 rfl rfl hl.1 (Nat.le_of_ble_eq_true rfl) ⟨⟨rfl, rfl⟩, ⟨Nat.le_of_ble_eq_true rfl, Nat.le_of_ble_eq_true rfl⟩, Nat.le_of_ble_eq_true rfl, Nat.le_of_ble_eq_true rfl⟩ dX5_what_1) (fun H locs S => ?_)
  obtain ⟨x2, hr3, hf⟩ := g_s1 hf
  have J4 : ∀ (H : Heap) (locs : List Loc) (ls : Array Slot), gS celC Γ ad N σ s H locs → lv_has ls 2 [] → W p l e (gR 2 0 0) s m args below meth c H locs 0 0 (gQi celC Γ ad N r σ below args s) (F0 m 17 ls [.int x2]) := by
    intro H locs ls S hl
    cases hf
    exact g_reti X S rfl dX5_what_17
  replace hf := hr3
  refine lv_if_eq (tgt := 16) hx hb dX5_what_4 (by decide) (fun c5 => ?_) (fun c5 => ?_)
  · have hf := (if_pos c5).symm.trans hf
    refine lv_iconst (v := (0 : Int32)) hx hb dX5_what_16 (by decide) ?_
    cases hf
    exact J4 _ _ _ S (lv_sub hl [] rfl)
  · have hf := (if_neg c5).symm.trans hf
    refine lv_aload_n hx hb dX5_what_7 rfl (lv_at hl 0 rfl) ?_
    refine gfX5_9 X S hN kd_s191 dX5_what_8 ?_
    refine lv_iload_n hx hb dX5_what_11 rfl (lv_at hl 1 rfl) ?_
    obtain ⟨v6, hv6, hf⟩ := g_s1 hf
    refine g_iald X S (kd_N kd_s192 (by decide) hN) (ceC_130 kd_s192) hv6 dX5_what_12 ?_
    refine lv_goto (tgt := 17) hx hb dX5_what_13 (by decide) ?_
    cases hf
    exact J4 _ _ _ S (lv_sub hl [] rfl)

noncomputable def f_X5_trackOfItem (σ : gSt) (a0 : Int32) : Option (Int32) :=
  (g_k1 (f_X5_isItem σ a0) fun v1 => (g_k1 (if v1 = 0 then some (0 : Int32) else (g_k1 (gald σ 193 30 a0) fun v6 => some v6)) fun x2 => some x2))
set_option maxRecDepth 100000 in
set_option maxHeartbeats 4000000 in
theorem c_X5_trackOfItem (l : Launch) {Γ : gG} {ad : Nat → Nat} {N : Nat} (hN : 202 ≤ N) {σ : gSt} {a0 : Int32}  {r : Int32} (hf : f_X5_trackOfItem σ a0 = some r) : gMi l celC Γ ad N yX5_trackOfItem cX5_trackOfItem 2 (some .int) (gR 2 0 0) [.ref (ad 191), .int a0] σ r σ := by
  intro sz
  refine gOf (Qc := fun sz => gQci celC Γ ad N r σ sz) RX5 (by decide) rfl (Nat.le_of_ble_eq_true rfl) (fun p e s m args below meth c H locs ls X S hl => ?_)
  have hl : lv_has ls 2 [(0, .ref (ad 191)), (1, .int a0)] := hl
  have hx := X.1
  have hb := X.2.1
  unfold f_X5_trackOfItem at hf
  refine lv_iload_n hx hb dX5_trackOfItem_0 rfl (lv_at hl 1 rfl) ?_
  obtain ⟨v1, hv1, hf⟩ := g_s1 hf
  refine g_ki S (g_runS (rest := []) X S (c_X5_isItem l hN  hv1 _) csX5_isItem mlX5_47 rfl rfl hl.1 (Nat.le_of_ble_eq_true rfl) ⟨⟨rfl, rfl⟩, ⟨Nat.le_of_ble_eq_true rfl, Nat.le_of_ble_eq_true rfl⟩, Nat.le_of_ble_eq_true rfl, Nat.le_of_ble_eq_true rfl⟩ dX5_trackOfItem_1) (fun H locs S => ?_)
  obtain ⟨x2, hr3, hf⟩ := g_s1 hf
  have J4 : ∀ (H : Heap) (locs : List Loc) (ls : Array Slot), gS celC Γ ad N σ s H locs → lv_has ls 2 [] → W p l e (gR 2 0 0) s m args below meth c H locs 0 0 (gQi celC Γ ad N r σ below args s) (F0 m 17 ls [.int x2]) := by
    intro H locs ls S hl
    cases hf
    exact g_reti X S rfl dX5_trackOfItem_17
  replace hf := hr3
  refine lv_if_eq (tgt := 16) hx hb dX5_trackOfItem_4 (by decide) (fun c5 => ?_) (fun c5 => ?_)
  · have hf := (if_pos c5).symm.trans hf
    refine lv_iconst (v := (0 : Int32)) hx hb dX5_trackOfItem_16 (by decide) ?_
    cases hf
    exact J4 _ _ _ S (lv_sub hl [] rfl)
  · have hf := (if_neg c5).symm.trans hf
    refine lv_aload_n hx hb dX5_trackOfItem_7 rfl (lv_at hl 0 rfl) ?_
    refine gfX5_15 X S hN kd_s191 dX5_trackOfItem_8 ?_
    refine lv_iload_n hx hb dX5_trackOfItem_11 rfl (lv_at hl 1 rfl) ?_
    obtain ⟨v6, hv6, hf⟩ := g_s1 hf
    refine g_iald X S (kd_N kd_s193 (by decide) hN) (ceC_130 kd_s193) hv6 dX5_trackOfItem_12 ?_
    refine lv_goto (tgt := 17) hx hb dX5_trackOfItem_13 (by decide) ?_
    cases hf
    exact J4 _ _ _ S (lv_sub hl [] rfl)

noncomputable def f_X5_kind (σ : gSt) (a0 : Int32) : Option (Int32) :=
  (g_k1 (f_X5_isItem σ a0) fun v1 => (g_k1 (if v1 = 0 then some (0 : Int32) else (g_k1 (gald σ 194 30 a0) fun v6 => some v6)) fun x2 => some x2))
set_option maxRecDepth 100000 in
set_option maxHeartbeats 4000000 in
theorem c_X5_kind (l : Launch) {Γ : gG} {ad : Nat → Nat} {N : Nat} (hN : 202 ≤ N) {σ : gSt} {a0 : Int32}  {r : Int32} (hf : f_X5_kind σ a0 = some r) : gMi l celC Γ ad N yX5_kind cX5_kind 2 (some .int) (gR 2 0 0) [.ref (ad 191), .int a0] σ r σ := by
  intro sz
  refine gOf (Qc := fun sz => gQci celC Γ ad N r σ sz) RX5 (by decide) rfl (Nat.le_of_ble_eq_true rfl) (fun p e s m args below meth c H locs ls X S hl => ?_)
  have hl : lv_has ls 2 [(0, .ref (ad 191)), (1, .int a0)] := hl
  have hx := X.1
  have hb := X.2.1
  unfold f_X5_kind at hf
  refine lv_iload_n hx hb dX5_kind_0 rfl (lv_at hl 1 rfl) ?_
  obtain ⟨v1, hv1, hf⟩ := g_s1 hf
  refine g_ki S (g_runS (rest := []) X S (c_X5_isItem l hN  hv1 _) csX5_isItem mlX5_47 rfl rfl hl.1 (Nat.le_of_ble_eq_true rfl) ⟨⟨rfl, rfl⟩, ⟨Nat.le_of_ble_eq_true rfl, Nat.le_of_ble_eq_true rfl⟩, Nat.le_of_ble_eq_true rfl, Nat.le_of_ble_eq_true rfl⟩ dX5_kind_1) (fun H locs S => ?_)
  obtain ⟨x2, hr3, hf⟩ := g_s1 hf
  have J4 : ∀ (H : Heap) (locs : List Loc) (ls : Array Slot), gS celC Γ ad N σ s H locs → lv_has ls 2 [] → W p l e (gR 2 0 0) s m args below meth c H locs 0 0 (gQi celC Γ ad N r σ below args s) (F0 m 17 ls [.int x2]) := by
    intro H locs ls S hl
    cases hf
    exact g_reti X S rfl dX5_kind_17
  replace hf := hr3
  refine lv_if_eq (tgt := 16) hx hb dX5_kind_4 (by decide) (fun c5 => ?_) (fun c5 => ?_)
  · have hf := (if_pos c5).symm.trans hf
    refine lv_iconst (v := (0 : Int32)) hx hb dX5_kind_16 (by decide) ?_
    cases hf
    exact J4 _ _ _ S (lv_sub hl [] rfl)
  · have hf := (if_neg c5).symm.trans hf
    refine lv_aload_n hx hb dX5_kind_7 rfl (lv_at hl 0 rfl) ?_
    refine gfX5_18 X S hN kd_s191 dX5_kind_8 ?_
    refine lv_iload_n hx hb dX5_kind_11 rfl (lv_at hl 1 rfl) ?_
    obtain ⟨v6, hv6, hf⟩ := g_s1 hf
    refine g_iald X S (kd_N kd_s194 (by decide) hN) (ceC_130 kd_s194) hv6 dX5_kind_12 ?_
    refine lv_goto (tgt := 17) hx hb dX5_kind_13 (by decide) ?_
    cases hf
    exact J4 _ _ _ S (lv_sub hl [] rfl)

noncomputable def f_X5_first (σ : gSt) (a0 : Int32) : Option (Int32) :=
  (g_k1 (f_X5_isItem σ a0) fun v1 => (g_k1 (if v1 = 0 then some (0 : Int32) else (g_k1 (gald σ 195 30 a0) fun v6 => some v6)) fun x2 => some x2))
set_option maxRecDepth 100000 in
set_option maxHeartbeats 4000000 in
theorem c_X5_first (l : Launch) {Γ : gG} {ad : Nat → Nat} {N : Nat} (hN : 202 ≤ N) {σ : gSt} {a0 : Int32}  {r : Int32} (hf : f_X5_first σ a0 = some r) : gMi l celC Γ ad N yX5_first cX5_first 2 (some .int) (gR 2 0 0) [.ref (ad 191), .int a0] σ r σ := by
  intro sz
  refine gOf (Qc := fun sz => gQci celC Γ ad N r σ sz) RX5 (by decide) rfl (Nat.le_of_ble_eq_true rfl) (fun p e s m args below meth c H locs ls X S hl => ?_)
  have hl : lv_has ls 2 [(0, .ref (ad 191)), (1, .int a0)] := hl
  have hx := X.1
  have hb := X.2.1
  unfold f_X5_first at hf
  refine lv_iload_n hx hb dX5_first_0 rfl (lv_at hl 1 rfl) ?_
  obtain ⟨v1, hv1, hf⟩ := g_s1 hf
  refine g_ki S (g_runS (rest := []) X S (c_X5_isItem l hN  hv1 _) csX5_isItem mlX5_47 rfl rfl hl.1 (Nat.le_of_ble_eq_true rfl) ⟨⟨rfl, rfl⟩, ⟨Nat.le_of_ble_eq_true rfl, Nat.le_of_ble_eq_true rfl⟩, Nat.le_of_ble_eq_true rfl, Nat.le_of_ble_eq_true rfl⟩ dX5_first_1) (fun H locs S => ?_)
  obtain ⟨x2, hr3, hf⟩ := g_s1 hf
  have J4 : ∀ (H : Heap) (locs : List Loc) (ls : Array Slot), gS celC Γ ad N σ s H locs → lv_has ls 2 [] → W p l e (gR 2 0 0) s m args below meth c H locs 0 0 (gQi celC Γ ad N r σ below args s) (F0 m 17 ls [.int x2]) := by
    intro H locs ls S hl
    cases hf
    exact g_reti X S rfl dX5_first_17
  replace hf := hr3
  refine lv_if_eq (tgt := 16) hx hb dX5_first_4 (by decide) (fun c5 => ?_) (fun c5 => ?_)
  · have hf := (if_pos c5).symm.trans hf
    refine lv_iconst (v := (0 : Int32)) hx hb dX5_first_16 (by decide) ?_
    cases hf
    exact J4 _ _ _ S (lv_sub hl [] rfl)
  · have hf := (if_neg c5).symm.trans hf
    refine lv_aload_n hx hb dX5_first_7 rfl (lv_at hl 0 rfl) ?_
    refine gfX5_21 X S hN kd_s191 dX5_first_8 ?_
    refine lv_iload_n hx hb dX5_first_11 rfl (lv_at hl 1 rfl) ?_
    obtain ⟨v6, hv6, hf⟩ := g_s1 hf
    refine g_iald X S (kd_N kd_s195 (by decide) hN) (ceC_130 kd_s195) hv6 dX5_first_12 ?_
    refine lv_goto (tgt := 17) hx hb dX5_first_13 (by decide) ?_
    cases hf
    exact J4 _ _ _ S (lv_sub hl [] rfl)

noncomputable def f_X5_end (σ : gSt) (a0 : Int32) : Option (Int32) :=
  (g_k1 (f_X5_isItem σ a0) fun v1 => (g_k1 (if v1 = 0 then some (0 : Int32) else (g_k1 (gald σ 196 30 a0) fun v6 => some v6)) fun x2 => some x2))
set_option maxRecDepth 100000 in
set_option maxHeartbeats 4000000 in
theorem c_X5_end (l : Launch) {Γ : gG} {ad : Nat → Nat} {N : Nat} (hN : 202 ≤ N) {σ : gSt} {a0 : Int32}  {r : Int32} (hf : f_X5_end σ a0 = some r) : gMi l celC Γ ad N yX5_end cX5_end 2 (some .int) (gR 2 0 0) [.ref (ad 191), .int a0] σ r σ := by
  intro sz
  refine gOf (Qc := fun sz => gQci celC Γ ad N r σ sz) RX5 (by decide) rfl (Nat.le_of_ble_eq_true rfl) (fun p e s m args below meth c H locs ls X S hl => ?_)
  have hl : lv_has ls 2 [(0, .ref (ad 191)), (1, .int a0)] := hl
  have hx := X.1
  have hb := X.2.1
  unfold f_X5_end at hf
  refine lv_iload_n hx hb dX5_end_0 rfl (lv_at hl 1 rfl) ?_
  obtain ⟨v1, hv1, hf⟩ := g_s1 hf
  refine g_ki S (g_runS (rest := []) X S (c_X5_isItem l hN  hv1 _) csX5_isItem mlX5_47 rfl rfl hl.1 (Nat.le_of_ble_eq_true rfl) ⟨⟨rfl, rfl⟩, ⟨Nat.le_of_ble_eq_true rfl, Nat.le_of_ble_eq_true rfl⟩, Nat.le_of_ble_eq_true rfl, Nat.le_of_ble_eq_true rfl⟩ dX5_end_1) (fun H locs S => ?_)
  obtain ⟨x2, hr3, hf⟩ := g_s1 hf
  have J4 : ∀ (H : Heap) (locs : List Loc) (ls : Array Slot), gS celC Γ ad N σ s H locs → lv_has ls 2 [] → W p l e (gR 2 0 0) s m args below meth c H locs 0 0 (gQi celC Γ ad N r σ below args s) (F0 m 17 ls [.int x2]) := by
    intro H locs ls S hl
    cases hf
    exact g_reti X S rfl dX5_end_17
  replace hf := hr3
  refine lv_if_eq (tgt := 16) hx hb dX5_end_4 (by decide) (fun c5 => ?_) (fun c5 => ?_)
  · have hf := (if_pos c5).symm.trans hf
    refine lv_iconst (v := (0 : Int32)) hx hb dX5_end_16 (by decide) ?_
    cases hf
    exact J4 _ _ _ S (lv_sub hl [] rfl)
  · have hf := (if_neg c5).symm.trans hf
    refine lv_aload_n hx hb dX5_end_7 rfl (lv_at hl 0 rfl) ?_
    refine gfX5_24 X S hN kd_s191 dX5_end_8 ?_
    refine lv_iload_n hx hb dX5_end_11 rfl (lv_at hl 1 rfl) ?_
    obtain ⟨v6, hv6, hf⟩ := g_s1 hf
    refine g_iald X S (kd_N kd_s196 (by decide) hN) (ceC_130 kd_s196) hv6 dX5_end_12 ?_
    refine lv_goto (tgt := 17) hx hb dX5_end_13 (by decide) ?_
    cases hf
    exact J4 _ _ _ S (lv_sub hl [] rfl)

noncomputable def f_X5_wordsFrom (σ : gSt) (a0 : Int32) : Option (Int32) :=
  (g_k1 (f_X5_isItem σ a0) fun v1 => (g_k1 (if v1 = 0 then some (0 : Int32) else (g_k1 (gald σ 197 30 a0) fun v6 => some v6)) fun x2 => some x2))
set_option maxRecDepth 100000 in
set_option maxHeartbeats 4000000 in
theorem c_X5_wordsFrom (l : Launch) {Γ : gG} {ad : Nat → Nat} {N : Nat} (hN : 202 ≤ N) {σ : gSt} {a0 : Int32}  {r : Int32} (hf : f_X5_wordsFrom σ a0 = some r) : gMi l celC Γ ad N yX5_wordsFrom cX5_wordsFrom 2 (some .int) (gR 2 0 0) [.ref (ad 191), .int a0] σ r σ := by
  intro sz
  refine gOf (Qc := fun sz => gQci celC Γ ad N r σ sz) RX5 (by decide) rfl (Nat.le_of_ble_eq_true rfl) (fun p e s m args below meth c H locs ls X S hl => ?_)
  have hl : lv_has ls 2 [(0, .ref (ad 191)), (1, .int a0)] := hl
  have hx := X.1
  have hb := X.2.1
  unfold f_X5_wordsFrom at hf
  refine lv_iload_n hx hb dX5_wordsFrom_0 rfl (lv_at hl 1 rfl) ?_
  obtain ⟨v1, hv1, hf⟩ := g_s1 hf
  refine g_ki S (g_runS (rest := []) X S (c_X5_isItem l hN  hv1 _) csX5_isItem mlX5_47 rfl rfl hl.1 (Nat.le_of_ble_eq_true rfl) ⟨⟨rfl, rfl⟩, ⟨Nat.le_of_ble_eq_true rfl, Nat.le_of_ble_eq_true rfl⟩, Nat.le_of_ble_eq_true rfl, Nat.le_of_ble_eq_true rfl⟩ dX5_wordsFrom_1) (fun H locs S => ?_)
  obtain ⟨x2, hr3, hf⟩ := g_s1 hf
  have J4 : ∀ (H : Heap) (locs : List Loc) (ls : Array Slot), gS celC Γ ad N σ s H locs → lv_has ls 2 [] → W p l e (gR 2 0 0) s m args below meth c H locs 0 0 (gQi celC Γ ad N r σ below args s) (F0 m 17 ls [.int x2]) := by
    intro H locs ls S hl
    cases hf
    exact g_reti X S rfl dX5_wordsFrom_17
  replace hf := hr3
  refine lv_if_eq (tgt := 16) hx hb dX5_wordsFrom_4 (by decide) (fun c5 => ?_) (fun c5 => ?_)
  · have hf := (if_pos c5).symm.trans hf
    refine lv_iconst (v := (0 : Int32)) hx hb dX5_wordsFrom_16 (by decide) ?_
    cases hf
    exact J4 _ _ _ S (lv_sub hl [] rfl)
  · have hf := (if_neg c5).symm.trans hf
    refine lv_aload_n hx hb dX5_wordsFrom_7 rfl (lv_at hl 0 rfl) ?_
    refine gfX5_27 X S hN kd_s191 dX5_wordsFrom_8 ?_
    refine lv_iload_n hx hb dX5_wordsFrom_11 rfl (lv_at hl 1 rfl) ?_
    obtain ⟨v6, hv6, hf⟩ := g_s1 hf
    refine g_iald X S (kd_N kd_s197 (by decide) hN) (ceC_130 kd_s197) hv6 dX5_wordsFrom_12 ?_
    refine lv_goto (tgt := 17) hx hb dX5_wordsFrom_13 (by decide) ?_
    cases hf
    exact J4 _ _ _ S (lv_sub hl [] rfl)

noncomputable def f_X5_wordsTo (σ : gSt) (a0 : Int32) : Option (Int32) :=
  (g_k1 (f_X5_isItem σ a0) fun v1 => (g_k1 (if v1 = 0 then some (0 : Int32) else (g_k1 (gald σ 198 30 a0) fun v6 => some v6)) fun x2 => some x2))
set_option maxRecDepth 100000 in
set_option maxHeartbeats 4000000 in
theorem c_X5_wordsTo (l : Launch) {Γ : gG} {ad : Nat → Nat} {N : Nat} (hN : 202 ≤ N) {σ : gSt} {a0 : Int32}  {r : Int32} (hf : f_X5_wordsTo σ a0 = some r) : gMi l celC Γ ad N yX5_wordsTo cX5_wordsTo 2 (some .int) (gR 2 0 0) [.ref (ad 191), .int a0] σ r σ := by
  intro sz
  refine gOf (Qc := fun sz => gQci celC Γ ad N r σ sz) RX5 (by decide) rfl (Nat.le_of_ble_eq_true rfl) (fun p e s m args below meth c H locs ls X S hl => ?_)
  have hl : lv_has ls 2 [(0, .ref (ad 191)), (1, .int a0)] := hl
  have hx := X.1
  have hb := X.2.1
  unfold f_X5_wordsTo at hf
  refine lv_iload_n hx hb dX5_wordsTo_0 rfl (lv_at hl 1 rfl) ?_
  obtain ⟨v1, hv1, hf⟩ := g_s1 hf
  refine g_ki S (g_runS (rest := []) X S (c_X5_isItem l hN  hv1 _) csX5_isItem mlX5_47 rfl rfl hl.1 (Nat.le_of_ble_eq_true rfl) ⟨⟨rfl, rfl⟩, ⟨Nat.le_of_ble_eq_true rfl, Nat.le_of_ble_eq_true rfl⟩, Nat.le_of_ble_eq_true rfl, Nat.le_of_ble_eq_true rfl⟩ dX5_wordsTo_1) (fun H locs S => ?_)
  obtain ⟨x2, hr3, hf⟩ := g_s1 hf
  have J4 : ∀ (H : Heap) (locs : List Loc) (ls : Array Slot), gS celC Γ ad N σ s H locs → lv_has ls 2 [] → W p l e (gR 2 0 0) s m args below meth c H locs 0 0 (gQi celC Γ ad N r σ below args s) (F0 m 17 ls [.int x2]) := by
    intro H locs ls S hl
    cases hf
    exact g_reti X S rfl dX5_wordsTo_17
  replace hf := hr3
  refine lv_if_eq (tgt := 16) hx hb dX5_wordsTo_4 (by decide) (fun c5 => ?_) (fun c5 => ?_)
  · have hf := (if_pos c5).symm.trans hf
    refine lv_iconst (v := (0 : Int32)) hx hb dX5_wordsTo_16 (by decide) ?_
    cases hf
    exact J4 _ _ _ S (lv_sub hl [] rfl)
  · have hf := (if_neg c5).symm.trans hf
    refine lv_aload_n hx hb dX5_wordsTo_7 rfl (lv_at hl 0 rfl) ?_
    refine gfX5_30 X S hN kd_s191 dX5_wordsTo_8 ?_
    refine lv_iload_n hx hb dX5_wordsTo_11 rfl (lv_at hl 1 rfl) ?_
    obtain ⟨v6, hv6, hf⟩ := g_s1 hf
    refine g_iald X S (kd_N kd_s198 (by decide) hN) (ceC_130 kd_s198) hv6 dX5_wordsTo_12 ?_
    refine lv_goto (tgt := 17) hx hb dX5_wordsTo_13 (by decide) ?_
    cases hf
    exact J4 _ _ _ S (lv_sub hl [] rfl)

noncomputable def f_X5_takeSign (σ : gSt) (a0 : Int32) : Option (Int32 × gSt) :=
  (if gkd ((σ 191 9).toNatClampNeg) = 7 then (g_k1 (f_X7_signAt σ ((σ 191 9).toNatClampNeg) (σ 191 8)) fun v2 => (if v2 = a0 then (g_k1 (gset σ 191 8 ((σ 191 8) + (1 : Int32))) fun σ4 => some ((1 : Int32), σ4)) else some ((0 : Int32), σ))) else none)
set_option maxRecDepth 100000 in
set_option maxHeartbeats 4000000 in
theorem c_X5_takeSign (l : Launch) {Γ : gG} {ad : Nat → Nat} {N : Nat} (hN : 202 ≤ N) {σ : gSt} {a0 : Int32}  {r : Int32} {σ' : gSt} (hf : f_X5_takeSign σ a0 = some (r, σ')) : gMi l celC Γ ad N yX5_takeSign cX5_takeSign 2 (some .boolean) (gR 2 0 0) [.ref (ad 191), .int a0] σ r σ' := by
  intro sz
  refine gOf (Qc := fun sz => gQci celC Γ ad N r σ' sz) RX5 (by decide) rfl (Nat.le_of_ble_eq_true rfl) (fun p e s m args below meth c H locs ls X S hl => ?_)
  have hl : lv_has ls 2 [(0, .ref (ad 191)), (1, .int a0)] := hl
  have hx := X.1
  have hb := X.2.1
  unfold f_X5_takeSign at hf
  refine lv_aload_n hx hb dX5_takeSign_0 rfl (lv_at hl 0 rfl) ?_
  refine gfX5_43 X S hN kd_s191 dX5_takeSign_1 ?_
  obtain ⟨hk1, hf⟩ := g_if hf
  refine lv_aload_n hx hb dX5_takeSign_4 rfl (lv_at hl 0 rfl) ?_
  refine gfX5_37 X S hN kd_s191 dX5_takeSign_5 ?_
  obtain ⟨v2, hv2, hf⟩ := g_s1 hf
  refine g_ki S (g_runV (rest := []) X S (c_X7_signAt l hN hk1 hv2 _) cvX7_signAt mlX5_78 (kd_N hk1 (by decide) hN) (ceC_7 hk1 _) rfl rfl rfl hl.1 (Nat.le_of_ble_eq_true rfl) ⟨⟨rfl, rfl⟩, ⟨Nat.le_of_ble_eq_true rfl, Nat.le_of_ble_eq_true rfl⟩, Nat.le_of_ble_eq_true rfl, Nat.le_of_ble_eq_true rfl⟩ dX5_takeSign_8) (fun H locs S => ?_)
  refine lv_iload_n hx hb dX5_takeSign_11 rfl (lv_at hl 1 rfl) ?_
  refine lv_icmp_eq (tgt := 17) hx hb dX5_takeSign_12 (by decide) (fun c3 => ?_) (fun c3 => ?_)
  · have hf := (if_pos c3).symm.trans hf
    refine lv_aload_n hx hb dX5_takeSign_17 rfl (lv_at hl 0 rfl) ?_
    refine lv_dup hx hb dX5_takeSign_18 rfl ?_
    refine gfX5_37 X S hN kd_s191 dX5_takeSign_19 ?_
    refine lv_iconst (v := (1 : Int32)) hx hb dX5_takeSign_22 (by decide) ?_
    refine lv_iadd hx hb dX5_takeSign_23 ?_
    obtain ⟨σ4, hσ4, hf⟩ := g_s1 hf
    refine pfX5_37 X S hN kd_s191 hσ4 dX5_takeSign_24 (fun H locs S => ?_)
    refine lv_iconst (v := (1 : Int32)) hx hb dX5_takeSign_27 (by decide) ?_
    cases hf
    exact g_reti X S (by decide +kernel) dX5_takeSign_28
  · have hf := (if_neg c3).symm.trans hf
    refine lv_iconst (v := (0 : Int32)) hx hb dX5_takeSign_15 (by decide) ?_
    cases hf
    exact g_reti X S (by decide +kernel) dX5_takeSign_16

noncomputable def f_X5_isDigit (σ : gSt) (a0 : Int32) : Option (Int32) :=
  (g_k1 (if a0 < (48 : Int32) then some (0 : Int32) else (if (57 : Int32) < a0 then some (0 : Int32) else some (1 : Int32))) fun x1 => (g_k1 (gzb x1) fun v4 => some v4))
set_option maxRecDepth 100000 in
set_option maxHeartbeats 4000000 in
theorem c_X5_isDigit (l : Launch) {Γ : gG} {ad : Nat → Nat} {N : Nat} (hN : 202 ≤ N) {σ : gSt} {a0 : Int32}  {r : Int32} (hf : f_X5_isDigit σ a0 = some r) : gMi l celC Γ ad N yX5_isDigit cX5_isDigit 1 (some .boolean) (gR 1 0 0) [.int a0] σ r σ := by
  intro sz
  refine gOf (Qc := fun sz => gQci celC Γ ad N r σ sz) RX5 (by decide) rfl (Nat.le_of_ble_eq_true rfl) (fun p e s m args below meth c H locs ls X S hl => ?_)
  have hl : lv_has ls 1 [(0, .int a0)] := hl
  have hx := X.1
  have hb := X.2.1
  unfold f_X5_isDigit at hf
  refine lv_iload_n hx hb dX5_isDigit_0 rfl (lv_at hl 0 rfl) ?_
  refine lv_bipush (v := (48 : Int32)) hx hb dX5_isDigit_1 (by decide) ?_
  obtain ⟨x1, hr2, hf⟩ := g_s1 hf
  have J3 : ∀ (H : Heap) (locs : List Loc) (ls : Array Slot), gS celC Γ ad N σ s H locs → lv_has ls 1 [] → W p l e (gR 1 0 0) s m args below meth c H locs 0 0 (gQi celC Γ ad N r σ below args s) (F0 m 17 ls [.int x1]) := by
    intro H locs ls S hl
    obtain ⟨v4, hv4, hf⟩ := g_s1 hf
    obtain ⟨hnv4, rfl⟩ := gzb_some hv4
    cases hf
    exact g_reti X S hnv4 dX5_isDigit_17
  replace hf := hr2
  refine lv_icmp_lt (tgt := 16) hx hb dX5_isDigit_3 (by decide) (fun c5 => ?_) (fun c5 => ?_)
  · have hf := (if_pos c5).symm.trans hf
    refine lv_iconst (v := (0 : Int32)) hx hb dX5_isDigit_16 (by decide) ?_
    cases hf
    exact J3 _ _ _ S (lv_sub hl [] rfl)
  · have hf := (if_neg c5).symm.trans hf
    refine lv_iload_n hx hb dX5_isDigit_6 rfl (lv_at hl 0 rfl) ?_
    refine lv_bipush (v := (57 : Int32)) hx hb dX5_isDigit_7 (by decide) ?_
    refine lv_icmp_gt (tgt := 16) hx hb dX5_isDigit_9 (by decide) (fun c6 => ?_) (fun c6 => ?_)
    · have hf := (if_pos c6).symm.trans hf
      refine lv_iconst (v := (0 : Int32)) hx hb dX5_isDigit_16 (by decide) ?_
      cases hf
      exact J3 _ _ _ S (lv_sub hl [] rfl)
    · have hf := (if_neg c6).symm.trans hf
      refine lv_iconst (v := (1 : Int32)) hx hb dX5_isDigit_12 (by decide) ?_
      refine lv_goto (tgt := 17) hx hb dX5_isDigit_13 (by decide) ?_
      cases hf
      exact J3 _ _ _ S (lv_sub hl [] rfl)

noncomputable def f_X5_readNumber_l1 (σ : gSt) : Nat → Int32 → Int32 → gSt → Option (Int32 × Int32 × gSt)
  | 0, _, _, _ => none
  | n + 1, i1, i2, σ3 => (if (4 : Int32) ≤ i1 then some (i1, i2, σ3) else (if gkd ((σ3 191 9).toNatClampNeg) = 7 then (g_k1 (f_X7_signAt σ3 ((σ3 191 9).toNatClampNeg) (σ3 191 8)) fun v9 => (g_k1 (f_X5_isDigit σ3 v9) fun v10 => (if v10 = 0 then some (i1, i2, σ3) else (if gkd ((σ3 191 9).toNatClampNeg) = 7 then (g_k1 (f_X7_signAt σ3 ((σ3 191 9).toNatClampNeg) (σ3 191 8)) fun v13 => (g_k1 (gset σ3 191 8 ((σ3 191 8) + (1 : Int32))) fun σ14 => (f_X5_readNumber_l1 σ n (i1 + 1) (((i2 * (10 : Int32)) + v13) - (48 : Int32)) σ14))) else none)))) else none))
set_option maxRecDepth 100000 in
set_option maxHeartbeats 4000000 in
theorem w_X5_readNumber_l1 {l : Launch} {Γ : gG} {ad : Nat → Nat} {N : Nat} {p : Program} {e : Env} {s : State} {m : MethodId} {args : Array Value} {below : List Frame} {meth : Method} {c : Code} {Q : State → Prop} (hN : 202 ≤ N) (X : gX celC Γ ad N RX5 cX5_readNumber 3 (some .int) p s m args meth c) {σ : gSt}  : ∀ (n : Nat) (i1 : Int32) (i2 : Int32) (σ3 : gSt) (r4 : Int32) (r5 : Int32) (σ6 : gSt), f_X5_readNumber_l1 σ n i1 i2 σ3 = some (r4, r5, σ6) → (∀ (H : Heap) (locs : List Loc) (ls : Array Slot), gS celC Γ ad N σ6 s H locs → lv_has ls 3 [(2, .int r4), (1, .int r5)] → W p l e (gR 2 0 0) s m args below meth c H locs 0 0 (Q) (F0 m 62 ls [])) → ∀ (H : Heap) (locs : List Loc) (ls : Array Slot), gS celC Γ ad N σ3 s H locs → lv_has ls 3 [(2, .int i1), (1, .int i2), (0, .ref (ad 191))] → W p l e (gR 2 0 0) s m args below meth c H locs 0 0 (Q) (F0 m 4 ls []) := by
  have hx := X.1
  have hb := X.2.1
  intro n
  induction n with
  | zero =>
    intro i1 i2 σ3 r4 r5 σ6 hf
    cases hf
  | succ n ih =>
    intro i1 i2 σ3 r4 r5 σ6 hf J H locs ls S hl
    rw [f_X5_readNumber_l1] at hf
    refine lv_iload_n hx hb dX5_readNumber_4 rfl (lv_at hl 0 rfl) ?_
    refine lv_iconst (v := (4 : Int32)) hx hb dX5_readNumber_5 (by decide) ?_
    refine lv_icmp_ge (tgt := 62) hx hb dX5_readNumber_6 (by decide) (fun c7 => ?_) (fun c7 => ?_)
    · have hf := (if_pos c7).symm.trans hf
      cases hf
      exact J _ _ _ S (lv_sub hl [0, 1] rfl)
    · have hf := (if_neg c7).symm.trans hf
      refine lv_aload_n hx hb dX5_readNumber_9 rfl (lv_at hl 2 rfl) ?_
      refine gfX5_43 X S hN kd_s191 dX5_readNumber_10 ?_
      obtain ⟨hk8, hf⟩ := g_if hf
      refine lv_aload_n hx hb dX5_readNumber_13 rfl (lv_at hl 2 rfl) ?_
      refine gfX5_37 X S hN kd_s191 dX5_readNumber_14 ?_
      obtain ⟨v9, hv9, hf⟩ := g_s1 hf
      refine g_ki S (g_runV (rest := []) X S (c_X7_signAt l hN hk8 hv9 _) cvX7_signAt mlX5_78 (kd_N hk8 (by decide) hN) (ceC_7 hk8 _) rfl rfl rfl hl.1 (Nat.le_of_ble_eq_true rfl) ⟨⟨rfl, rfl⟩, ⟨Nat.le_of_ble_eq_true rfl, Nat.le_of_ble_eq_true rfl⟩, Nat.le_of_ble_eq_true rfl, Nat.le_of_ble_eq_true rfl⟩ dX5_readNumber_17) (fun H locs S => ?_)
      obtain ⟨v10, hv10, hf⟩ := g_s1 hf
      refine g_ki S (g_runS (rest := []) X S (c_X5_isDigit l hN  hv10 _) csX5_isDigit mlX5_82 rfl rfl hl.1 (Nat.le_of_ble_eq_true rfl) ⟨⟨rfl, rfl⟩, ⟨Nat.le_of_ble_eq_true rfl, Nat.le_of_ble_eq_true rfl⟩, Nat.le_of_ble_eq_true rfl, Nat.le_of_ble_eq_true rfl⟩ dX5_readNumber_20) (fun H locs S => ?_)
      refine lv_if_eq (tgt := 62) hx hb dX5_readNumber_23 (by decide) (fun c11 => ?_) (fun c11 => ?_)
      · have hf := (if_pos c11).symm.trans hf
        cases hf
        exact J _ _ _ S (lv_sub hl [0, 1] rfl)
      · have hf := (if_neg c11).symm.trans hf
        refine lv_iload_n hx hb dX5_readNumber_26 rfl (lv_at hl 1 rfl) ?_
        refine lv_bipush (v := (10 : Int32)) hx hb dX5_readNumber_27 (by decide) ?_
        refine lv_imul hx hb dX5_readNumber_29 ?_
        refine lv_aload_n hx hb dX5_readNumber_30 rfl (lv_at hl 2 rfl) ?_
        refine gfX5_43 X S hN kd_s191 dX5_readNumber_31 ?_
        obtain ⟨hk12, hf⟩ := g_if hf
        refine lv_aload_n hx hb dX5_readNumber_34 rfl (lv_at hl 2 rfl) ?_
        refine gfX5_37 X S hN kd_s191 dX5_readNumber_35 ?_
        obtain ⟨v13, hv13, hf⟩ := g_s1 hf
        refine g_ki S (g_runV (rest := [.int (i2 * (10 : Int32))]) X S (c_X7_signAt l hN hk12 hv13 _) cvX7_signAt mlX5_78 (kd_N hk12 (by decide) hN) (ceC_7 hk12 _) rfl rfl rfl hl.1 (Nat.le_of_ble_eq_true rfl) ⟨⟨rfl, rfl⟩, ⟨Nat.le_of_ble_eq_true rfl, Nat.le_of_ble_eq_true rfl⟩, Nat.le_of_ble_eq_true rfl, Nat.le_of_ble_eq_true rfl⟩ dX5_readNumber_38) (fun H locs S => ?_)
        refine lv_iadd hx hb dX5_readNumber_41 ?_
        refine lv_bipush (v := (48 : Int32)) hx hb dX5_readNumber_42 (by decide) ?_
        refine lv_isub hx hb dX5_readNumber_44 ?_
        refine lv_istore_n (lv' := [(1, .int (((i2 * (10 : Int32)) + v13) - (48 : Int32))), (2, .int i1), (0, .ref (ad 191))]) hx hb dX5_readNumber_45 rfl hl (by decide) rfl (fun ls hl => ?_)
        refine lv_aload_n hx hb dX5_readNumber_46 rfl (lv_at hl 2 rfl) ?_
        refine lv_dup hx hb dX5_readNumber_47 rfl ?_
        refine gfX5_37 X S hN kd_s191 dX5_readNumber_48 ?_
        refine lv_iconst (v := (1 : Int32)) hx hb dX5_readNumber_51 (by decide) ?_
        refine lv_iadd hx hb dX5_readNumber_52 ?_
        obtain ⟨σ14, hσ14, hf⟩ := g_s1 hf
        refine pfX5_37 X S hN kd_s191 hσ14 dX5_readNumber_53 (fun H locs S => ?_)
        refine lv_iinc (v := (i1 + 1)) (lv' := [(2, .int (i1 + 1)), (1, .int (((i2 * (10 : Int32)) + v13) - (48 : Int32))), (0, .ref (ad 191))]) hx hb dX5_readNumber_56 hl (k := 1) rfl rfl (by decide) rfl (fun ls hl => ?_)
        refine lv_goto (tgt := 4) hx hb dX5_readNumber_59 (by decide) ?_
        exact ih _ _ _ _ _ _  hf J _ _ _ S (lv_sub hl [0, 1, 2] rfl)
noncomputable def f_X5_readNumber (σ : gSt)  : Option (Int32 × gSt) :=
  (g_k3 (f_X5_readNumber_l1 σ FU (0 : Int32) (0 : Int32) σ) fun r4 r5 σ6 => (g_k1 (if r4 ≤ 0 then some (-1 : Int32) else some r5) fun x16 => some (x16, σ6)))
set_option maxRecDepth 100000 in
set_option maxHeartbeats 4000000 in
theorem c_X5_readNumber (l : Launch) {Γ : gG} {ad : Nat → Nat} {N : Nat} (hN : 202 ≤ N) {σ : gSt}   {r : Int32} {σ' : gSt} (hf : f_X5_readNumber σ  = some (r, σ')) : gMi l celC Γ ad N yX5_readNumber cX5_readNumber 3 (some .int) (gR 2 0 0) [.ref (ad 191)] σ r σ' := by
  intro sz
  refine gOf (Qc := fun sz => gQci celC Γ ad N r σ' sz) RX5 (by decide) rfl (Nat.le_of_ble_eq_true rfl) (fun p e s m args below meth c H locs ls X S hl => ?_)
  have hl : lv_has ls 3 [(0, .ref (ad 191))] := hl
  have hx := X.1
  have hb := X.2.1
  unfold f_X5_readNumber at hf
  refine lv_iconst (v := (0 : Int32)) hx hb dX5_readNumber_0 (by decide) ?_
  refine lv_istore_n (lv' := [(1, .int (0 : Int32)), (0, .ref (ad 191))]) hx hb dX5_readNumber_1 rfl hl (by decide) rfl (fun ls hl => ?_)
  refine lv_iconst (v := (0 : Int32)) hx hb dX5_readNumber_2 (by decide) ?_
  refine lv_istore_n (lv' := [(2, .int (0 : Int32)), (1, .int (0 : Int32)), (0, .ref (ad 191))]) hx hb dX5_readNumber_3 rfl hl (by decide) rfl (fun ls hl => ?_)
  obtain ⟨r4, r5, σ6, hr15, hf⟩ := g_s3 hf
  refine w_X5_readNumber_l1 hN X  FU _ _ _ _ _ _  hr15 (fun H locs ls S hl => ?_) _ _ _ S (lv_sub hl [0, 1, 2] rfl)
  refine lv_iload_n hx hb dX5_readNumber_62 rfl (lv_at hl 0 rfl) ?_
  obtain ⟨x16, hr17, hf⟩ := g_s1 hf
  have J18 : ∀ (H : Heap) (locs : List Loc) (ls : Array Slot), gS celC Γ ad N σ6 s H locs → lv_has ls 3 [] → W p l e (gR 2 0 0) s m args below meth c H locs 0 0 (gQi celC Γ ad N r σ' below args s) (F0 m 71 ls [.int x16]) := by
    intro H locs ls S hl
    cases hf
    exact g_reti X S rfl dX5_readNumber_71
  replace hf := hr17
  refine lv_if_le (tgt := 70) hx hb dX5_readNumber_63 (by decide) (fun c19 => ?_) (fun c19 => ?_)
  · have hf := (if_pos c19).symm.trans hf
    refine lv_iconst (v := (-1 : Int32)) hx hb dX5_readNumber_70 (by decide) ?_
    cases hf
    exact J18 _ _ _ S (lv_sub hl [] rfl)
  · have hf := (if_neg c19).symm.trans hf
    refine lv_iload_n hx hb dX5_readNumber_66 rfl (lv_at hl 1 rfl) ?_
    refine lv_goto (tgt := 71) hx hb dX5_readNumber_67 (by decide) ?_
    cases hf
    exact J18 _ _ _ S (lv_sub hl [] rfl)

noncomputable def f_X5_readCut (σ : gSt) (a0 : Int32) (a1 : Int32) : Option (Int32 × gSt) :=
  (g_k2 (f_X5_readNumber σ ) fun v1 σ2 => (if v1 = (-1 : Int32) then some ((0 : Int32), σ2) else (g_k1 (f_X5_isItem σ2 a0) fun v4 => (if v4 = 0 then some ((0 : Int32), σ2) else (g_k1 (gast σ2 192 30 a0 a1) fun σ6 => (g_k1 (gast σ6 195 30 a0 v1) fun σ7 => some ((1 : Int32), σ7)))))))
set_option maxRecDepth 100000 in
set_option maxHeartbeats 4000000 in
theorem c_X5_readCut (l : Launch) {Γ : gG} {ad : Nat → Nat} {N : Nat} (hN : 202 ≤ N) {σ : gSt} {a0 : Int32} {a1 : Int32}  {r : Int32} {σ' : gSt} (hf : f_X5_readCut σ a0 a1 = some (r, σ')) : gMi l celC Γ ad N yX5_readCut cX5_readCut 4 (some .boolean) (gR 3 0 0) [.ref (ad 191), .int a0, .int a1] σ r σ' := by
  intro sz
  refine gOf (Qc := fun sz => gQci celC Γ ad N r σ' sz) RX5 (by decide) rfl (Nat.le_of_ble_eq_true rfl) (fun p e s m args below meth c H locs ls X S hl => ?_)
  have hl : lv_has ls 4 [(0, .ref (ad 191)), (1, .int a0), (2, .int a1)] := hl
  have hx := X.1
  have hb := X.2.1
  unfold f_X5_readCut at hf
  refine lv_aload_n hx hb dX5_readCut_0 rfl (lv_at hl 0 rfl) ?_
  obtain ⟨v1, σ2, hv1, hf⟩ := g_s2 hf
  refine g_ki S (g_runV (rest := []) X S (c_X5_readNumber l hN  hv1 _) cvX5_readNumber mlX5_67 (kd_N kd_s191 (by decide) hN) (ceC_5 kd_s191 _) rfl rfl rfl hl.1 (Nat.le_of_ble_eq_true rfl) ⟨⟨rfl, rfl⟩, ⟨Nat.le_of_ble_eq_true rfl, Nat.le_of_ble_eq_true rfl⟩, Nat.le_of_ble_eq_true rfl, Nat.le_of_ble_eq_true rfl⟩ dX5_readCut_1) (fun H locs S => ?_)
  refine lv_istore_n (lv' := [(3, .int v1), (0, .ref (ad 191)), (1, .int a0), (2, .int a1)]) hx hb dX5_readCut_4 rfl hl (by decide) rfl (fun ls hl => ?_)
  refine lv_iload_n hx hb dX5_readCut_5 rfl (lv_at hl 0 rfl) ?_
  refine lv_iconst (v := (-1 : Int32)) hx hb dX5_readCut_6 (by decide) ?_
  refine lv_icmp_eq (tgt := 17) hx hb dX5_readCut_7 (by decide) (fun c3 => ?_) (fun c3 => ?_)
  · have hf := (if_pos c3).symm.trans hf
    refine lv_iconst (v := (0 : Int32)) hx hb dX5_readCut_17 (by decide) ?_
    cases hf
    exact g_reti X S (by decide +kernel) dX5_readCut_18
  · have hf := (if_neg c3).symm.trans hf
    refine lv_iload_n hx hb dX5_readCut_10 rfl (lv_at hl 2 rfl) ?_
    obtain ⟨v4, hv4, hf⟩ := g_s1 hf
    refine g_ki S (g_runS (rest := []) X S (c_X5_isItem l hN  hv4 _) csX5_isItem mlX5_47 rfl rfl hl.1 (Nat.le_of_ble_eq_true rfl) ⟨⟨rfl, rfl⟩, ⟨Nat.le_of_ble_eq_true rfl, Nat.le_of_ble_eq_true rfl⟩, Nat.le_of_ble_eq_true rfl, Nat.le_of_ble_eq_true rfl⟩ dX5_readCut_11) (fun H locs S => ?_)
    refine lv_if_ne (tgt := 19) hx hb dX5_readCut_14 (by decide) (fun c5 => ?_) (fun c5 => ?_)
    · have hf := (if_neg c5).symm.trans hf
      refine lv_aload_n hx hb dX5_readCut_19 rfl (lv_at hl 1 rfl) ?_
      refine gfX5_9 X S hN kd_s191 dX5_readCut_20 ?_
      refine lv_iload_n hx hb dX5_readCut_23 rfl (lv_at hl 2 rfl) ?_
      refine lv_iload_n hx hb dX5_readCut_24 rfl (lv_at hl 3 rfl) ?_
      obtain ⟨σ6, hσ6, hf⟩ := g_s1 hf
      refine g_iast X S (kd_N kd_s192 (by decide) hN) (ceC_130 kd_s192) hσ6 dX5_readCut_25 (fun H locs S => ?_)
      refine lv_aload_n hx hb dX5_readCut_26 rfl (lv_at hl 1 rfl) ?_
      refine gfX5_21 X S hN kd_s191 dX5_readCut_27 ?_
      refine lv_iload_n hx hb dX5_readCut_30 rfl (lv_at hl 2 rfl) ?_
      refine lv_iload_n hx hb dX5_readCut_31 rfl (lv_at hl 0 rfl) ?_
      obtain ⟨σ7, hσ7, hf⟩ := g_s1 hf
      refine g_iast X S (kd_N kd_s195 (by decide) hN) (ceC_130 kd_s195) hσ7 dX5_readCut_32 (fun H locs S => ?_)
      refine lv_iconst (v := (1 : Int32)) hx hb dX5_readCut_33 (by decide) ?_
      cases hf
      exact g_reti X S (by decide +kernel) dX5_readCut_34
    · have hf := (if_pos c5).symm.trans hf
      refine lv_iconst (v := (0 : Int32)) hx hb dX5_readCut_17 (by decide) ?_
      cases hf
      exact g_reti X S (by decide +kernel) dX5_readCut_18

noncomputable def f_X5_takeOneOf (σ : gSt) (a0 : Int32) (a1 : Int32) (a2 : Int32) : Option (Int32 × gSt) :=
  (if gkd ((σ 191 9).toNatClampNeg) = 7 then (g_k1 (f_X7_signAt σ ((σ 191 9).toNatClampNeg) (σ 191 8)) fun v2 => (if v2 = (-1 : Int32) then some ((-1 : Int32), σ) else (g_k1 (if v2 = a0 then some (0 : Int32) else (if v2 = a1 then some (1 : Int32) else (if v2 = a2 then some (2 : Int32) else some (-1 : Int32)))) fun x4 => (g_k1 (if x4 = (-1 : Int32) then some σ else (g_k1 (gset σ 191 8 ((σ 191 8) + (1 : Int32))) fun σ11 => some σ11)) fun σ7 => some (x4, σ7))))) else none)
set_option maxRecDepth 100000 in
set_option maxHeartbeats 4000000 in
theorem c_X5_takeOneOf (l : Launch) {Γ : gG} {ad : Nat → Nat} {N : Nat} (hN : 202 ≤ N) {σ : gSt} {a0 : Int32} {a1 : Int32} {a2 : Int32}  {r : Int32} {σ' : gSt} (hf : f_X5_takeOneOf σ a0 a1 a2 = some (r, σ')) : gMi l celC Γ ad N yX5_takeOneOf cX5_takeOneOf 6 (some .int) (gR 2 0 0) [.ref (ad 191), .int a0, .int a1, .int a2] σ r σ' := by
  intro sz
  refine gOf (Qc := fun sz => gQci celC Γ ad N r σ' sz) RX5 (by decide) rfl (Nat.le_of_ble_eq_true rfl) (fun p e s m args below meth c H locs ls X S hl => ?_)
  have hl : lv_has ls 6 [(0, .ref (ad 191)), (1, .int a0), (2, .int a1), (3, .int a2)] := hl
  have hx := X.1
  have hb := X.2.1
  unfold f_X5_takeOneOf at hf
  refine lv_aload_n hx hb dX5_takeOneOf_0 rfl (lv_at hl 0 rfl) ?_
  refine gfX5_43 X S hN kd_s191 dX5_takeOneOf_1 ?_
  obtain ⟨hk1, hf⟩ := g_if hf
  refine lv_aload_n hx hb dX5_takeOneOf_4 rfl (lv_at hl 0 rfl) ?_
  refine gfX5_37 X S hN kd_s191 dX5_takeOneOf_5 ?_
  obtain ⟨v2, hv2, hf⟩ := g_s1 hf
  refine g_ki S (g_runV (rest := []) X S (c_X7_signAt l hN hk1 hv2 _) cvX7_signAt mlX5_78 (kd_N hk1 (by decide) hN) (ceC_7 hk1 _) rfl rfl rfl hl.1 (Nat.le_of_ble_eq_true rfl) ⟨⟨rfl, rfl⟩, ⟨Nat.le_of_ble_eq_true rfl, Nat.le_of_ble_eq_true rfl⟩, Nat.le_of_ble_eq_true rfl, Nat.le_of_ble_eq_true rfl⟩ dX5_takeOneOf_8) (fun H locs S => ?_)
  refine lv_istore (lv' := [(4, .int v2), (0, .ref (ad 191)), (1, .int a0), (2, .int a1), (3, .int a2)]) hx hb dX5_takeOneOf_11 hl (by decide) rfl (fun ls hl => ?_)
  refine lv_iload hx hb dX5_takeOneOf_13 (lv_at hl 0 rfl) ?_
  refine lv_iconst (v := (-1 : Int32)) hx hb dX5_takeOneOf_15 (by decide) ?_
  refine lv_icmp_ne (tgt := 21) hx hb dX5_takeOneOf_16 (by decide) (fun c3 => ?_) (fun c3 => ?_)
  · have hf := (if_neg c3).symm.trans hf
    refine lv_iload hx hb dX5_takeOneOf_21 (lv_at hl 0 rfl) ?_
    refine lv_iload_n hx hb dX5_takeOneOf_23 rfl (lv_at hl 2 rfl) ?_
    obtain ⟨x4, hr5, hf⟩ := g_s1 hf
    have J6 : ∀ (H : Heap) (locs : List Loc) (ls : Array Slot), gS celC Γ ad N σ s H locs → lv_has ls 6 [(0, .ref (ad 191))] → W p l e (gR 2 0 0) s m args below meth c H locs 0 0 (gQi celC Γ ad N r σ' below args s) (F0 m 52 ls [.int x4]) := by
      intro H locs ls S hl
      refine lv_istore (lv' := [(5, .int x4), (0, .ref (ad 191))]) hx hb dX5_takeOneOf_52 hl (by decide) rfl (fun ls hl => ?_)
      refine lv_iload hx hb dX5_takeOneOf_54 (lv_at hl 0 rfl) ?_
      refine lv_iconst (v := (-1 : Int32)) hx hb dX5_takeOneOf_56 (by decide) ?_
      obtain ⟨σ7, hr8, hf⟩ := g_s1 hf
      have J9 : ∀ (H : Heap) (locs : List Loc) (ls : Array Slot), gS celC Γ ad N σ7 s H locs → lv_has ls 6 [(5, .int x4)] → W p l e (gR 2 0 0) s m args below meth c H locs 0 0 (gQi celC Γ ad N r σ' below args s) (F0 m 70 ls []) := by
        intro H locs ls S hl
        refine lv_iload hx hb dX5_takeOneOf_70 (lv_at hl 0 rfl) ?_
        cases hf
        exact g_reti X S rfl dX5_takeOneOf_72
      replace hf := hr8
      refine lv_icmp_eq (tgt := 70) hx hb dX5_takeOneOf_57 (by decide) (fun c10 => ?_) (fun c10 => ?_)
      · have hf := (if_pos c10).symm.trans hf
        cases hf
        exact J9 _ _ _ S (lv_sub hl [0] rfl)
      · have hf := (if_neg c10).symm.trans hf
        refine lv_aload_n hx hb dX5_takeOneOf_60 rfl (lv_at hl 1 rfl) ?_
        refine lv_dup hx hb dX5_takeOneOf_61 rfl ?_
        refine gfX5_37 X S hN kd_s191 dX5_takeOneOf_62 ?_
        refine lv_iconst (v := (1 : Int32)) hx hb dX5_takeOneOf_65 (by decide) ?_
        refine lv_iadd hx hb dX5_takeOneOf_66 ?_
        obtain ⟨σ11, hσ11, hf⟩ := g_s1 hf
        refine pfX5_37 X S hN kd_s191 hσ11 dX5_takeOneOf_67 (fun H locs S => ?_)
        cases hf
        exact J9 _ _ _ S (lv_sub hl [0] rfl)
    replace hf := hr5
    refine lv_icmp_ne (tgt := 31) hx hb dX5_takeOneOf_24 (by decide) (fun c12 => ?_) (fun c12 => ?_)
    · have hf := (if_neg c12).symm.trans hf
      refine lv_iload hx hb dX5_takeOneOf_31 (lv_at hl 0 rfl) ?_
      refine lv_iload_n hx hb dX5_takeOneOf_33 rfl (lv_at hl 3 rfl) ?_
      refine lv_icmp_ne (tgt := 41) hx hb dX5_takeOneOf_34 (by decide) (fun c13 => ?_) (fun c13 => ?_)
      · have hf := (if_neg c13).symm.trans hf
        refine lv_iload hx hb dX5_takeOneOf_41 (lv_at hl 0 rfl) ?_
        refine lv_iload_n hx hb dX5_takeOneOf_43 rfl (lv_at hl 4 rfl) ?_
        refine lv_icmp_ne (tgt := 51) hx hb dX5_takeOneOf_44 (by decide) (fun c14 => ?_) (fun c14 => ?_)
        · have hf := (if_neg c14).symm.trans hf
          refine lv_iconst (v := (-1 : Int32)) hx hb dX5_takeOneOf_51 (by decide) ?_
          cases hf
          exact J6 _ _ _ S (lv_sub hl [1] rfl)
        · have hf := (if_pos c14).symm.trans hf
          refine lv_iconst (v := (2 : Int32)) hx hb dX5_takeOneOf_47 (by decide) ?_
          refine lv_goto (tgt := 52) hx hb dX5_takeOneOf_48 (by decide) ?_
          cases hf
          exact J6 _ _ _ S (lv_sub hl [1] rfl)
      · have hf := (if_pos c13).symm.trans hf
        refine lv_iconst (v := (1 : Int32)) hx hb dX5_takeOneOf_37 (by decide) ?_
        refine lv_goto (tgt := 52) hx hb dX5_takeOneOf_38 (by decide) ?_
        cases hf
        exact J6 _ _ _ S (lv_sub hl [1] rfl)
    · have hf := (if_pos c12).symm.trans hf
      refine lv_iconst (v := (0 : Int32)) hx hb dX5_takeOneOf_27 (by decide) ?_
      refine lv_goto (tgt := 52) hx hb dX5_takeOneOf_28 (by decide) ?_
      cases hf
      exact J6 _ _ _ S (lv_sub hl [1] rfl)
  · have hf := (if_pos c3).symm.trans hf
    refine lv_iconst (v := (-1 : Int32)) hx hb dX5_takeOneOf_19 (by decide) ?_
    cases hf
    exact g_reti X S rfl dX5_takeOneOf_20

noncomputable def f_X5_skipWords_l1 (σ : gSt) : Nat → Int32 → gSt → Option (gSt)
  | 0, _, _ => none
  | n + 1, i1, σ2 => (if (24 : Int32) ≤ i1 then some σ2 else (if gkd ((σ2 191 9).toNatClampNeg) = 7 then (g_k1 (f_X7_signAt σ2 ((σ2 191 9).toNatClampNeg) (σ2 191 8)) fun v6 => (g_k1 (f_X9_isWordSign σ2 v6) fun v7 => (if v7 = 0 then some σ2 else (g_k1 (gset σ2 191 8 ((σ2 191 8) + (1 : Int32))) fun σ9 => (f_X5_skipWords_l1 σ n (i1 + 1) σ9))))) else none))
set_option maxRecDepth 100000 in
set_option maxHeartbeats 4000000 in
theorem w_X5_skipWords_l1 {l : Launch} {Γ : gG} {ad : Nat → Nat} {N : Nat} {p : Program} {e : Env} {s : State} {m : MethodId} {args : Array Value} {below : List Frame} {meth : Method} {c : Code} {Q : State → Prop} (hN : 202 ≤ N) (X : gX celC Γ ad N RX5 cX5_skipWords 2 none p s m args meth c) {σ : gSt}  : ∀ (n : Nat) (i1 : Int32) (σ2 : gSt) (σ3 : gSt), f_X5_skipWords_l1 σ n i1 σ2 = some σ3 → (∀ (H : Heap) (locs : List Loc) (ls : Array Slot), gS celC Γ ad N σ3 s H locs → lv_has ls 2 [] → W p l e (gR 2 0 0) s m args below meth c H locs 0 0 (Q) (F0 m 41 ls [])) → ∀ (H : Heap) (locs : List Loc) (ls : Array Slot), gS celC Γ ad N σ2 s H locs → lv_has ls 2 [(1, .int i1), (0, .ref (ad 191))] → W p l e (gR 2 0 0) s m args below meth c H locs 0 0 (Q) (F0 m 2 ls []) := by
  have hx := X.1
  have hb := X.2.1
  intro n
  induction n with
  | zero =>
    intro i1 σ2 σ3 hf
    cases hf
  | succ n ih =>
    intro i1 σ2 σ3 hf J H locs ls S hl
    rw [f_X5_skipWords_l1] at hf
    refine lv_iload_n hx hb dX5_skipWords_2 rfl (lv_at hl 0 rfl) ?_
    refine lv_bipush (v := (24 : Int32)) hx hb dX5_skipWords_3 (by decide) ?_
    refine lv_icmp_ge (tgt := 41) hx hb dX5_skipWords_5 (by decide) (fun c4 => ?_) (fun c4 => ?_)
    · have hf := (if_pos c4).symm.trans hf
      cases hf
      exact J _ _ _ S (lv_sub hl [] rfl)
    · have hf := (if_neg c4).symm.trans hf
      refine lv_aload_n hx hb dX5_skipWords_8 rfl (lv_at hl 1 rfl) ?_
      refine gfX5_43 X S hN kd_s191 dX5_skipWords_9 ?_
      obtain ⟨hk5, hf⟩ := g_if hf
      refine lv_aload_n hx hb dX5_skipWords_12 rfl (lv_at hl 1 rfl) ?_
      refine gfX5_37 X S hN kd_s191 dX5_skipWords_13 ?_
      obtain ⟨v6, hv6, hf⟩ := g_s1 hf
      refine g_ki S (g_runV (rest := []) X S (c_X7_signAt l hN hk5 hv6 _) cvX7_signAt mlX5_78 (kd_N hk5 (by decide) hN) (ceC_7 hk5 _) rfl rfl rfl hl.1 (Nat.le_of_ble_eq_true rfl) ⟨⟨rfl, rfl⟩, ⟨Nat.le_of_ble_eq_true rfl, Nat.le_of_ble_eq_true rfl⟩, Nat.le_of_ble_eq_true rfl, Nat.le_of_ble_eq_true rfl⟩ dX5_skipWords_16) (fun H locs S => ?_)
      obtain ⟨v7, hv7, hf⟩ := g_s1 hf
      refine g_ki S (g_runN (rest := []) X S (c_X9_isWordSign l hN  hv7 _) csX9_isWordSign mnX5_85 rfl rfl hl.1 (Nat.le_of_ble_eq_true rfl) ⟨⟨rfl, rfl⟩, ⟨Nat.le_of_ble_eq_true rfl, Nat.le_of_ble_eq_true rfl⟩, Nat.le_of_ble_eq_true rfl, Nat.le_of_ble_eq_true rfl⟩ dX5_skipWords_19) (fun H locs S => ?_)
      refine lv_if_eq (tgt := 41) hx hb dX5_skipWords_22 (by decide) (fun c8 => ?_) (fun c8 => ?_)
      · have hf := (if_pos c8).symm.trans hf
        cases hf
        exact J _ _ _ S (lv_sub hl [] rfl)
      · have hf := (if_neg c8).symm.trans hf
        refine lv_aload_n hx hb dX5_skipWords_25 rfl (lv_at hl 1 rfl) ?_
        refine lv_dup hx hb dX5_skipWords_26 rfl ?_
        refine gfX5_37 X S hN kd_s191 dX5_skipWords_27 ?_
        refine lv_iconst (v := (1 : Int32)) hx hb dX5_skipWords_30 (by decide) ?_
        refine lv_iadd hx hb dX5_skipWords_31 ?_
        obtain ⟨σ9, hσ9, hf⟩ := g_s1 hf
        refine pfX5_37 X S hN kd_s191 hσ9 dX5_skipWords_32 (fun H locs S => ?_)
        refine lv_iinc (v := (i1 + 1)) (lv' := [(1, .int (i1 + 1)), (0, .ref (ad 191))]) hx hb dX5_skipWords_35 hl (k := 0) rfl rfl (by decide) rfl (fun ls hl => ?_)
        refine lv_goto (tgt := 2) hx hb dX5_skipWords_38 (by decide) ?_
        exact ih _ _ _  hf J _ _ _ S (lv_sub hl [0, 1] rfl)
noncomputable def f_X5_skipWords (σ : gSt)  : Option (gSt) :=
  (g_k1 (f_X5_skipWords_l1 σ FU (0 : Int32) σ) fun σ3 => some σ3)
set_option maxRecDepth 100000 in
set_option maxHeartbeats 4000000 in
theorem c_X5_skipWords (l : Launch) {Γ : gG} {ad : Nat → Nat} {N : Nat} (hN : 202 ≤ N) {σ : gSt}   {σ' : gSt} (hf : f_X5_skipWords σ  = some σ') : gMv l celC Γ ad N yX5_skipWords cX5_skipWords 2 none (gR 2 0 0) [.ref (ad 191)] σ σ' := by
  intro sz
  refine gOf (Qc := fun sz => gQcv celC Γ ad N σ' sz) RX5 (by decide) rfl (Nat.le_of_ble_eq_true rfl) (fun p e s m args below meth c H locs ls X S hl => ?_)
  have hl : lv_has ls 2 [(0, .ref (ad 191))] := hl
  have hx := X.1
  have hb := X.2.1
  unfold f_X5_skipWords at hf
  refine lv_iconst (v := (0 : Int32)) hx hb dX5_skipWords_0 (by decide) ?_
  refine lv_istore_n (lv' := [(1, .int (0 : Int32)), (0, .ref (ad 191))]) hx hb dX5_skipWords_1 rfl hl (by decide) rfl (fun ls hl => ?_)
  obtain ⟨σ3, hr10, hf⟩ := g_s1 hf
  refine w_X5_skipWords_l1 hN X  FU _ _ _  hr10 (fun H locs ls S hl => ?_) _ _ _ S (lv_sub hl [0, 1] rfl)
  cases hf
  exact g_retv X S dX5_skipWords_41

noncomputable def f_X5_readCaption (σ : gSt) (a0 : Int32) : Option (Int32 × gSt) :=
  (g_k2 (f_X5_takeOneOf σ (97 : Int32) (98 : Int32) (-1 : Int32)) fun v1 σ2 => (g_k2 (if v1 = (-1 : Int32) then some ((-1 : Int32), σ2) else (g_k2 (f_X5_takeOneOf σ2 (46 : Int32) (33 : Int32) (42 : Int32)) fun v46 σ47 => some (v46, σ47))) fun x3 σ4 => (g_k2 (if x3 = (-1 : Int32) then some ((-1 : Int32), σ4) else (g_k2 (f_X5_readNumber σ4 ) fun v43 σ44 => some (v43, σ44))) fun x7 σ8 => (g_k2 (if x7 = (-1 : Int32) then some ((-1 : Int32), σ8) else (g_k2 (f_X5_takeSign σ8 (45 : Int32)) fun v37 σ38 => (if v37 = 0 then some ((-1 : Int32), σ38) else (g_k2 (f_X5_readNumber σ38 ) fun v40 σ41 => some (v40, σ41))))) fun x11 σ12 => (if x11 = (-1 : Int32) then some ((0 : Int32), σ12) else (g_k2 (f_X5_takeSign σ12 (58 : Int32)) fun v16 σ17 => (if v16 = 0 then some ((0 : Int32), σ17) else (g_k1 (f_X5_isItem σ17 a0) fun v19 => (if v19 = 0 then some ((0 : Int32), σ17) else (g_k1 (gast σ17 192 30 a0 (0 : Int32)) fun σ21 => (g_k1 (gast σ21 193 30 a0 v1) fun σ22 => (g_k1 (gast σ22 194 30 a0 x3) fun σ23 => (g_k1 (gast σ23 195 30 a0 x7) fun σ24 => (g_k1 (gast σ24 196 30 a0 x11) fun σ25 => (g_k1 (gast σ25 197 30 a0 (σ25 191 8)) fun σ26 => (g_k1 (f_X5_skipWords σ26 ) fun σ27 => (g_k1 (gast σ27 198 30 a0 (σ27 191 8)) fun σ28 => (g_k1 (gald σ28 198 30 a0) fun v29 => (g_k1 (gald σ28 197 30 a0) fun v30 => (g_k1 (if v29 ≤ v30 then some (0 : Int32) else some (1 : Int32)) fun x31 => (g_k1 (gzb x31) fun v34 => some (v34, σ28))))))))))))))))))))))
set_option maxRecDepth 100000 in
set_option maxHeartbeats 4000000 in
theorem c_X5_readCaption (l : Launch) {Γ : gG} {ad : Nat → Nat} {N : Nat} (hN : 202 ≤ N) {σ : gSt} {a0 : Int32}  {r : Int32} {σ' : gSt} (hf : f_X5_readCaption σ a0 = some (r, σ')) : gMi l celC Γ ad N yX5_readCaption cX5_readCaption 6 (some .boolean) (gR 3 0 0) [.ref (ad 191), .int a0] σ r σ' := by
  intro sz
  refine gOf (Qc := fun sz => gQci celC Γ ad N r σ' sz) RX5 (by decide) rfl (Nat.le_of_ble_eq_true rfl) (fun p e s m args below meth c H locs ls X S hl => ?_)
  have hl : lv_has ls 6 [(0, .ref (ad 191)), (1, .int a0)] := hl
  have hx := X.1
  have hb := X.2.1
  unfold f_X5_readCaption at hf
  refine lv_aload_n hx hb dX5_readCaption_0 rfl (lv_at hl 0 rfl) ?_
  refine lv_bipush (v := (97 : Int32)) hx hb dX5_readCaption_1 (by decide) ?_
  refine lv_bipush (v := (98 : Int32)) hx hb dX5_readCaption_3 (by decide) ?_
  refine lv_iconst (v := (-1 : Int32)) hx hb dX5_readCaption_5 (by decide) ?_
  obtain ⟨v1, σ2, hv1, hf⟩ := g_s2 hf
  refine g_ki S (g_runV (rest := []) X S (c_X5_takeOneOf l hN  hv1 _) cvX5_takeOneOf mlX5_71 (kd_N kd_s191 (by decide) hN) (ceC_5 kd_s191 _) rfl rfl rfl hl.1 (Nat.le_of_ble_eq_true rfl) ⟨⟨rfl, rfl⟩, ⟨Nat.le_of_ble_eq_true rfl, Nat.le_of_ble_eq_true rfl⟩, Nat.le_of_ble_eq_true rfl, Nat.le_of_ble_eq_true rfl⟩ dX5_readCaption_6) (fun H locs S => ?_)
  refine lv_istore_n (lv' := [(2, .int v1), (0, .ref (ad 191)), (1, .int a0)]) hx hb dX5_readCaption_9 rfl hl (by decide) rfl (fun ls hl => ?_)
  refine lv_iload_n hx hb dX5_readCaption_10 rfl (lv_at hl 0 rfl) ?_
  refine lv_iconst (v := (-1 : Int32)) hx hb dX5_readCaption_11 (by decide) ?_
  obtain ⟨x3, σ4, hr5, hf⟩ := g_s2 hf
  have J6 : ∀ (H : Heap) (locs : List Loc) (ls : Array Slot), gS celC Γ ad N σ4 s H locs → lv_has ls 6 [(2, .int v1), (0, .ref (ad 191)), (1, .int a0)] → W p l e (gR 3 0 0) s m args below meth c H locs 0 0 (gQi celC Γ ad N r σ' below args s) (F0 m 29 ls [.int x3]) := by
    intro H locs ls S hl
    refine lv_istore_n (lv' := [(3, .int x3), (2, .int v1), (0, .ref (ad 191)), (1, .int a0)]) hx hb dX5_readCaption_29 rfl hl (by decide) rfl (fun ls hl => ?_)
    refine lv_iload_n hx hb dX5_readCaption_30 rfl (lv_at hl 0 rfl) ?_
    refine lv_iconst (v := (-1 : Int32)) hx hb dX5_readCaption_31 (by decide) ?_
    obtain ⟨x7, σ8, hr9, hf⟩ := g_s2 hf
    have J10 : ∀ (H : Heap) (locs : List Loc) (ls : Array Slot), gS celC Γ ad N σ8 s H locs → lv_has ls 6 [(3, .int x3), (2, .int v1), (0, .ref (ad 191)), (1, .int a0)] → W p l e (gR 3 0 0) s m args below meth c H locs 0 0 (gQi celC Γ ad N r σ' below args s) (F0 m 43 ls [.int x7]) := by
      intro H locs ls S hl
      refine lv_istore (lv' := [(4, .int x7), (3, .int x3), (2, .int v1), (0, .ref (ad 191)), (1, .int a0)]) hx hb dX5_readCaption_43 hl (by decide) rfl (fun ls hl => ?_)
      refine lv_iload hx hb dX5_readCaption_45 (lv_at hl 0 rfl) ?_
      refine lv_iconst (v := (-1 : Int32)) hx hb dX5_readCaption_47 (by decide) ?_
      obtain ⟨x11, σ12, hr13, hf⟩ := g_s2 hf
      have J14 : ∀ (H : Heap) (locs : List Loc) (ls : Array Slot), gS celC Γ ad N σ12 s H locs → lv_has ls 6 [(4, .int x7), (3, .int x3), (2, .int v1), (0, .ref (ad 191)), (1, .int a0)] → W p l e (gR 3 0 0) s m args below meth c H locs 0 0 (gQi celC Γ ad N r σ' below args s) (F0 m 68 ls [.int x11]) := by
        intro H locs ls S hl
        refine lv_istore (lv' := [(5, .int x11), (4, .int x7), (3, .int x3), (2, .int v1), (0, .ref (ad 191)), (1, .int a0)]) hx hb dX5_readCaption_68 hl (by decide) rfl (fun ls hl => ?_)
        refine lv_iload hx hb dX5_readCaption_70 (lv_at hl 0 rfl) ?_
        refine lv_iconst (v := (-1 : Int32)) hx hb dX5_readCaption_72 (by decide) ?_
        refine lv_icmp_eq (tgt := 92) hx hb dX5_readCaption_73 (by decide) (fun c15 => ?_) (fun c15 => ?_)
        · have hf := (if_pos c15).symm.trans hf
          refine lv_iconst (v := (0 : Int32)) hx hb dX5_readCaption_92 (by decide) ?_
          cases hf
          exact g_reti X S (by decide +kernel) dX5_readCaption_93
        · have hf := (if_neg c15).symm.trans hf
          refine lv_aload_n hx hb dX5_readCaption_76 rfl (lv_at hl 4 rfl) ?_
          refine lv_bipush (v := (58 : Int32)) hx hb dX5_readCaption_77 (by decide) ?_
          obtain ⟨v16, σ17, hv16, hf⟩ := g_s2 hf
          refine g_ki S (g_runV (rest := []) X S (c_X5_takeSign l hN  hv16 _) cvX5_takeSign mlX5_57 (kd_N kd_s191 (by decide) hN) (ceC_5 kd_s191 _) rfl rfl rfl hl.1 (Nat.le_of_ble_eq_true rfl) ⟨⟨rfl, rfl⟩, ⟨Nat.le_of_ble_eq_true rfl, Nat.le_of_ble_eq_true rfl⟩, Nat.le_of_ble_eq_true rfl, Nat.le_of_ble_eq_true rfl⟩ dX5_readCaption_79) (fun H locs S => ?_)
          refine lv_if_eq (tgt := 92) hx hb dX5_readCaption_82 (by decide) (fun c18 => ?_) (fun c18 => ?_)
          · have hf := (if_pos c18).symm.trans hf
            refine lv_iconst (v := (0 : Int32)) hx hb dX5_readCaption_92 (by decide) ?_
            cases hf
            exact g_reti X S (by decide +kernel) dX5_readCaption_93
          · have hf := (if_neg c18).symm.trans hf
            refine lv_iload_n hx hb dX5_readCaption_85 rfl (lv_at hl 5 rfl) ?_
            obtain ⟨v19, hv19, hf⟩ := g_s1 hf
            refine g_ki S (g_runS (rest := []) X S (c_X5_isItem l hN  hv19 _) csX5_isItem mlX5_47 rfl rfl hl.1 (Nat.le_of_ble_eq_true rfl) ⟨⟨rfl, rfl⟩, ⟨Nat.le_of_ble_eq_true rfl, Nat.le_of_ble_eq_true rfl⟩, Nat.le_of_ble_eq_true rfl, Nat.le_of_ble_eq_true rfl⟩ dX5_readCaption_86) (fun H locs S => ?_)
            refine lv_if_ne (tgt := 94) hx hb dX5_readCaption_89 (by decide) (fun c20 => ?_) (fun c20 => ?_)
            · have hf := (if_neg c20).symm.trans hf
              refine lv_aload_n hx hb dX5_readCaption_94 rfl (lv_at hl 4 rfl) ?_
              refine gfX5_9 X S hN kd_s191 dX5_readCaption_95 ?_
              refine lv_iload_n hx hb dX5_readCaption_98 rfl (lv_at hl 5 rfl) ?_
              refine lv_iconst (v := (0 : Int32)) hx hb dX5_readCaption_99 (by decide) ?_
              obtain ⟨σ21, hσ21, hf⟩ := g_s1 hf
              refine g_iast X S (kd_N kd_s192 (by decide) hN) (ceC_130 kd_s192) hσ21 dX5_readCaption_100 (fun H locs S => ?_)
              refine lv_aload_n hx hb dX5_readCaption_101 rfl (lv_at hl 4 rfl) ?_
              refine gfX5_15 X S hN kd_s191 dX5_readCaption_102 ?_
              refine lv_iload_n hx hb dX5_readCaption_105 rfl (lv_at hl 5 rfl) ?_
              refine lv_iload_n hx hb dX5_readCaption_106 rfl (lv_at hl 3 rfl) ?_
              obtain ⟨σ22, hσ22, hf⟩ := g_s1 hf
              refine g_iast X S (kd_N kd_s193 (by decide) hN) (ceC_130 kd_s193) hσ22 dX5_readCaption_107 (fun H locs S => ?_)
              refine lv_aload_n hx hb dX5_readCaption_108 rfl (lv_at hl 4 rfl) ?_
              refine gfX5_18 X S hN kd_s191 dX5_readCaption_109 ?_
              refine lv_iload_n hx hb dX5_readCaption_112 rfl (lv_at hl 5 rfl) ?_
              refine lv_iload_n hx hb dX5_readCaption_113 rfl (lv_at hl 2 rfl) ?_
              obtain ⟨σ23, hσ23, hf⟩ := g_s1 hf
              refine g_iast X S (kd_N kd_s194 (by decide) hN) (ceC_130 kd_s194) hσ23 dX5_readCaption_114 (fun H locs S => ?_)
              refine lv_aload_n hx hb dX5_readCaption_115 rfl (lv_at hl 4 rfl) ?_
              refine gfX5_21 X S hN kd_s191 dX5_readCaption_116 ?_
              refine lv_iload_n hx hb dX5_readCaption_119 rfl (lv_at hl 5 rfl) ?_
              refine lv_iload hx hb dX5_readCaption_120 (lv_at hl 1 rfl) ?_
              obtain ⟨σ24, hσ24, hf⟩ := g_s1 hf
              refine g_iast X S (kd_N kd_s195 (by decide) hN) (ceC_130 kd_s195) hσ24 dX5_readCaption_122 (fun H locs S => ?_)
              refine lv_aload_n hx hb dX5_readCaption_123 rfl (lv_at hl 4 rfl) ?_
              refine gfX5_24 X S hN kd_s191 dX5_readCaption_124 ?_
              refine lv_iload_n hx hb dX5_readCaption_127 rfl (lv_at hl 5 rfl) ?_
              refine lv_iload hx hb dX5_readCaption_128 (lv_at hl 0 rfl) ?_
              obtain ⟨σ25, hσ25, hf⟩ := g_s1 hf
              refine g_iast X S (kd_N kd_s196 (by decide) hN) (ceC_130 kd_s196) hσ25 dX5_readCaption_130 (fun H locs S => ?_)
              refine lv_aload_n hx hb dX5_readCaption_131 rfl (lv_at hl 4 rfl) ?_
              refine gfX5_27 X S hN kd_s191 dX5_readCaption_132 ?_
              refine lv_iload_n hx hb dX5_readCaption_135 rfl (lv_at hl 5 rfl) ?_
              refine lv_aload_n hx hb dX5_readCaption_136 rfl (lv_at hl 4 rfl) ?_
              refine gfX5_37 X S hN kd_s191 dX5_readCaption_137 ?_
              obtain ⟨σ26, hσ26, hf⟩ := g_s1 hf
              refine g_iast X S (kd_N kd_s197 (by decide) hN) (ceC_130 kd_s197) hσ26 dX5_readCaption_140 (fun H locs S => ?_)
              refine lv_aload_n hx hb dX5_readCaption_141 rfl (lv_at hl 4 rfl) ?_
              obtain ⟨σ27, hσ27, hf⟩ := g_s1 hf
              refine g_kv S (g_runV (rest := []) X S (c_X5_skipWords l hN  hσ27 _) cvX5_skipWords mlX5_75 (kd_N kd_s191 (by decide) hN) (ceC_5 kd_s191 _) rfl rfl rfl hl.1 (Nat.le_of_ble_eq_true rfl) ⟨⟨rfl, rfl⟩, ⟨Nat.le_of_ble_eq_true rfl, Nat.le_of_ble_eq_true rfl⟩, Nat.le_of_ble_eq_true rfl, Nat.le_of_ble_eq_true rfl⟩ dX5_readCaption_142) (fun H locs S => ?_)
              refine lv_aload_n hx hb dX5_readCaption_145 rfl (lv_at hl 4 rfl) ?_
              refine gfX5_30 X S hN kd_s191 dX5_readCaption_146 ?_
              refine lv_iload_n hx hb dX5_readCaption_149 rfl (lv_at hl 5 rfl) ?_
              refine lv_aload_n hx hb dX5_readCaption_150 rfl (lv_at hl 4 rfl) ?_
              refine gfX5_37 X S hN kd_s191 dX5_readCaption_151 ?_
              obtain ⟨σ28, hσ28, hf⟩ := g_s1 hf
              refine g_iast X S (kd_N kd_s198 (by decide) hN) (ceC_130 kd_s198) hσ28 dX5_readCaption_154 (fun H locs S => ?_)
              refine lv_aload_n hx hb dX5_readCaption_155 rfl (lv_at hl 4 rfl) ?_
              refine gfX5_30 X S hN kd_s191 dX5_readCaption_156 ?_
              refine lv_iload_n hx hb dX5_readCaption_159 rfl (lv_at hl 5 rfl) ?_
              obtain ⟨v29, hv29, hf⟩ := g_s1 hf
              refine g_iald X S (kd_N kd_s198 (by decide) hN) (ceC_130 kd_s198) hv29 dX5_readCaption_160 ?_
              refine lv_aload_n hx hb dX5_readCaption_161 rfl (lv_at hl 4 rfl) ?_
              refine gfX5_27 X S hN kd_s191 dX5_readCaption_162 ?_
              refine lv_iload_n hx hb dX5_readCaption_165 rfl (lv_at hl 5 rfl) ?_
              obtain ⟨v30, hv30, hf⟩ := g_s1 hf
              refine g_iald X S (kd_N kd_s197 (by decide) hN) (ceC_130 kd_s197) hv30 dX5_readCaption_166 ?_
              obtain ⟨x31, hr32, hf⟩ := g_s1 hf
              have J33 : ∀ (H : Heap) (locs : List Loc) (ls : Array Slot), gS celC Γ ad N σ28 s H locs → lv_has ls 6 [] → W p l e (gR 3 0 0) s m args below meth c H locs 0 0 (gQi celC Γ ad N r σ' below args s) (F0 m 175 ls [.int x31]) := by
                intro H locs ls S hl
                obtain ⟨v34, hv34, hf⟩ := g_s1 hf
                obtain ⟨hnv34, rfl⟩ := gzb_some hv34
                cases hf
                exact g_reti X S hnv34 dX5_readCaption_175
              replace hf := hr32
              refine lv_icmp_le (tgt := 174) hx hb dX5_readCaption_167 (by decide) (fun c35 => ?_) (fun c35 => ?_)
              · have hf := (if_pos c35).symm.trans hf
                refine lv_iconst (v := (0 : Int32)) hx hb dX5_readCaption_174 (by decide) ?_
                cases hf
                exact J33 _ _ _ S (lv_sub hl [] rfl)
              · have hf := (if_neg c35).symm.trans hf
                refine lv_iconst (v := (1 : Int32)) hx hb dX5_readCaption_170 (by decide) ?_
                refine lv_goto (tgt := 175) hx hb dX5_readCaption_171 (by decide) ?_
                cases hf
                exact J33 _ _ _ S (lv_sub hl [] rfl)
            · have hf := (if_pos c20).symm.trans hf
              refine lv_iconst (v := (0 : Int32)) hx hb dX5_readCaption_92 (by decide) ?_
              cases hf
              exact g_reti X S (by decide +kernel) dX5_readCaption_93
      replace hf := hr13
      refine lv_icmp_eq (tgt := 60) hx hb dX5_readCaption_48 (by decide) (fun c36 => ?_) (fun c36 => ?_)
      · have hf := (if_pos c36).symm.trans hf
        refine lv_iconst (v := (-1 : Int32)) hx hb dX5_readCaption_60 (by decide) ?_
        refine lv_goto (tgt := 68) hx hb dX5_readCaption_61 (by decide) ?_
        cases hf
        exact J14 _ _ _ S (lv_sub hl [0, 1, 2, 3, 4] rfl)
      · have hf := (if_neg c36).symm.trans hf
        refine lv_aload_n hx hb dX5_readCaption_51 rfl (lv_at hl 3 rfl) ?_
        refine lv_bipush (v := (45 : Int32)) hx hb dX5_readCaption_52 (by decide) ?_
        obtain ⟨v37, σ38, hv37, hf⟩ := g_s2 hf
        refine g_ki S (g_runV (rest := []) X S (c_X5_takeSign l hN  hv37 _) cvX5_takeSign mlX5_57 (kd_N kd_s191 (by decide) hN) (ceC_5 kd_s191 _) rfl rfl rfl hl.1 (Nat.le_of_ble_eq_true rfl) ⟨⟨rfl, rfl⟩, ⟨Nat.le_of_ble_eq_true rfl, Nat.le_of_ble_eq_true rfl⟩, Nat.le_of_ble_eq_true rfl, Nat.le_of_ble_eq_true rfl⟩ dX5_readCaption_54) (fun H locs S => ?_)
        refine lv_if_ne (tgt := 64) hx hb dX5_readCaption_57 (by decide) (fun c39 => ?_) (fun c39 => ?_)
        · have hf := (if_neg c39).symm.trans hf
          refine lv_aload_n hx hb dX5_readCaption_64 rfl (lv_at hl 3 rfl) ?_
          obtain ⟨v40, σ41, hv40, hf⟩ := g_s2 hf
          refine g_ki S (g_runV (rest := []) X S (c_X5_readNumber l hN  hv40 _) cvX5_readNumber mlX5_67 (kd_N kd_s191 (by decide) hN) (ceC_5 kd_s191 _) rfl rfl rfl hl.1 (Nat.le_of_ble_eq_true rfl) ⟨⟨rfl, rfl⟩, ⟨Nat.le_of_ble_eq_true rfl, Nat.le_of_ble_eq_true rfl⟩, Nat.le_of_ble_eq_true rfl, Nat.le_of_ble_eq_true rfl⟩ dX5_readCaption_65) (fun H locs S => ?_)
          cases hf
          exact J14 _ _ _ S (lv_sub hl [0, 1, 2, 3, 4] rfl)
        · have hf := (if_pos c39).symm.trans hf
          refine lv_iconst (v := (-1 : Int32)) hx hb dX5_readCaption_60 (by decide) ?_
          refine lv_goto (tgt := 68) hx hb dX5_readCaption_61 (by decide) ?_
          cases hf
          exact J14 _ _ _ S (lv_sub hl [0, 1, 2, 3, 4] rfl)
    replace hf := hr9
    refine lv_icmp_ne (tgt := 39) hx hb dX5_readCaption_32 (by decide) (fun c42 => ?_) (fun c42 => ?_)
    · have hf := (if_neg c42).symm.trans hf
      refine lv_aload_n hx hb dX5_readCaption_39 rfl (lv_at hl 2 rfl) ?_
      obtain ⟨v43, σ44, hv43, hf⟩ := g_s2 hf
      refine g_ki S (g_runV (rest := []) X S (c_X5_readNumber l hN  hv43 _) cvX5_readNumber mlX5_67 (kd_N kd_s191 (by decide) hN) (ceC_5 kd_s191 _) rfl rfl rfl hl.1 (Nat.le_of_ble_eq_true rfl) ⟨⟨rfl, rfl⟩, ⟨Nat.le_of_ble_eq_true rfl, Nat.le_of_ble_eq_true rfl⟩, Nat.le_of_ble_eq_true rfl, Nat.le_of_ble_eq_true rfl⟩ dX5_readCaption_40) (fun H locs S => ?_)
      cases hf
      exact J10 _ _ _ S (lv_sub hl [0, 1, 2, 3] rfl)
    · have hf := (if_pos c42).symm.trans hf
      refine lv_iconst (v := (-1 : Int32)) hx hb dX5_readCaption_35 (by decide) ?_
      refine lv_goto (tgt := 43) hx hb dX5_readCaption_36 (by decide) ?_
      cases hf
      exact J10 _ _ _ S (lv_sub hl [0, 1, 2, 3] rfl)
  replace hf := hr5
  refine lv_icmp_ne (tgt := 19) hx hb dX5_readCaption_12 (by decide) (fun c45 => ?_) (fun c45 => ?_)
  · have hf := (if_neg c45).symm.trans hf
    refine lv_aload_n hx hb dX5_readCaption_19 rfl (lv_at hl 1 rfl) ?_
    refine lv_bipush (v := (46 : Int32)) hx hb dX5_readCaption_20 (by decide) ?_
    refine lv_bipush (v := (33 : Int32)) hx hb dX5_readCaption_22 (by decide) ?_
    refine lv_bipush (v := (42 : Int32)) hx hb dX5_readCaption_24 (by decide) ?_
    obtain ⟨v46, σ47, hv46, hf⟩ := g_s2 hf
    refine g_ki S (g_runV (rest := []) X S (c_X5_takeOneOf l hN  hv46 _) cvX5_takeOneOf mlX5_71 (kd_N kd_s191 (by decide) hN) (ceC_5 kd_s191 _) rfl rfl rfl hl.1 (Nat.le_of_ble_eq_true rfl) ⟨⟨rfl, rfl⟩, ⟨Nat.le_of_ble_eq_true rfl, Nat.le_of_ble_eq_true rfl⟩, Nat.le_of_ble_eq_true rfl, Nat.le_of_ble_eq_true rfl⟩ dX5_readCaption_26) (fun H locs S => ?_)
    cases hf
    exact J6 _ _ _ S (lv_sub hl [0, 1, 2] rfl)
  · have hf := (if_pos c45).symm.trans hf
    refine lv_iconst (v := (-1 : Int32)) hx hb dX5_readCaption_15 (by decide) ?_
    refine lv_goto (tgt := 29) hx hb dX5_readCaption_16 (by decide) ?_
    cases hf
    exact J6 _ _ _ S (lv_sub hl [0, 1, 2] rfl)

noncomputable def f_X5_readItem (σ : gSt) (a0 : Int32) : Option (Int32 × gSt) :=
  (g_k2 (f_X5_takeSign σ (99 : Int32)) fun v1 σ2 => (if v1 = 0 then (g_k2 (f_X5_takeSign σ2 (117 : Int32)) fun v4 σ5 => (if v4 = 0 then (g_k2 (f_X5_readCaption σ5 a0) fun v7 σ8 => (g_k1 (gzb v7) fun v9 => some (v9, σ8))) else (g_k2 (f_X5_readCut σ5 a0 (2 : Int32)) fun v10 σ11 => (g_k1 (gzb v10) fun v12 => some (v12, σ11))))) else (g_k2 (f_X5_readCut σ2 a0 (1 : Int32)) fun v13 σ14 => (g_k1 (gzb v13) fun v15 => some (v15, σ14)))))
set_option maxRecDepth 100000 in
set_option maxHeartbeats 4000000 in
theorem c_X5_readItem (l : Launch) {Γ : gG} {ad : Nat → Nat} {N : Nat} (hN : 202 ≤ N) {σ : gSt} {a0 : Int32}  {r : Int32} {σ' : gSt} (hf : f_X5_readItem σ a0 = some (r, σ')) : gMi l celC Γ ad N yX5_readItem cX5_readItem 2 (some .boolean) (gR 4 0 0) [.ref (ad 191), .int a0] σ r σ' := by
  intro sz
  refine gOf (Qc := fun sz => gQci celC Γ ad N r σ' sz) RX5 (by decide) rfl (Nat.le_of_ble_eq_true rfl) (fun p e s m args below meth c H locs ls X S hl => ?_)
  have hl : lv_has ls 2 [(0, .ref (ad 191)), (1, .int a0)] := hl
  have hx := X.1
  have hb := X.2.1
  unfold f_X5_readItem at hf
  refine lv_aload_n hx hb dX5_readItem_0 rfl (lv_at hl 0 rfl) ?_
  refine lv_bipush (v := (99 : Int32)) hx hb dX5_readItem_1 (by decide) ?_
  obtain ⟨v1, σ2, hv1, hf⟩ := g_s2 hf
  refine g_ki S (g_runV (rest := []) X S (c_X5_takeSign l hN  hv1 _) cvX5_takeSign mlX5_57 (kd_N kd_s191 (by decide) hN) (ceC_5 kd_s191 _) rfl rfl rfl hl.1 (Nat.le_of_ble_eq_true rfl) ⟨⟨rfl, rfl⟩, ⟨Nat.le_of_ble_eq_true rfl, Nat.le_of_ble_eq_true rfl⟩, Nat.le_of_ble_eq_true rfl, Nat.le_of_ble_eq_true rfl⟩ dX5_readItem_3) (fun H locs S => ?_)
  refine lv_if_eq (tgt := 16) hx hb dX5_readItem_6 (by decide) (fun c3 => ?_) (fun c3 => ?_)
  · have hf := (if_pos c3).symm.trans hf
    refine lv_aload_n hx hb dX5_readItem_16 rfl (lv_at hl 0 rfl) ?_
    refine lv_bipush (v := (117 : Int32)) hx hb dX5_readItem_17 (by decide) ?_
    obtain ⟨v4, σ5, hv4, hf⟩ := g_s2 hf
    refine g_ki S (g_runV (rest := []) X S (c_X5_takeSign l hN  hv4 _) cvX5_takeSign mlX5_57 (kd_N kd_s191 (by decide) hN) (ceC_5 kd_s191 _) rfl rfl rfl hl.1 (Nat.le_of_ble_eq_true rfl) ⟨⟨rfl, rfl⟩, ⟨Nat.le_of_ble_eq_true rfl, Nat.le_of_ble_eq_true rfl⟩, Nat.le_of_ble_eq_true rfl, Nat.le_of_ble_eq_true rfl⟩ dX5_readItem_19) (fun H locs S => ?_)
    refine lv_if_eq (tgt := 32) hx hb dX5_readItem_22 (by decide) (fun c6 => ?_) (fun c6 => ?_)
    · have hf := (if_pos c6).symm.trans hf
      refine lv_aload_n hx hb dX5_readItem_32 rfl (lv_at hl 0 rfl) ?_
      refine lv_iload_n hx hb dX5_readItem_33 rfl (lv_at hl 1 rfl) ?_
      obtain ⟨v7, σ8, hv7, hf⟩ := g_s2 hf
      refine g_ki S (g_runV (rest := []) X S (c_X5_readCaption l hN  hv7 _) cvX5_readCaption mlX5_64 (kd_N kd_s191 (by decide) hN) (ceC_5 kd_s191 _) rfl rfl rfl hl.1 (Nat.le_of_ble_eq_true rfl) ⟨⟨rfl, rfl⟩, ⟨Nat.le_of_ble_eq_true rfl, Nat.le_of_ble_eq_true rfl⟩, Nat.le_of_ble_eq_true rfl, Nat.le_of_ble_eq_true rfl⟩ dX5_readItem_34) (fun H locs S => ?_)
      obtain ⟨v9, hv9, hf⟩ := g_s1 hf
      obtain ⟨hnv9, rfl⟩ := gzb_some hv9
      cases hf
      exact g_reti X S hnv9 dX5_readItem_37
    · have hf := (if_neg c6).symm.trans hf
      refine lv_aload_n hx hb dX5_readItem_25 rfl (lv_at hl 0 rfl) ?_
      refine lv_iload_n hx hb dX5_readItem_26 rfl (lv_at hl 1 rfl) ?_
      refine lv_iconst (v := (2 : Int32)) hx hb dX5_readItem_27 (by decide) ?_
      obtain ⟨v10, σ11, hv10, hf⟩ := g_s2 hf
      refine g_ki S (g_runV (rest := []) X S (c_X5_readCut l hN  hv10 _) cvX5_readCut mlX5_60 (kd_N kd_s191 (by decide) hN) (ceC_5 kd_s191 _) rfl rfl rfl hl.1 (Nat.le_of_ble_eq_true rfl) ⟨⟨rfl, rfl⟩, ⟨Nat.le_of_ble_eq_true rfl, Nat.le_of_ble_eq_true rfl⟩, Nat.le_of_ble_eq_true rfl, Nat.le_of_ble_eq_true rfl⟩ dX5_readItem_28) (fun H locs S => ?_)
      obtain ⟨v12, hv12, hf⟩ := g_s1 hf
      obtain ⟨hnv12, rfl⟩ := gzb_some hv12
      cases hf
      exact g_reti X S hnv12 dX5_readItem_31
  · have hf := (if_neg c3).symm.trans hf
    refine lv_aload_n hx hb dX5_readItem_9 rfl (lv_at hl 0 rfl) ?_
    refine lv_iload_n hx hb dX5_readItem_10 rfl (lv_at hl 1 rfl) ?_
    refine lv_iconst (v := (1 : Int32)) hx hb dX5_readItem_11 (by decide) ?_
    obtain ⟨v13, σ14, hv13, hf⟩ := g_s2 hf
    refine g_ki S (g_runV (rest := []) X S (c_X5_readCut l hN  hv13 _) cvX5_readCut mlX5_60 (kd_N kd_s191 (by decide) hN) (ceC_5 kd_s191 _) rfl rfl rfl hl.1 (Nat.le_of_ble_eq_true rfl) ⟨⟨rfl, rfl⟩, ⟨Nat.le_of_ble_eq_true rfl, Nat.le_of_ble_eq_true rfl⟩, Nat.le_of_ble_eq_true rfl, Nat.le_of_ble_eq_true rfl⟩ dX5_readItem_12) (fun H locs S => ?_)
    obtain ⟨v15, hv15, hf⟩ := g_s1 hf
    obtain ⟨hnv15, rfl⟩ := gzb_some hv15
    cases hf
    exact g_reti X S hnv15 dX5_readItem_15

