noncomputable def f_X9_merge (σ : gSt) (a0 : Int32) (a1 : Int32) : Option (Nat × Int32 × gSt) :=
  (g_x2 (f_X9_requireCaption σ a0 a1) (fun x s => (x, (0 : Int32), s)) fun σ2 => (g_k2 (f_X2_mergeRefusal σ2 a0 a1) fun v3 σ4 => (g_x2 (f_X9_passOrRefuse σ4 v3) (fun x s => (x, (0 : Int32), s)) fun σ6 => (g_k1 (f_X4_keep σ6 1) fun σ7 => (g_k2 (f_X1_mergeCaption σ7 a0 a1) fun v8 σ9 => some (0, v8, σ9))))))
set_option maxRecDepth 100000 in
set_option maxHeartbeats 4000000 in
theorem c_X9_merge (l : Launch) (hl0 : l.stackTraces = false) {Γ : gG} {ad : Nat → Nat} {N : Nat} (hN : 202 ≤ N) {σ : gSt} {a0 : Int32} {a1 : Int32}  {x : Nat} {r : Int32} {σ' : gSt} (hf : f_X9_merge σ a0 a1 = some (x, r, σ')) : gMxi l Γ ad N yX9_merge cX9_merge 3 (some .int) (gR 10 3 18) [.ref (ad 0), .int a0, .int a1] σ x r σ' 3 18 := by
  intro sz
  refine gOfX (Qc := fun sz => gQcxi Γ ad N x r σ' sz) (XC := fun sz => gXc Γ ad N x σ' sz) RX9 (by decide) rfl (Nat.le_of_ble_eq_true rfl) (fun p e s m args below meth c H locs ls X hT S hl => ?_)
  have hl : lv_has ls 3 [(0, .ref (ad 0)), (1, .int a0), (2, .int a1)] := hl
  have hx := X.1
  have hb := X.2.1
  unfold f_X9_merge at hf
  refine lv_aload_n hx hb dX9_merge_0 rfl (lv_at hl 0 rfl) ?_
  refine lv_iload_n hx hb dX9_merge_1 rfl (lv_at hl 1 rfl) ?_
  refine lv_iload_n hx hb dX9_merge_2 rfl (lv_at hl 2 rfl) ?_
  obtain ⟨x1, σ2, hx1, hf, hfx⟩ := g_sx2 hf
  refine g_kxG S X hT (g_xrunV (rest := []) X S (c_X9_requireCaption l hl0 hN  hx1 _) cvX9_requireCaption mlX9_196 (kd_N kd_s0 (by decide) hN) (ceC_9 kd_s0 _) rfl rfl rfl hl.1 (Nat.le_of_ble_eq_true rfl) ⟨⟨rfl, rfl⟩, ⟨Nat.le_of_ble_eq_true rfl, Nat.le_of_ble_eq_true rfl⟩, Nat.le_of_ble_eq_true rfl, Nat.le_of_ble_eq_true rfl⟩ dX9_merge_3) (fun h0 => by have h9 := hfx h0; cases h9; exact ⟨rfl, rfl⟩) (by decide) (by decide) (fun h0 H locs S => ?_)
  have hf := hf h0
  refine lv_aload_n hx hb dX9_merge_6 rfl (lv_at hl 0 rfl) ?_
  refine lv_aload_n hx hb dX9_merge_7 rfl (lv_at hl 0 rfl) ?_
  refine gfX9_21 X S hN kd_s0 dX9_merge_8 ?_
  refine lv_iload_n hx hb dX9_merge_11 rfl (lv_at hl 1 rfl) ?_
  refine lv_iload_n hx hb dX9_merge_12 rfl (lv_at hl 2 rfl) ?_
  obtain ⟨v3, σ4, hv3, hf⟩ := g_s2 hf
  refine g_ki S (g_runV (rest := [.ref (ad 0)]) X S (c_X2_mergeRefusal l hN  hv3 _) cvX2_mergeRefusal mlX9_221 (kd_N kd_s17 (by decide) hN) (ceC_2 kd_s17 _) rfl rfl rfl hl.1 (Nat.le_of_ble_eq_true rfl) ⟨⟨rfl, rfl⟩, ⟨Nat.le_of_ble_eq_true rfl, Nat.le_of_ble_eq_true rfl⟩, Nat.le_of_ble_eq_true rfl, Nat.le_of_ble_eq_true rfl⟩ dX9_merge_13) (fun H locs S => ?_)
  obtain ⟨x5, σ6, hx5, hf, hfx⟩ := g_sx2 hf
  refine g_kxG S X hT (g_xrunV (rest := []) X S (c_X9_passOrRefuse l hl0 hN  hx5 _) cvX9_passOrRefuse mlX9_86 (kd_N kd_s0 (by decide) hN) (ceC_9 kd_s0 _) rfl rfl rfl hl.1 (Nat.le_of_ble_eq_true rfl) ⟨⟨rfl, rfl⟩, ⟨Nat.le_of_ble_eq_true rfl, Nat.le_of_ble_eq_true rfl⟩, Nat.le_of_ble_eq_true rfl, Nat.le_of_ble_eq_true rfl⟩ dX9_merge_16) (fun h0 => by have h9 := hfx h0; cases h9; exact ⟨rfl, rfl⟩) (by decide) (by decide) (fun h0 H locs S => ?_)
  have hf := hf h0
  refine lv_aload_n hx hb dX9_merge_19 rfl (lv_at hl 0 rfl) ?_
  refine gfX9_37 X S hN kd_s0 dX9_merge_20 ?_
  refine lv_aload_n hx hb dX9_merge_23 rfl (lv_at hl 0 rfl) ?_
  refine gfX9_10 X S hN kd_s0 dX9_merge_24 ?_
  obtain ⟨σ7, hσ7, hf⟩ := g_s1 hf
  refine g_kv S (g_runV (rest := []) X S (c_X4_keep l hN kd_s1 hσ7 _) cvX4_keep mlX9_90 (kd_N kd_s25 (by decide) hN) (ceC_4 kd_s25 _) rfl rfl rfl hl.1 (Nat.le_of_ble_eq_true rfl) ⟨⟨rfl, rfl⟩, ⟨Nat.le_of_ble_eq_true rfl, Nat.le_of_ble_eq_true rfl⟩, Nat.le_of_ble_eq_true rfl, Nat.le_of_ble_eq_true rfl⟩ dX9_merge_27) (fun H locs S => ?_)
  refine lv_aload_n hx hb dX9_merge_30 rfl (lv_at hl 0 rfl) ?_
  refine gfX9_30 X S hN kd_s0 dX9_merge_31 ?_
  refine lv_iload_n hx hb dX9_merge_34 rfl (lv_at hl 1 rfl) ?_
  refine lv_iload_n hx hb dX9_merge_35 rfl (lv_at hl 2 rfl) ?_
  obtain ⟨v8, σ9, hv8, hf⟩ := g_s2 hf
  refine g_ki S (g_runV (rest := []) X S (c_X1_mergeCaption l hN  hv8 _) cvX1_mergeCaption mlX9_224 (kd_N kd_s20 (by decide) hN) (ceC_1 kd_s20 _) rfl rfl rfl hl.1 (Nat.le_of_ble_eq_true rfl) ⟨⟨rfl, rfl⟩, ⟨Nat.le_of_ble_eq_true rfl, Nat.le_of_ble_eq_true rfl⟩, Nat.le_of_ble_eq_true rfl, Nat.le_of_ble_eq_true rfl⟩ dX9_merge_36) (fun H locs S => ?_)
  cases hf
  exact g_xreti X S rfl dX9_merge_39 (by decide) (by decide)

noncomputable def f_X9_snap (σ : gSt) (a0 : Int32) (a1 : Int32) : Option (Nat × Int32 × gSt) :=
  (g_x2 (f_X9_requireCaption σ a0 a1) (fun x s => (x, (0 : Int32), s)) fun σ2 => (g_k1 (f_X1_snapRefusal σ2 a0 a1) fun v3 => (g_x2 (f_X9_passOrRefuse σ2 v3) (fun x s => (x, (0 : Int32), s)) fun σ5 => (g_k1 (f_X4_keep σ5 1) fun σ6 => (g_k2 (f_X1_snapCaption σ6 a0 a1) fun v7 σ8 => some (0, v7, σ8))))))
set_option maxRecDepth 100000 in
set_option maxHeartbeats 4000000 in
theorem c_X9_snap (l : Launch) (hl0 : l.stackTraces = false) {Γ : gG} {ad : Nat → Nat} {N : Nat} (hN : 202 ≤ N) {σ : gSt} {a0 : Int32} {a1 : Int32}  {x : Nat} {r : Int32} {σ' : gSt} (hf : f_X9_snap σ a0 a1 = some (x, r, σ')) : gMxi l Γ ad N yX9_snap cX9_snap 3 (some .int) (gR 10 3 18) [.ref (ad 0), .int a0, .int a1] σ x r σ' 3 18 := by
  intro sz
  refine gOfX (Qc := fun sz => gQcxi Γ ad N x r σ' sz) (XC := fun sz => gXc Γ ad N x σ' sz) RX9 (by decide) rfl (Nat.le_of_ble_eq_true rfl) (fun p e s m args below meth c H locs ls X hT S hl => ?_)
  have hl : lv_has ls 3 [(0, .ref (ad 0)), (1, .int a0), (2, .int a1)] := hl
  have hx := X.1
  have hb := X.2.1
  unfold f_X9_snap at hf
  refine lv_aload_n hx hb dX9_snap_0 rfl (lv_at hl 0 rfl) ?_
  refine lv_iload_n hx hb dX9_snap_1 rfl (lv_at hl 1 rfl) ?_
  refine lv_iload_n hx hb dX9_snap_2 rfl (lv_at hl 2 rfl) ?_
  obtain ⟨x1, σ2, hx1, hf, hfx⟩ := g_sx2 hf
  refine g_kxG S X hT (g_xrunV (rest := []) X S (c_X9_requireCaption l hl0 hN  hx1 _) cvX9_requireCaption mlX9_196 (kd_N kd_s0 (by decide) hN) (ceC_9 kd_s0 _) rfl rfl rfl hl.1 (Nat.le_of_ble_eq_true rfl) ⟨⟨rfl, rfl⟩, ⟨Nat.le_of_ble_eq_true rfl, Nat.le_of_ble_eq_true rfl⟩, Nat.le_of_ble_eq_true rfl, Nat.le_of_ble_eq_true rfl⟩ dX9_snap_3) (fun h0 => by have h9 := hfx h0; cases h9; exact ⟨rfl, rfl⟩) (by decide) (by decide) (fun h0 H locs S => ?_)
  have hf := hf h0
  refine lv_aload_n hx hb dX9_snap_6 rfl (lv_at hl 0 rfl) ?_
  refine lv_aload_n hx hb dX9_snap_7 rfl (lv_at hl 0 rfl) ?_
  refine gfX9_30 X S hN kd_s0 dX9_snap_8 ?_
  refine lv_iload_n hx hb dX9_snap_11 rfl (lv_at hl 1 rfl) ?_
  refine lv_iload_n hx hb dX9_snap_12 rfl (lv_at hl 2 rfl) ?_
  obtain ⟨v3, hv3, hf⟩ := g_s1 hf
  refine g_ki S (g_runV (rest := [.ref (ad 0)]) X S (c_X1_snapRefusal l hN  hv3 _) cvX1_snapRefusal mlX9_227 (kd_N kd_s20 (by decide) hN) (ceC_1 kd_s20 _) rfl rfl rfl hl.1 (Nat.le_of_ble_eq_true rfl) ⟨⟨rfl, rfl⟩, ⟨Nat.le_of_ble_eq_true rfl, Nat.le_of_ble_eq_true rfl⟩, Nat.le_of_ble_eq_true rfl, Nat.le_of_ble_eq_true rfl⟩ dX9_snap_13) (fun H locs S => ?_)
  obtain ⟨x4, σ5, hx4, hf, hfx⟩ := g_sx2 hf
  refine g_kxG S X hT (g_xrunV (rest := []) X S (c_X9_passOrRefuse l hl0 hN  hx4 _) cvX9_passOrRefuse mlX9_86 (kd_N kd_s0 (by decide) hN) (ceC_9 kd_s0 _) rfl rfl rfl hl.1 (Nat.le_of_ble_eq_true rfl) ⟨⟨rfl, rfl⟩, ⟨Nat.le_of_ble_eq_true rfl, Nat.le_of_ble_eq_true rfl⟩, Nat.le_of_ble_eq_true rfl, Nat.le_of_ble_eq_true rfl⟩ dX9_snap_16) (fun h0 => by have h9 := hfx h0; cases h9; exact ⟨rfl, rfl⟩) (by decide) (by decide) (fun h0 H locs S => ?_)
  have hf := hf h0
  refine lv_aload_n hx hb dX9_snap_19 rfl (lv_at hl 0 rfl) ?_
  refine gfX9_37 X S hN kd_s0 dX9_snap_20 ?_
  refine lv_aload_n hx hb dX9_snap_23 rfl (lv_at hl 0 rfl) ?_
  refine gfX9_10 X S hN kd_s0 dX9_snap_24 ?_
  obtain ⟨σ6, hσ6, hf⟩ := g_s1 hf
  refine g_kv S (g_runV (rest := []) X S (c_X4_keep l hN kd_s1 hσ6 _) cvX4_keep mlX9_90 (kd_N kd_s25 (by decide) hN) (ceC_4 kd_s25 _) rfl rfl rfl hl.1 (Nat.le_of_ble_eq_true rfl) ⟨⟨rfl, rfl⟩, ⟨Nat.le_of_ble_eq_true rfl, Nat.le_of_ble_eq_true rfl⟩, Nat.le_of_ble_eq_true rfl, Nat.le_of_ble_eq_true rfl⟩ dX9_snap_27) (fun H locs S => ?_)
  refine lv_aload_n hx hb dX9_snap_30 rfl (lv_at hl 0 rfl) ?_
  refine gfX9_30 X S hN kd_s0 dX9_snap_31 ?_
  refine lv_iload_n hx hb dX9_snap_34 rfl (lv_at hl 1 rfl) ?_
  refine lv_iload_n hx hb dX9_snap_35 rfl (lv_at hl 2 rfl) ?_
  obtain ⟨v7, σ8, hv7, hf⟩ := g_s2 hf
  refine g_ki S (g_runV (rest := []) X S (c_X1_snapCaption l hN  hv7 _) cvX1_snapCaption mlX9_230 (kd_N kd_s20 (by decide) hN) (ceC_1 kd_s20 _) rfl rfl rfl hl.1 (Nat.le_of_ble_eq_true rfl) ⟨⟨rfl, rfl⟩, ⟨Nat.le_of_ble_eq_true rfl, Nat.le_of_ble_eq_true rfl⟩, Nat.le_of_ble_eq_true rfl, Nat.le_of_ble_eq_true rfl⟩ dX9_snap_36) (fun H locs S => ?_)
  cases hf
  exact g_xreti X S rfl dX9_snap_39 (by decide) (by decide)

noncomputable def f_X9_fit (σ : gSt) (a0 : Int32) (a1 : Int32) : Option (Nat × Int32 × gSt) :=
  (g_x2 (f_X9_requireCaption σ a0 a1) (fun x s => (x, (0 : Int32), s)) fun σ2 => (g_k1 (f_X4_keep σ2 1) fun σ3 => (g_k2 (f_X1_fitCaption σ3 a0 a1) fun v4 σ5 => some (0, v4, σ5))))
set_option maxRecDepth 100000 in
set_option maxHeartbeats 4000000 in
theorem c_X9_fit (l : Launch) (hl0 : l.stackTraces = false) {Γ : gG} {ad : Nat → Nat} {N : Nat} (hN : 202 ≤ N) {σ : gSt} {a0 : Int32} {a1 : Int32}  {x : Nat} {r : Int32} {σ' : gSt} (hf : f_X9_fit σ a0 a1 = some (x, r, σ')) : gMxi l Γ ad N yX9_fit cX9_fit 3 (some .int) (gR 10 2 12) [.ref (ad 0), .int a0, .int a1] σ x r σ' 2 12 := by
  intro sz
  refine gOfX (Qc := fun sz => gQcxi Γ ad N x r σ' sz) (XC := fun sz => gXc Γ ad N x σ' sz) RX9 (by decide) rfl (Nat.le_of_ble_eq_true rfl) (fun p e s m args below meth c H locs ls X hT S hl => ?_)
  have hl : lv_has ls 3 [(0, .ref (ad 0)), (1, .int a0), (2, .int a1)] := hl
  have hx := X.1
  have hb := X.2.1
  unfold f_X9_fit at hf
  refine lv_aload_n hx hb dX9_fit_0 rfl (lv_at hl 0 rfl) ?_
  refine lv_iload_n hx hb dX9_fit_1 rfl (lv_at hl 1 rfl) ?_
  refine lv_iload_n hx hb dX9_fit_2 rfl (lv_at hl 2 rfl) ?_
  obtain ⟨x1, σ2, hx1, hf, hfx⟩ := g_sx2 hf
  refine g_kxG S X hT (g_xrunV (rest := []) X S (c_X9_requireCaption l hl0 hN  hx1 _) cvX9_requireCaption mlX9_196 (kd_N kd_s0 (by decide) hN) (ceC_9 kd_s0 _) rfl rfl rfl hl.1 (Nat.le_of_ble_eq_true rfl) ⟨⟨rfl, rfl⟩, ⟨Nat.le_of_ble_eq_true rfl, Nat.le_of_ble_eq_true rfl⟩, Nat.le_of_ble_eq_true rfl, Nat.le_of_ble_eq_true rfl⟩ dX9_fit_3) (fun h0 => by have h9 := hfx h0; cases h9; exact ⟨rfl, rfl⟩) (by decide) (by decide) (fun h0 H locs S => ?_)
  have hf := hf h0
  refine lv_aload_n hx hb dX9_fit_6 rfl (lv_at hl 0 rfl) ?_
  refine gfX9_37 X S hN kd_s0 dX9_fit_7 ?_
  refine lv_aload_n hx hb dX9_fit_10 rfl (lv_at hl 0 rfl) ?_
  refine gfX9_10 X S hN kd_s0 dX9_fit_11 ?_
  obtain ⟨σ3, hσ3, hf⟩ := g_s1 hf
  refine g_kv S (g_runV (rest := []) X S (c_X4_keep l hN kd_s1 hσ3 _) cvX4_keep mlX9_90 (kd_N kd_s25 (by decide) hN) (ceC_4 kd_s25 _) rfl rfl rfl hl.1 (Nat.le_of_ble_eq_true rfl) ⟨⟨rfl, rfl⟩, ⟨Nat.le_of_ble_eq_true rfl, Nat.le_of_ble_eq_true rfl⟩, Nat.le_of_ble_eq_true rfl, Nat.le_of_ble_eq_true rfl⟩ dX9_fit_14) (fun H locs S => ?_)
  refine lv_aload_n hx hb dX9_fit_17 rfl (lv_at hl 0 rfl) ?_
  refine gfX9_30 X S hN kd_s0 dX9_fit_18 ?_
  refine lv_iload_n hx hb dX9_fit_21 rfl (lv_at hl 1 rfl) ?_
  refine lv_iload_n hx hb dX9_fit_22 rfl (lv_at hl 2 rfl) ?_
  obtain ⟨v4, σ5, hv4, hf⟩ := g_s2 hf
  refine g_ki S (g_runV (rest := []) X S (c_X1_fitCaption l hN  hv4 _) cvX1_fitCaption mlX9_233 (kd_N kd_s20 (by decide) hN) (ceC_1 kd_s20 _) rfl rfl rfl hl.1 (Nat.le_of_ble_eq_true rfl) ⟨⟨rfl, rfl⟩, ⟨Nat.le_of_ble_eq_true rfl, Nat.le_of_ble_eq_true rfl⟩, Nat.le_of_ble_eq_true rfl, Nat.le_of_ble_eq_true rfl⟩ dX9_fit_23) (fun H locs S => ?_)
  cases hf
  exact g_xreti X S rfl dX9_fit_26 (by decide) (by decide)

noncomputable def f_X9_caption (σ : gSt) (a0 : Int32) (a1 : Int32) (a2 : Int32) : Option (Nat × Int32 × gSt) :=
  (g_x2 (f_X9_requireCaption σ a0 a1) (fun x s => (x, (0 : Int32), s)) fun σ2 => (g_k1 (f_X3_trackOf σ2 1 a0) fun v3 => (if a2 = (0 : Int32) then (g_k1 (f_X8_first σ2 v3 a1) fun v5 => some (0, v5, σ2)) else (if a2 = (1 : Int32) then (g_k1 (f_X8_end σ2 v3 a1) fun v7 => some (0, v7, σ2)) else (if a2 = (2 : Int32) then (g_k1 (f_X8_kind σ2 v3 a1) fun v9 => some (0, v9, σ2)) else (if a2 = (3 : Int32) then (g_k1 (f_X8_load σ2 v3 a1) fun v11 => some (0, v11, σ2)) else (if a2 = (4 : Int32) then (g_k1 (f_X2_needs σ2 a0 a1) fun v13 => some (0, v13, σ2)) else (if a2 = (5 : Int32) then (g_k1 (f_X2_problems σ2 a0 a1) fun v15 => some (0, v15, σ2)) else (if a2 = (6 : Int32) then (g_k1 (f_X2_partner σ2 a0 a1) fun v17 => some (0, v17, σ2)) else (if a2 = (7 : Int32) then (g_k1 (f_X8_size σ2 v3 a1) fun v19 => some (0, v19, σ2)) else (if a2 = (8 : Int32) then (g_k1 (f_X8_longestLine σ2 v3 a1) fun v21 => some (0, v21, σ2)) else (if a2 = (9 : Int32) then (g_k1 (f_X2_cutsWithin σ2 a0 a1) fun v23 => some (0, v23, σ2)) else (if a2 = (10 : Int32) then (g_k1 (f_X8_gapBefore σ2 v3 a1) fun v25 => some (0, v25, σ2)) else (if a2 = (11 : Int32) then (g_k1 (f_X2_sharedWithPartner σ2 a0 a1) fun v27 => some (0, v27, σ2)) else some (1, 0, σ2)))))))))))))))
set_option maxRecDepth 100000 in
set_option maxHeartbeats 4000000 in
theorem c_X9_caption (l : Launch) (hl0 : l.stackTraces = false) {Γ : gG} {ad : Nat → Nat} {N : Nat} (hN : 202 ≤ N) {σ : gSt} {a0 : Int32} {a1 : Int32} {a2 : Int32}  {x : Nat} {r : Int32} {σ' : gSt} (hf : f_X9_caption σ a0 a1 a2 = some (x, r, σ')) : gMxi l Γ ad N yX9_caption cX9_caption 5 (some .int) (gR 10 3 18) [.ref (ad 0), .int a0, .int a1, .int a2] σ x r σ' 3 18 := by
  intro sz
  refine gOfX (Qc := fun sz => gQcxi Γ ad N x r σ' sz) (XC := fun sz => gXc Γ ad N x σ' sz) RX9 (by decide) rfl (Nat.le_of_ble_eq_true rfl) (fun p e s m args below meth c H locs ls X hT S hl => ?_)
  have hl : lv_has ls 5 [(0, .ref (ad 0)), (1, .int a0), (2, .int a1), (3, .int a2)] := hl
  have hx := X.1
  have hb := X.2.1
  unfold f_X9_caption at hf
  refine lv_aload_n hx hb dX9_caption_0 rfl (lv_at hl 0 rfl) ?_
  refine lv_iload_n hx hb dX9_caption_1 rfl (lv_at hl 1 rfl) ?_
  refine lv_iload_n hx hb dX9_caption_2 rfl (lv_at hl 2 rfl) ?_
  obtain ⟨x1, σ2, hx1, hf, hfx⟩ := g_sx2 hf
  refine g_kxG S X hT (g_xrunV (rest := []) X S (c_X9_requireCaption l hl0 hN  hx1 _) cvX9_requireCaption mlX9_196 (kd_N kd_s0 (by decide) hN) (ceC_9 kd_s0 _) rfl rfl rfl hl.1 (Nat.le_of_ble_eq_true rfl) ⟨⟨rfl, rfl⟩, ⟨Nat.le_of_ble_eq_true rfl, Nat.le_of_ble_eq_true rfl⟩, Nat.le_of_ble_eq_true rfl, Nat.le_of_ble_eq_true rfl⟩ dX9_caption_3) (fun h0 => by have h9 := hfx h0; cases h9; exact ⟨rfl, rfl⟩) (by decide) (by decide) (fun h0 H locs S => ?_)
  have hf := hf h0
  refine lv_aload_n hx hb dX9_caption_6 rfl (lv_at hl 0 rfl) ?_
  refine gfX9_10 X S hN kd_s0 dX9_caption_7 ?_
  refine lv_iload_n hx hb dX9_caption_10 rfl (lv_at hl 1 rfl) ?_
  obtain ⟨v3, hv3, hf⟩ := g_s1 hf
  refine g_kr S (g_runV (rest := []) X S (c_X3_trackOf l hN kd_s1 hv3 _) cvX3_trackOf mlX9_138 (kd_N kd_s1 (by decide) hN) (ceC_3 kd_s1 _) rfl rfl rfl hl.1 (Nat.le_of_ble_eq_true rfl) ⟨⟨rfl, rfl⟩, ⟨Nat.le_of_ble_eq_true rfl, Nat.le_of_ble_eq_true rfl⟩, Nat.le_of_ble_eq_true rfl, Nat.le_of_ble_eq_true rfl⟩ dX9_caption_11) (fun H locs S => ?_)
  have hkv3 : gkd v3 = 8 := kr_X3_trackOf kd_s1 hv3
  refine lv_astore (lv' := [(4, .ref (ad v3)), (0, .ref (ad 0)), (1, .int a0), (2, .int a1), (3, .int a2)]) hx hb dX9_caption_14 hl (by decide) rfl (fun ls hl => ?_)
  refine lv_iload_n hx hb dX9_caption_16 rfl (lv_at hl 4 rfl) ?_
  by_cases c4 : a2 = (0 : Int32)
  · have hf := (if_pos c4).symm.trans hf
    refine lv_tableIn (off := 63) (tgt := 80) hx hb dX9_caption_17 (by rw [c4]; decide) (by rw [c4]; decide) (by rw [c4]; decide) (by decide) ?_
    refine lv_aload hx hb dX9_caption_80 (lv_at hl 0 rfl) ?_
    refine lv_iload_n hx hb dX9_caption_82 rfl (lv_at hl 3 rfl) ?_
    obtain ⟨v5, hv5, hf⟩ := g_s1 hf
    refine g_ki S (g_runV (rest := []) X S (c_X8_first l hN hkv3 hv5 _) cvX8_first mlX9_254 (kd_N hkv3 (by decide) hN) (ceC_8 hkv3 _) rfl rfl rfl hl.1 (Nat.le_of_ble_eq_true rfl) ⟨⟨rfl, rfl⟩, ⟨Nat.le_of_ble_eq_true rfl, Nat.le_of_ble_eq_true rfl⟩, Nat.le_of_ble_eq_true rfl, Nat.le_of_ble_eq_true rfl⟩ dX9_caption_83) (fun H locs S => ?_)
    cases hf
    exact g_xreti X S rfl dX9_caption_86 (by decide) (by decide)
  replace hf := (if_neg c4).symm.trans hf
  by_cases c6 : a2 = (1 : Int32)
  · have hf := (if_pos c6).symm.trans hf
    refine lv_tableIn (off := 70) (tgt := 87) hx hb dX9_caption_17 (by rw [c6]; decide) (by rw [c6]; decide) (by rw [c6]; decide) (by decide) ?_
    refine lv_aload hx hb dX9_caption_87 (lv_at hl 0 rfl) ?_
    refine lv_iload_n hx hb dX9_caption_89 rfl (lv_at hl 3 rfl) ?_
    obtain ⟨v7, hv7, hf⟩ := g_s1 hf
    refine g_ki S (g_runV (rest := []) X S (c_X8_end l hN hkv3 hv7 _) cvX8_end mlX9_257 (kd_N hkv3 (by decide) hN) (ceC_8 hkv3 _) rfl rfl rfl hl.1 (Nat.le_of_ble_eq_true rfl) ⟨⟨rfl, rfl⟩, ⟨Nat.le_of_ble_eq_true rfl, Nat.le_of_ble_eq_true rfl⟩, Nat.le_of_ble_eq_true rfl, Nat.le_of_ble_eq_true rfl⟩ dX9_caption_90) (fun H locs S => ?_)
    cases hf
    exact g_xreti X S rfl dX9_caption_93 (by decide) (by decide)
  replace hf := (if_neg c6).symm.trans hf
  by_cases c8 : a2 = (2 : Int32)
  · have hf := (if_pos c8).symm.trans hf
    refine lv_tableIn (off := 77) (tgt := 94) hx hb dX9_caption_17 (by rw [c8]; decide) (by rw [c8]; decide) (by rw [c8]; decide) (by decide) ?_
    refine lv_aload hx hb dX9_caption_94 (lv_at hl 0 rfl) ?_
    refine lv_iload_n hx hb dX9_caption_96 rfl (lv_at hl 3 rfl) ?_
    obtain ⟨v9, hv9, hf⟩ := g_s1 hf
    refine g_ki S (g_runV (rest := []) X S (c_X8_kind l hN hkv3 hv9 _) cvX8_kind mlX9_260 (kd_N hkv3 (by decide) hN) (ceC_8 hkv3 _) rfl rfl rfl hl.1 (Nat.le_of_ble_eq_true rfl) ⟨⟨rfl, rfl⟩, ⟨Nat.le_of_ble_eq_true rfl, Nat.le_of_ble_eq_true rfl⟩, Nat.le_of_ble_eq_true rfl, Nat.le_of_ble_eq_true rfl⟩ dX9_caption_97) (fun H locs S => ?_)
    cases hf
    exact g_xreti X S rfl dX9_caption_100 (by decide) (by decide)
  replace hf := (if_neg c8).symm.trans hf
  by_cases c10 : a2 = (3 : Int32)
  · have hf := (if_pos c10).symm.trans hf
    refine lv_tableIn (off := 84) (tgt := 101) hx hb dX9_caption_17 (by rw [c10]; decide) (by rw [c10]; decide) (by rw [c10]; decide) (by decide) ?_
    refine lv_aload hx hb dX9_caption_101 (lv_at hl 0 rfl) ?_
    refine lv_iload_n hx hb dX9_caption_103 rfl (lv_at hl 3 rfl) ?_
    obtain ⟨v11, hv11, hf⟩ := g_s1 hf
    refine g_ki S (g_runV (rest := []) X S (c_X8_load l hN hkv3 hv11 _) cvX8_load mlX9_263 (kd_N hkv3 (by decide) hN) (ceC_8 hkv3 _) rfl rfl rfl hl.1 (Nat.le_of_ble_eq_true rfl) ⟨⟨rfl, rfl⟩, ⟨Nat.le_of_ble_eq_true rfl, Nat.le_of_ble_eq_true rfl⟩, Nat.le_of_ble_eq_true rfl, Nat.le_of_ble_eq_true rfl⟩ dX9_caption_104) (fun H locs S => ?_)
    cases hf
    exact g_xreti X S rfl dX9_caption_107 (by decide) (by decide)
  replace hf := (if_neg c10).symm.trans hf
  by_cases c12 : a2 = (4 : Int32)
  · have hf := (if_pos c12).symm.trans hf
    refine lv_tableIn (off := 91) (tgt := 108) hx hb dX9_caption_17 (by rw [c12]; decide) (by rw [c12]; decide) (by rw [c12]; decide) (by decide) ?_
    refine lv_aload_n hx hb dX9_caption_108 rfl (lv_at hl 1 rfl) ?_
    refine gfX9_21 X S hN kd_s0 dX9_caption_109 ?_
    refine lv_iload_n hx hb dX9_caption_112 rfl (lv_at hl 2 rfl) ?_
    refine lv_iload_n hx hb dX9_caption_113 rfl (lv_at hl 3 rfl) ?_
    obtain ⟨v13, hv13, hf⟩ := g_s1 hf
    refine g_ki S (g_runV (rest := []) X S (c_X2_needs l hN  hv13 _) cvX2_needs mlX9_266 (kd_N kd_s17 (by decide) hN) (ceC_2 kd_s17 _) rfl rfl rfl hl.1 (Nat.le_of_ble_eq_true rfl) ⟨⟨rfl, rfl⟩, ⟨Nat.le_of_ble_eq_true rfl, Nat.le_of_ble_eq_true rfl⟩, Nat.le_of_ble_eq_true rfl, Nat.le_of_ble_eq_true rfl⟩ dX9_caption_114) (fun H locs S => ?_)
    cases hf
    exact g_xreti X S rfl dX9_caption_117 (by decide) (by decide)
  replace hf := (if_neg c12).symm.trans hf
  by_cases c14 : a2 = (5 : Int32)
  · have hf := (if_pos c14).symm.trans hf
    refine lv_tableIn (off := 101) (tgt := 118) hx hb dX9_caption_17 (by rw [c14]; decide) (by rw [c14]; decide) (by rw [c14]; decide) (by decide) ?_
    refine lv_aload_n hx hb dX9_caption_118 rfl (lv_at hl 1 rfl) ?_
    refine gfX9_21 X S hN kd_s0 dX9_caption_119 ?_
    refine lv_iload_n hx hb dX9_caption_122 rfl (lv_at hl 2 rfl) ?_
    refine lv_iload_n hx hb dX9_caption_123 rfl (lv_at hl 3 rfl) ?_
    obtain ⟨v15, hv15, hf⟩ := g_s1 hf
    refine g_ki S (g_runV (rest := []) X S (c_X2_problems l hN  hv15 _) cvX2_problems mlX9_269 (kd_N kd_s17 (by decide) hN) (ceC_2 kd_s17 _) rfl rfl rfl hl.1 (Nat.le_of_ble_eq_true rfl) ⟨⟨rfl, rfl⟩, ⟨Nat.le_of_ble_eq_true rfl, Nat.le_of_ble_eq_true rfl⟩, Nat.le_of_ble_eq_true rfl, Nat.le_of_ble_eq_true rfl⟩ dX9_caption_124) (fun H locs S => ?_)
    cases hf
    exact g_xreti X S rfl dX9_caption_127 (by decide) (by decide)
  replace hf := (if_neg c14).symm.trans hf
  by_cases c16 : a2 = (6 : Int32)
  · have hf := (if_pos c16).symm.trans hf
    refine lv_tableIn (off := 111) (tgt := 128) hx hb dX9_caption_17 (by rw [c16]; decide) (by rw [c16]; decide) (by rw [c16]; decide) (by decide) ?_
    refine lv_aload_n hx hb dX9_caption_128 rfl (lv_at hl 1 rfl) ?_
    refine gfX9_21 X S hN kd_s0 dX9_caption_129 ?_
    refine lv_iload_n hx hb dX9_caption_132 rfl (lv_at hl 2 rfl) ?_
    refine lv_iload_n hx hb dX9_caption_133 rfl (lv_at hl 3 rfl) ?_
    obtain ⟨v17, hv17, hf⟩ := g_s1 hf
    refine g_ki S (g_runV (rest := []) X S (c_X2_partner l hN  hv17 _) cvX2_partner mlX9_272 (kd_N kd_s17 (by decide) hN) (ceC_2 kd_s17 _) rfl rfl rfl hl.1 (Nat.le_of_ble_eq_true rfl) ⟨⟨rfl, rfl⟩, ⟨Nat.le_of_ble_eq_true rfl, Nat.le_of_ble_eq_true rfl⟩, Nat.le_of_ble_eq_true rfl, Nat.le_of_ble_eq_true rfl⟩ dX9_caption_134) (fun H locs S => ?_)
    cases hf
    exact g_xreti X S rfl dX9_caption_137 (by decide) (by decide)
  replace hf := (if_neg c16).symm.trans hf
  by_cases c18 : a2 = (7 : Int32)
  · have hf := (if_pos c18).symm.trans hf
    refine lv_tableIn (off := 121) (tgt := 138) hx hb dX9_caption_17 (by rw [c18]; decide) (by rw [c18]; decide) (by rw [c18]; decide) (by decide) ?_
    refine lv_aload hx hb dX9_caption_138 (lv_at hl 0 rfl) ?_
    refine lv_iload_n hx hb dX9_caption_140 rfl (lv_at hl 3 rfl) ?_
    obtain ⟨v19, hv19, hf⟩ := g_s1 hf
    refine g_ki S (g_runV (rest := []) X S (c_X8_size l hN hkv3 hv19 _) cvX8_size mlX9_210 (kd_N hkv3 (by decide) hN) (ceC_8 hkv3 _) rfl rfl rfl hl.1 (Nat.le_of_ble_eq_true rfl) ⟨⟨rfl, rfl⟩, ⟨Nat.le_of_ble_eq_true rfl, Nat.le_of_ble_eq_true rfl⟩, Nat.le_of_ble_eq_true rfl, Nat.le_of_ble_eq_true rfl⟩ dX9_caption_141) (fun H locs S => ?_)
    cases hf
    exact g_xreti X S rfl dX9_caption_144 (by decide) (by decide)
  replace hf := (if_neg c18).symm.trans hf
  by_cases c20 : a2 = (8 : Int32)
  · have hf := (if_pos c20).symm.trans hf
    refine lv_tableIn (off := 128) (tgt := 145) hx hb dX9_caption_17 (by rw [c20]; decide) (by rw [c20]; decide) (by rw [c20]; decide) (by decide) ?_
    refine lv_aload hx hb dX9_caption_145 (lv_at hl 0 rfl) ?_
    refine lv_iload_n hx hb dX9_caption_147 rfl (lv_at hl 3 rfl) ?_
    obtain ⟨v21, hv21, hf⟩ := g_s1 hf
    refine g_ki S (g_runV (rest := []) X S (c_X8_longestLine l hN hkv3 hv21 _) cvX8_longestLine mlX9_275 (kd_N hkv3 (by decide) hN) (ceC_8 hkv3 _) rfl rfl rfl hl.1 (Nat.le_of_ble_eq_true rfl) ⟨⟨rfl, rfl⟩, ⟨Nat.le_of_ble_eq_true rfl, Nat.le_of_ble_eq_true rfl⟩, Nat.le_of_ble_eq_true rfl, Nat.le_of_ble_eq_true rfl⟩ dX9_caption_148) (fun H locs S => ?_)
    cases hf
    exact g_xreti X S rfl dX9_caption_151 (by decide) (by decide)
  replace hf := (if_neg c20).symm.trans hf
  by_cases c22 : a2 = (9 : Int32)
  · have hf := (if_pos c22).symm.trans hf
    refine lv_tableIn (off := 135) (tgt := 152) hx hb dX9_caption_17 (by rw [c22]; decide) (by rw [c22]; decide) (by rw [c22]; decide) (by decide) ?_
    refine lv_aload_n hx hb dX9_caption_152 rfl (lv_at hl 1 rfl) ?_
    refine gfX9_21 X S hN kd_s0 dX9_caption_153 ?_
    refine lv_iload_n hx hb dX9_caption_156 rfl (lv_at hl 2 rfl) ?_
    refine lv_iload_n hx hb dX9_caption_157 rfl (lv_at hl 3 rfl) ?_
    obtain ⟨v23, hv23, hf⟩ := g_s1 hf
    refine g_ki S (g_runV (rest := []) X S (c_X2_cutsWithin l hN  hv23 _) cvX2_cutsWithin mlX9_278 (kd_N kd_s17 (by decide) hN) (ceC_2 kd_s17 _) rfl rfl rfl hl.1 (Nat.le_of_ble_eq_true rfl) ⟨⟨rfl, rfl⟩, ⟨Nat.le_of_ble_eq_true rfl, Nat.le_of_ble_eq_true rfl⟩, Nat.le_of_ble_eq_true rfl, Nat.le_of_ble_eq_true rfl⟩ dX9_caption_158) (fun H locs S => ?_)
    cases hf
    exact g_xreti X S rfl dX9_caption_161 (by decide) (by decide)
  replace hf := (if_neg c22).symm.trans hf
  by_cases c24 : a2 = (10 : Int32)
  · have hf := (if_pos c24).symm.trans hf
    refine lv_tableIn (off := 145) (tgt := 162) hx hb dX9_caption_17 (by rw [c24]; decide) (by rw [c24]; decide) (by rw [c24]; decide) (by decide) ?_
    refine lv_aload hx hb dX9_caption_162 (lv_at hl 0 rfl) ?_
    refine lv_iload_n hx hb dX9_caption_164 rfl (lv_at hl 3 rfl) ?_
    obtain ⟨v25, hv25, hf⟩ := g_s1 hf
    refine g_ki S (g_runV (rest := []) X S (c_X8_gapBefore l hN hkv3 hv25 _) cvX8_gapBefore mlX9_281 (kd_N hkv3 (by decide) hN) (ceC_8 hkv3 _) rfl rfl rfl hl.1 (Nat.le_of_ble_eq_true rfl) ⟨⟨rfl, rfl⟩, ⟨Nat.le_of_ble_eq_true rfl, Nat.le_of_ble_eq_true rfl⟩, Nat.le_of_ble_eq_true rfl, Nat.le_of_ble_eq_true rfl⟩ dX9_caption_165) (fun H locs S => ?_)
    cases hf
    exact g_xreti X S rfl dX9_caption_168 (by decide) (by decide)
  replace hf := (if_neg c24).symm.trans hf
  by_cases c26 : a2 = (11 : Int32)
  · have hf := (if_pos c26).symm.trans hf
    refine lv_tableIn (off := 152) (tgt := 169) hx hb dX9_caption_17 (by rw [c26]; decide) (by rw [c26]; decide) (by rw [c26]; decide) (by decide) ?_
    refine lv_aload_n hx hb dX9_caption_169 rfl (lv_at hl 1 rfl) ?_
    refine gfX9_21 X S hN kd_s0 dX9_caption_170 ?_
    refine lv_iload_n hx hb dX9_caption_173 rfl (lv_at hl 2 rfl) ?_
    refine lv_iload_n hx hb dX9_caption_174 rfl (lv_at hl 3 rfl) ?_
    obtain ⟨v27, hv27, hf⟩ := g_s1 hf
    refine g_ki S (g_runV (rest := []) X S (c_X2_sharedWithPartner l hN  hv27 _) cvX2_sharedWithPartner mlX9_284 (kd_N kd_s17 (by decide) hN) (ceC_2 kd_s17 _) rfl rfl rfl hl.1 (Nat.le_of_ble_eq_true rfl) ⟨⟨rfl, rfl⟩, ⟨Nat.le_of_ble_eq_true rfl, Nat.le_of_ble_eq_true rfl⟩, Nat.le_of_ble_eq_true rfl, Nat.le_of_ble_eq_true rfl⟩ dX9_caption_175) (fun H locs S => ?_)
    cases hf
    exact g_xreti X S rfl dX9_caption_178 (by decide) (by decide)
  replace hf := (if_neg c26).symm.trans hf
  refine lv_tableOut (tgt := 179) hx hb dX9_caption_17 (g_swout0 (x := a2) (lo := 0) (n := 12) (fun j hj => by rcases (show j = 0 ∨ j = 1 ∨ j = 2 ∨ j = 3 ∨ j = 4 ∨ j = 5 ∨ j = 6 ∨ j = 7 ∨ j = 8 ∨ j = 9 ∨ j = 10 ∨ j = 11 by omega) with rfl | rfl | rfl | rfl | rfl | rfl | rfl | rfl | rfl | rfl | rfl | rfl <;> (intro h9; first | exact c4 (Int32.toInt_inj.mp (h9.trans (by decide))) | exact c6 (Int32.toInt_inj.mp (h9.trans (by decide))) | exact c8 (Int32.toInt_inj.mp (h9.trans (by decide))) | exact c10 (Int32.toInt_inj.mp (h9.trans (by decide))) | exact c12 (Int32.toInt_inj.mp (h9.trans (by decide))) | exact c14 (Int32.toInt_inj.mp (h9.trans (by decide))) | exact c16 (Int32.toInt_inj.mp (h9.trans (by decide))) | exact c18 (Int32.toInt_inj.mp (h9.trans (by decide))) | exact c20 (Int32.toInt_inj.mp (h9.trans (by decide))) | exact c22 (Int32.toInt_inj.mp (h9.trans (by decide))) | exact c24 (Int32.toInt_inj.mp (h9.trans (by decide))) | exact c26 (Int32.toInt_inj.mp (h9.trans (by decide)))))) (by decide) ?_
  cases hf
  exact g_throwX hl0 X S hT hl.1 ex_1 st_159 dX9_caption_179 dX9_caption_182 dX9_caption_183 dX9_caption_185 dX9_caption_188 (by decide) (Nat.le_of_ble_eq_true rfl) (Nat.le_of_ble_eq_true rfl) (Nat.le_of_ble_eq_true rfl) (Nat.le_of_ble_eq_true rfl) (Nat.le_of_ble_eq_true rfl)

noncomputable def f_X9_letter (σ : gSt) (a0 : Int32) (a1 : Int32) (a2 : Int32) : Option (Nat × Int32 × gSt) :=
  (g_x2 (f_X9_requireCaption σ a0 a1) (fun x s => (x, (0 : Int32), s)) fun σ2 => (g_k1 (f_X3_trackOf σ2 1 a0) fun v3 => (g_k1 (f_X8_signAt σ2 v3 a1 a2) fun v4 => (if v4 = (-1 : Int32) then some (5, 0, σ2) else some (0, (((v4).toUInt32 % 65536).toInt32), σ2)))))
set_option maxRecDepth 100000 in
set_option maxHeartbeats 4000000 in
theorem c_X9_letter (l : Launch) (hl0 : l.stackTraces = false) {Γ : gG} {ad : Nat → Nat} {N : Nat} (hN : 202 ≤ N) {σ : gSt} {a0 : Int32} {a1 : Int32} {a2 : Int32}  {x : Nat} {r : Int32} {σ' : gSt} (hf : f_X9_letter σ a0 a1 a2 = some (x, r, σ')) : gMxi l Γ ad N yX9_letter cX9_letter 5 (some .char) (gR 10 3 18) [.ref (ad 0), .int a0, .int a1, .int a2] σ x r σ' 3 18 := by
  intro sz
  refine gOfX (Qc := fun sz => gQcxi Γ ad N x r σ' sz) (XC := fun sz => gXc Γ ad N x σ' sz) RX9 (by decide) rfl (Nat.le_of_ble_eq_true rfl) (fun p e s m args below meth c H locs ls X hT S hl => ?_)
  have hl : lv_has ls 5 [(0, .ref (ad 0)), (1, .int a0), (2, .int a1), (3, .int a2)] := hl
  have hx := X.1
  have hb := X.2.1
  unfold f_X9_letter at hf
  refine lv_aload_n hx hb dX9_letter_0 rfl (lv_at hl 0 rfl) ?_
  refine lv_iload_n hx hb dX9_letter_1 rfl (lv_at hl 1 rfl) ?_
  refine lv_iload_n hx hb dX9_letter_2 rfl (lv_at hl 2 rfl) ?_
  obtain ⟨x1, σ2, hx1, hf, hfx⟩ := g_sx2 hf
  refine g_kxG S X hT (g_xrunV (rest := []) X S (c_X9_requireCaption l hl0 hN  hx1 _) cvX9_requireCaption mlX9_196 (kd_N kd_s0 (by decide) hN) (ceC_9 kd_s0 _) rfl rfl rfl hl.1 (Nat.le_of_ble_eq_true rfl) ⟨⟨rfl, rfl⟩, ⟨Nat.le_of_ble_eq_true rfl, Nat.le_of_ble_eq_true rfl⟩, Nat.le_of_ble_eq_true rfl, Nat.le_of_ble_eq_true rfl⟩ dX9_letter_3) (fun h0 => by have h9 := hfx h0; cases h9; exact ⟨rfl, rfl⟩) (by decide) (by decide) (fun h0 H locs S => ?_)
  have hf := hf h0
  refine lv_aload_n hx hb dX9_letter_6 rfl (lv_at hl 0 rfl) ?_
  refine gfX9_10 X S hN kd_s0 dX9_letter_7 ?_
  refine lv_iload_n hx hb dX9_letter_10 rfl (lv_at hl 1 rfl) ?_
  obtain ⟨v3, hv3, hf⟩ := g_s1 hf
  refine g_kr S (g_runV (rest := []) X S (c_X3_trackOf l hN kd_s1 hv3 _) cvX3_trackOf mlX9_138 (kd_N kd_s1 (by decide) hN) (ceC_3 kd_s1 _) rfl rfl rfl hl.1 (Nat.le_of_ble_eq_true rfl) ⟨⟨rfl, rfl⟩, ⟨Nat.le_of_ble_eq_true rfl, Nat.le_of_ble_eq_true rfl⟩, Nat.le_of_ble_eq_true rfl, Nat.le_of_ble_eq_true rfl⟩ dX9_letter_11) (fun H locs S => ?_)
  have hkv3 : gkd v3 = 8 := kr_X3_trackOf kd_s1 hv3
  refine lv_iload_n hx hb dX9_letter_14 rfl (lv_at hl 2 rfl) ?_
  refine lv_iload_n hx hb dX9_letter_15 rfl (lv_at hl 3 rfl) ?_
  obtain ⟨v4, hv4, hf⟩ := g_s1 hf
  refine g_ki S (g_runV (rest := []) X S (c_X8_signAt l hN hkv3 hv4 _) cvX8_signAt mlX9_287 (kd_N hkv3 (by decide) hN) (ceC_8 hkv3 _) rfl rfl rfl hl.1 (Nat.le_of_ble_eq_true rfl) ⟨⟨rfl, rfl⟩, ⟨Nat.le_of_ble_eq_true rfl, Nat.le_of_ble_eq_true rfl⟩, Nat.le_of_ble_eq_true rfl, Nat.le_of_ble_eq_true rfl⟩ dX9_letter_16) (fun H locs S => ?_)
  refine lv_istore (lv' := [(4, .int v4), (0, .ref (ad 0)), (1, .int a0), (2, .int a1), (3, .int a2)]) hx hb dX9_letter_19 hl (by decide) rfl (fun ls hl => ?_)
  refine lv_iload hx hb dX9_letter_21 (lv_at hl 0 rfl) ?_
  refine lv_iconst (v := (-1 : Int32)) hx hb dX9_letter_23 (by decide) ?_
  refine lv_icmp_ne (tgt := 37) hx hb dX9_letter_24 (by decide) (fun c5 => ?_) (fun c5 => ?_)
  · have hf := (if_neg c5).symm.trans hf
    refine lv_iload hx hb dX9_letter_37 (lv_at hl 0 rfl) ?_
    refine lv_i2c (v := (((v4).toUInt32 % 65536).toInt32)) hx hb dX9_letter_39 rfl ?_
    cases hf
    exact g_xreti X S (pk_nc _) dX9_letter_40 (by decide) (by decide)
  · have hf := (if_pos c5).symm.trans hf
    cases hf
    exact g_throwX5 hl0 X S hT hl.1  st_212 dX9_letter_27 dX9_letter_30 dX9_letter_31 dX9_letter_33 dX9_letter_36 (by decide) (Nat.le_of_ble_eq_true rfl) (Nat.le_of_ble_eq_true rfl) (Nat.le_of_ble_eq_true rfl) (Nat.le_of_ble_eq_true rfl) (Nat.le_of_ble_eq_true rfl)

noncomputable def f_X9_shown (σ : gSt) (a0 : Int32) (a1 : Int32) : Option (Nat × Int32 × gSt) :=
  (g_x2 (f_X9_requireTrack σ a0) (fun x s => (x, (0 : Int32), s)) fun σ2 => (g_k1 (f_X3_hasFrame σ2 1 a1) fun v3 => (if v3 = 0 then some (3, 0, σ2) else (g_k1 (f_X3_trackOf σ2 1 a0) fun v5 => (g_k1 (f_X8_captionOn σ2 v5 a1) fun v6 => (if v6 = (-1 : Int32) then some (5, 0, σ2) else some (0, v6, σ2)))))))
set_option maxRecDepth 100000 in
set_option maxHeartbeats 4000000 in
theorem c_X9_shown (l : Launch) (hl0 : l.stackTraces = false) {Γ : gG} {ad : Nat → Nat} {N : Nat} (hN : 202 ≤ N) {σ : gSt} {a0 : Int32} {a1 : Int32}  {x : Nat} {r : Int32} {σ' : gSt} (hf : f_X9_shown σ a0 a1 = some (x, r, σ')) : gMxi l Γ ad N yX9_shown cX9_shown 4 (some .int) (gR 9 2 12) [.ref (ad 0), .int a0, .int a1] σ x r σ' 2 12 := by
  intro sz
  refine gOfX (Qc := fun sz => gQcxi Γ ad N x r σ' sz) (XC := fun sz => gXc Γ ad N x σ' sz) RX9 (by decide) rfl (Nat.le_of_ble_eq_true rfl) (fun p e s m args below meth c H locs ls X hT S hl => ?_)
  have hl : lv_has ls 4 [(0, .ref (ad 0)), (1, .int a0), (2, .int a1)] := hl
  have hx := X.1
  have hb := X.2.1
  unfold f_X9_shown at hf
  refine lv_aload_n hx hb dX9_shown_0 rfl (lv_at hl 0 rfl) ?_
  refine lv_iload_n hx hb dX9_shown_1 rfl (lv_at hl 1 rfl) ?_
  obtain ⟨x1, σ2, hx1, hf, hfx⟩ := g_sx2 hf
  refine g_kxG S X hT (g_xrunV (rest := []) X S (c_X9_requireTrack l hl0 hN  hx1 _) cvX9_requireTrack mlX9_184 (kd_N kd_s0 (by decide) hN) (ceC_9 kd_s0 _) rfl rfl rfl hl.1 (Nat.le_of_ble_eq_true rfl) ⟨⟨rfl, rfl⟩, ⟨Nat.le_of_ble_eq_true rfl, Nat.le_of_ble_eq_true rfl⟩, Nat.le_of_ble_eq_true rfl, Nat.le_of_ble_eq_true rfl⟩ dX9_shown_2) (fun h0 => by have h9 := hfx h0; cases h9; exact ⟨rfl, rfl⟩) (by decide) (by decide) (fun h0 H locs S => ?_)
  have hf := hf h0
  refine lv_aload_n hx hb dX9_shown_5 rfl (lv_at hl 0 rfl) ?_
  refine gfX9_10 X S hN kd_s0 dX9_shown_6 ?_
  refine lv_iload_n hx hb dX9_shown_9 rfl (lv_at hl 2 rfl) ?_
  obtain ⟨v3, hv3, hf⟩ := g_s1 hf
  refine g_ki S (g_runV (rest := []) X S (c_X3_hasFrame l hN kd_s1 hv3 _) cvX3_hasFrame mlX9_164 (kd_N kd_s1 (by decide) hN) (ceC_3 kd_s1 _) rfl rfl rfl hl.1 (Nat.le_of_ble_eq_true rfl) ⟨⟨rfl, rfl⟩, ⟨Nat.le_of_ble_eq_true rfl, Nat.le_of_ble_eq_true rfl⟩, Nat.le_of_ble_eq_true rfl, Nat.le_of_ble_eq_true rfl⟩ dX9_shown_10) (fun H locs S => ?_)
  refine lv_if_ne (tgt := 26) hx hb dX9_shown_13 (by decide) (fun c4 => ?_) (fun c4 => ?_)
  · have hf := (if_neg c4).symm.trans hf
    refine lv_aload_n hx hb dX9_shown_26 rfl (lv_at hl 0 rfl) ?_
    refine gfX9_10 X S hN kd_s0 dX9_shown_27 ?_
    refine lv_iload_n hx hb dX9_shown_30 rfl (lv_at hl 1 rfl) ?_
    obtain ⟨v5, hv5, hf⟩ := g_s1 hf
    refine g_kr S (g_runV (rest := []) X S (c_X3_trackOf l hN kd_s1 hv5 _) cvX3_trackOf mlX9_138 (kd_N kd_s1 (by decide) hN) (ceC_3 kd_s1 _) rfl rfl rfl hl.1 (Nat.le_of_ble_eq_true rfl) ⟨⟨rfl, rfl⟩, ⟨Nat.le_of_ble_eq_true rfl, Nat.le_of_ble_eq_true rfl⟩, Nat.le_of_ble_eq_true rfl, Nat.le_of_ble_eq_true rfl⟩ dX9_shown_31) (fun H locs S => ?_)
    have hkv5 : gkd v5 = 8 := kr_X3_trackOf kd_s1 hv5
    refine lv_iload_n hx hb dX9_shown_34 rfl (lv_at hl 2 rfl) ?_
    obtain ⟨v6, hv6, hf⟩ := g_s1 hf
    refine g_ki S (g_runV (rest := []) X S (c_X8_captionOn l hN hkv5 hv6 _) cvX8_captionOn mlX9_293 (kd_N hkv5 (by decide) hN) (ceC_8 hkv5 _) rfl rfl rfl hl.1 (Nat.le_of_ble_eq_true rfl) ⟨⟨rfl, rfl⟩, ⟨Nat.le_of_ble_eq_true rfl, Nat.le_of_ble_eq_true rfl⟩, Nat.le_of_ble_eq_true rfl, Nat.le_of_ble_eq_true rfl⟩ dX9_shown_35) (fun H locs S => ?_)
    refine lv_istore_n (lv' := [(3, .int v6), (0, .ref (ad 0)), (1, .int a0), (2, .int a1)]) hx hb dX9_shown_38 rfl hl (by decide) rfl (fun ls hl => ?_)
    refine lv_iload_n hx hb dX9_shown_39 rfl (lv_at hl 0 rfl) ?_
    refine lv_iconst (v := (-1 : Int32)) hx hb dX9_shown_40 (by decide) ?_
    refine lv_icmp_ne (tgt := 55) hx hb dX9_shown_41 (by decide) (fun c7 => ?_) (fun c7 => ?_)
    · have hf := (if_neg c7).symm.trans hf
      refine lv_iload_n hx hb dX9_shown_55 rfl (lv_at hl 0 rfl) ?_
      cases hf
      exact g_xreti X S rfl dX9_shown_56 (by decide) (by decide)
    · have hf := (if_pos c7).symm.trans hf
      cases hf
      exact g_throwXW5 hl0 X S hT hl.1  st_296 dX9_shown_44 dX9_shown_47 dX9_shown_48 dX9_shown_51 dX9_shown_54 (by decide) (Nat.le_of_ble_eq_true rfl) (Nat.le_of_ble_eq_true rfl) (Nat.le_of_ble_eq_true rfl) (Nat.le_of_ble_eq_true rfl) (Nat.le_of_ble_eq_true rfl)
  · have hf := (if_pos c4).symm.trans hf
    cases hf
    exact g_throwX hl0 X S hT hl.1 ex_3 st_167 dX9_shown_16 dX9_shown_19 dX9_shown_20 dX9_shown_22 dX9_shown_25 (by decide) (Nat.le_of_ble_eq_true rfl) (Nat.le_of_ble_eq_true rfl) (Nat.le_of_ble_eq_true rfl) (Nat.le_of_ble_eq_true rfl) (Nat.le_of_ble_eq_true rfl)

noncomputable def f_X9_track (σ : gSt) (a0 : Int32) (a1 : Int32) : Option (Nat × Int32 × gSt) :=
  (g_x2 (f_X9_requireTrack σ a0) (fun x s => (x, (0 : Int32), s)) fun σ2 => (if a1 = (0 : Int32) then (g_k1 (f_X3_trackOf σ2 1 a0) fun v4 => (g_k1 (f_X8_allFrames σ2 v4) fun v5 => some (0, v5, σ2))) else (if a1 = (1 : Int32) then (g_k1 (f_X3_trackOf σ2 1 a0) fun v7 => (g_k1 (f_X8_allLoad σ2 v7) fun v8 => some (0, v8, σ2))) else (if a1 = (2 : Int32) then (g_k1 (f_X2_captionsWith σ2 a0 (1 : Int32)) fun v10 => some (0, v10, σ2)) else (if a1 = (3 : Int32) then (g_k1 (f_X2_captionsWith σ2 a0 (6 : Int32)) fun v12 => some (0, v12, σ2)) else (if a1 = (4 : Int32) then (g_k1 (f_X2_captionsWith σ2 a0 (8 : Int32)) fun v14 => some (0, v14, σ2)) else (if a1 = (5 : Int32) then (g_k1 (f_X2_captionsWith σ2 a0 (16 : Int32)) fun v16 => some (0, v16, σ2)) else (if a1 = (6 : Int32) then (g_k1 (f_X2_captionsWith σ2 a0 (32 : Int32)) fun v18 => some (0, v18, σ2)) else (if a1 = (7 : Int32) then (g_k1 (f_X2_captionsOverCuts σ2 a0) fun v20 => some (0, v20, σ2)) else (if a1 = (8 : Int32) then (g_k2 (f_X2_captionsToMerge σ2 a0) fun v22 σ23 => some (0, v22, σ23)) else some (1, 0, σ2)))))))))))
set_option maxRecDepth 100000 in
set_option maxHeartbeats 4000000 in
theorem c_X9_track (l : Launch) (hl0 : l.stackTraces = false) {Γ : gG} {ad : Nat → Nat} {N : Nat} (hN : 202 ≤ N) {σ : gSt} {a0 : Int32} {a1 : Int32}  {x : Nat} {r : Int32} {σ' : gSt} (hf : f_X9_track σ a0 a1 = some (x, r, σ')) : gMxi l Γ ad N yX9_track cX9_track 3 (some .int) (gR 9 2 12) [.ref (ad 0), .int a0, .int a1] σ x r σ' 2 12 := by
  intro sz
  refine gOfX (Qc := fun sz => gQcxi Γ ad N x r σ' sz) (XC := fun sz => gXc Γ ad N x σ' sz) RX9 (by decide) rfl (Nat.le_of_ble_eq_true rfl) (fun p e s m args below meth c H locs ls X hT S hl => ?_)
  have hl : lv_has ls 3 [(0, .ref (ad 0)), (1, .int a0), (2, .int a1)] := hl
  have hx := X.1
  have hb := X.2.1
  unfold f_X9_track at hf
  refine lv_aload_n hx hb dX9_track_0 rfl (lv_at hl 0 rfl) ?_
  refine lv_iload_n hx hb dX9_track_1 rfl (lv_at hl 1 rfl) ?_
  obtain ⟨x1, σ2, hx1, hf, hfx⟩ := g_sx2 hf
  refine g_kxG S X hT (g_xrunV (rest := []) X S (c_X9_requireTrack l hl0 hN  hx1 _) cvX9_requireTrack mlX9_184 (kd_N kd_s0 (by decide) hN) (ceC_9 kd_s0 _) rfl rfl rfl hl.1 (Nat.le_of_ble_eq_true rfl) ⟨⟨rfl, rfl⟩, ⟨Nat.le_of_ble_eq_true rfl, Nat.le_of_ble_eq_true rfl⟩, Nat.le_of_ble_eq_true rfl, Nat.le_of_ble_eq_true rfl⟩ dX9_track_2) (fun h0 => by have h9 := hfx h0; cases h9; exact ⟨rfl, rfl⟩) (by decide) (by decide) (fun h0 H locs S => ?_)
  have hf := hf h0
  refine lv_iload_n hx hb dX9_track_5 rfl (lv_at hl 2 rfl) ?_
  by_cases c3 : a1 = (0 : Int32)
  · have hf := (if_pos c3).symm.trans hf
    refine lv_tableIn (off := 50) (tgt := 56) hx hb dX9_track_6 (by rw [c3]; decide) (by rw [c3]; decide) (by rw [c3]; decide) (by decide) ?_
    refine lv_aload_n hx hb dX9_track_56 rfl (lv_at hl 0 rfl) ?_
    refine gfX9_10 X S hN kd_s0 dX9_track_57 ?_
    refine lv_iload_n hx hb dX9_track_60 rfl (lv_at hl 1 rfl) ?_
    obtain ⟨v4, hv4, hf⟩ := g_s1 hf
    refine g_kr S (g_runV (rest := []) X S (c_X3_trackOf l hN kd_s1 hv4 _) cvX3_trackOf mlX9_138 (kd_N kd_s1 (by decide) hN) (ceC_3 kd_s1 _) rfl rfl rfl hl.1 (Nat.le_of_ble_eq_true rfl) ⟨⟨rfl, rfl⟩, ⟨Nat.le_of_ble_eq_true rfl, Nat.le_of_ble_eq_true rfl⟩, Nat.le_of_ble_eq_true rfl, Nat.le_of_ble_eq_true rfl⟩ dX9_track_61) (fun H locs S => ?_)
    have hkv4 : gkd v4 = 8 := kr_X3_trackOf kd_s1 hv4
    obtain ⟨v5, hv5, hf⟩ := g_s1 hf
    refine g_ki S (g_runV (rest := []) X S (c_X8_allFrames l hN hkv4 hv5 _) cvX8_allFrames mlX9_298 (kd_N hkv4 (by decide) hN) (ceC_8 hkv4 _) rfl rfl rfl hl.1 (Nat.le_of_ble_eq_true rfl) ⟨⟨rfl, rfl⟩, ⟨Nat.le_of_ble_eq_true rfl, Nat.le_of_ble_eq_true rfl⟩, Nat.le_of_ble_eq_true rfl, Nat.le_of_ble_eq_true rfl⟩ dX9_track_64) (fun H locs S => ?_)
    cases hf
    exact g_xreti X S rfl dX9_track_67 (by decide) (by decide)
  replace hf := (if_neg c3).symm.trans hf
  by_cases c6 : a1 = (1 : Int32)
  · have hf := (if_pos c6).symm.trans hf
    refine lv_tableIn (off := 62) (tgt := 68) hx hb dX9_track_6 (by rw [c6]; decide) (by rw [c6]; decide) (by rw [c6]; decide) (by decide) ?_
    refine lv_aload_n hx hb dX9_track_68 rfl (lv_at hl 0 rfl) ?_
    refine gfX9_10 X S hN kd_s0 dX9_track_69 ?_
    refine lv_iload_n hx hb dX9_track_72 rfl (lv_at hl 1 rfl) ?_
    obtain ⟨v7, hv7, hf⟩ := g_s1 hf
    refine g_kr S (g_runV (rest := []) X S (c_X3_trackOf l hN kd_s1 hv7 _) cvX3_trackOf mlX9_138 (kd_N kd_s1 (by decide) hN) (ceC_3 kd_s1 _) rfl rfl rfl hl.1 (Nat.le_of_ble_eq_true rfl) ⟨⟨rfl, rfl⟩, ⟨Nat.le_of_ble_eq_true rfl, Nat.le_of_ble_eq_true rfl⟩, Nat.le_of_ble_eq_true rfl, Nat.le_of_ble_eq_true rfl⟩ dX9_track_73) (fun H locs S => ?_)
    have hkv7 : gkd v7 = 8 := kr_X3_trackOf kd_s1 hv7
    obtain ⟨v8, hv8, hf⟩ := g_s1 hf
    refine g_ki S (g_runV (rest := []) X S (c_X8_allLoad l hN hkv7 hv8 _) cvX8_allLoad mlX9_301 (kd_N hkv7 (by decide) hN) (ceC_8 hkv7 _) rfl rfl rfl hl.1 (Nat.le_of_ble_eq_true rfl) ⟨⟨rfl, rfl⟩, ⟨Nat.le_of_ble_eq_true rfl, Nat.le_of_ble_eq_true rfl⟩, Nat.le_of_ble_eq_true rfl, Nat.le_of_ble_eq_true rfl⟩ dX9_track_76) (fun H locs S => ?_)
    cases hf
    exact g_xreti X S rfl dX9_track_79 (by decide) (by decide)
  replace hf := (if_neg c6).symm.trans hf
  by_cases c9 : a1 = (2 : Int32)
  · have hf := (if_pos c9).symm.trans hf
    refine lv_tableIn (off := 74) (tgt := 80) hx hb dX9_track_6 (by rw [c9]; decide) (by rw [c9]; decide) (by rw [c9]; decide) (by decide) ?_
    refine lv_aload_n hx hb dX9_track_80 rfl (lv_at hl 0 rfl) ?_
    refine gfX9_21 X S hN kd_s0 dX9_track_81 ?_
    refine lv_iload_n hx hb dX9_track_84 rfl (lv_at hl 1 rfl) ?_
    refine lv_iconst (v := (1 : Int32)) hx hb dX9_track_85 (by decide) ?_
    obtain ⟨v10, hv10, hf⟩ := g_s1 hf
    refine g_ki S (g_runV (rest := []) X S (c_X2_captionsWith l hN  hv10 _) cvX2_captionsWith mlX9_149 (kd_N kd_s17 (by decide) hN) (ceC_2 kd_s17 _) rfl rfl rfl hl.1 (Nat.le_of_ble_eq_true rfl) ⟨⟨rfl, rfl⟩, ⟨Nat.le_of_ble_eq_true rfl, Nat.le_of_ble_eq_true rfl⟩, Nat.le_of_ble_eq_true rfl, Nat.le_of_ble_eq_true rfl⟩ dX9_track_86) (fun H locs S => ?_)
    cases hf
    exact g_xreti X S rfl dX9_track_89 (by decide) (by decide)
  replace hf := (if_neg c9).symm.trans hf
  by_cases c11 : a1 = (3 : Int32)
  · have hf := (if_pos c11).symm.trans hf
    refine lv_tableIn (off := 84) (tgt := 90) hx hb dX9_track_6 (by rw [c11]; decide) (by rw [c11]; decide) (by rw [c11]; decide) (by decide) ?_
    refine lv_aload_n hx hb dX9_track_90 rfl (lv_at hl 0 rfl) ?_
    refine gfX9_21 X S hN kd_s0 dX9_track_91 ?_
    refine lv_iload_n hx hb dX9_track_94 rfl (lv_at hl 1 rfl) ?_
    refine lv_bipush (v := (6 : Int32)) hx hb dX9_track_95 (by decide) ?_
    obtain ⟨v12, hv12, hf⟩ := g_s1 hf
    refine g_ki S (g_runV (rest := []) X S (c_X2_captionsWith l hN  hv12 _) cvX2_captionsWith mlX9_149 (kd_N kd_s17 (by decide) hN) (ceC_2 kd_s17 _) rfl rfl rfl hl.1 (Nat.le_of_ble_eq_true rfl) ⟨⟨rfl, rfl⟩, ⟨Nat.le_of_ble_eq_true rfl, Nat.le_of_ble_eq_true rfl⟩, Nat.le_of_ble_eq_true rfl, Nat.le_of_ble_eq_true rfl⟩ dX9_track_97) (fun H locs S => ?_)
    cases hf
    exact g_xreti X S rfl dX9_track_100 (by decide) (by decide)
  replace hf := (if_neg c11).symm.trans hf
  by_cases c13 : a1 = (4 : Int32)
  · have hf := (if_pos c13).symm.trans hf
    refine lv_tableIn (off := 95) (tgt := 101) hx hb dX9_track_6 (by rw [c13]; decide) (by rw [c13]; decide) (by rw [c13]; decide) (by decide) ?_
    refine lv_aload_n hx hb dX9_track_101 rfl (lv_at hl 0 rfl) ?_
    refine gfX9_21 X S hN kd_s0 dX9_track_102 ?_
    refine lv_iload_n hx hb dX9_track_105 rfl (lv_at hl 1 rfl) ?_
    refine lv_bipush (v := (8 : Int32)) hx hb dX9_track_106 (by decide) ?_
    obtain ⟨v14, hv14, hf⟩ := g_s1 hf
    refine g_ki S (g_runV (rest := []) X S (c_X2_captionsWith l hN  hv14 _) cvX2_captionsWith mlX9_149 (kd_N kd_s17 (by decide) hN) (ceC_2 kd_s17 _) rfl rfl rfl hl.1 (Nat.le_of_ble_eq_true rfl) ⟨⟨rfl, rfl⟩, ⟨Nat.le_of_ble_eq_true rfl, Nat.le_of_ble_eq_true rfl⟩, Nat.le_of_ble_eq_true rfl, Nat.le_of_ble_eq_true rfl⟩ dX9_track_108) (fun H locs S => ?_)
    cases hf
    exact g_xreti X S rfl dX9_track_111 (by decide) (by decide)
  replace hf := (if_neg c13).symm.trans hf
  by_cases c15 : a1 = (5 : Int32)
  · have hf := (if_pos c15).symm.trans hf
    refine lv_tableIn (off := 106) (tgt := 112) hx hb dX9_track_6 (by rw [c15]; decide) (by rw [c15]; decide) (by rw [c15]; decide) (by decide) ?_
    refine lv_aload_n hx hb dX9_track_112 rfl (lv_at hl 0 rfl) ?_
    refine gfX9_21 X S hN kd_s0 dX9_track_113 ?_
    refine lv_iload_n hx hb dX9_track_116 rfl (lv_at hl 1 rfl) ?_
    refine lv_bipush (v := (16 : Int32)) hx hb dX9_track_117 (by decide) ?_
    obtain ⟨v16, hv16, hf⟩ := g_s1 hf
    refine g_ki S (g_runV (rest := []) X S (c_X2_captionsWith l hN  hv16 _) cvX2_captionsWith mlX9_149 (kd_N kd_s17 (by decide) hN) (ceC_2 kd_s17 _) rfl rfl rfl hl.1 (Nat.le_of_ble_eq_true rfl) ⟨⟨rfl, rfl⟩, ⟨Nat.le_of_ble_eq_true rfl, Nat.le_of_ble_eq_true rfl⟩, Nat.le_of_ble_eq_true rfl, Nat.le_of_ble_eq_true rfl⟩ dX9_track_119) (fun H locs S => ?_)
    cases hf
    exact g_xreti X S rfl dX9_track_122 (by decide) (by decide)
  replace hf := (if_neg c15).symm.trans hf
  by_cases c17 : a1 = (6 : Int32)
  · have hf := (if_pos c17).symm.trans hf
    refine lv_tableIn (off := 117) (tgt := 123) hx hb dX9_track_6 (by rw [c17]; decide) (by rw [c17]; decide) (by rw [c17]; decide) (by decide) ?_
    refine lv_aload_n hx hb dX9_track_123 rfl (lv_at hl 0 rfl) ?_
    refine gfX9_21 X S hN kd_s0 dX9_track_124 ?_
    refine lv_iload_n hx hb dX9_track_127 rfl (lv_at hl 1 rfl) ?_
    refine lv_bipush (v := (32 : Int32)) hx hb dX9_track_128 (by decide) ?_
    obtain ⟨v18, hv18, hf⟩ := g_s1 hf
    refine g_ki S (g_runV (rest := []) X S (c_X2_captionsWith l hN  hv18 _) cvX2_captionsWith mlX9_149 (kd_N kd_s17 (by decide) hN) (ceC_2 kd_s17 _) rfl rfl rfl hl.1 (Nat.le_of_ble_eq_true rfl) ⟨⟨rfl, rfl⟩, ⟨Nat.le_of_ble_eq_true rfl, Nat.le_of_ble_eq_true rfl⟩, Nat.le_of_ble_eq_true rfl, Nat.le_of_ble_eq_true rfl⟩ dX9_track_130) (fun H locs S => ?_)
    cases hf
    exact g_xreti X S rfl dX9_track_133 (by decide) (by decide)
  replace hf := (if_neg c17).symm.trans hf
  by_cases c19 : a1 = (7 : Int32)
  · have hf := (if_pos c19).symm.trans hf
    refine lv_tableIn (off := 128) (tgt := 134) hx hb dX9_track_6 (by rw [c19]; decide) (by rw [c19]; decide) (by rw [c19]; decide) (by decide) ?_
    refine lv_aload_n hx hb dX9_track_134 rfl (lv_at hl 0 rfl) ?_
    refine gfX9_21 X S hN kd_s0 dX9_track_135 ?_
    refine lv_iload_n hx hb dX9_track_138 rfl (lv_at hl 1 rfl) ?_
    obtain ⟨v20, hv20, hf⟩ := g_s1 hf
    refine g_ki S (g_runV (rest := []) X S (c_X2_captionsOverCuts l hN  hv20 _) cvX2_captionsOverCuts mlX9_304 (kd_N kd_s17 (by decide) hN) (ceC_2 kd_s17 _) rfl rfl rfl hl.1 (Nat.le_of_ble_eq_true rfl) ⟨⟨rfl, rfl⟩, ⟨Nat.le_of_ble_eq_true rfl, Nat.le_of_ble_eq_true rfl⟩, Nat.le_of_ble_eq_true rfl, Nat.le_of_ble_eq_true rfl⟩ dX9_track_139) (fun H locs S => ?_)
    cases hf
    exact g_xreti X S rfl dX9_track_142 (by decide) (by decide)
  replace hf := (if_neg c19).symm.trans hf
  by_cases c21 : a1 = (8 : Int32)
  · have hf := (if_pos c21).symm.trans hf
    refine lv_tableIn (off := 137) (tgt := 143) hx hb dX9_track_6 (by rw [c21]; decide) (by rw [c21]; decide) (by rw [c21]; decide) (by decide) ?_
    refine lv_aload_n hx hb dX9_track_143 rfl (lv_at hl 0 rfl) ?_
    refine gfX9_21 X S hN kd_s0 dX9_track_144 ?_
    refine lv_iload_n hx hb dX9_track_147 rfl (lv_at hl 1 rfl) ?_
    obtain ⟨v22, σ23, hv22, hf⟩ := g_s2 hf
    refine g_ki S (g_runV (rest := []) X S (c_X2_captionsToMerge l hN  hv22 _) cvX2_captionsToMerge mlX9_307 (kd_N kd_s17 (by decide) hN) (ceC_2 kd_s17 _) rfl rfl rfl hl.1 (Nat.le_of_ble_eq_true rfl) ⟨⟨rfl, rfl⟩, ⟨Nat.le_of_ble_eq_true rfl, Nat.le_of_ble_eq_true rfl⟩, Nat.le_of_ble_eq_true rfl, Nat.le_of_ble_eq_true rfl⟩ dX9_track_148) (fun H locs S => ?_)
    cases hf
    exact g_xreti X S rfl dX9_track_151 (by decide) (by decide)
  replace hf := (if_neg c21).symm.trans hf
  refine lv_tableOut (tgt := 152) hx hb dX9_track_6 (g_swout0 (x := a1) (lo := 0) (n := 9) (fun j hj => by rcases (show j = 0 ∨ j = 1 ∨ j = 2 ∨ j = 3 ∨ j = 4 ∨ j = 5 ∨ j = 6 ∨ j = 7 ∨ j = 8 by omega) with rfl | rfl | rfl | rfl | rfl | rfl | rfl | rfl | rfl <;> (intro h9; first | exact c3 (Int32.toInt_inj.mp (h9.trans (by decide))) | exact c6 (Int32.toInt_inj.mp (h9.trans (by decide))) | exact c9 (Int32.toInt_inj.mp (h9.trans (by decide))) | exact c11 (Int32.toInt_inj.mp (h9.trans (by decide))) | exact c13 (Int32.toInt_inj.mp (h9.trans (by decide))) | exact c15 (Int32.toInt_inj.mp (h9.trans (by decide))) | exact c17 (Int32.toInt_inj.mp (h9.trans (by decide))) | exact c19 (Int32.toInt_inj.mp (h9.trans (by decide))) | exact c21 (Int32.toInt_inj.mp (h9.trans (by decide)))))) (by decide) ?_
  cases hf
  exact g_throwX hl0 X S hT hl.1 ex_1 st_159 dX9_track_152 dX9_track_155 dX9_track_156 dX9_track_158 dX9_track_161 (by decide) (Nat.le_of_ble_eq_true rfl) (Nat.le_of_ble_eq_true rfl) (Nat.le_of_ble_eq_true rfl) (Nat.le_of_ble_eq_true rfl) (Nat.le_of_ble_eq_true rfl)

noncomputable def f_X9_fastest (σ : gSt) (a0 : Int32) : Option (Nat × Int32 × gSt) :=
  (g_x2 (f_X9_requireTrack σ a0) (fun x s => (x, (0 : Int32), s)) fun σ2 => (g_k1 (f_X3_trackOf σ2 1 a0) fun v3 => (g_k1 (f_X8_densest σ2 v3) fun v4 => (if v4 = (-1 : Int32) then some (5, 0, σ2) else some (0, v4, σ2)))))
set_option maxRecDepth 100000 in
set_option maxHeartbeats 4000000 in
theorem c_X9_fastest (l : Launch) (hl0 : l.stackTraces = false) {Γ : gG} {ad : Nat → Nat} {N : Nat} (hN : 202 ≤ N) {σ : gSt} {a0 : Int32}  {x : Nat} {r : Int32} {σ' : gSt} (hf : f_X9_fastest σ a0 = some (x, r, σ')) : gMxi l Γ ad N yX9_fastest cX9_fastest 3 (some .int) (gR 9 2 12) [.ref (ad 0), .int a0] σ x r σ' 2 12 := by
  intro sz
  refine gOfX (Qc := fun sz => gQcxi Γ ad N x r σ' sz) (XC := fun sz => gXc Γ ad N x σ' sz) RX9 (by decide) rfl (Nat.le_of_ble_eq_true rfl) (fun p e s m args below meth c H locs ls X hT S hl => ?_)
  have hl : lv_has ls 3 [(0, .ref (ad 0)), (1, .int a0)] := hl
  have hx := X.1
  have hb := X.2.1
  unfold f_X9_fastest at hf
  refine lv_aload_n hx hb dX9_fastest_0 rfl (lv_at hl 0 rfl) ?_
  refine lv_iload_n hx hb dX9_fastest_1 rfl (lv_at hl 1 rfl) ?_
  obtain ⟨x1, σ2, hx1, hf, hfx⟩ := g_sx2 hf
  refine g_kxG S X hT (g_xrunV (rest := []) X S (c_X9_requireTrack l hl0 hN  hx1 _) cvX9_requireTrack mlX9_184 (kd_N kd_s0 (by decide) hN) (ceC_9 kd_s0 _) rfl rfl rfl hl.1 (Nat.le_of_ble_eq_true rfl) ⟨⟨rfl, rfl⟩, ⟨Nat.le_of_ble_eq_true rfl, Nat.le_of_ble_eq_true rfl⟩, Nat.le_of_ble_eq_true rfl, Nat.le_of_ble_eq_true rfl⟩ dX9_fastest_2) (fun h0 => by have h9 := hfx h0; cases h9; exact ⟨rfl, rfl⟩) (by decide) (by decide) (fun h0 H locs S => ?_)
  have hf := hf h0
  refine lv_aload_n hx hb dX9_fastest_5 rfl (lv_at hl 0 rfl) ?_
  refine gfX9_10 X S hN kd_s0 dX9_fastest_6 ?_
  refine lv_iload_n hx hb dX9_fastest_9 rfl (lv_at hl 1 rfl) ?_
  obtain ⟨v3, hv3, hf⟩ := g_s1 hf
  refine g_kr S (g_runV (rest := []) X S (c_X3_trackOf l hN kd_s1 hv3 _) cvX3_trackOf mlX9_138 (kd_N kd_s1 (by decide) hN) (ceC_3 kd_s1 _) rfl rfl rfl hl.1 (Nat.le_of_ble_eq_true rfl) ⟨⟨rfl, rfl⟩, ⟨Nat.le_of_ble_eq_true rfl, Nat.le_of_ble_eq_true rfl⟩, Nat.le_of_ble_eq_true rfl, Nat.le_of_ble_eq_true rfl⟩ dX9_fastest_10) (fun H locs S => ?_)
  have hkv3 : gkd v3 = 8 := kr_X3_trackOf kd_s1 hv3
  obtain ⟨v4, hv4, hf⟩ := g_s1 hf
  refine g_ki S (g_runV (rest := []) X S (c_X8_densest l hN hkv3 hv4 _) cvX8_densest mlX9_310 (kd_N hkv3 (by decide) hN) (ceC_8 hkv3 _) rfl rfl rfl hl.1 (Nat.le_of_ble_eq_true rfl) ⟨⟨rfl, rfl⟩, ⟨Nat.le_of_ble_eq_true rfl, Nat.le_of_ble_eq_true rfl⟩, Nat.le_of_ble_eq_true rfl, Nat.le_of_ble_eq_true rfl⟩ dX9_fastest_13) (fun H locs S => ?_)
  refine lv_istore_n (lv' := [(2, .int v4), (0, .ref (ad 0)), (1, .int a0)]) hx hb dX9_fastest_16 rfl hl (by decide) rfl (fun ls hl => ?_)
  refine lv_iload_n hx hb dX9_fastest_17 rfl (lv_at hl 0 rfl) ?_
  refine lv_iconst (v := (-1 : Int32)) hx hb dX9_fastest_18 (by decide) ?_
  refine lv_icmp_ne (tgt := 33) hx hb dX9_fastest_19 (by decide) (fun c5 => ?_) (fun c5 => ?_)
  · have hf := (if_neg c5).symm.trans hf
    refine lv_iload_n hx hb dX9_fastest_33 rfl (lv_at hl 0 rfl) ?_
    cases hf
    exact g_xreti X S rfl dX9_fastest_34 (by decide) (by decide)
  · have hf := (if_pos c5).symm.trans hf
    cases hf
    exact g_throwXW5 hl0 X S hT hl.1  st_313 dX9_fastest_22 dX9_fastest_25 dX9_fastest_26 dX9_fastest_29 dX9_fastest_32 (by decide) (Nat.le_of_ble_eq_true rfl) (Nat.le_of_ble_eq_true rfl) (Nat.le_of_ble_eq_true rfl) (Nat.le_of_ble_eq_true rfl) (Nat.le_of_ble_eq_true rfl)

noncomputable def f_X9_read (σ : gSt)  : Option (Nat × Int32 × gSt) :=
  (g_k2 (f_X5_readText σ 187) fun v1 σ2 => (g_k2 (if v1 = 0 then some ((0 : Int32), σ2) else (g_k2 (f_X9_carryOutItems σ2 ) fun v12 σ13 => (if v12 = 0 then some ((0 : Int32), σ13) else some ((1 : Int32), σ13)))) fun x3 σ4 => (g_k1 (f_X7_clear σ4 187) fun σ7 => (if v1 = 0 then (g_k1 (gset σ7 0 9 (σ7 191 8)) fun σ10 => some (1, 0, σ10)) else (if x3 = 0 then some (2, 0, σ7) else some (0, (σ7 191 7), σ7))))))
set_option maxRecDepth 100000 in
set_option maxHeartbeats 4000000 in
theorem c_X9_read (l : Launch) (hl0 : l.stackTraces = false) {Γ : gG} {ad : Nat → Nat} {N : Nat} (hN : 202 ≤ N) {σ : gSt}   {x : Nat} {r : Int32} {σ' : gSt} (hf : f_X9_read σ  = some (x, r, σ')) : gMxi l Γ ad N yX9_read cX9_read 3 (some .int) (gR 8 1 6) [.ref (ad 0)] σ x r σ' 1 6 := by
  intro sz
  refine gOfX (Qc := fun sz => gQcxi Γ ad N x r σ' sz) (XC := fun sz => gXc Γ ad N x σ' sz) RX9 (by decide) rfl (Nat.le_of_ble_eq_true rfl) (fun p e s m args below meth c H locs ls X hT S hl => ?_)
  have hl : lv_has ls 3 [(0, .ref (ad 0))] := hl
  have hx := X.1
  have hb := X.2.1
  unfold f_X9_read at hf
  refine lv_aload_n hx hb dX9_read_0 rfl (lv_at hl 0 rfl) ?_
  refine gfX9_61 X S hN kd_s0 dX9_read_1 ?_
  refine lv_aload_n hx hb dX9_read_4 rfl (lv_at hl 0 rfl) ?_
  refine gfX9_51 X S hN kd_s0 dX9_read_5 ?_
  obtain ⟨v1, σ2, hv1, hf⟩ := g_s2 hf
  refine g_ki S (g_runV (rest := []) X S (c_X5_readText l hN kd_s187 hv1 _) cvX5_readText mlX9_320 (kd_N kd_s191 (by decide) hN) (ceC_5 kd_s191 _) rfl rfl rfl hl.1 (Nat.le_of_ble_eq_true rfl) ⟨⟨rfl, rfl⟩, ⟨Nat.le_of_ble_eq_true rfl, Nat.le_of_ble_eq_true rfl⟩, Nat.le_of_ble_eq_true rfl, Nat.le_of_ble_eq_true rfl⟩ dX9_read_8) (fun H locs S => ?_)
  refine lv_istore_n (lv' := [(1, .int v1), (0, .ref (ad 0))]) hx hb dX9_read_11 rfl hl (by decide) rfl (fun ls hl => ?_)
  refine lv_iload_n hx hb dX9_read_12 rfl (lv_at hl 0 rfl) ?_
  obtain ⟨x3, σ4, hr5, hf⟩ := g_s2 hf
  have J6 : ∀ (H : Heap) (locs : List Loc) (ls : Array Slot), gS celC Γ ad N σ4 s H locs → lv_has ls 3 [(1, .int v1), (0, .ref (ad 0))] → W p l e (gR 8 1 6) s m args below meth c H locs 0 0 (gQxi Γ ad N x r σ' 1 6 below args s) (F0 m 28 ls [.int x3]) := by
    intro H locs ls S hl
    refine lv_istore_n (lv' := [(2, .int x3), (1, .int v1), (0, .ref (ad 0))]) hx hb dX9_read_28 rfl hl (by decide) rfl (fun ls hl => ?_)
    refine lv_aload_n hx hb dX9_read_29 rfl (lv_at hl 2 rfl) ?_
    refine gfX9_51 X S hN kd_s0 dX9_read_30 ?_
    obtain ⟨σ7, hσ7, hf⟩ := g_s1 hf
    refine g_kv S (g_runV (rest := []) X S (c_X7_clear l hN kd_s187 hσ7 _) cvX7_clear mlX9_177 (kd_N kd_s187 (by decide) hN) (ceC_7 kd_s187 _) rfl rfl rfl hl.1 (Nat.le_of_ble_eq_true rfl) ⟨⟨rfl, rfl⟩, ⟨Nat.le_of_ble_eq_true rfl, Nat.le_of_ble_eq_true rfl⟩, Nat.le_of_ble_eq_true rfl, Nat.le_of_ble_eq_true rfl⟩ dX9_read_33) (fun H locs S => ?_)
    refine lv_iload_n hx hb dX9_read_36 rfl (lv_at hl 1 rfl) ?_
    refine lv_if_ne (tgt := 62) hx hb dX9_read_37 (by decide) (fun c8 => ?_) (fun c8 => ?_)
    · have hf := (if_neg c8).symm.trans hf
      refine lv_iload_n hx hb dX9_read_62 rfl (lv_at hl 0 rfl) ?_
      refine lv_if_ne (tgt := 77) hx hb dX9_read_63 (by decide) (fun c9 => ?_) (fun c9 => ?_)
      · have hf := (if_neg c9).symm.trans hf
        refine lv_aload_n hx hb dX9_read_77 rfl (lv_at hl 2 rfl) ?_
        refine gfX9_61 X S hN kd_s0 dX9_read_78 ?_
        refine gfX9_338 X S hN kd_s191 dX9_read_81 ?_
        cases hf
        exact g_xreti X S rfl dX9_read_84 (by decide) (by decide)
      · have hf := (if_pos c9).symm.trans hf
        cases hf
        exact g_throwXW hl0 X S hT hl.1 ex_2 st_335 dX9_read_66 dX9_read_69 dX9_read_70 dX9_read_73 dX9_read_76 (by decide) (Nat.le_of_ble_eq_true rfl) (Nat.le_of_ble_eq_true rfl) (Nat.le_of_ble_eq_true rfl) (Nat.le_of_ble_eq_true rfl) (Nat.le_of_ble_eq_true rfl)
    · have hf := (if_pos c8).symm.trans hf
      refine lv_aload_n hx hb dX9_read_40 rfl (lv_at hl 2 rfl) ?_
      refine lv_aload_n hx hb dX9_read_41 rfl (lv_at hl 2 rfl) ?_
      refine gfX9_61 X S hN kd_s0 dX9_read_42 ?_
      refine gfX9_328 X S hN kd_s191 dX9_read_45 ?_
      obtain ⟨σ10, hσ10, hf⟩ := g_s1 hf
      refine pfX9_65 X S hN kd_s0 hσ10 dX9_read_48 (fun H locs S => ?_)
      cases hf
      exact g_throwXW hl0 X S hT hl.1 ex_1 st_331 dX9_read_51 dX9_read_54 dX9_read_55 dX9_read_58 dX9_read_61 (by decide) (Nat.le_of_ble_eq_true rfl) (Nat.le_of_ble_eq_true rfl) (Nat.le_of_ble_eq_true rfl) (Nat.le_of_ble_eq_true rfl) (Nat.le_of_ble_eq_true rfl)
  replace hf := hr5
  refine lv_if_eq (tgt := 27) hx hb dX9_read_13 (by decide) (fun c11 => ?_) (fun c11 => ?_)
  · have hf := (if_pos c11).symm.trans hf
    refine lv_iconst (v := (0 : Int32)) hx hb dX9_read_27 (by decide) ?_
    cases hf
    exact J6 _ _ _ S (lv_sub hl [0, 1] rfl)
  · have hf := (if_neg c11).symm.trans hf
    refine lv_aload_n hx hb dX9_read_16 rfl (lv_at hl 1 rfl) ?_
    obtain ⟨v12, σ13, hv12, hf⟩ := g_s2 hf
    refine g_ki S (g_runV (rest := []) X S (c_X9_carryOutItems l hN  hv12 _) cvX9_carryOutItems mlX9_324 (kd_N kd_s0 (by decide) hN) (ceC_9 kd_s0 _) rfl rfl rfl hl.1 (Nat.le_of_ble_eq_true rfl) ⟨⟨rfl, rfl⟩, ⟨Nat.le_of_ble_eq_true rfl, Nat.le_of_ble_eq_true rfl⟩, Nat.le_of_ble_eq_true rfl, Nat.le_of_ble_eq_true rfl⟩ dX9_read_17) (fun H locs S => ?_)
    refine lv_if_eq (tgt := 27) hx hb dX9_read_20 (by decide) (fun c14 => ?_) (fun c14 => ?_)
    · have hf := (if_pos c14).symm.trans hf
      refine lv_iconst (v := (0 : Int32)) hx hb dX9_read_27 (by decide) ?_
      cases hf
      exact J6 _ _ _ S (lv_sub hl [0, 1] rfl)
    · have hf := (if_neg c14).symm.trans hf
      refine lv_iconst (v := (1 : Int32)) hx hb dX9_read_23 (by decide) ?_
      refine lv_goto (tgt := 28) hx hb dX9_read_24 (by decide) ?_
      cases hf
      exact J6 _ _ _ S (lv_sub hl [0, 1] rfl)

noncomputable def f_X9_faultPosition (σ : gSt)  : Option (Nat × Int32 × gSt) :=
  (if (σ 0 9) = (-1 : Int32) then some (5, 0, σ) else some (0, (σ 0 9), σ))
set_option maxRecDepth 100000 in
set_option maxHeartbeats 4000000 in
theorem c_X9_faultPosition (l : Launch) (hl0 : l.stackTraces = false) {Γ : gG} {ad : Nat → Nat} {N : Nat} (hN : 202 ≤ N) {σ : gSt}   {x : Nat} {r : Int32} {σ' : gSt} (hf : f_X9_faultPosition σ  = some (x, r, σ')) : gMxi l Γ ad N yX9_faultPosition cX9_faultPosition 1 (some .int) (gR 8 1 6) [.ref (ad 0)] σ x r σ' 1 6 := by
  intro sz
  refine gOfX (Qc := fun sz => gQcxi Γ ad N x r σ' sz) (XC := fun sz => gXc Γ ad N x σ' sz) RX9 (by decide) rfl (Nat.le_of_ble_eq_true rfl) (fun p e s m args below meth c H locs ls X hT S hl => ?_)
  have hl : lv_has ls 1 [(0, .ref (ad 0))] := hl
  have hx := X.1
  have hb := X.2.1
  unfold f_X9_faultPosition at hf
  refine lv_aload_n hx hb dX9_faultPosition_0 rfl (lv_at hl 0 rfl) ?_
  refine gfX9_65 X S hN kd_s0 dX9_faultPosition_1 ?_
  refine lv_iconst (v := (-1 : Int32)) hx hb dX9_faultPosition_4 (by decide) ?_
  refine lv_icmp_ne (tgt := 19) hx hb dX9_faultPosition_5 (by decide) (fun c1 => ?_) (fun c1 => ?_)
  · have hf := (if_neg c1).symm.trans hf
    refine lv_aload_n hx hb dX9_faultPosition_19 rfl (lv_at hl 0 rfl) ?_
    refine gfX9_65 X S hN kd_s0 dX9_faultPosition_20 ?_
    cases hf
    exact g_xreti X S rfl dX9_faultPosition_23 (by decide) (by decide)
  · have hf := (if_pos c1).symm.trans hf
    cases hf
    exact g_throwXW5 hl0 X S hT hl.1  st_339 dX9_faultPosition_8 dX9_faultPosition_11 dX9_faultPosition_12 dX9_faultPosition_15 dX9_faultPosition_18 (by decide) (Nat.le_of_ble_eq_true rfl) (Nat.le_of_ble_eq_true rfl) (Nat.le_of_ble_eq_true rfl) (Nat.le_of_ble_eq_true rfl) (Nat.le_of_ble_eq_true rfl)

noncomputable def f_X9_refusal (σ : gSt) (a0 : Int32) : Option (Nat × Int32 × gSt) :=
  (if (σ 0 10) = 0 then some (5, 0, σ) else (g_k1 (if a0 = 0 then some (σ 0 11) else some (σ 0 10)) fun x2 => some (0, x2, σ)))
set_option maxRecDepth 100000 in
set_option maxHeartbeats 4000000 in
theorem c_X9_refusal (l : Launch) (hl0 : l.stackTraces = false) {Γ : gG} {ad : Nat → Nat} {N : Nat} (hN : 202 ≤ N) {σ : gSt} {a0 : Int32}  {x : Nat} {r : Int32} {σ' : gSt} (hf : f_X9_refusal σ a0 = some (x, r, σ')) : gMxi l Γ ad N yX9_refusal cX9_refusal 2 (some .int) (gR 8 1 6) [.ref (ad 0), .int a0] σ x r σ' 1 6 := by
  intro sz
  refine gOfX (Qc := fun sz => gQcxi Γ ad N x r σ' sz) (XC := fun sz => gXc Γ ad N x σ' sz) RX9 (by decide) rfl (Nat.le_of_ble_eq_true rfl) (fun p e s m args below meth c H locs ls X hT S hl => ?_)
  have hl : lv_has ls 2 [(0, .ref (ad 0)), (1, .int a0)] := hl
  have hx := X.1
  have hb := X.2.1
  unfold f_X9_refusal at hf
  refine lv_aload_n hx hb dX9_refusal_0 rfl (lv_at hl 0 rfl) ?_
  refine gfX9_69 X S hN kd_s0 dX9_refusal_1 ?_
  refine lv_if_ne (tgt := 18) hx hb dX9_refusal_4 (by decide) (fun c1 => ?_) (fun c1 => ?_)
  · have hf := (if_neg c1).symm.trans hf
    refine lv_iload_n hx hb dX9_refusal_18 rfl (lv_at hl 1 rfl) ?_
    obtain ⟨x2, hr3, hf⟩ := g_s1 hf
    have J4 : ∀ (H : Heap) (locs : List Loc) (ls : Array Slot), gS celC Γ ad N σ s H locs → lv_has ls 2 [] → W p l e (gR 8 1 6) s m args below meth c H locs 0 0 (gQxi Γ ad N x r σ' 1 6 below args s) (F0 m 33 ls [.int x2]) := by
      intro H locs ls S hl
      cases hf
      exact g_xreti X S rfl dX9_refusal_33 (by decide) (by decide)
    replace hf := hr3
    refine lv_if_eq (tgt := 29) hx hb dX9_refusal_19 (by decide) (fun c5 => ?_) (fun c5 => ?_)
    · have hf := (if_pos c5).symm.trans hf
      refine lv_aload_n hx hb dX9_refusal_29 rfl (lv_at hl 0 rfl) ?_
      refine gfX9_72 X S hN kd_s0 dX9_refusal_30 ?_
      cases hf
      exact J4 _ _ _ S (lv_sub hl [] rfl)
    · have hf := (if_neg c5).symm.trans hf
      refine lv_aload_n hx hb dX9_refusal_22 rfl (lv_at hl 0 rfl) ?_
      refine gfX9_69 X S hN kd_s0 dX9_refusal_23 ?_
      refine lv_goto (tgt := 33) hx hb dX9_refusal_26 (by decide) ?_
      cases hf
      exact J4 _ _ _ S (lv_sub hl [] rfl)
  · have hf := (if_pos c1).symm.trans hf
    cases hf
    exact g_throwXW5 hl0 X S hT hl.1  st_341 dX9_refusal_7 dX9_refusal_10 dX9_refusal_11 dX9_refusal_14 dX9_refusal_17 (by decide) (Nat.le_of_ble_eq_true rfl) (Nat.le_of_ble_eq_true rfl) (Nat.le_of_ble_eq_true rfl) (Nat.le_of_ble_eq_true rfl) (Nat.le_of_ble_eq_true rfl)

noncomputable def f_X9_undo (σ : gSt)  : Option (Nat × Int32 × gSt) :=
  (if 0 < (σ 25 1) then (g_k1 (f_X4_undoInto σ 1) fun σ2 => some (0, (σ2 25 1), σ2)) else some (4, 0, σ))
set_option maxRecDepth 100000 in
set_option maxHeartbeats 4000000 in
theorem c_X9_undo (l : Launch) (hl0 : l.stackTraces = false) {Γ : gG} {ad : Nat → Nat} {N : Nat} (hN : 202 ≤ N) {σ : gSt}   {x : Nat} {r : Int32} {σ' : gSt} (hf : f_X9_undo σ  = some (x, r, σ')) : gMxi l Γ ad N yX9_undo cX9_undo 1 (some .int) (gR 8 1 6) [.ref (ad 0)] σ x r σ' 1 6 := by
  intro sz
  refine gOfX (Qc := fun sz => gQcxi Γ ad N x r σ' sz) (XC := fun sz => gXc Γ ad N x σ' sz) RX9 (by decide) rfl (Nat.le_of_ble_eq_true rfl) (fun p e s m args below meth c H locs ls X hT S hl => ?_)
  have hl : lv_has ls 1 [(0, .ref (ad 0))] := hl
  have hx := X.1
  have hb := X.2.1
  unfold f_X9_undo at hf
  refine lv_aload_n hx hb dX9_undo_0 rfl (lv_at hl 0 rfl) ?_
  refine gfX9_37 X S hN kd_s0 dX9_undo_1 ?_
  refine gfX9_152 X S hN kd_s25 dX9_undo_4 ?_
  refine lv_if_gt (tgt := 21) hx hb dX9_undo_7 (by decide) (fun c1 => ?_) (fun c1 => ?_)
  · have hf := (if_pos c1).symm.trans hf
    refine lv_aload_n hx hb dX9_undo_21 rfl (lv_at hl 0 rfl) ?_
    refine gfX9_37 X S hN kd_s0 dX9_undo_22 ?_
    refine lv_aload_n hx hb dX9_undo_25 rfl (lv_at hl 0 rfl) ?_
    refine gfX9_10 X S hN kd_s0 dX9_undo_26 ?_
    obtain ⟨σ2, hσ2, hf⟩ := g_s1 hf
    refine g_kv S (g_runV (rest := []) X S (c_X4_undoInto l hN kd_s1 hσ2 _) cvX4_undoInto mlX9_345 (kd_N kd_s25 (by decide) hN) (ceC_4 kd_s25 _) rfl rfl rfl hl.1 (Nat.le_of_ble_eq_true rfl) ⟨⟨rfl, rfl⟩, ⟨Nat.le_of_ble_eq_true rfl, Nat.le_of_ble_eq_true rfl⟩, Nat.le_of_ble_eq_true rfl, Nat.le_of_ble_eq_true rfl⟩ dX9_undo_29) (fun H locs S => ?_)
    refine lv_aload_n hx hb dX9_undo_32 rfl (lv_at hl 0 rfl) ?_
    refine gfX9_37 X S hN kd_s0 dX9_undo_33 ?_
    refine gfX9_152 X S hN kd_s25 dX9_undo_36 ?_
    cases hf
    exact g_xreti X S rfl dX9_undo_39 (by decide) (by decide)
  · have hf := (if_neg c1).symm.trans hf
    cases hf
    exact g_throwXW hl0 X S hT hl.1 ex_4 st_343 dX9_undo_10 dX9_undo_13 dX9_undo_14 dX9_undo_17 dX9_undo_20 (by decide) (Nat.le_of_ble_eq_true rfl) (Nat.le_of_ble_eq_true rfl) (Nat.le_of_ble_eq_true rfl) (Nat.le_of_ble_eq_true rfl) (Nat.le_of_ble_eq_true rfl)

noncomputable def f_X9_restoreSnapshot (σ : gSt)  : Option (Nat × Int32 × gSt) :=
  (if (σ 0 5) = 0 then some (4, 0, σ) else (g_k1 (f_X3_copyFrom σ 1 171) fun σ2 => (g_k1 (f_X4_forgetAll σ2 ) fun σ3 => (g_k1 (f_X3_captionCount σ3 1) fun v4 => some (0, v4, σ3)))))
set_option maxRecDepth 100000 in
set_option maxHeartbeats 4000000 in
theorem c_X9_restoreSnapshot (l : Launch) (hl0 : l.stackTraces = false) {Γ : gG} {ad : Nat → Nat} {N : Nat} (hN : 202 ≤ N) {σ : gSt}   {x : Nat} {r : Int32} {σ' : gSt} (hf : f_X9_restoreSnapshot σ  = some (x, r, σ')) : gMxi l Γ ad N yX9_restoreSnapshot cX9_restoreSnapshot 1 (some .int) (gR 8 1 6) [.ref (ad 0)] σ x r σ' 1 6 := by
  intro sz
  refine gOfX (Qc := fun sz => gQcxi Γ ad N x r σ' sz) (XC := fun sz => gXc Γ ad N x σ' sz) RX9 (by decide) rfl (Nat.le_of_ble_eq_true rfl) (fun p e s m args below meth c H locs ls X hT S hl => ?_)
  have hl : lv_has ls 1 [(0, .ref (ad 0))] := hl
  have hx := X.1
  have hb := X.2.1
  unfold f_X9_restoreSnapshot at hf
  refine lv_aload_n hx hb dX9_restoreSnapshot_0 rfl (lv_at hl 0 rfl) ?_
  refine gfX9_44 X S hN kd_s0 dX9_restoreSnapshot_1 ?_
  refine lv_if_ne (tgt := 18) hx hb dX9_restoreSnapshot_4 (by decide) (fun c1 => ?_) (fun c1 => ?_)
  · have hf := (if_neg c1).symm.trans hf
    refine lv_aload_n hx hb dX9_restoreSnapshot_18 rfl (lv_at hl 0 rfl) ?_
    refine gfX9_10 X S hN kd_s0 dX9_restoreSnapshot_19 ?_
    refine lv_aload_n hx hb dX9_restoreSnapshot_22 rfl (lv_at hl 0 rfl) ?_
    refine gfX9_41 X S hN kd_s0 dX9_restoreSnapshot_23 ?_
    obtain ⟨σ2, hσ2, hf⟩ := g_s1 hf
    refine g_kv S (g_runV (rest := []) X S (c_X3_copyFrom l hN kd_s1 kd_s171 hσ2 _) cvX3_copyFrom mlX9_348 (kd_N kd_s1 (by decide) hN) (ceC_3 kd_s1 _) rfl rfl rfl hl.1 (Nat.le_of_ble_eq_true rfl) ⟨⟨rfl, rfl⟩, ⟨Nat.le_of_ble_eq_true rfl, Nat.le_of_ble_eq_true rfl⟩, Nat.le_of_ble_eq_true rfl, Nat.le_of_ble_eq_true rfl⟩ dX9_restoreSnapshot_26) (fun H locs S => ?_)
    refine lv_aload_n hx hb dX9_restoreSnapshot_29 rfl (lv_at hl 0 rfl) ?_
    refine gfX9_37 X S hN kd_s0 dX9_restoreSnapshot_30 ?_
    obtain ⟨σ3, hσ3, hf⟩ := g_s1 hf
    refine g_kv S (g_runV (rest := []) X S (c_X4_forgetAll l hN  hσ3 _) cvX4_forgetAll mlX9_356 (kd_N kd_s25 (by decide) hN) (ceC_4 kd_s25 _) rfl rfl rfl hl.1 (Nat.le_of_ble_eq_true rfl) ⟨⟨rfl, rfl⟩, ⟨Nat.le_of_ble_eq_true rfl, Nat.le_of_ble_eq_true rfl⟩, Nat.le_of_ble_eq_true rfl, Nat.le_of_ble_eq_true rfl⟩ dX9_restoreSnapshot_33) (fun H locs S => ?_)
    refine lv_aload_n hx hb dX9_restoreSnapshot_36 rfl (lv_at hl 0 rfl) ?_
    refine gfX9_10 X S hN kd_s0 dX9_restoreSnapshot_37 ?_
    obtain ⟨v4, hv4, hf⟩ := g_s1 hf
    refine g_ki S (g_runV (rest := []) X S (c_X3_captionCount l hN kd_s1 hv4 _) cvX3_captionCount mlX9_351 (kd_N kd_s1 (by decide) hN) (ceC_3 kd_s1 _) rfl rfl rfl hl.1 (Nat.le_of_ble_eq_true rfl) ⟨⟨rfl, rfl⟩, ⟨Nat.le_of_ble_eq_true rfl, Nat.le_of_ble_eq_true rfl⟩, Nat.le_of_ble_eq_true rfl, Nat.le_of_ble_eq_true rfl⟩ dX9_restoreSnapshot_40) (fun H locs S => ?_)
    cases hf
    exact g_xreti X S rfl dX9_restoreSnapshot_43 (by decide) (by decide)
  · have hf := (if_pos c1).symm.trans hf
    cases hf
    exact g_throwXW hl0 X S hT hl.1 ex_4 st_354 dX9_restoreSnapshot_7 dX9_restoreSnapshot_10 dX9_restoreSnapshot_11 dX9_restoreSnapshot_14 dX9_restoreSnapshot_17 (by decide) (Nat.le_of_ble_eq_true rfl) (Nat.le_of_ble_eq_true rfl) (Nat.le_of_ble_eq_true rfl) (Nat.le_of_ble_eq_true rfl) (Nat.le_of_ble_eq_true rfl)

