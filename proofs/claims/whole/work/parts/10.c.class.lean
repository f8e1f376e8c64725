noncomputable def f_X1_placeCaption (σ : gSt) (a0 : Int32) (a1 : Int32) (a2 : Int32) (a3 : Int32) : Option (Int32 × gSt) :=
  (g_k1 (f_X3_trackOf σ 1 a0) fun v1 => (g_k1 (f_X8_kind σ v1 a1) fun v2 => (g_k1 (f_X7_clear σ 21) fun σ3 => (g_k1 (f_X8_size σ3 v1 a1) fun v4 => (g_k1 (f_X8_appendTextTo σ3 v1 21 a1 (0 : Int32) v4) fun σ5 => (g_k1 (f_X8_closeRow σ5 v1 a1) fun σ6 => (g_k2 (f_X8_insertCaption σ6 v1 v2 a2 a3 21) fun v7 σ8 => some (v7, σ8))))))))
set_option maxRecDepth 100000 in
set_option maxHeartbeats 4000000 in
theorem c_X1_placeCaption (l : Launch) {Γ : gG} {ad : Nat → Nat} {N : Nat} (hN : 202 ≤ N) {σ : gSt} {a0 : Int32} {a1 : Int32} {a2 : Int32} {a3 : Int32}  {r : Int32} {σ' : gSt} (hf : f_X1_placeCaption σ a0 a1 a2 a3 = some (r, σ')) : gMi l celC Γ ad N yX1_placeCaption cX1_placeCaption 7 (some .int) (gR 4 0 0) [.ref (ad 20), .int a0, .int a1, .int a2, .int a3] σ r σ' := by
  intro sz
  refine gOf (Qc := fun sz => gQci celC Γ ad N r σ' sz) RX1 (by decide) rfl (by decide) (fun p e s m args below meth c H locs ls X S hl => ?_)
  have hl : lv_has ls 7 [(6, .int v2), (5, .ref (ad v1)), (0, .ref (ad 20)), (1, .int a0), (2, .int a1), (3, .int a2), (4, .int a3)] := hl
  have hx := X.1
  have hb := X.2.1
  unfold f_X1_placeCaption at hf
  refine lv_aload_n hx hb dX1_placeCaption_0 rfl (lv_at hl 0 rfl) ?_
  refine gfX1_9 X S hN kd_s20 dX1_placeCaption_1 ?_
  refine lv_iload_n hx hb dX1_placeCaption_4 rfl (lv_at hl 1 rfl) ?_
  obtain ⟨v1, hv1, hf⟩ := g_s1 hf
  refine g_kr S (g_runV (rest := []) X S (c_X3_trackOf l hN kd_s1 hv1 _) cvX3_trackOf mlX1_29 (kd_N kd_s1 (by decide) hN) (ceC_3 kd_s1 _) rfl rfl rfl hl.1 (by decide) ⟨⟨rfl, rfl⟩, ⟨Nat.le_of_ble_eq_true rfl, Nat.le_of_ble_eq_true rfl⟩, Nat.le_of_ble_eq_true rfl, Nat.le_of_ble_eq_true rfl⟩ dX1_placeCaption_5) (fun H locs S => ?_)
  have hkv1 : gkd v1 = 8 := kr_X3_trackOf kd_s1 hv1
  refine lv_astore (lv' := [(5, .ref (ad v1)), (0, .ref (ad 20)), (1, .int a0), (2, .int a1), (3, .int a2), (4, .int a3)]) hx hb dX1_placeCaption_8 hl (by decide) rfl (fun ls hl => ?_)
  refine lv_aload hx hb dX1_placeCaption_10 (lv_at hl 0 rfl) ?_
  refine lv_iload_n hx hb dX1_placeCaption_12 rfl (lv_at hl 3 rfl) ?_
  obtain ⟨v2, hv2, hf⟩ := g_s1 hf
  refine g_ki S (g_runV (rest := []) X S (c_X8_kind l hN hkv1 hv2 _) cvX8_kind mlX1_35 (kd_N hkv1 (by decide) hN) (ceC_8 hkv1 _) rfl rfl rfl hl.1 (by decide) ⟨⟨rfl, rfl⟩, ⟨Nat.le_of_ble_eq_true rfl, Nat.le_of_ble_eq_true rfl⟩, Nat.le_of_ble_eq_true rfl, Nat.le_of_ble_eq_true rfl⟩ dX1_placeCaption_13) (fun H locs S => ?_)
  refine lv_istore (lv' := [(6, .int v2), (5, .ref (ad v1)), (0, .ref (ad 20)), (1, .int a0), (2, .int a1), (3, .int a2), (4, .int a3)]) hx hb dX1_placeCaption_16 hl (by decide) rfl (fun ls hl => ?_)
  refine lv_aload_n hx hb dX1_placeCaption_18 rfl (lv_at hl 2 rfl) ?_
  refine gfX1_22 X S hN kd_s20 dX1_placeCaption_19 ?_
  obtain ⟨σ3, hσ3, hf⟩ := g_s1 hf
  refine g_kv S (g_runV (rest := []) X S (c_X7_clear l hN kd_s21 hσ3 _) cvX7_clear mlX1_41 (kd_N kd_s21 (by decide) hN) (ceC_7 kd_s21 _) rfl rfl rfl hl.1 (by decide) ⟨⟨rfl, rfl⟩, ⟨Nat.le_of_ble_eq_true rfl, Nat.le_of_ble_eq_true rfl⟩, Nat.le_of_ble_eq_true rfl, Nat.le_of_ble_eq_true rfl⟩ dX1_placeCaption_22) (fun H locs S => ?_)
  refine lv_aload hx hb dX1_placeCaption_25 (lv_at hl 1 rfl) ?_
  refine lv_aload_n hx hb dX1_placeCaption_27 rfl (lv_at hl 2 rfl) ?_
  refine gfX1_22 X S hN kd_s20 dX1_placeCaption_28 ?_
  refine lv_iload_n hx hb dX1_placeCaption_31 rfl (lv_at hl 4 rfl) ?_
  refine lv_iconst (v := (0 : Int32)) hx hb dX1_placeCaption_32 (by decide) ?_
  refine lv_aload hx hb dX1_placeCaption_33 (lv_at hl 1 rfl) ?_
  refine lv_iload_n hx hb dX1_placeCaption_35 rfl (lv_at hl 4 rfl) ?_
  obtain ⟨v4, hv4, hf⟩ := g_s1 hf
  refine g_ki S (g_runV (rest := [.int (0 : Int32), .int a1, .ref (ad 21), .ref (ad v1)]) X S (c_X8_size l hN hkv1 hv4 _) cvX8_size mlX1_44 (kd_N hkv1 (by decide) hN) (ceC_8 hkv1 _) rfl rfl rfl hl.1 (by decide) ⟨⟨rfl, rfl⟩, ⟨Nat.le_of_ble_eq_true rfl, Nat.le_of_ble_eq_true rfl⟩, Nat.le_of_ble_eq_true rfl, Nat.le_of_ble_eq_true rfl⟩ dX1_placeCaption_36) (fun H locs S => ?_)
  obtain ⟨σ5, hσ5, hf⟩ := g_s1 hf
  refine g_kv S (g_runV (rest := []) X S (c_X8_appendTextTo l hN hkv1 kd_s21 hσ5 _) cvX8_appendTextTo mlX1_47 (kd_N hkv1 (by decide) hN) (ceC_8 hkv1 _) rfl rfl rfl hl.1 (by decide) ⟨⟨rfl, rfl⟩, ⟨Nat.le_of_ble_eq_true rfl, Nat.le_of_ble_eq_true rfl⟩, Nat.le_of_ble_eq_true rfl, Nat.le_of_ble_eq_true rfl⟩ dX1_placeCaption_39) (fun H locs S => ?_)
  refine lv_aload hx hb dX1_placeCaption_42 (lv_at hl 1 rfl) ?_
  refine lv_iload_n hx hb dX1_placeCaption_44 rfl (lv_at hl 4 rfl) ?_
  obtain ⟨σ6, hσ6, hf⟩ := g_s1 hf
  refine g_kv S (g_runV (rest := []) X S (c_X8_closeRow l hN hkv1 hσ6 _) cvX8_closeRow mlX1_51 (kd_N hkv1 (by decide) hN) (ceC_8 hkv1 _) rfl rfl rfl hl.1 (by decide) ⟨⟨rfl, rfl⟩, ⟨Nat.le_of_ble_eq_true rfl, Nat.le_of_ble_eq_true rfl⟩, Nat.le_of_ble_eq_true rfl, Nat.le_of_ble_eq_true rfl⟩ dX1_placeCaption_45) (fun H locs S => ?_)
  refine lv_aload hx hb dX1_placeCaption_48 (lv_at hl 1 rfl) ?_
  refine lv_iload hx hb dX1_placeCaption_50 (lv_at hl 0 rfl) ?_
  refine lv_iload_n hx hb dX1_placeCaption_52 rfl (lv_at hl 5 rfl) ?_
  refine lv_iload hx hb dX1_placeCaption_53 (lv_at hl 6 rfl) ?_
  refine lv_aload_n hx hb dX1_placeCaption_55 rfl (lv_at hl 2 rfl) ?_
  refine gfX1_22 X S hN kd_s20 dX1_placeCaption_56 ?_
  obtain ⟨v7, σ8, hv7, hf⟩ := g_s2 hf
  refine g_ki S (g_runV (rest := []) X S (c_X8_insertCaption l hN hkv1 kd_s21 hv7 _) cvX8_insertCaption mlX1_55 (kd_N hkv1 (by decide) hN) (ceC_8 hkv1 _) rfl rfl rfl hl.1 (by decide) ⟨⟨rfl, rfl⟩, ⟨Nat.le_of_ble_eq_true rfl, Nat.le_of_ble_eq_true rfl⟩, Nat.le_of_ble_eq_true rfl, Nat.le_of_ble_eq_true rfl⟩ dX1_placeCaption_59) (fun H locs S => ?_)
  cases hf
  exact g_reti X S rfl dX1_placeCaption_62

noncomputable def f_X1_divideText (σ : gSt) (a0 : Nat) (a1 : Int32) (a2 : Int32) : Option (gSt) :=
  (g_k1 (f_X7_clear σ 21) fun σ1 => (g_k1 (f_X8_appendTextTo σ1 a0 21 a1 (0 : Int32) a2) fun σ2 => (g_k1 (f_X7_clear σ2 23) fun σ3 => (g_k1 (f_X8_size σ3 a0 a1) fun v4 => (g_k1 (f_X8_appendTextTo σ3 a0 23 a1 (a2 + (1 : Int32)) v4) fun σ5 => some σ5)))))
set_option maxRecDepth 100000 in
set_option maxHeartbeats 4000000 in
theorem c_X1_divideText (l : Launch) {Γ : gG} {ad : Nat → Nat} {N : Nat} (hN : 202 ≤ N) {σ : gSt} {a0 : Nat} {a1 : Int32} {a2 : Int32} (ha0 : gkd a0 = 8) {σ' : gSt} (hf : f_X1_divideText σ a0 a1 a2 = some σ') : gMv l celC Γ ad N yX1_divideText cX1_divideText 4 none (gR 4 0 0) [.ref (ad 20), .ref (ad a0), .int a1, .int a2] σ σ' := by
  intro sz
  refine gOf (Qc := fun sz => gQcv celC Γ ad N σ' sz) RX1 (by decide) rfl (by decide) (fun p e s m args below meth c H locs ls X S hl => ?_)
  have hl : lv_has ls 4 [(0, .ref (ad 20)), (1, .ref (ad a0)), (2, .int a1), (3, .int a2)] := hl
  have hx := X.1
  have hb := X.2.1
  unfold f_X1_divideText at hf
  refine lv_aload_n hx hb dX1_divideText_0 rfl (lv_at hl 0 rfl) ?_
  refine gfX1_22 X S hN kd_s20 dX1_divideText_1 ?_
  obtain ⟨σ1, hσ1, hf⟩ := g_s1 hf
  refine g_kv S (g_runV (rest := []) X S (c_X7_clear l hN kd_s21 hσ1 _) cvX7_clear mlX1_41 (kd_N kd_s21 (by decide) hN) (ceC_7 kd_s21 _) rfl rfl rfl hl.1 (by decide) ⟨⟨rfl, rfl⟩, ⟨Nat.le_of_ble_eq_true rfl, Nat.le_of_ble_eq_true rfl⟩, Nat.le_of_ble_eq_true rfl, Nat.le_of_ble_eq_true rfl⟩ dX1_divideText_4) (fun H locs S => ?_)
  refine lv_aload_n hx hb dX1_divideText_7 rfl (lv_at hl 1 rfl) ?_
  refine lv_aload_n hx hb dX1_divideText_8 rfl (lv_at hl 0 rfl) ?_
  refine gfX1_22 X S hN kd_s20 dX1_divideText_9 ?_
  refine lv_iload_n hx hb dX1_divideText_12 rfl (lv_at hl 2 rfl) ?_
  refine lv_iconst (v := (0 : Int32)) hx hb dX1_divideText_13 (by decide) ?_
  refine lv_iload_n hx hb dX1_divideText_14 rfl (lv_at hl 3 rfl) ?_
  obtain ⟨σ2, hσ2, hf⟩ := g_s1 hf
  refine g_kv S (g_runV (rest := []) X S (c_X8_appendTextTo l hN ha0 kd_s21 hσ2 _) cvX8_appendTextTo mlX1_47 (kd_N ha0 (by decide) hN) (ceC_8 ha0 _) rfl rfl rfl hl.1 (by decide) ⟨⟨rfl, rfl⟩, ⟨Nat.le_of_ble_eq_true rfl, Nat.le_of_ble_eq_true rfl⟩, Nat.le_of_ble_eq_true rfl, Nat.le_of_ble_eq_true rfl⟩ dX1_divideText_15) (fun H locs S => ?_)
  refine lv_aload_n hx hb dX1_divideText_18 rfl (lv_at hl 0 rfl) ?_
  refine gfX1_26 X S hN kd_s20 dX1_divideText_19 ?_
  obtain ⟨σ3, hσ3, hf⟩ := g_s1 hf
  refine g_kv S (g_runV (rest := []) X S (c_X7_clear l hN kd_s23 hσ3 _) cvX7_clear mlX1_41 (kd_N kd_s23 (by decide) hN) (ceC_7 kd_s23 _) rfl rfl rfl hl.1 (by decide) ⟨⟨rfl, rfl⟩, ⟨Nat.le_of_ble_eq_true rfl, Nat.le_of_ble_eq_true rfl⟩, Nat.le_of_ble_eq_true rfl, Nat.le_of_ble_eq_true rfl⟩ dX1_divideText_22) (fun H locs S => ?_)
  refine lv_aload_n hx hb dX1_divideText_25 rfl (lv_at hl 1 rfl) ?_
  refine lv_aload_n hx hb dX1_divideText_26 rfl (lv_at hl 0 rfl) ?_
  refine gfX1_26 X S hN kd_s20 dX1_divideText_27 ?_
  refine lv_iload_n hx hb dX1_divideText_30 rfl (lv_at hl 2 rfl) ?_
  refine lv_iload_n hx hb dX1_divideText_31 rfl (lv_at hl 3 rfl) ?_
  refine lv_iconst (v := (1 : Int32)) hx hb dX1_divideText_32 (by decide) ?_
  refine lv_iadd hx hb dX1_divideText_33 ?_
  refine lv_aload_n hx hb dX1_divideText_34 rfl (lv_at hl 1 rfl) ?_
  refine lv_iload_n hx hb dX1_divideText_35 rfl (lv_at hl 2 rfl) ?_
  obtain ⟨v4, hv4, hf⟩ := g_s1 hf
  refine g_ki S (g_runV (rest := [.int (a2 + (1 : Int32)), .int a1, .ref (ad 23), .ref (ad a0)]) X S (c_X8_size l hN ha0 hv4 _) cvX8_size mlX1_44 (kd_N ha0 (by decide) hN) (ceC_8 ha0 _) rfl rfl rfl hl.1 (by decide) ⟨⟨rfl, rfl⟩, ⟨Nat.le_of_ble_eq_true rfl, Nat.le_of_ble_eq_true rfl⟩, Nat.le_of_ble_eq_true rfl, Nat.le_of_ble_eq_true rfl⟩ dX1_divideText_36) (fun H locs S => ?_)
  obtain ⟨σ5, hσ5, hf⟩ := g_s1 hf
  refine g_kv S (g_runV (rest := []) X S (c_X8_appendTextTo l hN ha0 kd_s23 hσ5 _) cvX8_appendTextTo mlX1_47 (kd_N ha0 (by decide) hN) (ceC_8 ha0 _) rfl rfl rfl hl.1 (by decide) ⟨⟨rfl, rfl⟩, ⟨Nat.le_of_ble_eq_true rfl, Nat.le_of_ble_eq_true rfl⟩, Nat.le_of_ble_eq_true rfl, Nat.le_of_ble_eq_true rfl⟩ dX1_divideText_39) (fun H locs S => ?_)
  cases hf
  exact g_retv X S dX1_divideText_42

noncomputable def f_X1_framesOfHead (σ : gSt) (a0 : Nat) (a1 : Int32) (a2 : Int32) : Option (Int32) :=
  (g_k1 (f_X8_loadBetween σ a0 a1 (0 : Int32) a2) fun v1 => (g_k1 (f_X8_size σ a0 a1) fun v2 => (g_k1 (f_X8_loadBetween σ a0 a1 (a2 + (1 : Int32)) v2) fun v3 => (g_k1 (if (v1 + v3) ≤ 0 then some (1 : Int32) else (g_k1 (f_X8_frames σ a0 a1) fun v8 => (g_k1 (gdiv (v8 * v1) (v1 + v3)) fun _ => some (if (1 : Int32) < ((v8 * v1) / (v1 + v3)) then ((v8 * v1) / (v1 + v3)) else (1 : Int32))))) fun x4 => some x4))))
set_option maxRecDepth 100000 in
set_option maxHeartbeats 4000000 in
theorem c_X1_framesOfHead (l : Launch) {Γ : gG} {ad : Nat → Nat} {N : Nat} (hN : 202 ≤ N) {σ : gSt} {a0 : Nat} {a1 : Int32} {a2 : Int32} (ha0 : gkd a0 = 8) {r : Int32} (hf : f_X1_framesOfHead σ a0 a1 a2 = some r) : gMi l celC Γ ad N yX1_framesOfHead cX1_framesOfHead 6 (some .int) (gR 4 0 0) [.ref (ad 20), .ref (ad a0), .int a1, .int a2] σ r σ := by
  intro sz
  refine gOf (Qc := fun sz => gQci celC Γ ad N r σ sz) RX1 (by decide) rfl (by decide) (fun p e s m args below meth c H locs ls X S hl => ?_)
  have hl : lv_has ls 6 [(5, .int (v1 + v3)), (4, .int v1), (0, .ref (ad 20)), (1, .ref (ad a0)), (2, .int a1), (3, .int a2)] := hl
  have hx := X.1
  have hb := X.2.1
  unfold f_X1_framesOfHead at hf
  refine lv_aload_n hx hb dX1_framesOfHead_0 rfl (lv_at hl 1 rfl) ?_
  refine lv_iload_n hx hb dX1_framesOfHead_1 rfl (lv_at hl 2 rfl) ?_
  refine lv_iconst (v := (0 : Int32)) hx hb dX1_framesOfHead_2 (by decide) ?_
  refine lv_iload_n hx hb dX1_framesOfHead_3 rfl (lv_at hl 3 rfl) ?_
  obtain ⟨v1, hv1, hf⟩ := g_s1 hf
  refine g_ki S (g_runV (rest := []) X S (c_X8_loadBetween l hN ha0 hv1 _) cvX8_loadBetween mlX1_96 (kd_N ha0 (by decide) hN) (ceC_8 ha0 _) rfl rfl rfl hl.1 (by decide) ⟨⟨rfl, rfl⟩, ⟨Nat.le_of_ble_eq_true rfl, Nat.le_of_ble_eq_true rfl⟩, Nat.le_of_ble_eq_true rfl, Nat.le_of_ble_eq_true rfl⟩ dX1_framesOfHead_4) (fun H locs S => ?_)
  refine lv_istore (lv' := [(4, .int v1), (0, .ref (ad 20)), (1, .ref (ad a0)), (2, .int a1), (3, .int a2)]) hx hb dX1_framesOfHead_7 hl (by decide) rfl (fun ls hl => ?_)
  refine lv_iload hx hb dX1_framesOfHead_9 (lv_at hl 0 rfl) ?_
  refine lv_aload_n hx hb dX1_framesOfHead_11 rfl (lv_at hl 2 rfl) ?_
  refine lv_iload_n hx hb dX1_framesOfHead_12 rfl (lv_at hl 3 rfl) ?_
  refine lv_iload_n hx hb dX1_framesOfHead_13 rfl (lv_at hl 4 rfl) ?_
  refine lv_iconst (v := (1 : Int32)) hx hb dX1_framesOfHead_14 (by decide) ?_
  refine lv_iadd hx hb dX1_framesOfHead_15 ?_
  refine lv_aload_n hx hb dX1_framesOfHead_16 rfl (lv_at hl 2 rfl) ?_
  refine lv_iload_n hx hb dX1_framesOfHead_17 rfl (lv_at hl 3 rfl) ?_
  obtain ⟨v2, hv2, hf⟩ := g_s1 hf
  refine g_ki S (g_runV (rest := [.int (a2 + (1 : Int32)), .int a1, .ref (ad a0), .int v1]) X S (c_X8_size l hN ha0 hv2 _) cvX8_size mlX1_44 (kd_N ha0 (by decide) hN) (ceC_8 ha0 _) rfl rfl rfl hl.1 (by decide) ⟨⟨rfl, rfl⟩, ⟨Nat.le_of_ble_eq_true rfl, Nat.le_of_ble_eq_true rfl⟩, Nat.le_of_ble_eq_true rfl, Nat.le_of_ble_eq_true rfl⟩ dX1_framesOfHead_18) (fun H locs S => ?_)
  obtain ⟨v3, hv3, hf⟩ := g_s1 hf
  refine g_ki S (g_runV (rest := [.int v1]) X S (c_X8_loadBetween l hN ha0 hv3 _) cvX8_loadBetween mlX1_96 (kd_N ha0 (by decide) hN) (ceC_8 ha0 _) rfl rfl rfl hl.1 (by decide) ⟨⟨rfl, rfl⟩, ⟨Nat.le_of_ble_eq_true rfl, Nat.le_of_ble_eq_true rfl⟩, Nat.le_of_ble_eq_true rfl, Nat.le_of_ble_eq_true rfl⟩ dX1_framesOfHead_21) (fun H locs S => ?_)
  refine lv_iadd hx hb dX1_framesOfHead_24 ?_
  refine lv_istore (lv' := [(5, .int (v1 + v3)), (4, .int v1), (0, .ref (ad 20)), (1, .ref (ad a0)), (2, .int a1), (3, .int a2)]) hx hb dX1_framesOfHead_25 hl (by decide) rfl (fun ls hl => ?_)
  refine lv_iload hx hb dX1_framesOfHead_27 (lv_at hl 0 rfl) ?_
  obtain ⟨x4, hr5, hf⟩ := g_s1 hf
  have J6 : ∀ (H : Heap) (locs : List Loc) (ls : Array Slot), gS celC Γ ad N σ s H locs → lv_has ls 6 [] → W p l e (gR 4 0 0) s m args below meth c H locs 0 0 (gQi celC Γ ad N r σ below args s) (F0 m 51 ls [.int x4]) := by
    intro H locs ls S hl
    cases hf
    exact g_reti X S rfl dX1_framesOfHead_51
  replace hf := hr5
  refine lv_if_le (tgt := 50) hx hb dX1_framesOfHead_29 (by decide) (fun c7 => ?_) (fun c7 => ?_)
  · have hf := (if_pos c7).symm.trans hf
    refine lv_iconst (v := (1 : Int32)) hx hb dX1_framesOfHead_50 (by decide) ?_
    cases hf
    exact J6 _ _ _ S (lv_sub hl [] rfl)
  · have hf := (if_neg c7).symm.trans hf
    refine lv_iconst (v := (1 : Int32)) hx hb dX1_framesOfHead_32 (by decide) ?_
    refine lv_aload_n hx hb dX1_framesOfHead_33 rfl (lv_at hl 3 rfl) ?_
    refine lv_iload_n hx hb dX1_framesOfHead_34 rfl (lv_at hl 4 rfl) ?_
    obtain ⟨v8, hv8, hf⟩ := g_s1 hf
    refine g_ki S (g_runV (rest := [.int (1 : Int32)]) X S (c_X8_frames l hN ha0 hv8 _) cvX8_frames mlX1_75 (kd_N ha0 (by decide) hN) (ceC_8 ha0 _) rfl rfl rfl hl.1 (by decide) ⟨⟨rfl, rfl⟩, ⟨Nat.le_of_ble_eq_true rfl, Nat.le_of_ble_eq_true rfl⟩, Nat.le_of_ble_eq_true rfl, Nat.le_of_ble_eq_true rfl⟩ dX1_framesOfHead_35) (fun H locs S => ?_)
    refine lv_iload hx hb dX1_framesOfHead_38 (lv_at hl 1 rfl) ?_
    refine lv_imul hx hb dX1_framesOfHead_40 ?_
    refine lv_iload hx hb dX1_framesOfHead_41 (lv_at hl 0 rfl) ?_
    obtain ⟨v9, hv9, hf⟩ := g_s1 hf
    obtain ⟨hzv9, rfl⟩ := gdiv_some hv9
    refine lv_idiv hx hb dX1_framesOfHead_43 hzv9 ?_
    refine g_max X hl.1 mwX1_100 ⟨⟨by decide, Nat.le_of_ble_eq_true rfl⟩, Nat.le_of_ble_eq_true rfl, Nat.le_of_ble_eq_true rfl⟩ dX1_framesOfHead_44 ?_
    refine lv_goto (tgt := 51) hx hb dX1_framesOfHead_47 (by decide) ?_
    cases hf
    exact J6 _ _ _ S (lv_sub hl [] rfl)

noncomputable def f_X1_splitRefusal_b1 (a0 : Int32) (a1 : Int32) (a2 : Int32) (b4 : Nat) (σ5 : gSt) : Option (Int32 × gSt) :=
  (g_k1 (f_X1_divideText σ5 b4 a1 a2) fun σ6 => (g_k1 (f_X7_isValid σ6 21) fun v7 => (if v7 = 0 then some ((4 : Int32), σ6) else (g_k1 (f_X7_isValid σ6 23) fun v9 => (if v9 = 0 then some ((4 : Int32), σ6) else (g_k1 (f_X1_framesOfHead σ6 b4 a1 a2) fun v11 => (g_k1 (f_X8_frames σ6 b4 a1) fun v12 => (if v11 < v12 then (g_k1 (if (σ6 b4 5) < (16 : Int32) then some (0 : Int32) else some (8 : Int32)) fun x14 => some (x14, σ6)) else some ((2 : Int32), σ6)))))))))
set_option maxRecDepth 100000 in
set_option maxHeartbeats 4000000 in
theorem w_X1_splitRefusal_b1 {l : Launch} {Γ : gG} {ad : Nat → Nat} {N : Nat} {p : Program} {e : Env} {s : State} {m : MethodId} {args : Array Value} {below : List Frame} {meth : Method} {c : Code} (hN : 202 ≤ N) (X : gX celC Γ ad N RX1 cX1_splitRefusal 6 (some .int) p s m args meth c) {a0 : Int32} {a1 : Int32} {a2 : Int32} {b4 : Nat} {σ5 : gSt} (hkb4 : gkd b4 = 8) {r : Int32} {σ' : gSt} (hf : f_X1_splitRefusal_b1 a0 a1 a2 b4 σ5 = some (r, σ')) (H : Heap) (locs : List Loc) (ls : Array Slot) (S : gS celC Γ ad N σ5 s H locs) (hl : lv_has ls 6 [(4, .ref (ad b4)), (0, .ref (ad 20)), (2, .int a1), (3, .int a2)]) : W p l e (gR 5 0 0) s m args below meth c H locs 0 0 (gQi celC Γ ad N r σ' below args s) (F0 m 35 ls []) := by
  have hx := X.1
  have hb := X.2.1
  unfold f_X1_splitRefusal_b1 at hf
  refine lv_aload_n hx hb dX1_splitRefusal_35 rfl (lv_at hl 1 rfl) ?_
  refine lv_aload hx hb dX1_splitRefusal_36 (lv_at hl 0 rfl) ?_
  refine lv_iload_n hx hb dX1_splitRefusal_38 rfl (lv_at hl 2 rfl) ?_
  refine lv_iload_n hx hb dX1_splitRefusal_39 rfl (lv_at hl 3 rfl) ?_
  obtain ⟨σ6, hσ6, hf⟩ := g_s1 hf
  refine g_kv S (g_runV (rest := []) X S (c_X1_divideText l hN hkb4 hσ6 _) cvX1_divideText mlX1_63 (kd_N kd_s20 (by decide) hN) (ceC_1 kd_s20 _) rfl rfl rfl hl.1 (by decide) ⟨⟨rfl, rfl⟩, ⟨Nat.le_of_ble_eq_true rfl, Nat.le_of_ble_eq_true rfl⟩, Nat.le_of_ble_eq_true rfl, Nat.le_of_ble_eq_true rfl⟩ dX1_splitRefusal_40) (fun H locs S => ?_)
  refine lv_aload_n hx hb dX1_splitRefusal_43 rfl (lv_at hl 1 rfl) ?_
  refine gfX1_22 X S hN kd_s20 dX1_splitRefusal_44 ?_
  obtain ⟨v7, hv7, hf⟩ := g_s1 hf
  refine g_ki S (g_runV (rest := []) X S (c_X7_isValid l hN kd_s21 hv7 _) cvX7_isValid mlX1_67 (kd_N kd_s21 (by decide) hN) (ceC_7 kd_s21 _) rfl rfl rfl hl.1 (by decide) ⟨⟨rfl, rfl⟩, ⟨Nat.le_of_ble_eq_true rfl, Nat.le_of_ble_eq_true rfl⟩, Nat.le_of_ble_eq_true rfl, Nat.le_of_ble_eq_true rfl⟩ dX1_splitRefusal_47) (fun H locs S => ?_)
  refine lv_if_eq (tgt := 63) hx hb dX1_splitRefusal_50 (by decide) (fun c8 => ?_) (fun c8 => ?_)
  · have hf := (if_pos c8).symm.trans hf
    refine lv_iconst (v := (4 : Int32)) hx hb dX1_splitRefusal_63 (by decide) ?_
    cases hf
    exact g_reti X S rfl dX1_splitRefusal_64
  · have hf := (if_neg c8).symm.trans hf
    refine lv_aload_n hx hb dX1_splitRefusal_53 rfl (lv_at hl 1 rfl) ?_
    refine gfX1_26 X S hN kd_s20 dX1_splitRefusal_54 ?_
    obtain ⟨v9, hv9, hf⟩ := g_s1 hf
    refine g_ki S (g_runV (rest := []) X S (c_X7_isValid l hN kd_s23 hv9 _) cvX7_isValid mlX1_67 (kd_N kd_s23 (by decide) hN) (ceC_7 kd_s23 _) rfl rfl rfl hl.1 (by decide) ⟨⟨rfl, rfl⟩, ⟨Nat.le_of_ble_eq_true rfl, Nat.le_of_ble_eq_true rfl⟩, Nat.le_of_ble_eq_true rfl, Nat.le_of_ble_eq_true rfl⟩ dX1_splitRefusal_57) (fun H locs S => ?_)
    refine lv_if_ne (tgt := 65) hx hb dX1_splitRefusal_60 (by decide) (fun c10 => ?_) (fun c10 => ?_)
    · have hf := (if_neg c10).symm.trans hf
      refine lv_aload_n hx hb dX1_splitRefusal_65 rfl (lv_at hl 1 rfl) ?_
      refine lv_aload hx hb dX1_splitRefusal_66 (lv_at hl 0 rfl) ?_
      refine lv_iload_n hx hb dX1_splitRefusal_68 rfl (lv_at hl 2 rfl) ?_
      refine lv_iload_n hx hb dX1_splitRefusal_69 rfl (lv_at hl 3 rfl) ?_
      obtain ⟨v11, hv11, hf⟩ := g_s1 hf
      refine g_ki S (g_runV (rest := []) X S (c_X1_framesOfHead l hN hkb4 hv11 _) cvX1_framesOfHead mlX1_71 (kd_N kd_s20 (by decide) hN) (ceC_1 kd_s20 _) rfl rfl rfl hl.1 (by decide) ⟨⟨rfl, rfl⟩, ⟨Nat.le_of_ble_eq_true rfl, Nat.le_of_ble_eq_true rfl⟩, Nat.le_of_ble_eq_true rfl, Nat.le_of_ble_eq_true rfl⟩ dX1_splitRefusal_70) (fun H locs S => ?_)
      refine lv_aload hx hb dX1_splitRefusal_73 (lv_at hl 0 rfl) ?_
      refine lv_iload_n hx hb dX1_splitRefusal_75 rfl (lv_at hl 2 rfl) ?_
      obtain ⟨v12, hv12, hf⟩ := g_s1 hf
      refine g_ki S (g_runV (rest := [.int v11]) X S (c_X8_frames l hN hkb4 hv12 _) cvX8_frames mlX1_75 (kd_N hkb4 (by decide) hN) (ceC_8 hkb4 _) rfl rfl rfl hl.1 (by decide) ⟨⟨rfl, rfl⟩, ⟨Nat.le_of_ble_eq_true rfl, Nat.le_of_ble_eq_true rfl⟩, Nat.le_of_ble_eq_true rfl, Nat.le_of_ble_eq_true rfl⟩ dX1_splitRefusal_76) (fun H locs S => ?_)
      refine lv_icmp_lt (tgt := 84) hx hb dX1_splitRefusal_79 (by decide) (fun c13 => ?_) (fun c13 => ?_)
      · have hf := (if_pos c13).symm.trans hf
        refine lv_aload hx hb dX1_splitRefusal_84 (lv_at hl 0 rfl) ?_
        refine gfX1_78 X S hN hkb4 dX1_splitRefusal_86 ?_
        refine lv_bipush (v := (16 : Int32)) hx hb dX1_splitRefusal_89 (by decide) ?_
        obtain ⟨x14, hr15, hf⟩ := g_s1 hf
        have J16 : ∀ (H : Heap) (locs : List Loc) (ls : Array Slot), gS celC Γ ad N σ6 s H locs → lv_has ls 6 [] → W p l e (gR 5 0 0) s m args below meth c H locs 0 0 (gQi celC Γ ad N r σ' below args s) (F0 m 100 ls [.int x14]) := by
          intro H locs ls S hl
          cases hf
          exact g_reti X S rfl dX1_splitRefusal_100
        replace hf := hr15
        refine lv_icmp_lt (tgt := 99) hx hb dX1_splitRefusal_91 (by decide) (fun c17 => ?_) (fun c17 => ?_)
        · have hf := (if_pos c17).symm.trans hf
          refine lv_iconst (v := (0 : Int32)) hx hb dX1_splitRefusal_99 (by decide) ?_
          cases hf
          exact J16 _ _ _ S (lv_sub hl [] rfl)
        · have hf := (if_neg c17).symm.trans hf
          refine lv_bipush (v := (8 : Int32)) hx hb dX1_splitRefusal_94 (by decide) ?_
          refine lv_goto (tgt := 100) hx hb dX1_splitRefusal_96 (by decide) ?_
          cases hf
          exact J16 _ _ _ S (lv_sub hl [] rfl)
      · have hf := (if_neg c13).symm.trans hf
        refine lv_iconst (v := (2 : Int32)) hx hb dX1_splitRefusal_82 (by decide) ?_
        cases hf
        exact g_reti X S rfl dX1_splitRefusal_83
    · have hf := (if_pos c10).symm.trans hf
      refine lv_iconst (v := (4 : Int32)) hx hb dX1_splitRefusal_63 (by decide) ?_
      cases hf
      exact g_reti X S rfl dX1_splitRefusal_64
noncomputable def f_X1_splitRefusal (σ : gSt) (a0 : Int32) (a1 : Int32) (a2 : Int32) : Option (Int32 × gSt) :=
  (g_k1 (f_X3_trackOf σ 1 a0) fun v1 => (g_k1 (f_X8_signAt σ v1 a1 a2) fun v2 => (if v2 = (95 : Int32) then (f_X1_splitRefusal_b1 a0 a1 a2 v1 σ) else (if v2 = (124 : Int32) then (f_X1_splitRefusal_b1 a0 a1 a2 v1 σ) else some ((4 : Int32), σ)))))
set_option maxRecDepth 100000 in
set_option maxHeartbeats 4000000 in
theorem c_X1_splitRefusal (l : Launch) {Γ : gG} {ad : Nat → Nat} {N : Nat} (hN : 202 ≤ N) {σ : gSt} {a0 : Int32} {a1 : Int32} {a2 : Int32}  {r : Int32} {σ' : gSt} (hf : f_X1_splitRefusal σ a0 a1 a2 = some (r, σ')) : gMi l celC Γ ad N yX1_splitRefusal cX1_splitRefusal 6 (some .int) (gR 5 0 0) [.ref (ad 20), .int a0, .int a1, .int a2] σ r σ' := by
  intro sz
  refine gOf (Qc := fun sz => gQci celC Γ ad N r σ' sz) RX1 (by decide) rfl (by decide) (fun p e s m args below meth c H locs ls X S hl => ?_)
  have hl : lv_has ls 6 [(5, .int v2), (4, .ref (ad v1)), (0, .ref (ad 20)), (1, .int a0), (2, .int a1), (3, .int a2)] := hl
  have hx := X.1
  have hb := X.2.1
  unfold f_X1_splitRefusal at hf
  refine lv_aload_n hx hb dX1_splitRefusal_0 rfl (lv_at hl 0 rfl) ?_
  refine gfX1_9 X S hN kd_s20 dX1_splitRefusal_1 ?_
  refine lv_iload_n hx hb dX1_splitRefusal_4 rfl (lv_at hl 1 rfl) ?_
  obtain ⟨v1, hv1, hf⟩ := g_s1 hf
  refine g_kr S (g_runV (rest := []) X S (c_X3_trackOf l hN kd_s1 hv1 _) cvX3_trackOf mlX1_29 (kd_N kd_s1 (by decide) hN) (ceC_3 kd_s1 _) rfl rfl rfl hl.1 (by decide) ⟨⟨rfl, rfl⟩, ⟨Nat.le_of_ble_eq_true rfl, Nat.le_of_ble_eq_true rfl⟩, Nat.le_of_ble_eq_true rfl, Nat.le_of_ble_eq_true rfl⟩ dX1_splitRefusal_5) (fun H locs S => ?_)
  have hkv1 : gkd v1 = 8 := kr_X3_trackOf kd_s1 hv1
  refine lv_astore (lv' := [(4, .ref (ad v1)), (0, .ref (ad 20)), (1, .int a0), (2, .int a1), (3, .int a2)]) hx hb dX1_splitRefusal_8 hl (by decide) rfl (fun ls hl => ?_)
  refine lv_aload hx hb dX1_splitRefusal_10 (lv_at hl 0 rfl) ?_
  refine lv_iload_n hx hb dX1_splitRefusal_12 rfl (lv_at hl 3 rfl) ?_
  refine lv_iload_n hx hb dX1_splitRefusal_13 rfl (lv_at hl 4 rfl) ?_
  obtain ⟨v2, hv2, hf⟩ := g_s1 hf
  refine g_ki S (g_runV (rest := []) X S (c_X8_signAt l hN hkv1 hv2 _) cvX8_signAt mlX1_59 (kd_N hkv1 (by decide) hN) (ceC_8 hkv1 _) rfl rfl rfl hl.1 (by decide) ⟨⟨rfl, rfl⟩, ⟨Nat.le_of_ble_eq_true rfl, Nat.le_of_ble_eq_true rfl⟩, Nat.le_of_ble_eq_true rfl, Nat.le_of_ble_eq_true rfl⟩ dX1_splitRefusal_14) (fun H locs S => ?_)
  refine lv_istore (lv' := [(5, .int v2), (4, .ref (ad v1)), (0, .ref (ad 20)), (1, .int a0), (2, .int a1), (3, .int a2)]) hx hb dX1_splitRefusal_17 hl (by decide) rfl (fun ls hl => ?_)
  refine lv_iload hx hb dX1_splitRefusal_19 (lv_at hl 0 rfl) ?_
  refine lv_bipush (v := (95 : Int32)) hx hb dX1_splitRefusal_21 (by decide) ?_
  refine lv_icmp_eq (tgt := 35) hx hb dX1_splitRefusal_23 (by decide) (fun c3 => ?_) (fun c3 => ?_)
  · have hf := (if_pos c3).symm.trans hf
    exact w_X1_splitRefusal_b1 hN X (by assumption) hf _ _ _ S (lv_sub hl [0, 1, 2, 3] rfl)
  · have hf := (if_neg c3).symm.trans hf
    refine lv_iload hx hb dX1_splitRefusal_26 (lv_at hl 0 rfl) ?_
    refine lv_bipush (v := (124 : Int32)) hx hb dX1_splitRefusal_28 (by decide) ?_
    refine lv_icmp_eq (tgt := 35) hx hb dX1_splitRefusal_30 (by decide) (fun c18 => ?_) (fun c18 => ?_)
    · have hf := (if_pos c18).symm.trans hf
      exact w_X1_splitRefusal_b1 hN X (by assumption) hf _ _ _ S (lv_sub hl [0, 1, 2, 3] rfl)
    · have hf := (if_neg c18).symm.trans hf
      refine lv_iconst (v := (4 : Int32)) hx hb dX1_splitRefusal_33 (by decide) ?_
      cases hf
      exact g_reti X S rfl dX1_splitRefusal_34

noncomputable def f_X1_splitCaption (σ : gSt) (a0 : Int32) (a1 : Int32) (a2 : Int32) : Option (Int32 × gSt) :=
  (g_k1 (f_X3_trackOf σ 1 a0) fun v1 => (g_k1 (f_X1_framesOfHead σ v1 a1 a2) fun v2 => (g_k1 (f_X8_first σ v1 a1) fun v3 => (g_k1 (f_X8_end σ v1 a1) fun v4 => (g_k1 (f_X1_divideText σ v1 a1 a2) fun σ5 => (g_k1 (f_X8_first σ5 v1 a1) fun v6 => (g_k1 (f_X8_setFrames σ5 v1 a1 v6 (v3 + v2)) fun σ7 => (g_k1 (f_X8_setText σ7 v1 a1 21) fun σ8 => (g_k1 (f_X8_kind σ8 v1 a1) fun v9 => (g_k2 (f_X8_insertCaption σ8 v1 v9 (v3 + v2) v4 23) fun v10 σ11 => some (v2, σ11)))))))))))
set_option maxRecDepth 100000 in
set_option maxHeartbeats 4000000 in
theorem c_X1_splitCaption (l : Launch) {Γ : gG} {ad : Nat → Nat} {N : Nat} (hN : 202 ≤ N) {σ : gSt} {a0 : Int32} {a1 : Int32} {a2 : Int32}  {r : Int32} {σ' : gSt} (hf : f_X1_splitCaption σ a0 a1 a2 = some (r, σ')) : gMi l celC Γ ad N yX1_splitCaption cX1_splitCaption 8 (some .int) (gR 5 0 0) [.ref (ad 20), .int a0, .int a1, .int a2] σ r σ' := by
  intro sz
  refine gOf (Qc := fun sz => gQci celC Γ ad N r σ' sz) RX1 (by decide) rfl (by decide) (fun p e s m args below meth c H locs ls X S hl => ?_)
  have hl : lv_has ls 8 [(7, .int v4), (6, .int (v3 + v2)), (5, .int v2), (4, .ref (ad v1)), (0, .ref (ad 20)), (1, .int a0), (2, .int a1), (3, .int a2)] := hl
  have hx := X.1
  have hb := X.2.1
  unfold f_X1_splitCaption at hf
  refine lv_aload_n hx hb dX1_splitCaption_0 rfl (lv_at hl 0 rfl) ?_
  refine gfX1_9 X S hN kd_s20 dX1_splitCaption_1 ?_
  refine lv_iload_n hx hb dX1_splitCaption_4 rfl (lv_at hl 1 rfl) ?_
  obtain ⟨v1, hv1, hf⟩ := g_s1 hf
  refine g_kr S (g_runV (rest := []) X S (c_X3_trackOf l hN kd_s1 hv1 _) cvX3_trackOf mlX1_29 (kd_N kd_s1 (by decide) hN) (ceC_3 kd_s1 _) rfl rfl rfl hl.1 (by decide) ⟨⟨rfl, rfl⟩, ⟨Nat.le_of_ble_eq_true rfl, Nat.le_of_ble_eq_true rfl⟩, Nat.le_of_ble_eq_true rfl, Nat.le_of_ble_eq_true rfl⟩ dX1_splitCaption_5) (fun H locs S => ?_)
  have hkv1 : gkd v1 = 8 := kr_X3_trackOf kd_s1 hv1
  refine lv_astore (lv' := [(4, .ref (ad v1)), (0, .ref (ad 20)), (1, .int a0), (2, .int a1), (3, .int a2)]) hx hb dX1_splitCaption_8 hl (by decide) rfl (fun ls hl => ?_)
  refine lv_aload_n hx hb dX1_splitCaption_10 rfl (lv_at hl 1 rfl) ?_
  refine lv_aload hx hb dX1_splitCaption_11 (lv_at hl 0 rfl) ?_
  refine lv_iload_n hx hb dX1_splitCaption_13 rfl (lv_at hl 3 rfl) ?_
  refine lv_iload_n hx hb dX1_splitCaption_14 rfl (lv_at hl 4 rfl) ?_
  obtain ⟨v2, hv2, hf⟩ := g_s1 hf
  refine g_ki S (g_runV (rest := []) X S (c_X1_framesOfHead l hN hkv1 hv2 _) cvX1_framesOfHead mlX1_71 (kd_N kd_s20 (by decide) hN) (ceC_1 kd_s20 _) rfl rfl rfl hl.1 (by decide) ⟨⟨rfl, rfl⟩, ⟨Nat.le_of_ble_eq_true rfl, Nat.le_of_ble_eq_true rfl⟩, Nat.le_of_ble_eq_true rfl, Nat.le_of_ble_eq_true rfl⟩ dX1_splitCaption_15) (fun H locs S => ?_)
  refine lv_istore (lv' := [(5, .int v2), (4, .ref (ad v1)), (0, .ref (ad 20)), (1, .int a0), (2, .int a1), (3, .int a2)]) hx hb dX1_splitCaption_18 hl (by decide) rfl (fun ls hl => ?_)
  refine lv_aload hx hb dX1_splitCaption_20 (lv_at hl 1 rfl) ?_
  refine lv_iload_n hx hb dX1_splitCaption_22 rfl (lv_at hl 4 rfl) ?_
  obtain ⟨v3, hv3, hf⟩ := g_s1 hf
  refine g_ki S (g_runV (rest := []) X S (c_X8_first l hN hkv1 hv3 _) cvX8_first mlX1_82 (kd_N hkv1 (by decide) hN) (ceC_8 hkv1 _) rfl rfl rfl hl.1 (by decide) ⟨⟨rfl, rfl⟩, ⟨Nat.le_of_ble_eq_true rfl, Nat.le_of_ble_eq_true rfl⟩, Nat.le_of_ble_eq_true rfl, Nat.le_of_ble_eq_true rfl⟩ dX1_splitCaption_23) (fun H locs S => ?_)
  refine lv_iload hx hb dX1_splitCaption_26 (lv_at hl 0 rfl) ?_
  refine lv_iadd hx hb dX1_splitCaption_28 ?_
  refine lv_istore (lv' := [(6, .int (v3 + v2)), (5, .int v2), (4, .ref (ad v1)), (0, .ref (ad 20)), (1, .int a0), (2, .int a1), (3, .int a2)]) hx hb dX1_splitCaption_29 hl (by decide) rfl (fun ls hl => ?_)
  refine lv_aload hx hb dX1_splitCaption_31 (lv_at hl 2 rfl) ?_
  refine lv_iload_n hx hb dX1_splitCaption_33 rfl (lv_at hl 5 rfl) ?_
  obtain ⟨v4, hv4, hf⟩ := g_s1 hf
  refine g_ki S (g_runV (rest := []) X S (c_X8_end l hN hkv1 hv4 _) cvX8_end mlX1_85 (kd_N hkv1 (by decide) hN) (ceC_8 hkv1 _) rfl rfl rfl hl.1 (by decide) ⟨⟨rfl, rfl⟩, ⟨Nat.le_of_ble_eq_true rfl, Nat.le_of_ble_eq_true rfl⟩, Nat.le_of_ble_eq_true rfl, Nat.le_of_ble_eq_true rfl⟩ dX1_splitCaption_34) (fun H locs S => ?_)
  refine lv_istore (lv' := [(7, .int v4), (6, .int (v3 + v2)), (5, .int v2), (4, .ref (ad v1)), (0, .ref (ad 20)), (1, .int a0), (2, .int a1), (3, .int a2)]) hx hb dX1_splitCaption_37 hl (by decide) rfl (fun ls hl => ?_)
  refine lv_aload_n hx hb dX1_splitCaption_39 rfl (lv_at hl 4 rfl) ?_
  refine lv_aload hx hb dX1_splitCaption_40 (lv_at hl 3 rfl) ?_
  refine lv_iload_n hx hb dX1_splitCaption_42 rfl (lv_at hl 6 rfl) ?_
  refine lv_iload_n hx hb dX1_splitCaption_43 rfl (lv_at hl 7 rfl) ?_
  obtain ⟨σ5, hσ5, hf⟩ := g_s1 hf
  refine g_kv S (g_runV (rest := []) X S (c_X1_divideText l hN hkv1 hσ5 _) cvX1_divideText mlX1_63 (kd_N kd_s20 (by decide) hN) (ceC_1 kd_s20 _) rfl rfl rfl hl.1 (by decide) ⟨⟨rfl, rfl⟩, ⟨Nat.le_of_ble_eq_true rfl, Nat.le_of_ble_eq_true rfl⟩, Nat.le_of_ble_eq_true rfl, Nat.le_of_ble_eq_true rfl⟩ dX1_splitCaption_44) (fun H locs S => ?_)
  refine lv_aload hx hb dX1_splitCaption_47 (lv_at hl 3 rfl) ?_
  refine lv_iload_n hx hb dX1_splitCaption_49 rfl (lv_at hl 6 rfl) ?_
  refine lv_aload hx hb dX1_splitCaption_50 (lv_at hl 3 rfl) ?_
  refine lv_iload_n hx hb dX1_splitCaption_52 rfl (lv_at hl 6 rfl) ?_
  obtain ⟨v6, hv6, hf⟩ := g_s1 hf
  refine g_ki S (g_runV (rest := [.int a1, .ref (ad v1)]) X S (c_X8_first l hN hkv1 hv6 _) cvX8_first mlX1_82 (kd_N hkv1 (by decide) hN) (ceC_8 hkv1 _) rfl rfl rfl hl.1 (by decide) ⟨⟨rfl, rfl⟩, ⟨Nat.le_of_ble_eq_true rfl, Nat.le_of_ble_eq_true rfl⟩, Nat.le_of_ble_eq_true rfl, Nat.le_of_ble_eq_true rfl⟩ dX1_splitCaption_53) (fun H locs S => ?_)
  refine lv_iload hx hb dX1_splitCaption_56 (lv_at hl 1 rfl) ?_
  obtain ⟨σ7, hσ7, hf⟩ := g_s1 hf
  refine g_kv S (g_runV (rest := []) X S (c_X8_setFrames l hN hkv1 hσ7 _) cvX8_setFrames mlX1_88 (kd_N hkv1 (by decide) hN) (ceC_8 hkv1 _) rfl rfl rfl hl.1 (by decide) ⟨⟨rfl, rfl⟩, ⟨Nat.le_of_ble_eq_true rfl, Nat.le_of_ble_eq_true rfl⟩, Nat.le_of_ble_eq_true rfl, Nat.le_of_ble_eq_true rfl⟩ dX1_splitCaption_58) (fun H locs S => ?_)
  refine lv_aload hx hb dX1_splitCaption_61 (lv_at hl 3 rfl) ?_
  refine lv_iload_n hx hb dX1_splitCaption_63 rfl (lv_at hl 6 rfl) ?_
  refine lv_aload_n hx hb dX1_splitCaption_64 rfl (lv_at hl 4 rfl) ?_
  refine gfX1_22 X S hN kd_s20 dX1_splitCaption_65 ?_
  obtain ⟨σ8, hσ8, hf⟩ := g_s1 hf
  refine g_kv S (g_runV (rest := []) X S (c_X8_setText l hN hkv1 kd_s21 hσ8 _) cvX8_setText mlX1_92 (kd_N hkv1 (by decide) hN) (ceC_8 hkv1 _) rfl rfl rfl hl.1 (by decide) ⟨⟨rfl, rfl⟩, ⟨Nat.le_of_ble_eq_true rfl, Nat.le_of_ble_eq_true rfl⟩, Nat.le_of_ble_eq_true rfl, Nat.le_of_ble_eq_true rfl⟩ dX1_splitCaption_68) (fun H locs S => ?_)
  refine lv_aload hx hb dX1_splitCaption_71 (lv_at hl 3 rfl) ?_
  refine lv_aload hx hb dX1_splitCaption_73 (lv_at hl 3 rfl) ?_
  refine lv_iload_n hx hb dX1_splitCaption_75 rfl (lv_at hl 6 rfl) ?_
  obtain ⟨v9, hv9, hf⟩ := g_s1 hf
  refine g_ki S (g_runV (rest := [.ref (ad v1)]) X S (c_X8_kind l hN hkv1 hv9 _) cvX8_kind mlX1_35 (kd_N hkv1 (by decide) hN) (ceC_8 hkv1 _) rfl rfl rfl hl.1 (by decide) ⟨⟨rfl, rfl⟩, ⟨Nat.le_of_ble_eq_true rfl, Nat.le_of_ble_eq_true rfl⟩, Nat.le_of_ble_eq_true rfl, Nat.le_of_ble_eq_true rfl⟩ dX1_splitCaption_76) (fun H locs S => ?_)
  refine lv_iload hx hb dX1_splitCaption_79 (lv_at hl 1 rfl) ?_
  refine lv_iload hx hb dX1_splitCaption_81 (lv_at hl 0 rfl) ?_
  refine lv_aload_n hx hb dX1_splitCaption_83 rfl (lv_at hl 4 rfl) ?_
  refine gfX1_26 X S hN kd_s20 dX1_splitCaption_84 ?_
  obtain ⟨v10, σ11, hv10, hf⟩ := g_s2 hf
  refine g_ki S (g_runV (rest := []) X S (c_X8_insertCaption l hN hkv1 kd_s23 hv10 _) cvX8_insertCaption mlX1_55 (kd_N hkv1 (by decide) hN) (ceC_8 hkv1 _) rfl rfl rfl hl.1 (by decide) ⟨⟨rfl, rfl⟩, ⟨Nat.le_of_ble_eq_true rfl, Nat.le_of_ble_eq_true rfl⟩, Nat.le_of_ble_eq_true rfl, Nat.le_of_ble_eq_true rfl⟩ dX1_splitCaption_87) (fun H locs S => ?_)
  refine lv_pop hx hb dX1_splitCaption_90 rfl ?_
  refine lv_iload hx hb dX1_splitCaption_91 (lv_at hl 2 rfl) ?_
  cases hf
  exact g_reti X S rfl dX1_splitCaption_93

noncomputable def f_X1_mergeCaption (σ : gSt) (a0 : Int32) (a1 : Int32) : Option (Int32 × gSt) :=
  (g_k1 (f_X3_trackOf σ 1 a0) fun v1 => (g_k2 (f_X2_joinWithNext σ a0 a1) fun v2 σ3 => (g_k1 (f_X8_first σ3 v1 a1) fun v4 => (g_k1 (f_X8_end σ3 v1 (a1 + (1 : Int32))) fun v5 => (g_k1 (f_X8_setFrames σ3 v1 a1 v4 v5) fun σ6 => (g_k1 (f_X8_setText σ6 v1 a1 v2) fun σ7 => (g_k1 (f_X8_closeRow σ7 v1 (a1 + (1 : Int32))) fun σ8 => (g_k1 (f_X8_load σ8 v1 a1) fun v9 => some (v9, σ8)))))))))
set_option maxRecDepth 100000 in
set_option maxHeartbeats 4000000 in
theorem c_X1_mergeCaption (l : Launch) {Γ : gG} {ad : Nat → Nat} {N : Nat} (hN : 202 ≤ N) {σ : gSt} {a0 : Int32} {a1 : Int32}  {r : Int32} {σ' : gSt} (hf : f_X1_mergeCaption σ a0 a1 = some (r, σ')) : gMi l celC Γ ad N yX1_mergeCaption cX1_mergeCaption 5 (some .int) (gR 5 0 0) [.ref (ad 20), .int a0, .int a1] σ r σ' := by
  intro sz
  refine gOf (Qc := fun sz => gQci celC Γ ad N r σ' sz) RX1 (by decide) rfl (by decide) (fun p e s m args below meth c H locs ls X S hl => ?_)
  have hl : lv_has ls 5 [(4, .ref (ad v2)), (3, .ref (ad v1)), (0, .ref (ad 20)), (1, .int a0), (2, .int a1)] := hl
  have hx := X.1
  have hb := X.2.1
  unfold f_X1_mergeCaption at hf
  refine lv_aload_n hx hb dX1_mergeCaption_0 rfl (lv_at hl 0 rfl) ?_
  refine gfX1_9 X S hN kd_s20 dX1_mergeCaption_1 ?_
  refine lv_iload_n hx hb dX1_mergeCaption_4 rfl (lv_at hl 1 rfl) ?_
  obtain ⟨v1, hv1, hf⟩ := g_s1 hf
  refine g_kr S (g_runV (rest := []) X S (c_X3_trackOf l hN kd_s1 hv1 _) cvX3_trackOf mlX1_29 (kd_N kd_s1 (by decide) hN) (ceC_3 kd_s1 _) rfl rfl rfl hl.1 (by decide) ⟨⟨rfl, rfl⟩, ⟨Nat.le_of_ble_eq_true rfl, Nat.le_of_ble_eq_true rfl⟩, Nat.le_of_ble_eq_true rfl, Nat.le_of_ble_eq_true rfl⟩ dX1_mergeCaption_5) (fun H locs S => ?_)
  have hkv1 : gkd v1 = 8 := kr_X3_trackOf kd_s1 hv1
  refine lv_astore_n (lv' := [(3, .ref (ad v1)), (0, .ref (ad 20)), (1, .int a0), (2, .int a1)]) hx hb dX1_mergeCaption_8 rfl hl (by decide) rfl (fun ls hl => ?_)
  refine lv_aload_n hx hb dX1_mergeCaption_9 rfl (lv_at hl 1 rfl) ?_
  refine gfX1_15 X S hN kd_s20 dX1_mergeCaption_10 ?_
  refine lv_iload_n hx hb dX1_mergeCaption_13 rfl (lv_at hl 2 rfl) ?_
  refine lv_iload_n hx hb dX1_mergeCaption_14 rfl (lv_at hl 3 rfl) ?_
  obtain ⟨v2, σ3, hv2, hf⟩ := g_s2 hf
  refine g_kr S (g_runV (rest := []) X S (c_X2_joinWithNext l hN  hv2 _) cvX2_joinWithNext mlX1_105 (kd_N kd_s17 (by decide) hN) (ceC_2 kd_s17 _) rfl rfl rfl hl.1 (by decide) ⟨⟨rfl, rfl⟩, ⟨Nat.le_of_ble_eq_true rfl, Nat.le_of_ble_eq_true rfl⟩, Nat.le_of_ble_eq_true rfl, Nat.le_of_ble_eq_true rfl⟩ dX1_mergeCaption_15) (fun H locs S => ?_)
  have hkv2 : gkd v2 = 7 := kr_X2_joinWithNext  hv2
  refine lv_astore (lv' := [(4, .ref (ad v2)), (3, .ref (ad v1)), (0, .ref (ad 20)), (1, .int a0), (2, .int a1)]) hx hb dX1_mergeCaption_18 hl (by decide) rfl (fun ls hl => ?_)
  refine lv_aload_n hx hb dX1_mergeCaption_20 rfl (lv_at hl 1 rfl) ?_
  refine lv_iload_n hx hb dX1_mergeCaption_21 rfl (lv_at hl 4 rfl) ?_
  refine lv_aload_n hx hb dX1_mergeCaption_22 rfl (lv_at hl 1 rfl) ?_
  refine lv_iload_n hx hb dX1_mergeCaption_23 rfl (lv_at hl 4 rfl) ?_
  obtain ⟨v4, hv4, hf⟩ := g_s1 hf
  refine g_ki S (g_runV (rest := [.int a1, .ref (ad v1)]) X S (c_X8_first l hN hkv1 hv4 _) cvX8_first mlX1_82 (kd_N hkv1 (by decide) hN) (ceC_8 hkv1 _) rfl rfl rfl hl.1 (by decide) ⟨⟨rfl, rfl⟩, ⟨Nat.le_of_ble_eq_true rfl, Nat.le_of_ble_eq_true rfl⟩, Nat.le_of_ble_eq_true rfl, Nat.le_of_ble_eq_true rfl⟩ dX1_mergeCaption_24) (fun H locs S => ?_)
  refine lv_aload_n hx hb dX1_mergeCaption_27 rfl (lv_at hl 1 rfl) ?_
  refine lv_iload_n hx hb dX1_mergeCaption_28 rfl (lv_at hl 4 rfl) ?_
  refine lv_iconst (v := (1 : Int32)) hx hb dX1_mergeCaption_29 (by decide) ?_
  refine lv_iadd hx hb dX1_mergeCaption_30 ?_
  obtain ⟨v5, hv5, hf⟩ := g_s1 hf
  refine g_ki S (g_runV (rest := [.int v4, .int a1, .ref (ad v1)]) X S (c_X8_end l hN hkv1 hv5 _) cvX8_end mlX1_85 (kd_N hkv1 (by decide) hN) (ceC_8 hkv1 _) rfl rfl rfl hl.1 (by decide) ⟨⟨rfl, rfl⟩, ⟨Nat.le_of_ble_eq_true rfl, Nat.le_of_ble_eq_true rfl⟩, Nat.le_of_ble_eq_true rfl, Nat.le_of_ble_eq_true rfl⟩ dX1_mergeCaption_31) (fun H locs S => ?_)
  obtain ⟨σ6, hσ6, hf⟩ := g_s1 hf
  refine g_kv S (g_runV (rest := []) X S (c_X8_setFrames l hN hkv1 hσ6 _) cvX8_setFrames mlX1_88 (kd_N hkv1 (by decide) hN) (ceC_8 hkv1 _) rfl rfl rfl hl.1 (by decide) ⟨⟨rfl, rfl⟩, ⟨Nat.le_of_ble_eq_true rfl, Nat.le_of_ble_eq_true rfl⟩, Nat.le_of_ble_eq_true rfl, Nat.le_of_ble_eq_true rfl⟩ dX1_mergeCaption_34) (fun H locs S => ?_)
  refine lv_aload_n hx hb dX1_mergeCaption_37 rfl (lv_at hl 1 rfl) ?_
  refine lv_iload_n hx hb dX1_mergeCaption_38 rfl (lv_at hl 4 rfl) ?_
  refine lv_aload hx hb dX1_mergeCaption_39 (lv_at hl 0 rfl) ?_
  obtain ⟨σ7, hσ7, hf⟩ := g_s1 hf
  refine g_kv S (g_runV (rest := []) X S (c_X8_setText l hN hkv1 hkv2 hσ7 _) cvX8_setText mlX1_92 (kd_N hkv1 (by decide) hN) (ceC_8 hkv1 _) rfl rfl rfl hl.1 (by decide) ⟨⟨rfl, rfl⟩, ⟨Nat.le_of_ble_eq_true rfl, Nat.le_of_ble_eq_true rfl⟩, Nat.le_of_ble_eq_true rfl, Nat.le_of_ble_eq_true rfl⟩ dX1_mergeCaption_41) (fun H locs S => ?_)
  refine lv_aload_n hx hb dX1_mergeCaption_44 rfl (lv_at hl 1 rfl) ?_
  refine lv_iload_n hx hb dX1_mergeCaption_45 rfl (lv_at hl 4 rfl) ?_
  refine lv_iconst (v := (1 : Int32)) hx hb dX1_mergeCaption_46 (by decide) ?_
  refine lv_iadd hx hb dX1_mergeCaption_47 ?_
  obtain ⟨σ8, hσ8, hf⟩ := g_s1 hf
  refine g_kv S (g_runV (rest := []) X S (c_X8_closeRow l hN hkv1 hσ8 _) cvX8_closeRow mlX1_51 (kd_N hkv1 (by decide) hN) (ceC_8 hkv1 _) rfl rfl rfl hl.1 (by decide) ⟨⟨rfl, rfl⟩, ⟨Nat.le_of_ble_eq_true rfl, Nat.le_of_ble_eq_true rfl⟩, Nat.le_of_ble_eq_true rfl, Nat.le_of_ble_eq_true rfl⟩ dX1_mergeCaption_48) (fun H locs S => ?_)
  refine lv_aload_n hx hb dX1_mergeCaption_51 rfl (lv_at hl 1 rfl) ?_
  refine lv_iload_n hx hb dX1_mergeCaption_52 rfl (lv_at hl 4 rfl) ?_
  obtain ⟨v9, hv9, hf⟩ := g_s1 hf
  refine g_ki S (g_runV (rest := []) X S (c_X8_load l hN hkv1 hv9 _) cvX8_load mlX1_111 (kd_N hkv1 (by decide) hN) (ceC_8 hkv1 _) rfl rfl rfl hl.1 (by decide) ⟨⟨rfl, rfl⟩, ⟨Nat.le_of_ble_eq_true rfl, Nat.le_of_ble_eq_true rfl⟩, Nat.le_of_ble_eq_true rfl, Nat.le_of_ble_eq_true rfl⟩ dX1_mergeCaption_53) (fun H locs S => ?_)
  cases hf
  exact g_reti X S rfl dX1_mergeCaption_56

noncomputable def f_X1_snapped (σ : gSt) (a0 : Int32) : Option (Int32) :=
  (g_k1 (f_X3_isLoose σ 1 a0) fun v1 => (g_k1 (if v1 = 0 then some a0 else (g_k1 (f_X0_nearest σ (1 + 2) a0) fun v6 => some v6)) fun x2 => some x2))
set_option maxRecDepth 100000 in
set_option maxHeartbeats 4000000 in
theorem c_X1_snapped (l : Launch) {Γ : gG} {ad : Nat → Nat} {N : Nat} (hN : 202 ≤ N) {σ : gSt} {a0 : Int32}  {r : Int32} (hf : f_X1_snapped σ a0 = some r) : gMi l celC Γ ad N yX1_snapped cX1_snapped 2 (some .int) (gR 5 0 0) [.ref (ad 20), .int a0] σ r σ := by
  intro sz
  refine gOf (Qc := fun sz => gQci celC Γ ad N r σ sz) RX1 (by decide) rfl (by decide) (fun p e s m args below meth c H locs ls X S hl => ?_)
  have hl : lv_has ls 2 [(0, .ref (ad 20)), (1, .int a0)] := hl
  have hx := X.1
  have hb := X.2.1
  unfold f_X1_snapped at hf
  refine lv_aload_n hx hb dX1_snapped_0 rfl (lv_at hl 0 rfl) ?_
  refine gfX1_9 X S hN kd_s20 dX1_snapped_1 ?_
  refine lv_iload_n hx hb dX1_snapped_4 rfl (lv_at hl 1 rfl) ?_
  obtain ⟨v1, hv1, hf⟩ := g_s1 hf
  refine g_ki S (g_runV (rest := []) X S (c_X3_isLoose l hN kd_s1 hv1 _) cvX3_isLoose mlX1_114 (kd_N kd_s1 (by decide) hN) (ceC_3 kd_s1 _) rfl rfl rfl hl.1 (by decide) ⟨⟨rfl, rfl⟩, ⟨Nat.le_of_ble_eq_true rfl, Nat.le_of_ble_eq_true rfl⟩, Nat.le_of_ble_eq_true rfl, Nat.le_of_ble_eq_true rfl⟩ dX1_snapped_5) (fun H locs S => ?_)
  obtain ⟨x2, hr3, hf⟩ := g_s1 hf
  have J4 : ∀ (H : Heap) (locs : List Loc) (ls : Array Slot), gS celC Γ ad N σ s H locs → lv_has ls 2 [] → W p l e (gR 5 0 0) s m args below meth c H locs 0 0 (gQi celC Γ ad N r σ below args s) (F0 m 26 ls [.int x2]) := by
    intro H locs ls S hl
    cases hf
    exact g_reti X S rfl dX1_snapped_26
  replace hf := hr3
  refine lv_if_eq (tgt := 25) hx hb dX1_snapped_8 (by decide) (fun c5 => ?_) (fun c5 => ?_)
  · have hf := (if_pos c5).symm.trans hf
    refine lv_iload_n hx hb dX1_snapped_25 rfl (lv_at hl 1 rfl) ?_
    cases hf
    exact J4 _ _ _ S (lv_sub hl [] rfl)
  · have hf := (if_neg c5).symm.trans hf
    refine lv_aload_n hx hb dX1_snapped_11 rfl (lv_at hl 0 rfl) ?_
    refine gfX1_9 X S hN kd_s20 dX1_snapped_12 ?_
    refine gfX1_118 X S hN kd_s1 dX1_snapped_15 ?_
    refine lv_iload_n hx hb dX1_snapped_18 rfl (lv_at hl 1 rfl) ?_
    obtain ⟨v6, hv6, hf⟩ := g_s1 hf
    refine g_ki S (g_runV (rest := []) X S (c_X0_nearest l hN (kd_3_2 kd_s1) hv6 _) cvX0_nearest mlX1_122 (kd_N (kd_3_2 kd_s1) (by decide) hN) (ceC_0 (kd_3_2 kd_s1) _) rfl rfl rfl hl.1 (by decide) ⟨⟨rfl, rfl⟩, ⟨Nat.le_of_ble_eq_true rfl, Nat.le_of_ble_eq_true rfl⟩, Nat.le_of_ble_eq_true rfl, Nat.le_of_ble_eq_true rfl⟩ dX1_snapped_19) (fun H locs S => ?_)
    refine lv_goto (tgt := 26) hx hb dX1_snapped_22 (by decide) ?_
    cases hf
    exact J4 _ _ _ S (lv_sub hl [] rfl)

noncomputable def f_X1_snapRefusal (σ : gSt) (a0 : Int32) (a1 : Int32) : Option (Int32) :=
  (g_k1 (f_X3_trackOf σ 1 a0) fun v1 => (g_k1 (f_X8_first σ v1 a1) fun v2 => (g_k1 (f_X1_snapped σ v2) fun v3 => (g_k1 (f_X8_end σ v1 a1) fun v4 => (g_k1 (f_X1_snapped σ v4) fun v5 => (g_k1 (f_X3_placeRefusal σ 1 a0 a1 v3 v5) fun v6 => some v6))))))
set_option maxRecDepth 100000 in
set_option maxHeartbeats 4000000 in
theorem c_X1_snapRefusal (l : Launch) {Γ : gG} {ad : Nat → Nat} {N : Nat} (hN : 202 ≤ N) {σ : gSt} {a0 : Int32} {a1 : Int32}  {r : Int32} (hf : f_X1_snapRefusal σ a0 a1 = some r) : gMi l celC Γ ad N yX1_snapRefusal cX1_snapRefusal 4 (some .int) (gR 6 0 0) [.ref (ad 20), .int a0, .int a1] σ r σ := by
  intro sz
  refine gOf (Qc := fun sz => gQci celC Γ ad N r σ sz) RX1 (by decide) rfl (by decide) (fun p e s m args below meth c H locs ls X S hl => ?_)
  have hl : lv_has ls 4 [(3, .ref (ad v1)), (0, .ref (ad 20)), (1, .int a0), (2, .int a1)] := hl
  have hx := X.1
  have hb := X.2.1
  unfold f_X1_snapRefusal at hf
  refine lv_aload_n hx hb dX1_snapRefusal_0 rfl (lv_at hl 0 rfl) ?_
  refine gfX1_9 X S hN kd_s20 dX1_snapRefusal_1 ?_
  refine lv_iload_n hx hb dX1_snapRefusal_4 rfl (lv_at hl 1 rfl) ?_
  obtain ⟨v1, hv1, hf⟩ := g_s1 hf
  refine g_kr S (g_runV (rest := []) X S (c_X3_trackOf l hN kd_s1 hv1 _) cvX3_trackOf mlX1_29 (kd_N kd_s1 (by decide) hN) (ceC_3 kd_s1 _) rfl rfl rfl hl.1 (by decide) ⟨⟨rfl, rfl⟩, ⟨Nat.le_of_ble_eq_true rfl, Nat.le_of_ble_eq_true rfl⟩, Nat.le_of_ble_eq_true rfl, Nat.le_of_ble_eq_true rfl⟩ dX1_snapRefusal_5) (fun H locs S => ?_)
  have hkv1 : gkd v1 = 8 := kr_X3_trackOf kd_s1 hv1
  refine lv_astore_n (lv' := [(3, .ref (ad v1)), (0, .ref (ad 20)), (1, .int a0), (2, .int a1)]) hx hb dX1_snapRefusal_8 rfl hl (by decide) rfl (fun ls hl => ?_)
  refine lv_aload_n hx hb dX1_snapRefusal_9 rfl (lv_at hl 1 rfl) ?_
  refine gfX1_9 X S hN kd_s20 dX1_snapRefusal_10 ?_
  refine lv_iload_n hx hb dX1_snapRefusal_13 rfl (lv_at hl 2 rfl) ?_
  refine lv_iload_n hx hb dX1_snapRefusal_14 rfl (lv_at hl 3 rfl) ?_
  refine lv_aload_n hx hb dX1_snapRefusal_15 rfl (lv_at hl 1 rfl) ?_
  refine lv_aload_n hx hb dX1_snapRefusal_16 rfl (lv_at hl 0 rfl) ?_
  refine lv_iload_n hx hb dX1_snapRefusal_17 rfl (lv_at hl 3 rfl) ?_
  obtain ⟨v2, hv2, hf⟩ := g_s1 hf
  refine g_ki S (g_runV (rest := [.ref (ad 20), .int a1, .int a0, .ref (ad 1)]) X S (c_X8_first l hN hkv1 hv2 _) cvX8_first mlX1_82 (kd_N hkv1 (by decide) hN) (ceC_8 hkv1 _) rfl rfl rfl hl.1 (by decide) ⟨⟨rfl, rfl⟩, ⟨Nat.le_of_ble_eq_true rfl, Nat.le_of_ble_eq_true rfl⟩, Nat.le_of_ble_eq_true rfl, Nat.le_of_ble_eq_true rfl⟩ dX1_snapRefusal_18) (fun H locs S => ?_)
  obtain ⟨v3, hv3, hf⟩ := g_s1 hf
  refine g_ki S (g_runV (rest := [.int a1, .int a0, .ref (ad 1)]) X S (c_X1_snapped l hN  hv3 _) cvX1_snapped mlX1_127 (kd_N kd_s20 (by decide) hN) (ceC_1 kd_s20 _) rfl rfl rfl hl.1 (by decide) ⟨⟨rfl, rfl⟩, ⟨Nat.le_of_ble_eq_true rfl, Nat.le_of_ble_eq_true rfl⟩, Nat.le_of_ble_eq_true rfl, Nat.le_of_ble_eq_true rfl⟩ dX1_snapRefusal_21) (fun H locs S => ?_)
  refine lv_aload_n hx hb dX1_snapRefusal_24 rfl (lv_at hl 1 rfl) ?_
  refine lv_aload_n hx hb dX1_snapRefusal_25 rfl (lv_at hl 0 rfl) ?_
  refine lv_iload_n hx hb dX1_snapRefusal_26 rfl (lv_at hl 3 rfl) ?_
  obtain ⟨v4, hv4, hf⟩ := g_s1 hf
  refine g_ki S (g_runV (rest := [.ref (ad 20), .int v3, .int a1, .int a0, .ref (ad 1)]) X S (c_X8_end l hN hkv1 hv4 _) cvX8_end mlX1_85 (kd_N hkv1 (by decide) hN) (ceC_8 hkv1 _) rfl rfl rfl hl.1 (by decide) ⟨⟨rfl, rfl⟩, ⟨Nat.le_of_ble_eq_true rfl, Nat.le_of_ble_eq_true rfl⟩, Nat.le_of_ble_eq_true rfl, Nat.le_of_ble_eq_true rfl⟩ dX1_snapRefusal_27) (fun H locs S => ?_)
  obtain ⟨v5, hv5, hf⟩ := g_s1 hf
  refine g_ki S (g_runV (rest := [.int v3, .int a1, .int a0, .ref (ad 1)]) X S (c_X1_snapped l hN  hv5 _) cvX1_snapped mlX1_127 (kd_N kd_s20 (by decide) hN) (ceC_1 kd_s20 _) rfl rfl rfl hl.1 (by decide) ⟨⟨rfl, rfl⟩, ⟨Nat.le_of_ble_eq_true rfl, Nat.le_of_ble_eq_true rfl⟩, Nat.le_of_ble_eq_true rfl, Nat.le_of_ble_eq_true rfl⟩ dX1_snapRefusal_30) (fun H locs S => ?_)
  obtain ⟨v6, hv6, hf⟩ := g_s1 hf
  refine g_ki S (g_runV (rest := []) X S (c_X3_placeRefusal l hN kd_s1 hv6 _) cvX3_placeRefusal mlX1_130 (kd_N kd_s1 (by decide) hN) (ceC_3 kd_s1 _) rfl rfl rfl hl.1 (by decide) ⟨⟨rfl, rfl⟩, ⟨Nat.le_of_ble_eq_true rfl, Nat.le_of_ble_eq_true rfl⟩, Nat.le_of_ble_eq_true rfl, Nat.le_of_ble_eq_true rfl⟩ dX1_snapRefusal_33) (fun H locs S => ?_)
  cases hf
  exact g_reti X S rfl dX1_snapRefusal_36

noncomputable def f_X1_snapCaption (σ : gSt) (a0 : Int32) (a1 : Int32) : Option (Int32 × gSt) :=
  (g_k1 (f_X3_trackOf σ 1 a0) fun v1 => (g_k1 (f_X8_first σ v1 a1) fun v2 => (g_k1 (f_X1_snapped σ v2) fun v3 => (g_k1 (f_X8_end σ v1 a1) fun v4 => (g_k1 (f_X1_snapped σ v4) fun v5 => (g_k1 (f_X8_first σ v1 a1) fun v6 => (g_k1 (if v3 = v6 then some (0 : Int32) else some (1 : Int32)) fun x7 => (g_k1 (f_X8_end σ v1 a1) fun v10 => (g_k1 (if v5 = v10 then some (0 : Int32) else some (2 : Int32)) fun x11 => (g_k2 (f_X1_placeCaption σ a0 a1 v3 v5) fun v14 σ15 => some ((x7 + x11), σ15)))))))))))
set_option maxRecDepth 100000 in
set_option maxHeartbeats 4000000 in
theorem c_X1_snapCaption (l : Launch) {Γ : gG} {ad : Nat → Nat} {N : Nat} (hN : 202 ≤ N) {σ : gSt} {a0 : Int32} {a1 : Int32}  {r : Int32} {σ' : gSt} (hf : f_X1_snapCaption σ a0 a1 = some (r, σ')) : gMi l celC Γ ad N yX1_snapCaption cX1_snapCaption 7 (some .int) (gR 6 0 0) [.ref (ad 20), .int a0, .int a1] σ r σ' := by
  intro sz
  refine gOf (Qc := fun sz => gQci celC Γ ad N r σ' sz) RX1 (by decide) rfl (by decide) (fun p e s m args below meth c H locs ls X S hl => ?_)
  have hl : lv_has ls 7 [(5, .int v5), (4, .int v3), (3, .ref (ad v1)), (0, .ref (ad 20)), (1, .int a0), (2, .int a1)] := hl
  have hx := X.1
  have hb := X.2.1
  unfold f_X1_snapCaption at hf
  refine lv_aload_n hx hb dX1_snapCaption_0 rfl (lv_at hl 0 rfl) ?_
  refine gfX1_9 X S hN kd_s20 dX1_snapCaption_1 ?_
  refine lv_iload_n hx hb dX1_snapCaption_4 rfl (lv_at hl 1 rfl) ?_
  obtain ⟨v1, hv1, hf⟩ := g_s1 hf
  refine g_kr S (g_runV (rest := []) X S (c_X3_trackOf l hN kd_s1 hv1 _) cvX3_trackOf mlX1_29 (kd_N kd_s1 (by decide) hN) (ceC_3 kd_s1 _) rfl rfl rfl hl.1 (by decide) ⟨⟨rfl, rfl⟩, ⟨Nat.le_of_ble_eq_true rfl, Nat.le_of_ble_eq_true rfl⟩, Nat.le_of_ble_eq_true rfl, Nat.le_of_ble_eq_true rfl⟩ dX1_snapCaption_5) (fun H locs S => ?_)
  have hkv1 : gkd v1 = 8 := kr_X3_trackOf kd_s1 hv1
  refine lv_astore_n (lv' := [(3, .ref (ad v1)), (0, .ref (ad 20)), (1, .int a0), (2, .int a1)]) hx hb dX1_snapCaption_8 rfl hl (by decide) rfl (fun ls hl => ?_)
  refine lv_aload_n hx hb dX1_snapCaption_9 rfl (lv_at hl 1 rfl) ?_
  refine lv_aload_n hx hb dX1_snapCaption_10 rfl (lv_at hl 0 rfl) ?_
  refine lv_iload_n hx hb dX1_snapCaption_11 rfl (lv_at hl 3 rfl) ?_
  obtain ⟨v2, hv2, hf⟩ := g_s1 hf
  refine g_ki S (g_runV (rest := [.ref (ad 20)]) X S (c_X8_first l hN hkv1 hv2 _) cvX8_first mlX1_82 (kd_N hkv1 (by decide) hN) (ceC_8 hkv1 _) rfl rfl rfl hl.1 (by decide) ⟨⟨rfl, rfl⟩, ⟨Nat.le_of_ble_eq_true rfl, Nat.le_of_ble_eq_true rfl⟩, Nat.le_of_ble_eq_true rfl, Nat.le_of_ble_eq_true rfl⟩ dX1_snapCaption_12) (fun H locs S => ?_)
  obtain ⟨v3, hv3, hf⟩ := g_s1 hf
  refine g_ki S (g_runV (rest := []) X S (c_X1_snapped l hN  hv3 _) cvX1_snapped mlX1_127 (kd_N kd_s20 (by decide) hN) (ceC_1 kd_s20 _) rfl rfl rfl hl.1 (by decide) ⟨⟨rfl, rfl⟩, ⟨Nat.le_of_ble_eq_true rfl, Nat.le_of_ble_eq_true rfl⟩, Nat.le_of_ble_eq_true rfl, Nat.le_of_ble_eq_true rfl⟩ dX1_snapCaption_15) (fun H locs S => ?_)
  refine lv_istore (lv' := [(4, .int v3), (3, .ref (ad v1)), (0, .ref (ad 20)), (1, .int a0), (2, .int a1)]) hx hb dX1_snapCaption_18 hl (by decide) rfl (fun ls hl => ?_)
  refine lv_aload_n hx hb dX1_snapCaption_20 rfl (lv_at hl 2 rfl) ?_
  refine lv_aload_n hx hb dX1_snapCaption_21 rfl (lv_at hl 1 rfl) ?_
  refine lv_iload_n hx hb dX1_snapCaption_22 rfl (lv_at hl 4 rfl) ?_
  obtain ⟨v4, hv4, hf⟩ := g_s1 hf
  refine g_ki S (g_runV (rest := [.ref (ad 20)]) X S (c_X8_end l hN hkv1 hv4 _) cvX8_end mlX1_85 (kd_N hkv1 (by decide) hN) (ceC_8 hkv1 _) rfl rfl rfl hl.1 (by decide) ⟨⟨rfl, rfl⟩, ⟨Nat.le_of_ble_eq_true rfl, Nat.le_of_ble_eq_true rfl⟩, Nat.le_of_ble_eq_true rfl, Nat.le_of_ble_eq_true rfl⟩ dX1_snapCaption_23) (fun H locs S => ?_)
  obtain ⟨v5, hv5, hf⟩ := g_s1 hf
  refine g_ki S (g_runV (rest := []) X S (c_X1_snapped l hN  hv5 _) cvX1_snapped mlX1_127 (kd_N kd_s20 (by decide) hN) (ceC_1 kd_s20 _) rfl rfl rfl hl.1 (by decide) ⟨⟨rfl, rfl⟩, ⟨Nat.le_of_ble_eq_true rfl, Nat.le_of_ble_eq_true rfl⟩, Nat.le_of_ble_eq_true rfl, Nat.le_of_ble_eq_true rfl⟩ dX1_snapCaption_26) (fun H locs S => ?_)
  refine lv_istore (lv' := [(5, .int v5), (4, .int v3), (3, .ref (ad v1)), (0, .ref (ad 20)), (1, .int a0), (2, .int a1)]) hx hb dX1_snapCaption_29 hl (by decide) rfl (fun ls hl => ?_)
  refine lv_iload hx hb dX1_snapCaption_31 (lv_at hl 1 rfl) ?_
  refine lv_aload_n hx hb dX1_snapCaption_33 rfl (lv_at hl 2 rfl) ?_
  refine lv_iload_n hx hb dX1_snapCaption_34 rfl (lv_at hl 5 rfl) ?_
  obtain ⟨v6, hv6, hf⟩ := g_s1 hf
  refine g_ki S (g_runV (rest := [.int v3]) X S (c_X8_first l hN hkv1 hv6 _) cvX8_first mlX1_82 (kd_N hkv1 (by decide) hN) (ceC_8 hkv1 _) rfl rfl rfl hl.1 (by decide) ⟨⟨rfl, rfl⟩, ⟨Nat.le_of_ble_eq_true rfl, Nat.le_of_ble_eq_true rfl⟩, Nat.le_of_ble_eq_true rfl, Nat.le_of_ble_eq_true rfl⟩ dX1_snapCaption_35) (fun H locs S => ?_)
  obtain ⟨x7, hr8, hf⟩ := g_s1 hf
  have J9 : ∀ (H : Heap) (locs : List Loc) (ls : Array Slot), gS celC Γ ad N σ s H locs → lv_has ls 7 [(5, .int v5), (4, .int v3), (3, .ref (ad v1)), (0, .ref (ad 20)), (1, .int a0), (2, .int a1)] → W p l e (gR 6 0 0) s m args below meth c H locs 0 0 (gQi celC Γ ad N r σ' below args s) (F0 m 46 ls [.int x7]) := by
    intro H locs ls S hl
    refine lv_iload hx hb dX1_snapCaption_46 (lv_at hl 0 rfl) ?_
    refine lv_aload_n hx hb dX1_snapCaption_48 rfl (lv_at hl 2 rfl) ?_
    refine lv_iload_n hx hb dX1_snapCaption_49 rfl (lv_at hl 5 rfl) ?_
    obtain ⟨v10, hv10, hf⟩ := g_s1 hf
    refine g_ki S (g_runV (rest := [.int v5, .int x7]) X S (c_X8_end l hN hkv1 hv10 _) cvX8_end mlX1_85 (kd_N hkv1 (by decide) hN) (ceC_8 hkv1 _) rfl rfl rfl hl.1 (by decide) ⟨⟨rfl, rfl⟩, ⟨Nat.le_of_ble_eq_true rfl, Nat.le_of_ble_eq_true rfl⟩, Nat.le_of_ble_eq_true rfl, Nat.le_of_ble_eq_true rfl⟩ dX1_snapCaption_50) (fun H locs S => ?_)
    obtain ⟨x11, hr12, hf⟩ := g_s1 hf
    have J13 : ∀ (H : Heap) (locs : List Loc) (ls : Array Slot), gS celC Γ ad N σ s H locs → lv_has ls 7 [(5, .int v5), (4, .int v3), (0, .ref (ad 20)), (1, .int a0), (2, .int a1)] → W p l e (gR 6 0 0) s m args below meth c H locs 0 0 (gQi celC Γ ad N r σ' below args s) (F0 m 61 ls [.int x11, .int x7]) := by
      intro H locs ls S hl
      refine lv_iadd hx hb dX1_snapCaption_61 ?_
      refine lv_istore (lv' := [(6, .int (x7 + x11)), (5, .int v5), (4, .int v3), (0, .ref (ad 20)), (1, .int a0), (2, .int a1)]) hx hb dX1_snapCaption_62 hl (by decide) rfl (fun ls hl => ?_)
      refine lv_aload_n hx hb dX1_snapCaption_64 rfl (lv_at hl 3 rfl) ?_
      refine lv_iload_n hx hb dX1_snapCaption_65 rfl (lv_at hl 4 rfl) ?_
      refine lv_iload_n hx hb dX1_snapCaption_66 rfl (lv_at hl 5 rfl) ?_
      refine lv_iload hx hb dX1_snapCaption_67 (lv_at hl 2 rfl) ?_
      refine lv_iload hx hb dX1_snapCaption_69 (lv_at hl 1 rfl) ?_
      obtain ⟨v14, σ15, hv14, hf⟩ := g_s2 hf
      refine g_ki S (g_runV (rest := []) X S (c_X1_placeCaption l hN  hv14 _) cvX1_placeCaption mlX1_134 (kd_N kd_s20 (by decide) hN) (ceC_1 kd_s20 _) rfl rfl rfl hl.1 (by decide) ⟨⟨rfl, rfl⟩, ⟨Nat.le_of_ble_eq_true rfl, Nat.le_of_ble_eq_true rfl⟩, Nat.le_of_ble_eq_true rfl, Nat.le_of_ble_eq_true rfl⟩ dX1_snapCaption_71) (fun H locs S => ?_)
      refine lv_pop hx hb dX1_snapCaption_74 rfl ?_
      refine lv_iload hx hb dX1_snapCaption_75 (lv_at hl 0 rfl) ?_
      cases hf
      exact g_reti X S rfl dX1_snapCaption_77
    replace hf := hr12
    refine lv_icmp_eq (tgt := 60) hx hb dX1_snapCaption_53 (by decide) (fun c16 => ?_) (fun c16 => ?_)
    · have hf := (if_pos c16).symm.trans hf
      refine lv_iconst (v := (0 : Int32)) hx hb dX1_snapCaption_60 (by decide) ?_
      cases hf
      exact J13 _ _ _ S (lv_sub hl [0, 1, 3, 4, 5] rfl)
    · have hf := (if_neg c16).symm.trans hf
      refine lv_iconst (v := (2 : Int32)) hx hb dX1_snapCaption_56 (by decide) ?_
      refine lv_goto (tgt := 61) hx hb dX1_snapCaption_57 (by decide) ?_
      cases hf
      exact J13 _ _ _ S (lv_sub hl [0, 1, 3, 4, 5] rfl)
  replace hf := hr8
  refine lv_icmp_eq (tgt := 45) hx hb dX1_snapCaption_38 (by decide) (fun c17 => ?_) (fun c17 => ?_)
  · have hf := (if_pos c17).symm.trans hf
    refine lv_iconst (v := (0 : Int32)) hx hb dX1_snapCaption_45 (by decide) ?_
    cases hf
    exact J9 _ _ _ S (lv_sub hl [0, 1, 2, 3, 4, 5] rfl)
  · have hf := (if_neg c17).symm.trans hf
    refine lv_iconst (v := (1 : Int32)) hx hb dX1_snapCaption_41 (by decide) ?_
    refine lv_goto (tgt := 46) hx hb dX1_snapCaption_42 (by decide) ?_
    cases hf
    exact J9 _ _ _ S (lv_sub hl [0, 1, 2, 3, 4, 5] rfl)

noncomputable def f_X1_fitCaption (σ : gSt) (a0 : Int32) (a1 : Int32) : Option (Int32 × gSt) :=
  (g_k1 (f_X3_trackOf σ 1 a0) fun v1 => (g_k1 (f_X8_end σ v1 a1) fun v2 => (g_k1 (f_X8_first σ v1 a1) fun v3 => (g_k1 (f_X2_needs σ a0 a1) fun v4 => (g_k1 (f_X8_has σ v1 (a1 + (1 : Int32))) fun v6 => (g_k1 (if v6 = 0 then some (if (v3 + v4) < (σ 1 0) then (v3 + v4) else (σ 1 0)) else (g_k1 (f_X8_first σ v1 (a1 + (1 : Int32))) fun v20 => (g_k1 (f_X3_setting σ 1 (2 : Int32)) fun v21 => some (if (v20 - v21) < (if (v3 + v4) < (σ 1 0) then (v3 + v4) else (σ 1 0)) then (v20 - v21) else (if (v3 + v4) < (σ 1 0) then (v3 + v4) else (σ 1 0)))))) fun x7 => (g_k1 (f_X0_firstFrom σ (1 + 2) v2) fun v10 => (g_k1 (if v10 = (-1 : Int32) then some x7 else some (if v10 < x7 then v10 else x7)) fun x11 => (g_k1 (f_X8_first σ v1 a1) fun v15 => (g_k1 (f_X8_setFrames σ v1 a1 v15 (v2 + (if (0 : Int32) < (x11 - v2) then (x11 - v2) else (0 : Int32)))) fun σ16 => some ((if (0 : Int32) < (x11 - v2) then (x11 - v2) else (0 : Int32)), σ16)))))))))))
set_option maxRecDepth 100000 in
set_option maxHeartbeats 4000000 in
theorem c_X1_fitCaption (l : Launch) {Γ : gG} {ad : Nat → Nat} {N : Nat} (hN : 202 ≤ N) {σ : gSt} {a0 : Int32} {a1 : Int32}  {r : Int32} {σ' : gSt} (hf : f_X1_fitCaption σ a0 a1 = some (r, σ')) : gMi l celC Γ ad N yX1_fitCaption cX1_fitCaption 8 (some .int) (gR 6 0 0) [.ref (ad 20), .int a0, .int a1] σ r σ' := by
  intro sz
  refine gOf (Qc := fun sz => gQci celC Γ ad N r σ' sz) RX1 (by decide) rfl (by decide) (fun p e s m args below meth c H locs ls X S hl => ?_)
  have hl : lv_has ls 8 [(5, .int (if (v3 + v4) < (σ 1 0) then (v3 + v4) else (σ 1 0))), (4, .int v2), (3, .ref (ad v1)), (0, .ref (ad 20)), (1, .int a0), (2, .int a1)] := hl
  have hx := X.1
  have hb := X.2.1
  unfold f_X1_fitCaption at hf
  refine lv_aload_n hx hb dX1_fitCaption_0 rfl (lv_at hl 0 rfl) ?_
  refine gfX1_9 X S hN kd_s20 dX1_fitCaption_1 ?_
  refine lv_iload_n hx hb dX1_fitCaption_4 rfl (lv_at hl 1 rfl) ?_
  obtain ⟨v1, hv1, hf⟩ := g_s1 hf
  refine g_kr S (g_runV (rest := []) X S (c_X3_trackOf l hN kd_s1 hv1 _) cvX3_trackOf mlX1_29 (kd_N kd_s1 (by decide) hN) (ceC_3 kd_s1 _) rfl rfl rfl hl.1 (by decide) ⟨⟨rfl, rfl⟩, ⟨Nat.le_of_ble_eq_true rfl, Nat.le_of_ble_eq_true rfl⟩, Nat.le_of_ble_eq_true rfl, Nat.le_of_ble_eq_true rfl⟩ dX1_fitCaption_5) (fun H locs S => ?_)
  have hkv1 : gkd v1 = 8 := kr_X3_trackOf kd_s1 hv1
  refine lv_astore_n (lv' := [(3, .ref (ad v1)), (0, .ref (ad 20)), (1, .int a0), (2, .int a1)]) hx hb dX1_fitCaption_8 rfl hl (by decide) rfl (fun ls hl => ?_)
  refine lv_aload_n hx hb dX1_fitCaption_9 rfl (lv_at hl 0 rfl) ?_
  refine lv_iload_n hx hb dX1_fitCaption_10 rfl (lv_at hl 3 rfl) ?_
  obtain ⟨v2, hv2, hf⟩ := g_s1 hf
  refine g_ki S (g_runV (rest := []) X S (c_X8_end l hN hkv1 hv2 _) cvX8_end mlX1_85 (kd_N hkv1 (by decide) hN) (ceC_8 hkv1 _) rfl rfl rfl hl.1 (by decide) ⟨⟨rfl, rfl⟩, ⟨Nat.le_of_ble_eq_true rfl, Nat.le_of_ble_eq_true rfl⟩, Nat.le_of_ble_eq_true rfl, Nat.le_of_ble_eq_true rfl⟩ dX1_fitCaption_11) (fun H locs S => ?_)
  refine lv_istore (lv' := [(4, .int v2), (3, .ref (ad v1)), (0, .ref (ad 20)), (1, .int a0), (2, .int a1)]) hx hb dX1_fitCaption_14 hl (by decide) rfl (fun ls hl => ?_)
  refine lv_aload_n hx hb dX1_fitCaption_16 rfl (lv_at hl 2 rfl) ?_
  refine gfX1_9 X S hN kd_s20 dX1_fitCaption_17 ?_
  refine gfX1_137 X S hN kd_s1 dX1_fitCaption_20 ?_
  refine lv_aload_n hx hb dX1_fitCaption_23 rfl (lv_at hl 1 rfl) ?_
  refine lv_iload_n hx hb dX1_fitCaption_24 rfl (lv_at hl 4 rfl) ?_
  obtain ⟨v3, hv3, hf⟩ := g_s1 hf
  refine g_ki S (g_runV (rest := [.int (σ 1 0)]) X S (c_X8_first l hN hkv1 hv3 _) cvX8_first mlX1_82 (kd_N hkv1 (by decide) hN) (ceC_8 hkv1 _) rfl rfl rfl hl.1 (by decide) ⟨⟨rfl, rfl⟩, ⟨Nat.le_of_ble_eq_true rfl, Nat.le_of_ble_eq_true rfl⟩, Nat.le_of_ble_eq_true rfl, Nat.le_of_ble_eq_true rfl⟩ dX1_fitCaption_25) (fun H locs S => ?_)
  refine lv_aload_n hx hb dX1_fitCaption_28 rfl (lv_at hl 2 rfl) ?_
  refine gfX1_15 X S hN kd_s20 dX1_fitCaption_29 ?_
  refine lv_iload_n hx hb dX1_fitCaption_32 rfl (lv_at hl 3 rfl) ?_
  refine lv_iload_n hx hb dX1_fitCaption_33 rfl (lv_at hl 4 rfl) ?_
  obtain ⟨v4, hv4, hf⟩ := g_s1 hf
  refine g_ki S (g_runV (rest := [.int v3, .int (σ 1 0)]) X S (c_X2_needs l hN  hv4 _) cvX2_needs mlX1_140 (kd_N kd_s17 (by decide) hN) (ceC_2 kd_s17 _) rfl rfl rfl hl.1 (by decide) ⟨⟨rfl, rfl⟩, ⟨Nat.le_of_ble_eq_true rfl, Nat.le_of_ble_eq_true rfl⟩, Nat.le_of_ble_eq_true rfl, Nat.le_of_ble_eq_true rfl⟩ dX1_fitCaption_34) (fun H locs S => ?_)
  refine lv_iadd hx hb dX1_fitCaption_37 ?_
  refine g_min X hl.1 mwX1_143 ⟨⟨by decide, Nat.le_of_ble_eq_true rfl⟩, Nat.le_of_ble_eq_true rfl, Nat.le_of_ble_eq_true rfl⟩ dX1_fitCaption_38 ?_
  refine lv_istore (lv' := [(5, .int (if (v3 + v4) < (σ 1 0) then (v3 + v4) else (σ 1 0))), (4, .int v2), (3, .ref (ad v1)), (0, .ref (ad 20)), (1, .int a0), (2, .int a1)]) hx hb dX1_fitCaption_41 hl (by decide) rfl (fun ls hl => ?_)
  refine lv_aload_n hx hb dX1_fitCaption_43 rfl (lv_at hl 2 rfl) ?_
  refine lv_iload_n hx hb dX1_fitCaption_44 rfl (lv_at hl 5 rfl) ?_
  refine lv_iconst (v := (1 : Int32)) hx hb dX1_fitCaption_45 (by decide) ?_
  refine lv_iadd hx hb dX1_fitCaption_46 ?_
  obtain ⟨v6, hv6, hf⟩ := g_s1 hf
  refine g_ki S (g_runV (rest := []) X S (c_X8_has l hN hkv1 hv6 _) cvX8_has mlX1_146 (kd_N hkv1 (by decide) hN) (ceC_8 hkv1 _) rfl rfl rfl hl.1 (by decide) ⟨⟨rfl, rfl⟩, ⟨Nat.le_of_ble_eq_true rfl, Nat.le_of_ble_eq_true rfl⟩, Nat.le_of_ble_eq_true rfl, Nat.le_of_ble_eq_true rfl⟩ dX1_fitCaption_47) (fun H locs S => ?_)
  obtain ⟨x7, hr8, hf⟩ := g_s1 hf
  have J9 : ∀ (H : Heap) (locs : List Loc) (ls : Array Slot), gS celC Γ ad N σ s H locs → lv_has ls 8 [(5, .int x7), (4, .int v2), (3, .ref (ad v1)), (0, .ref (ad 20)), (2, .int a1)] → W p l e (gR 6 0 0) s m args below meth c H locs 0 0 (gQi celC Γ ad N r σ' below args s) (F0 m 76 ls []) := by
    intro H locs ls S hl
    refine lv_aload_n hx hb dX1_fitCaption_76 rfl (lv_at hl 3 rfl) ?_
    refine gfX1_9 X S hN kd_s20 dX1_fitCaption_77 ?_
    refine gfX1_118 X S hN kd_s1 dX1_fitCaption_80 ?_
    refine lv_iload hx hb dX1_fitCaption_83 (lv_at hl 1 rfl) ?_
    obtain ⟨v10, hv10, hf⟩ := g_s1 hf
    refine g_ki S (g_runV (rest := []) X S (c_X0_firstFrom l hN (kd_3_2 kd_s1) hv10 _) cvX0_firstFrom mlX1_152 (kd_N (kd_3_2 kd_s1) (by decide) hN) (ceC_0 (kd_3_2 kd_s1) _) rfl rfl rfl hl.1 (by decide) ⟨⟨rfl, rfl⟩, ⟨Nat.le_of_ble_eq_true rfl, Nat.le_of_ble_eq_true rfl⟩, Nat.le_of_ble_eq_true rfl, Nat.le_of_ble_eq_true rfl⟩ dX1_fitCaption_85) (fun H locs S => ?_)
    refine lv_istore (lv' := [(6, .int v10), (5, .int x7), (4, .int v2), (3, .ref (ad v1)), (0, .ref (ad 20)), (2, .int a1)]) hx hb dX1_fitCaption_88 hl (by decide) rfl (fun ls hl => ?_)
    refine lv_iload hx hb dX1_fitCaption_90 (lv_at hl 0 rfl) ?_
    refine lv_iconst (v := (-1 : Int32)) hx hb dX1_fitCaption_92 (by decide) ?_
    obtain ⟨x11, hr12, hf⟩ := g_s1 hf
    have J13 : ∀ (H : Heap) (locs : List Loc) (ls : Array Slot), gS celC Γ ad N σ s H locs → lv_has ls 8 [(5, .int x11), (4, .int v2), (3, .ref (ad v1)), (2, .int a1)] → W p l e (gR 6 0 0) s m args below meth c H locs 0 0 (gQi celC Γ ad N r σ' below args s) (F0 m 105 ls []) := by
      intro H locs ls S hl
      refine lv_iconst (v := (0 : Int32)) hx hb dX1_fitCaption_105 (by decide) ?_
      refine lv_iload hx hb dX1_fitCaption_106 (lv_at hl 0 rfl) ?_
      refine lv_iload hx hb dX1_fitCaption_108 (lv_at hl 1 rfl) ?_
      refine lv_isub hx hb dX1_fitCaption_110 ?_
      refine g_max X hl.1 mwX1_100 ⟨⟨by decide, Nat.le_of_ble_eq_true rfl⟩, Nat.le_of_ble_eq_true rfl, Nat.le_of_ble_eq_true rfl⟩ dX1_fitCaption_111 ?_
      refine lv_istore (lv' := [(7, .int (if (0 : Int32) < (x11 - v2) then (x11 - v2) else (0 : Int32))), (5, .int x11), (4, .int v2), (3, .ref (ad v1)), (2, .int a1)]) hx hb dX1_fitCaption_114 hl (by decide) rfl (fun ls hl => ?_)
      refine lv_aload_n hx hb dX1_fitCaption_116 rfl (lv_at hl 3 rfl) ?_
      refine lv_iload_n hx hb dX1_fitCaption_117 rfl (lv_at hl 4 rfl) ?_
      refine lv_aload_n hx hb dX1_fitCaption_118 rfl (lv_at hl 3 rfl) ?_
      refine lv_iload_n hx hb dX1_fitCaption_119 rfl (lv_at hl 4 rfl) ?_
      obtain ⟨v15, hv15, hf⟩ := g_s1 hf
      refine g_ki S (g_runV (rest := [.int a1, .ref (ad v1)]) X S (c_X8_first l hN hkv1 hv15 _) cvX8_first mlX1_82 (kd_N hkv1 (by decide) hN) (ceC_8 hkv1 _) rfl rfl rfl hl.1 (by decide) ⟨⟨rfl, rfl⟩, ⟨Nat.le_of_ble_eq_true rfl, Nat.le_of_ble_eq_true rfl⟩, Nat.le_of_ble_eq_true rfl, Nat.le_of_ble_eq_true rfl⟩ dX1_fitCaption_120) (fun H locs S => ?_)
      refine lv_iload hx hb dX1_fitCaption_123 (lv_at hl 2 rfl) ?_
      refine lv_iload hx hb dX1_fitCaption_125 (lv_at hl 0 rfl) ?_
      refine lv_iadd hx hb dX1_fitCaption_127 ?_
      obtain ⟨σ16, hσ16, hf⟩ := g_s1 hf
      refine g_kv S (g_runV (rest := []) X S (c_X8_setFrames l hN hkv1 hσ16 _) cvX8_setFrames mlX1_88 (kd_N hkv1 (by decide) hN) (ceC_8 hkv1 _) rfl rfl rfl hl.1 (by decide) ⟨⟨rfl, rfl⟩, ⟨Nat.le_of_ble_eq_true rfl, Nat.le_of_ble_eq_true rfl⟩, Nat.le_of_ble_eq_true rfl, Nat.le_of_ble_eq_true rfl⟩ dX1_fitCaption_128) (fun H locs S => ?_)
      refine lv_iload hx hb dX1_fitCaption_131 (lv_at hl 0 rfl) ?_
      cases hf
      exact g_reti X S rfl dX1_fitCaption_133
    replace hf := hr12
    refine lv_icmp_eq (tgt := 105) hx hb dX1_fitCaption_93 (by decide) (fun c17 => ?_) (fun c17 => ?_)
    · have hf := (if_pos c17).symm.trans hf
      cases hf
      exact J13 _ _ _ S (lv_sub hl [1, 2, 3, 5] rfl)
    · have hf := (if_neg c17).symm.trans hf
      refine lv_iload hx hb dX1_fitCaption_96 (lv_at hl 1 rfl) ?_
      refine lv_iload hx hb dX1_fitCaption_98 (lv_at hl 0 rfl) ?_
      refine g_min X hl.1 mwX1_143 ⟨⟨by decide, Nat.le_of_ble_eq_true rfl⟩, Nat.le_of_ble_eq_true rfl, Nat.le_of_ble_eq_true rfl⟩ dX1_fitCaption_100 ?_
      refine lv_istore (lv' := [(5, .int (if v10 < x7 then v10 else x7)), (6, .int v10), (4, .int v2), (3, .ref (ad v1)), (0, .ref (ad 20)), (2, .int a1)]) hx hb dX1_fitCaption_103 hl (by decide) rfl (fun ls hl => ?_)
      cases hf
      exact J13 _ _ _ S (lv_sub hl [0, 2, 3, 5] rfl)
  replace hf := hr8
  refine lv_if_eq (tgt := 76) hx hb dX1_fitCaption_50 (by decide) (fun c19 => ?_) (fun c19 => ?_)
  · have hf := (if_pos c19).symm.trans hf
    cases hf
    exact J9 _ _ _ S (lv_sub hl [0, 1, 2, 3, 5] rfl)
  · have hf := (if_neg c19).symm.trans hf
    refine lv_iload hx hb dX1_fitCaption_53 (lv_at hl 0 rfl) ?_
    refine lv_aload_n hx hb dX1_fitCaption_55 rfl (lv_at hl 2 rfl) ?_
    refine lv_iload_n hx hb dX1_fitCaption_56 rfl (lv_at hl 5 rfl) ?_
    refine lv_iconst (v := (1 : Int32)) hx hb dX1_fitCaption_57 (by decide) ?_
    refine lv_iadd hx hb dX1_fitCaption_58 ?_
    obtain ⟨v20, hv20, hf⟩ := g_s1 hf
    refine g_ki S (g_runV (rest := [.int (if (v3 + v4) < (σ 1 0) then (v3 + v4) else (σ 1 0))]) X S (c_X8_first l hN hkv1 hv20 _) cvX8_first mlX1_82 (kd_N hkv1 (by decide) hN) (ceC_8 hkv1 _) rfl rfl rfl hl.1 (by decide) ⟨⟨rfl, rfl⟩, ⟨Nat.le_of_ble_eq_true rfl, Nat.le_of_ble_eq_true rfl⟩, Nat.le_of_ble_eq_true rfl, Nat.le_of_ble_eq_true rfl⟩ dX1_fitCaption_59) (fun H locs S => ?_)
    refine lv_aload_n hx hb dX1_fitCaption_62 rfl (lv_at hl 3 rfl) ?_
    refine gfX1_9 X S hN kd_s20 dX1_fitCaption_63 ?_
    refine lv_iconst (v := (2 : Int32)) hx hb dX1_fitCaption_66 (by decide) ?_
    obtain ⟨v21, hv21, hf⟩ := g_s1 hf
    refine g_ki S (g_runV (rest := [.int v20, .int (if (v3 + v4) < (σ 1 0) then (v3 + v4) else (σ 1 0))]) X S (c_X3_setting l hN kd_s1 hv21 _) cvX3_setting mlX1_149 (kd_N kd_s1 (by decide) hN) (ceC_3 kd_s1 _) rfl rfl rfl hl.1 (by decide) ⟨⟨rfl, rfl⟩, ⟨Nat.le_of_ble_eq_true rfl, Nat.le_of_ble_eq_true rfl⟩, Nat.le_of_ble_eq_true rfl, Nat.le_of_ble_eq_true rfl⟩ dX1_fitCaption_67) (fun H locs S => ?_)
    refine lv_isub hx hb dX1_fitCaption_70 ?_
    refine g_min X hl.1 mwX1_143 ⟨⟨by decide, Nat.le_of_ble_eq_true rfl⟩, Nat.le_of_ble_eq_true rfl, Nat.le_of_ble_eq_true rfl⟩ dX1_fitCaption_71 ?_
    refine lv_istore (lv' := [(5, .int (if (v20 - v21) < (if (v3 + v4) < (σ 1 0) then (v3 + v4) else (σ 1 0)) then (v20 - v21) else (if (v3 + v4) < (σ 1 0) then (v3 + v4) else (σ 1 0)))), (4, .int v2), (3, .ref (ad v1)), (0, .ref (ad 20)), (1, .int a0), (2, .int a1)]) hx hb dX1_fitCaption_74 hl (by decide) rfl (fun ls hl => ?_)
    cases hf
    exact J9 _ _ _ S (lv_sub hl [0, 1, 2, 3, 5] rfl)

noncomputable def f_X1_isMeant (σ : gSt) (a0 : Int32) (a1 : Int32) : Option (Int32) :=
  (g_k1 (if a0 = (-1 : Int32) then some (1 : Int32) else (if a0 = a1 then some (1 : Int32) else some (0 : Int32))) fun x1 => (g_k1 (gzb x1) fun v4 => some v4))
set_option maxRecDepth 100000 in
set_option maxHeartbeats 4000000 in
theorem c_X1_isMeant (l : Launch) {Γ : gG} {ad : Nat → Nat} {N : Nat} (hN : 202 ≤ N) {σ : gSt} {a0 : Int32} {a1 : Int32}  {r : Int32} (hf : f_X1_isMeant σ a0 a1 = some r) : gMi l celC Γ ad N yX1_isMeant cX1_isMeant 2 (some .boolean) (gR 1 0 0) [.int a0, .int a1] σ r σ := by
  intro sz
  refine gOf (Qc := fun sz => gQci celC Γ ad N r σ sz) RX1 (by decide) rfl (by decide) (fun p e s m args below meth c H locs ls X S hl => ?_)
  have hl : lv_has ls 2 [(0, .int a0), (1, .int a1)] := hl
  have hx := X.1
  have hb := X.2.1
  unfold f_X1_isMeant at hf
  refine lv_iload_n hx hb dX1_isMeant_0 rfl (lv_at hl 0 rfl) ?_
  refine lv_iconst (v := (-1 : Int32)) hx hb dX1_isMeant_1 (by decide) ?_
  obtain ⟨x1, hr2, hf⟩ := g_s1 hf
  have J3 : ∀ (H : Heap) (locs : List Loc) (ls : Array Slot), gS celC Γ ad N σ s H locs → lv_has ls 2 [] → W p l e (gR 1 0 0) s m args below meth c H locs 0 0 (gQi celC Γ ad N r σ below args s) (F0 m 15 ls [.int x1]) := by
    intro H locs ls S hl
    obtain ⟨v4, hv4, hf⟩ := g_s1 hf
    obtain ⟨hnv4, rfl⟩ := gzb_some hv4
    cases hf
    exact g_reti X S hnv4 dX1_isMeant_15
  replace hf := hr2
  refine lv_icmp_eq (tgt := 10) hx hb dX1_isMeant_2 (by decide) (fun c5 => ?_) (fun c5 => ?_)
  · have hf := (if_pos c5).symm.trans hf
    refine lv_iconst (v := (1 : Int32)) hx hb dX1_isMeant_10 (by decide) ?_
    refine lv_goto (tgt := 15) hx hb dX1_isMeant_11 (by decide) ?_
    cases hf
    exact J3 _ _ _ S (lv_sub hl [] rfl)
  · have hf := (if_neg c5).symm.trans hf
    refine lv_iload_n hx hb dX1_isMeant_5 rfl (lv_at hl 0 rfl) ?_
    refine lv_iload_n hx hb dX1_isMeant_6 rfl (lv_at hl 1 rfl) ?_
    refine lv_icmp_ne (tgt := 14) hx hb dX1_isMeant_7 (by decide) (fun c6 => ?_) (fun c6 => ?_)
    · have hf := (if_neg c6).symm.trans hf
      refine lv_iconst (v := (0 : Int32)) hx hb dX1_isMeant_14 (by decide) ?_
      cases hf
      exact J3 _ _ _ S (lv_sub hl [] rfl)
    · have hf := (if_pos c6).symm.trans hf
      refine lv_iconst (v := (1 : Int32)) hx hb dX1_isMeant_10 (by decide) ?_
      refine lv_goto (tgt := 15) hx hb dX1_isMeant_11 (by decide) ?_
      cases hf
      exact J3 _ _ _ S (lv_sub hl [] rfl)

noncomputable def f_X1_retimeRefusal_l2 (σ : gSt) (a0 : Int32) (a1 : Nat) (i1 : Int32) (v5 : Nat) : Nat → Int32 → Int32 → Option (Int32)
  | 0, _, _ => none
  | n + 1, i6, i7 => (if (σ v5 5) ≤ i6 then some i7 else (g_k1 (f_X1_isMeant σ a0 i1) fun v10 => (if v10 = 0 then some i7 else (g_k1 (f_X8_first σ v5 i6) fun v12 => (g_k1 (f_X6_frameFor σ a1 v12) fun v13 => (g_k1 (f_X8_end σ v5 i6) fun v14 => (g_k1 (f_X6_frameFor σ a1 v14) fun v15 => (g_k1 (f_X3_spanRefusal σ 1 v13 v15) fun v16 => (g_k1 (if i7 = 0 then some v16 else (if v16 = 0 then some i7 else (if i7 ≤ v16 then some i7 else some v16))) fun x17 => (f_X1_retimeRefusal_l2 σ a0 a1 i1 v5 n (i6 + 1) x17))))))))))
set_option maxRecDepth 100000 in
set_option maxHeartbeats 4000000 in
theorem w_X1_retimeRefusal_l2 {l : Launch} {Γ : gG} {ad : Nat → Nat} {N : Nat} {p : Program} {e : Env} {s : State} {m : MethodId} {args : Array Value} {below : List Frame} {meth : Method} {c : Code} {Q : State → Prop} (hN : 202 ≤ N) (X : gX celC Γ ad N RX1 cX1_retimeRefusal 8 (some .int) p s m args meth c) {σ : gSt} {a0 : Int32} {a1 : Nat} {i1 : Int32} {v5 : Nat} (ha1 : gkd a1 = 6) (ha16 : a1 < N) (hkv5 : gkd v5 = 8) : ∀ (n : Nat) (i6 : Int32) (i7 : Int32) (r8 : Int32), f_X1_retimeRefusal_l2 σ a0 a1 i1 v5 n i6 i7 = some r8 → (∀ (H : Heap) (locs : List Loc) (ls : Array Slot), gS celC Γ ad N σ s H locs → lv_has ls 8 [(4, .int i1), (3, .int r8), (0, .ref (ad 20)), (1, .int a0), (2, .ref (ad a1))] → W p l e (gR 3 0 0) s m args below meth c H locs 0 0 (Q) (F0 m 99 ls [])) → ∀ (H : Heap) (locs : List Loc) (ls : Array Slot), gS celC Γ ad N σ s H locs → lv_has ls 8 [(6, .int i6), (5, .ref (ad v5)), (4, .int i1), (3, .int i7), (0, .ref (ad 20)), (1, .int a0), (2, .ref (ad a1))] → W p l e (gR 3 0 0) s m args below meth c H locs 0 0 (Q) (F0 m 25 ls []) := by
  have hx := X.1
  have hb := X.2.1
  intro n
  induction n with
  | zero =>
    intro i6 i7 r8 hf
    cases hf
  | succ n ih =>
    intro i6 i7 r8 hf J H locs ls S hl
    rw [f_X1_retimeRefusal_l2] at hf
    refine lv_iload hx hb dX1_retimeRefusal_25 (lv_at hl 0 rfl) ?_
    refine lv_aload hx hb dX1_retimeRefusal_27 (lv_at hl 1 rfl) ?_
    refine gfX1_78 X S hN hkv5 dX1_retimeRefusal_29 ?_
    refine lv_icmp_ge (tgt := 99) hx hb dX1_retimeRefusal_32 (by decide) (fun c9 => ?_) (fun c9 => ?_)
    · have hf := (if_pos c9).symm.trans hf
      cases hf
      exact J _ _ _ S (lv_sub hl [2, 3, 4, 5, 6] rfl)
    · have hf := (if_neg c9).symm.trans hf
      refine lv_iload_n hx hb dX1_retimeRefusal_35 rfl (lv_at hl 5 rfl) ?_
      refine lv_iload hx hb dX1_retimeRefusal_36 (lv_at hl 2 rfl) ?_
      obtain ⟨v10, hv10, hf⟩ := g_s1 hf
      refine g_ki S (g_runS (rest := []) X S (c_X1_isMeant l hN  hv10 _) csX1_isMeant mlX1_155 rfl rfl hl.1 (by decide) ⟨⟨rfl, rfl⟩, ⟨Nat.le_of_ble_eq_true rfl, Nat.le_of_ble_eq_true rfl⟩, Nat.le_of_ble_eq_true rfl, Nat.le_of_ble_eq_true rfl⟩ dX1_retimeRefusal_38) (fun H locs S => ?_)
      refine lv_if_eq (tgt := 99) hx hb dX1_retimeRefusal_41 (by decide) (fun c11 => ?_) (fun c11 => ?_)
      · have hf := (if_pos c11).symm.trans hf
        cases hf
        exact J _ _ _ S (lv_sub hl [2, 3, 4, 5, 6] rfl)
      · have hf := (if_neg c11).symm.trans hf
        refine lv_aload_n hx hb dX1_retimeRefusal_44 rfl (lv_at hl 4 rfl) ?_
        refine gfX1_9 X S hN kd_s20 dX1_retimeRefusal_45 ?_
        refine lv_aload_n hx hb dX1_retimeRefusal_48 rfl (lv_at hl 6 rfl) ?_
        refine lv_aload hx hb dX1_retimeRefusal_49 (lv_at hl 1 rfl) ?_
        refine lv_iload hx hb dX1_retimeRefusal_51 (lv_at hl 0 rfl) ?_
        obtain ⟨v12, hv12, hf⟩ := g_s1 hf
        refine g_ki S (g_runV (rest := [.ref (ad a1), .ref (ad 1)]) X S (c_X8_first l hN hkv5 hv12 _) cvX8_first mlX1_82 (kd_N hkv5 (by decide) hN) (ceC_8 hkv5 _) rfl rfl rfl hl.1 (by decide) ⟨⟨rfl, rfl⟩, ⟨Nat.le_of_ble_eq_true rfl, Nat.le_of_ble_eq_true rfl⟩, Nat.le_of_ble_eq_true rfl, Nat.le_of_ble_eq_true rfl⟩ dX1_retimeRefusal_53) (fun H locs S => ?_)
        obtain ⟨v13, hv13, hf⟩ := g_s1 hf
        refine g_ki S (g_runV (rest := [.ref (ad 1)]) X S (c_X6_frameFor l hN ha1 ha16 hv13 _) cvX6_frameFor mlX1_159 ha16 (ceC_6 ha1 _) rfl rfl rfl hl.1 (by decide) ⟨⟨rfl, rfl⟩, ⟨Nat.le_of_ble_eq_true rfl, Nat.le_of_ble_eq_true rfl⟩, Nat.le_of_ble_eq_true rfl, Nat.le_of_ble_eq_true rfl⟩ dX1_retimeRefusal_56) (fun H locs S => ?_)
        refine lv_aload_n hx hb dX1_retimeRefusal_59 rfl (lv_at hl 6 rfl) ?_
        refine lv_aload hx hb dX1_retimeRefusal_60 (lv_at hl 1 rfl) ?_
        refine lv_iload hx hb dX1_retimeRefusal_62 (lv_at hl 0 rfl) ?_
        obtain ⟨v14, hv14, hf⟩ := g_s1 hf
        refine g_ki S (g_runV (rest := [.ref (ad a1), .int v13, .ref (ad 1)]) X S (c_X8_end l hN hkv5 hv14 _) cvX8_end mlX1_85 (kd_N hkv5 (by decide) hN) (ceC_8 hkv5 _) rfl rfl rfl hl.1 (by decide) ⟨⟨rfl, rfl⟩, ⟨Nat.le_of_ble_eq_true rfl, Nat.le_of_ble_eq_true rfl⟩, Nat.le_of_ble_eq_true rfl, Nat.le_of_ble_eq_true rfl⟩ dX1_retimeRefusal_64) (fun H locs S => ?_)
        obtain ⟨v15, hv15, hf⟩ := g_s1 hf
        refine g_ki S (g_runV (rest := [.int v13, .ref (ad 1)]) X S (c_X6_frameFor l hN ha1 ha16 hv15 _) cvX6_frameFor mlX1_159 ha16 (ceC_6 ha1 _) rfl rfl rfl hl.1 (by decide) ⟨⟨rfl, rfl⟩, ⟨Nat.le_of_ble_eq_true rfl, Nat.le_of_ble_eq_true rfl⟩, Nat.le_of_ble_eq_true rfl, Nat.le_of_ble_eq_true rfl⟩ dX1_retimeRefusal_67) (fun H locs S => ?_)
        obtain ⟨v16, hv16, hf⟩ := g_s1 hf
        refine g_ki S (g_runV (rest := []) X S (c_X3_spanRefusal l hN kd_s1 hv16 _) cvX3_spanRefusal mlX1_164 (kd_N kd_s1 (by decide) hN) (ceC_3 kd_s1 _) rfl rfl rfl hl.1 (by decide) ⟨⟨rfl, rfl⟩, ⟨Nat.le_of_ble_eq_true rfl, Nat.le_of_ble_eq_true rfl⟩, Nat.le_of_ble_eq_true rfl, Nat.le_of_ble_eq_true rfl⟩ dX1_retimeRefusal_70) (fun H locs S => ?_)
        refine lv_istore (lv' := [(7, .int v16), (6, .int i6), (5, .ref (ad v5)), (4, .int i1), (3, .int i7), (0, .ref (ad 20)), (1, .int a0), (2, .ref (ad a1))]) hx hb dX1_retimeRefusal_73 hl (by decide) rfl (fun ls hl => ?_)
        refine lv_iload_n hx hb dX1_retimeRefusal_75 rfl (lv_at hl 4 rfl) ?_
        obtain ⟨x17, hr18, hf⟩ := g_s1 hf
        have J19 : ∀ (H : Heap) (locs : List Loc) (ls : Array Slot), gS celC Γ ad N σ s H locs → lv_has ls 8 [(6, .int i6), (5, .ref (ad v5)), (4, .int i1), (3, .int x17), (0, .ref (ad 20)), (1, .int a0), (2, .ref (ad a1))] → W p l e (gR 3 0 0) s m args below meth c H locs 0 0 (Q) (F0 m 93 ls []) := by
          intro H locs ls S hl
          refine lv_iinc (v := (i6 + 1)) (lv' := [(6, .int (i6 + 1)), (5, .ref (ad v5)), (4, .int i1), (3, .int x17), (0, .ref (ad 20)), (1, .int a0), (2, .ref (ad a1))]) hx hb dX1_retimeRefusal_93 hl (k := 0) rfl rfl (by decide) rfl (fun ls hl => ?_)
          refine lv_goto (tgt := 25) hx hb dX1_retimeRefusal_96 (by decide) ?_
          exact ih _ _ _  hf J _ _ _ S (lv_sub hl [0, 1, 2, 3, 4, 5, 6] rfl)
        replace hf := hr18
        refine lv_if_eq (tgt := 90) hx hb dX1_retimeRefusal_76 (by decide) (fun c20 => ?_) (fun c20 => ?_)
        · have hf := (if_pos c20).symm.trans hf
          refine lv_iload hx hb dX1_retimeRefusal_90 (lv_at hl 0 rfl) ?_
          refine lv_istore_n (lv' := [(3, .int v16), (7, .int v16), (6, .int i6), (5, .ref (ad v5)), (4, .int i1), (0, .ref (ad 20)), (1, .int a0), (2, .ref (ad a1))]) hx hb dX1_retimeRefusal_92 rfl hl (by decide) rfl (fun ls hl => ?_)
          cases hf
          exact J19 _ _ _ S (lv_sub hl [2, 3, 4, 0, 5, 6, 7] rfl)
        · have hf := (if_neg c20).symm.trans hf
          refine lv_iload hx hb dX1_retimeRefusal_79 (lv_at hl 0 rfl) ?_
          refine lv_if_eq (tgt := 93) hx hb dX1_retimeRefusal_81 (by decide) (fun c21 => ?_) (fun c21 => ?_)
          · have hf := (if_pos c21).symm.trans hf
            cases hf
            exact J19 _ _ _ S (lv_sub hl [1, 2, 3, 4, 5, 6, 7] rfl)
          · have hf := (if_neg c21).symm.trans hf
            refine lv_iload hx hb dX1_retimeRefusal_84 (lv_at hl 0 rfl) ?_
            refine lv_iload_n hx hb dX1_retimeRefusal_86 rfl (lv_at hl 4 rfl) ?_
            refine lv_icmp_ge (tgt := 93) hx hb dX1_retimeRefusal_87 (by decide) (fun c22 => ?_) (fun c22 => ?_)
            · have hf := (if_pos c22).symm.trans hf
              cases hf
              exact J19 _ _ _ S (lv_sub hl [1, 2, 3, 4, 5, 6, 7] rfl)
            · have hf := (if_neg c22).symm.trans hf
              refine lv_iload hx hb dX1_retimeRefusal_90 (lv_at hl 0 rfl) ?_
              refine lv_istore_n (lv' := [(3, .int v16), (7, .int v16), (6, .int i6), (5, .ref (ad v5)), (4, .int i1), (0, .ref (ad 20)), (1, .int a0), (2, .ref (ad a1))]) hx hb dX1_retimeRefusal_92 rfl hl (by decide) rfl (fun ls hl => ?_)
              cases hf
              exact J19 _ _ _ S (lv_sub hl [2, 3, 4, 0, 5, 6, 7] rfl)
noncomputable def f_X1_retimeRefusal_l1 (σ : gSt) (a0 : Int32) (a1 : Nat) : Nat → Int32 → Int32 → Option (Int32)
  | 0, _, _ => none
  | n + 1, i1, i2 => (if (2 : Int32) ≤ i1 then some i2 else (g_k1 (f_X3_trackOf σ 1 i1) fun v5 => (g_k1 (f_X1_retimeRefusal_l2 σ a0 a1 i1 v5 FU (0 : Int32) i2) fun r8 => (f_X1_retimeRefusal_l1 σ a0 a1 n (i1 + 1) r8))))
set_option maxRecDepth 100000 in
set_option maxHeartbeats 4000000 in
theorem w_X1_retimeRefusal_l1 {l : Launch} {Γ : gG} {ad : Nat → Nat} {N : Nat} {p : Program} {e : Env} {s : State} {m : MethodId} {args : Array Value} {below : List Frame} {meth : Method} {c : Code} {Q : State → Prop} (hN : 202 ≤ N) (X : gX celC Γ ad N RX1 cX1_retimeRefusal 8 (some .int) p s m args meth c) {σ : gSt} {a0 : Int32} {a1 : Nat} (ha1 : gkd a1 = 6) (ha16 : a1 < N) : ∀ (n : Nat) (i1 : Int32) (i2 : Int32) (r3 : Int32), f_X1_retimeRefusal_l1 σ a0 a1 n i1 i2 = some r3 → (∀ (H : Heap) (locs : List Loc) (ls : Array Slot), gS celC Γ ad N σ s H locs → lv_has ls 8 [(3, .int r3)] → W p l e (gR 3 0 0) s m args below meth c H locs 0 0 (Q) (F0 m 105 ls [])) → ∀ (H : Heap) (locs : List Loc) (ls : Array Slot), gS celC Γ ad N σ s H locs → lv_has ls 8 [(4, .int i1), (3, .int i2), (0, .ref (ad 20)), (1, .int a0), (2, .ref (ad a1))] → W p l e (gR 3 0 0) s m args below meth c H locs 0 0 (Q) (F0 m 5 ls []) := by
  have hx := X.1
  have hb := X.2.1
  intro n
  induction n with
  | zero =>
    intro i1 i2 r3 hf
    cases hf
  | succ n ih =>
    intro i1 i2 r3 hf J H locs ls S hl
    rw [f_X1_retimeRefusal_l1] at hf
    refine lv_iload hx hb dX1_retimeRefusal_5 (lv_at hl 0 rfl) ?_
    refine lv_iconst (v := (2 : Int32)) hx hb dX1_retimeRefusal_7 (by decide) ?_
    refine lv_icmp_ge (tgt := 105) hx hb dX1_retimeRefusal_8 (by decide) (fun c4 => ?_) (fun c4 => ?_)
    · have hf := (if_pos c4).symm.trans hf
      cases hf
      exact J _ _ _ S (lv_sub hl [1] rfl)
    · have hf := (if_neg c4).symm.trans hf
      refine lv_aload_n hx hb dX1_retimeRefusal_11 rfl (lv_at hl 2 rfl) ?_
      refine gfX1_9 X S hN kd_s20 dX1_retimeRefusal_12 ?_
      refine lv_iload hx hb dX1_retimeRefusal_15 (lv_at hl 0 rfl) ?_
      obtain ⟨v5, hv5, hf⟩ := g_s1 hf
      refine g_kr S (g_runV (rest := []) X S (c_X3_trackOf l hN kd_s1 hv5 _) cvX3_trackOf mlX1_29 (kd_N kd_s1 (by decide) hN) (ceC_3 kd_s1 _) rfl rfl rfl hl.1 (by decide) ⟨⟨rfl, rfl⟩, ⟨Nat.le_of_ble_eq_true rfl, Nat.le_of_ble_eq_true rfl⟩, Nat.le_of_ble_eq_true rfl, Nat.le_of_ble_eq_true rfl⟩ dX1_retimeRefusal_17) (fun H locs S => ?_)
      have hkv5 : gkd v5 = 8 := kr_X3_trackOf kd_s1 hv5
      refine lv_astore (lv' := [(5, .ref (ad v5)), (4, .int i1), (3, .int i2), (0, .ref (ad 20)), (1, .int a0), (2, .ref (ad a1))]) hx hb dX1_retimeRefusal_20 hl (by decide) rfl (fun ls hl => ?_)
      refine lv_iconst (v := (0 : Int32)) hx hb dX1_retimeRefusal_22 (by decide) ?_
      refine lv_istore (lv' := [(6, .int (0 : Int32)), (5, .ref (ad v5)), (4, .int i1), (3, .int i2), (0, .ref (ad 20)), (1, .int a0), (2, .ref (ad a1))]) hx hb dX1_retimeRefusal_23 hl (by decide) rfl (fun ls hl => ?_)
      obtain ⟨r8, hr23, hf⟩ := g_s1 hf
      refine w_X1_retimeRefusal_l2 hN X ha1 ha16 hkv5 FU _ _ _  hr23 (fun H locs ls S hl => ?_) _ _ _ S (lv_sub hl [0, 1, 2, 3, 4, 5, 6] rfl)
      refine lv_iinc (v := (i1 + 1)) (lv' := [(4, .int (i1 + 1)), (3, .int r8), (0, .ref (ad 20)), (1, .int a0), (2, .ref (ad a1))]) hx hb dX1_retimeRefusal_99 hl (k := 0) rfl rfl (by decide) rfl (fun ls hl => ?_)
      refine lv_goto (tgt := 5) hx hb dX1_retimeRefusal_102 (by decide) ?_
      exact ih _ _ _  hf J _ _ _ S (lv_sub hl [0, 1, 2, 3, 4] rfl)
noncomputable def f_X1_retimeRefusal (σ : gSt) (a0 : Int32) (a1 : Nat) : Option (Int32) :=
  (g_k1 (f_X1_retimeRefusal_l1 σ a0 a1 FU (0 : Int32) (0 : Int32)) fun r3 => some r3)
set_option maxRecDepth 100000 in
set_option maxHeartbeats 4000000 in
theorem c_X1_retimeRefusal (l : Launch) {Γ : gG} {ad : Nat → Nat} {N : Nat} (hN : 202 ≤ N) {σ : gSt} {a0 : Int32} {a1 : Nat} (ha1 : gkd a1 = 6) (ha16 : a1 < N) {r : Int32} (hf : f_X1_retimeRefusal σ a0 a1 = some r) : gMi l celC Γ ad N yX1_retimeRefusal cX1_retimeRefusal 8 (some .int) (gR 3 0 0) [.ref (ad 20), .int a0, .ref (ad a1)] σ r σ := by
  intro sz
  refine gOf (Qc := fun sz => gQci celC Γ ad N r σ sz) RX1 (by decide) rfl (by decide) (fun p e s m args below meth c H locs ls X S hl => ?_)
  have hl : lv_has ls 8 [(4, .int (0 : Int32)), (3, .int (0 : Int32)), (0, .ref (ad 20)), (1, .int a0), (2, .ref (ad a1))] := hl
  have hx := X.1
  have hb := X.2.1
  unfold f_X1_retimeRefusal at hf
  refine lv_iconst (v := (0 : Int32)) hx hb dX1_retimeRefusal_0 (by decide) ?_
  refine lv_istore_n (lv' := [(3, .int (0 : Int32)), (0, .ref (ad 20)), (1, .int a0), (2, .ref (ad a1))]) hx hb dX1_retimeRefusal_1 rfl hl (by decide) rfl (fun ls hl => ?_)
  refine lv_iconst (v := (0 : Int32)) hx hb dX1_retimeRefusal_2 (by decide) ?_
  refine lv_istore (lv' := [(4, .int (0 : Int32)), (3, .int (0 : Int32)), (0, .ref (ad 20)), (1, .int a0), (2, .ref (ad a1))]) hx hb dX1_retimeRefusal_3 hl (by decide) rfl (fun ls hl => ?_)
  obtain ⟨r3, hr24, hf⟩ := g_s1 hf
  refine w_X1_retimeRefusal_l1 hN X ha1 ha16 FU _ _ _  hr24 (fun H locs ls S hl => ?_) _ _ _ S (lv_sub hl [0, 1, 2, 3, 4] rfl)
  refine lv_iload_n hx hb dX1_retimeRefusal_105 rfl (lv_at hl 0 rfl) ?_
  cases hf
  exact g_reti X S rfl dX1_retimeRefusal_106

noncomputable def f_X1_retimeCaptions_l2 (a0 : Int32) (a1 : Nat) (i1 : Int32) (σ3 : gSt) (v7 : Nat) : Nat → Int32 → Int32 → gSt → Option (Int32 × gSt)
  | 0, _, _, _ => none
  | n + 1, i8, i9, σ10 => (if (σ10 v7 5) ≤ i8 then some (i9, σ10) else (g_k1 (f_X1_isMeant σ10 a0 i1) fun v14 => (if v14 = 0 then some (i9, σ10) else (g_k1 (f_X8_first σ10 v7 i8) fun v16 => (g_k1 (f_X6_frameFor σ10 a1 v16) fun v17 => (g_k1 (f_X8_end σ10 v7 i8) fun v18 => (g_k1 (f_X6_frameFor σ10 a1 v18) fun v19 => (g_k1 (f_X8_first σ10 v7 i8) fun v20 => (g_k1 (if v17 = v20 then (g_k1 (f_X8_end σ10 v7 i8) fun v26 => (if v19 = v26 then some i9 else some (i9 + 1))) else some (i9 + 1)) fun x21 => (g_k1 (f_X8_setFrames σ10 v7 i8 v17 v19) fun σ24 => (f_X1_retimeCaptions_l2 a0 a1 i1 σ3 v7 n (i8 + 1) x21 σ24)))))))))))
set_option maxRecDepth 100000 in
set_option maxHeartbeats 4000000 in
theorem w_X1_retimeCaptions_l2 {l : Launch} {Γ : gG} {ad : Nat → Nat} {N : Nat} {p : Program} {e : Env} {s : State} {m : MethodId} {args : Array Value} {below : List Frame} {meth : Method} {c : Code} {Q : State → Prop} (hN : 202 ≤ N) (X : gX celC Γ ad N RX1 cX1_retimeCaptions 9 (some .int) p s m args meth c) {a0 : Int32} {a1 : Nat} {i1 : Int32} {σ3 : gSt} {v7 : Nat} (ha1 : gkd a1 = 6) (ha16 : a1 < N) (hkv7 : gkd v7 = 8) : ∀ (n : Nat) (i8 : Int32) (i9 : Int32) (σ10 : gSt) (r11 : Int32) (σ12 : gSt), f_X1_retimeCaptions_l2 a0 a1 i1 σ3 v7 n i8 i9 σ10 = some (r11, σ12) → (∀ (H : Heap) (locs : List Loc) (ls : Array Slot), gS celC Γ ad N σ12 s H locs → lv_has ls 9 [(4, .int i1), (3, .int r11), (0, .ref (ad 20)), (1, .int a0), (2, .ref (ad a1))] → W p l e (gR 3 0 0) s m args below meth c H locs 0 0 (Q) (F0 m 114 ls [])) → ∀ (H : Heap) (locs : List Loc) (ls : Array Slot), gS celC Γ ad N σ10 s H locs → lv_has ls 9 [(6, .int i8), (5, .ref (ad v7)), (4, .int i1), (3, .int i9), (0, .ref (ad 20)), (1, .int a0), (2, .ref (ad a1))] → W p l e (gR 3 0 0) s m args below meth c H locs 0 0 (Q) (F0 m 25 ls []) := by
  have hx := X.1
  have hb := X.2.1
  intro n
  induction n with
  | zero =>
    intro i8 i9 σ10 r11 σ12 hf
    cases hf
  | succ n ih =>
    intro i8 i9 σ10 r11 σ12 hf J H locs ls S hl
    rw [f_X1_retimeCaptions_l2] at hf
    refine lv_iload hx hb dX1_retimeCaptions_25 (lv_at hl 0 rfl) ?_
    refine lv_aload hx hb dX1_retimeCaptions_27 (lv_at hl 1 rfl) ?_
    refine gfX1_78 X S hN hkv7 dX1_retimeCaptions_29 ?_
    refine lv_icmp_ge (tgt := 114) hx hb dX1_retimeCaptions_32 (by decide) (fun c13 => ?_) (fun c13 => ?_)
    · have hf := (if_pos c13).symm.trans hf
      cases hf
      exact J _ _ _ S (lv_sub hl [2, 3, 4, 5, 6] rfl)
    · have hf := (if_neg c13).symm.trans hf
      refine lv_iload_n hx hb dX1_retimeCaptions_35 rfl (lv_at hl 5 rfl) ?_
      refine lv_iload hx hb dX1_retimeCaptions_36 (lv_at hl 2 rfl) ?_
      obtain ⟨v14, hv14, hf⟩ := g_s1 hf
      refine g_ki S (g_runS (rest := []) X S (c_X1_isMeant l hN  hv14 _) csX1_isMeant mlX1_155 rfl rfl hl.1 (by decide) ⟨⟨rfl, rfl⟩, ⟨Nat.le_of_ble_eq_true rfl, Nat.le_of_ble_eq_true rfl⟩, Nat.le_of_ble_eq_true rfl, Nat.le_of_ble_eq_true rfl⟩ dX1_retimeCaptions_38) (fun H locs S => ?_)
      refine lv_if_eq (tgt := 114) hx hb dX1_retimeCaptions_41 (by decide) (fun c15 => ?_) (fun c15 => ?_)
      · have hf := (if_pos c15).symm.trans hf
        cases hf
        exact J _ _ _ S (lv_sub hl [2, 3, 4, 5, 6] rfl)
      · have hf := (if_neg c15).symm.trans hf
        refine lv_aload_n hx hb dX1_retimeCaptions_44 rfl (lv_at hl 6 rfl) ?_
        refine lv_aload hx hb dX1_retimeCaptions_45 (lv_at hl 1 rfl) ?_
        refine lv_iload hx hb dX1_retimeCaptions_47 (lv_at hl 0 rfl) ?_
        obtain ⟨v16, hv16, hf⟩ := g_s1 hf
        refine g_ki S (g_runV (rest := [.ref (ad a1)]) X S (c_X8_first l hN hkv7 hv16 _) cvX8_first mlX1_82 (kd_N hkv7 (by decide) hN) (ceC_8 hkv7 _) rfl rfl rfl hl.1 (by decide) ⟨⟨rfl, rfl⟩, ⟨Nat.le_of_ble_eq_true rfl, Nat.le_of_ble_eq_true rfl⟩, Nat.le_of_ble_eq_true rfl, Nat.le_of_ble_eq_true rfl⟩ dX1_retimeCaptions_49) (fun H locs S => ?_)
        obtain ⟨v17, hv17, hf⟩ := g_s1 hf
        refine g_ki S (g_runV (rest := []) X S (c_X6_frameFor l hN ha1 ha16 hv17 _) cvX6_frameFor mlX1_159 ha16 (ceC_6 ha1 _) rfl rfl rfl hl.1 (by decide) ⟨⟨rfl, rfl⟩, ⟨Nat.le_of_ble_eq_true rfl, Nat.le_of_ble_eq_true rfl⟩, Nat.le_of_ble_eq_true rfl, Nat.le_of_ble_eq_true rfl⟩ dX1_retimeCaptions_52) (fun H locs S => ?_)
        refine lv_istore (lv' := [(7, .int v17), (6, .int i8), (5, .ref (ad v7)), (4, .int i1), (3, .int i9), (0, .ref (ad 20)), (1, .int a0), (2, .ref (ad a1))]) hx hb dX1_retimeCaptions_55 hl (by decide) rfl (fun ls hl => ?_)
        refine lv_aload_n hx hb dX1_retimeCaptions_57 rfl (lv_at hl 7 rfl) ?_
        refine lv_aload hx hb dX1_retimeCaptions_58 (lv_at hl 2 rfl) ?_
        refine lv_iload hx hb dX1_retimeCaptions_60 (lv_at hl 1 rfl) ?_
        obtain ⟨v18, hv18, hf⟩ := g_s1 hf
        refine g_ki S (g_runV (rest := [.ref (ad a1)]) X S (c_X8_end l hN hkv7 hv18 _) cvX8_end mlX1_85 (kd_N hkv7 (by decide) hN) (ceC_8 hkv7 _) rfl rfl rfl hl.1 (by decide) ⟨⟨rfl, rfl⟩, ⟨Nat.le_of_ble_eq_true rfl, Nat.le_of_ble_eq_true rfl⟩, Nat.le_of_ble_eq_true rfl, Nat.le_of_ble_eq_true rfl⟩ dX1_retimeCaptions_62) (fun H locs S => ?_)
        obtain ⟨v19, hv19, hf⟩ := g_s1 hf
        refine g_ki S (g_runV (rest := []) X S (c_X6_frameFor l hN ha1 ha16 hv19 _) cvX6_frameFor mlX1_159 ha16 (ceC_6 ha1 _) rfl rfl rfl hl.1 (by decide) ⟨⟨rfl, rfl⟩, ⟨Nat.le_of_ble_eq_true rfl, Nat.le_of_ble_eq_true rfl⟩, Nat.le_of_ble_eq_true rfl, Nat.le_of_ble_eq_true rfl⟩ dX1_retimeCaptions_65) (fun H locs S => ?_)
        refine lv_istore (lv' := [(8, .int v19), (7, .int v17), (6, .int i8), (5, .ref (ad v7)), (4, .int i1), (3, .int i9), (0, .ref (ad 20)), (1, .int a0), (2, .ref (ad a1))]) hx hb dX1_retimeCaptions_68 hl (by decide) rfl (fun ls hl => ?_)
        refine lv_iload hx hb dX1_retimeCaptions_70 (lv_at hl 1 rfl) ?_
        refine lv_aload hx hb dX1_retimeCaptions_72 (lv_at hl 3 rfl) ?_
        refine lv_iload hx hb dX1_retimeCaptions_74 (lv_at hl 2 rfl) ?_
        obtain ⟨v20, hv20, hf⟩ := g_s1 hf
        refine g_ki S (g_runV (rest := [.int v17]) X S (c_X8_first l hN hkv7 hv20 _) cvX8_first mlX1_82 (kd_N hkv7 (by decide) hN) (ceC_8 hkv7 _) rfl rfl rfl hl.1 (by decide) ⟨⟨rfl, rfl⟩, ⟨Nat.le_of_ble_eq_true rfl, Nat.le_of_ble_eq_true rfl⟩, Nat.le_of_ble_eq_true rfl, Nat.le_of_ble_eq_true rfl⟩ dX1_retimeCaptions_76) (fun H locs S => ?_)
        obtain ⟨x21, hr22, hf⟩ := g_s1 hf
        have J23 : ∀ (H : Heap) (locs : List Loc) (ls : Array Slot), gS celC Γ ad N σ10 s H locs → lv_has ls 9 [(8, .int v19), (7, .int v17), (6, .int i8), (5, .ref (ad v7)), (4, .int i1), (3, .int x21), (0, .ref (ad 20)), (1, .int a0), (2, .ref (ad a1))] → W p l e (gR 3 0 0) s m args below meth c H locs 0 0 (Q) (F0 m 97 ls []) := by
          intro H locs ls S hl
          refine lv_aload hx hb dX1_retimeCaptions_97 (lv_at hl 3 rfl) ?_
          refine lv_iload hx hb dX1_retimeCaptions_99 (lv_at hl 2 rfl) ?_
          refine lv_iload hx hb dX1_retimeCaptions_101 (lv_at hl 1 rfl) ?_
          refine lv_iload hx hb dX1_retimeCaptions_103 (lv_at hl 0 rfl) ?_
          obtain ⟨σ24, hσ24, hf⟩ := g_s1 hf
          refine g_kv S (g_runV (rest := []) X S (c_X8_setFrames l hN hkv7 hσ24 _) cvX8_setFrames mlX1_88 (kd_N hkv7 (by decide) hN) (ceC_8 hkv7 _) rfl rfl rfl hl.1 (by decide) ⟨⟨rfl, rfl⟩, ⟨Nat.le_of_ble_eq_true rfl, Nat.le_of_ble_eq_true rfl⟩, Nat.le_of_ble_eq_true rfl, Nat.le_of_ble_eq_true rfl⟩ dX1_retimeCaptions_105) (fun H locs S => ?_)
          refine lv_iinc (v := (i8 + 1)) (lv' := [(6, .int (i8 + 1)), (8, .int v19), (7, .int v17), (5, .ref (ad v7)), (4, .int i1), (3, .int x21), (0, .ref (ad 20)), (1, .int a0), (2, .ref (ad a1))]) hx hb dX1_retimeCaptions_108 hl (k := 2) rfl rfl (by decide) rfl (fun ls hl => ?_)
          refine lv_goto (tgt := 25) hx hb dX1_retimeCaptions_111 (by decide) ?_
          exact ih _ _ _ _ _  hf J _ _ _ S (lv_sub hl [0, 3, 4, 5, 6, 7, 8] rfl)
        replace hf := hr22
        refine lv_icmp_ne (tgt := 94) hx hb dX1_retimeCaptions_79 (by decide) (fun c25 => ?_) (fun c25 => ?_)
        · have hf := (if_neg c25).symm.trans hf
          refine lv_iinc (v := (i9 + 1)) (lv' := [(3, .int (i9 + 1)), (8, .int v19), (7, .int v17), (6, .int i8), (5, .ref (ad v7)), (4, .int i1), (0, .ref (ad 20)), (1, .int a0), (2, .ref (ad a1))]) hx hb dX1_retimeCaptions_94 hl (k := 5) rfl rfl (by decide) rfl (fun ls hl => ?_)
          cases hf
          exact J23 _ _ _ S (lv_sub hl [1, 2, 3, 4, 5, 0, 6, 7, 8] rfl)
        · have hf := (if_pos c25).symm.trans hf
          refine lv_iload hx hb dX1_retimeCaptions_82 (lv_at hl 0 rfl) ?_
          refine lv_aload hx hb dX1_retimeCaptions_84 (lv_at hl 3 rfl) ?_
          refine lv_iload hx hb dX1_retimeCaptions_86 (lv_at hl 2 rfl) ?_
          obtain ⟨v26, hv26, hf⟩ := g_s1 hf
          refine g_ki S (g_runV (rest := [.int v19]) X S (c_X8_end l hN hkv7 hv26 _) cvX8_end mlX1_85 (kd_N hkv7 (by decide) hN) (ceC_8 hkv7 _) rfl rfl rfl hl.1 (by decide) ⟨⟨rfl, rfl⟩, ⟨Nat.le_of_ble_eq_true rfl, Nat.le_of_ble_eq_true rfl⟩, Nat.le_of_ble_eq_true rfl, Nat.le_of_ble_eq_true rfl⟩ dX1_retimeCaptions_88) (fun H locs S => ?_)
          refine lv_icmp_eq (tgt := 97) hx hb dX1_retimeCaptions_91 (by decide) (fun c27 => ?_) (fun c27 => ?_)
          · have hf := (if_pos c27).symm.trans hf
            cases hf
            exact J23 _ _ _ S (lv_sub hl [0, 1, 2, 3, 4, 5, 6, 7, 8] rfl)
          · have hf := (if_neg c27).symm.trans hf
            refine lv_iinc (v := (i9 + 1)) (lv' := [(3, .int (i9 + 1)), (8, .int v19), (7, .int v17), (6, .int i8), (5, .ref (ad v7)), (4, .int i1), (0, .ref (ad 20)), (1, .int a0), (2, .ref (ad a1))]) hx hb dX1_retimeCaptions_94 hl (k := 5) rfl rfl (by decide) rfl (fun ls hl => ?_)
            cases hf
            exact J23 _ _ _ S (lv_sub hl [1, 2, 3, 4, 5, 0, 6, 7, 8] rfl)
noncomputable def f_X1_retimeCaptions_l1 (σ : gSt) (a0 : Int32) (a1 : Nat) : Nat → Int32 → Int32 → gSt → Option (Int32 × gSt)
  | 0, _, _, _ => none
  | n + 1, i1, i2, σ3 => (if (2 : Int32) ≤ i1 then some (i2, σ3) else (g_k1 (f_X3_trackOf σ3 1 i1) fun v7 => (g_k2 (f_X1_retimeCaptions_l2 a0 a1 i1 σ3 v7 FU (0 : Int32) i2 σ3) fun r11 σ12 => (f_X1_retimeCaptions_l1 σ a0 a1 n (i1 + 1) r11 σ12))))
set_option maxRecDepth 100000 in
set_option maxHeartbeats 4000000 in
theorem w_X1_retimeCaptions_l1 {l : Launch} {Γ : gG} {ad : Nat → Nat} {N : Nat} {p : Program} {e : Env} {s : State} {m : MethodId} {args : Array Value} {below : List Frame} {meth : Method} {c : Code} {Q : State → Prop} (hN : 202 ≤ N) (X : gX celC Γ ad N RX1 cX1_retimeCaptions 9 (some .int) p s m args meth c) {σ : gSt} {a0 : Int32} {a1 : Nat} (ha1 : gkd a1 = 6) (ha16 : a1 < N) : ∀ (n : Nat) (i1 : Int32) (i2 : Int32) (σ3 : gSt) (r4 : Int32) (σ5 : gSt), f_X1_retimeCaptions_l1 σ a0 a1 n i1 i2 σ3 = some (r4, σ5) → (∀ (H : Heap) (locs : List Loc) (ls : Array Slot), gS celC Γ ad N σ5 s H locs → lv_has ls 9 [(3, .int r4)] → W p l e (gR 3 0 0) s m args below meth c H locs 0 0 (Q) (F0 m 120 ls [])) → ∀ (H : Heap) (locs : List Loc) (ls : Array Slot), gS celC Γ ad N σ3 s H locs → lv_has ls 9 [(4, .int i1), (3, .int i2), (0, .ref (ad 20)), (1, .int a0), (2, .ref (ad a1))] → W p l e (gR 3 0 0) s m args below meth c H locs 0 0 (Q) (F0 m 5 ls []) := by
  have hx := X.1
  have hb := X.2.1
  intro n
  induction n with
  | zero =>
    intro i1 i2 σ3 r4 σ5 hf
    cases hf
  | succ n ih =>
    intro i1 i2 σ3 r4 σ5 hf J H locs ls S hl
    rw [f_X1_retimeCaptions_l1] at hf
    refine lv_iload hx hb dX1_retimeCaptions_5 (lv_at hl 0 rfl) ?_
    refine lv_iconst (v := (2 : Int32)) hx hb dX1_retimeCaptions_7 (by decide) ?_
    refine lv_icmp_ge (tgt := 120) hx hb dX1_retimeCaptions_8 (by decide) (fun c6 => ?_) (fun c6 => ?_)
    · have hf := (if_pos c6).symm.trans hf
      cases hf
      exact J _ _ _ S (lv_sub hl [1] rfl)
    · have hf := (if_neg c6).symm.trans hf
      refine lv_aload_n hx hb dX1_retimeCaptions_11 rfl (lv_at hl 2 rfl) ?_
      refine gfX1_9 X S hN kd_s20 dX1_retimeCaptions_12 ?_
      refine lv_iload hx hb dX1_retimeCaptions_15 (lv_at hl 0 rfl) ?_
      obtain ⟨v7, hv7, hf⟩ := g_s1 hf
      refine g_kr S (g_runV (rest := []) X S (c_X3_trackOf l hN kd_s1 hv7 _) cvX3_trackOf mlX1_29 (kd_N kd_s1 (by decide) hN) (ceC_3 kd_s1 _) rfl rfl rfl hl.1 (by decide) ⟨⟨rfl, rfl⟩, ⟨Nat.le_of_ble_eq_true rfl, Nat.le_of_ble_eq_true rfl⟩, Nat.le_of_ble_eq_true rfl, Nat.le_of_ble_eq_true rfl⟩ dX1_retimeCaptions_17) (fun H locs S => ?_)
      have hkv7 : gkd v7 = 8 := kr_X3_trackOf kd_s1 hv7
      refine lv_astore (lv' := [(5, .ref (ad v7)), (4, .int i1), (3, .int i2), (0, .ref (ad 20)), (1, .int a0), (2, .ref (ad a1))]) hx hb dX1_retimeCaptions_20 hl (by decide) rfl (fun ls hl => ?_)
      refine lv_iconst (v := (0 : Int32)) hx hb dX1_retimeCaptions_22 (by decide) ?_
      refine lv_istore (lv' := [(6, .int (0 : Int32)), (5, .ref (ad v7)), (4, .int i1), (3, .int i2), (0, .ref (ad 20)), (1, .int a0), (2, .ref (ad a1))]) hx hb dX1_retimeCaptions_23 hl (by decide) rfl (fun ls hl => ?_)
      obtain ⟨r11, σ12, hr28, hf⟩ := g_s2 hf
      refine w_X1_retimeCaptions_l2 hN X ha1 ha16 hkv7 FU _ _ _ _ _  hr28 (fun H locs ls S hl => ?_) _ _ _ S (lv_sub hl [0, 1, 2, 3, 4, 5, 6] rfl)
      refine lv_iinc (v := (i1 + 1)) (lv' := [(4, .int (i1 + 1)), (3, .int r11), (0, .ref (ad 20)), (1, .int a0), (2, .ref (ad a1))]) hx hb dX1_retimeCaptions_114 hl (k := 0) rfl rfl (by decide) rfl (fun ls hl => ?_)
      refine lv_goto (tgt := 5) hx hb dX1_retimeCaptions_117 (by decide) ?_
      exact ih _ _ _ _ _  hf J _ _ _ S (lv_sub hl [0, 1, 2, 3, 4] rfl)
noncomputable def f_X1_retimeCaptions (σ : gSt) (a0 : Int32) (a1 : Nat) : Option (Int32 × gSt) :=
  (g_k2 (f_X1_retimeCaptions_l1 σ a0 a1 FU (0 : Int32) (0 : Int32) σ) fun r4 σ5 => some (r4, σ5))
set_option maxRecDepth 100000 in
set_option maxHeartbeats 4000000 in
theorem c_X1_retimeCaptions (l : Launch) {Γ : gG} {ad : Nat → Nat} {N : Nat} (hN : 202 ≤ N) {σ : gSt} {a0 : Int32} {a1 : Nat} (ha1 : gkd a1 = 6) (ha16 : a1 < N) {r : Int32} {σ' : gSt} (hf : f_X1_retimeCaptions σ a0 a1 = some (r, σ')) : gMi l celC Γ ad N yX1_retimeCaptions cX1_retimeCaptions 9 (some .int) (gR 3 0 0) [.ref (ad 20), .int a0, .ref (ad a1)] σ r σ' := by
  intro sz
  refine gOf (Qc := fun sz => gQci celC Γ ad N r σ' sz) RX1 (by decide) rfl (by decide) (fun p e s m args below meth c H locs ls X S hl => ?_)
  have hl : lv_has ls 9 [(4, .int (0 : Int32)), (3, .int (0 : Int32)), (0, .ref (ad 20)), (1, .int a0), (2, .ref (ad a1))] := hl
  have hx := X.1
  have hb := X.2.1
  unfold f_X1_retimeCaptions at hf
  refine lv_iconst (v := (0 : Int32)) hx hb dX1_retimeCaptions_0 (by decide) ?_
  refine lv_istore_n (lv' := [(3, .int (0 : Int32)), (0, .ref (ad 20)), (1, .int a0), (2, .ref (ad a1))]) hx hb dX1_retimeCaptions_1 rfl hl (by decide) rfl (fun ls hl => ?_)
  refine lv_iconst (v := (0 : Int32)) hx hb dX1_retimeCaptions_2 (by decide) ?_
  refine lv_istore (lv' := [(4, .int (0 : Int32)), (3, .int (0 : Int32)), (0, .ref (ad 20)), (1, .int a0), (2, .ref (ad a1))]) hx hb dX1_retimeCaptions_3 hl (by decide) rfl (fun ls hl => ?_)
  obtain ⟨r4, σ5, hr29, hf⟩ := g_s2 hf
  refine w_X1_retimeCaptions_l1 hN X ha1 ha16 FU _ _ _ _ _  hr29 (fun H locs ls S hl => ?_) _ _ _ S (lv_sub hl [0, 1, 2, 3, 4] rfl)
  refine lv_iload_n hx hb dX1_retimeCaptions_120 rfl (lv_at hl 0 rfl) ?_
  cases hf
  exact g_reti X S rfl dX1_retimeCaptions_121

noncomputable def f_X1_carryOutCut (σ : gSt) (a0 : Int32) (a1 : Int32) : Option (Int32 × gSt) :=
  (g_k1 (f_X3_canBeCut σ 1 a0) fun v1 => (if v1 = 0 then some ((1 : Int32), σ) else (if a1 = 0 then (g_k1 (f_X0_takeAway σ (1 + 2) a0) fun σ7 => some ((0 : Int32), σ7)) else (g_k1 (f_X0_lacksRoomFor σ (1 + 2) a0) fun v4 => (if v4 = 0 then (g_k1 (f_X0_make σ (1 + 2) a0) fun σ6 => some ((0 : Int32), σ6)) else some ((8 : Int32), σ))))))
set_option maxRecDepth 100000 in
set_option maxHeartbeats 4000000 in
theorem c_X1_carryOutCut (l : Launch) {Γ : gG} {ad : Nat → Nat} {N : Nat} (hN : 202 ≤ N) {σ : gSt} {a0 : Int32} {a1 : Int32}  {r : Int32} {σ' : gSt} (hf : f_X1_carryOutCut σ a0 a1 = some (r, σ')) : gMi l celC Γ ad N yX1_carryOutCut cX1_carryOutCut 3 (some .int) (gR 4 0 0) [.ref (ad 20), .int a0, .int a1] σ r σ' := by
  intro sz
  refine gOf (Qc := fun sz => gQci celC Γ ad N r σ' sz) RX1 (by decide) rfl (by decide) (fun p e s m args below meth c H locs ls X S hl => ?_)
  have hl : lv_has ls 3 [(0, .ref (ad 20)), (1, .int a0), (2, .int a1)] := hl
  have hx := X.1
  have hb := X.2.1
  unfold f_X1_carryOutCut at hf
  refine lv_aload_n hx hb dX1_carryOutCut_0 rfl (lv_at hl 0 rfl) ?_
  refine gfX1_9 X S hN kd_s20 dX1_carryOutCut_1 ?_
  refine lv_iload_n hx hb dX1_carryOutCut_4 rfl (lv_at hl 1 rfl) ?_
  obtain ⟨v1, hv1, hf⟩ := g_s1 hf
  refine g_ki S (g_runV (rest := []) X S (c_X3_canBeCut l hN kd_s1 hv1 _) cvX3_canBeCut mlX1_167 (kd_N kd_s1 (by decide) hN) (ceC_3 kd_s1 _) rfl rfl rfl hl.1 (by decide) ⟨⟨rfl, rfl⟩, ⟨Nat.le_of_ble_eq_true rfl, Nat.le_of_ble_eq_true rfl⟩, Nat.le_of_ble_eq_true rfl, Nat.le_of_ble_eq_true rfl⟩ dX1_carryOutCut_5) (fun H locs S => ?_)
  refine lv_if_ne (tgt := 13) hx hb dX1_carryOutCut_8 (by decide) (fun c2 => ?_) (fun c2 => ?_)
  · have hf := (if_neg c2).symm.trans hf
    refine lv_iload_n hx hb dX1_carryOutCut_13 rfl (lv_at hl 2 rfl) ?_
    refine lv_if_ne (tgt := 30) hx hb dX1_carryOutCut_14 (by decide) (fun c3 => ?_) (fun c3 => ?_)
    · have hf := (if_neg c3).symm.trans hf
      refine lv_aload_n hx hb dX1_carryOutCut_30 rfl (lv_at hl 0 rfl) ?_
      refine gfX1_9 X S hN kd_s20 dX1_carryOutCut_31 ?_
      refine gfX1_118 X S hN kd_s1 dX1_carryOutCut_34 ?_
      refine lv_iload_n hx hb dX1_carryOutCut_37 rfl (lv_at hl 1 rfl) ?_
      obtain ⟨v4, hv4, hf⟩ := g_s1 hf
      refine g_ki S (g_runV (rest := []) X S (c_X0_lacksRoomFor l hN (kd_3_2 kd_s1) hv4 _) cvX0_lacksRoomFor mlX1_173 (kd_N (kd_3_2 kd_s1) (by decide) hN) (ceC_0 (kd_3_2 kd_s1) _) rfl rfl rfl hl.1 (by decide) ⟨⟨rfl, rfl⟩, ⟨Nat.le_of_ble_eq_true rfl, Nat.le_of_ble_eq_true rfl⟩, Nat.le_of_ble_eq_true rfl, Nat.le_of_ble_eq_true rfl⟩ dX1_carryOutCut_38) (fun H locs S => ?_)
      refine lv_if_eq (tgt := 47) hx hb dX1_carryOutCut_41 (by decide) (fun c5 => ?_) (fun c5 => ?_)
      · have hf := (if_pos c5).symm.trans hf
        refine lv_aload_n hx hb dX1_carryOutCut_47 rfl (lv_at hl 0 rfl) ?_
        refine gfX1_9 X S hN kd_s20 dX1_carryOutCut_48 ?_
        refine gfX1_118 X S hN kd_s1 dX1_carryOutCut_51 ?_
        refine lv_iload_n hx hb dX1_carryOutCut_54 rfl (lv_at hl 1 rfl) ?_
        obtain ⟨σ6, hσ6, hf⟩ := g_s1 hf
        refine g_kv S (g_runV (rest := []) X S (c_X0_make l hN (kd_3_2 kd_s1) hσ6 _) cvX0_make mlX1_176 (kd_N (kd_3_2 kd_s1) (by decide) hN) (ceC_0 (kd_3_2 kd_s1) _) rfl rfl rfl hl.1 (by decide) ⟨⟨rfl, rfl⟩, ⟨Nat.le_of_ble_eq_true rfl, Nat.le_of_ble_eq_true rfl⟩, Nat.le_of_ble_eq_true rfl, Nat.le_of_ble_eq_true rfl⟩ dX1_carryOutCut_55) (fun H locs S => ?_)
        refine lv_iconst (v := (0 : Int32)) hx hb dX1_carryOutCut_58 (by decide) ?_
        cases hf
        exact g_reti X S rfl dX1_carryOutCut_59
      · have hf := (if_neg c5).symm.trans hf
        refine lv_bipush (v := (8 : Int32)) hx hb dX1_carryOutCut_44 (by decide) ?_
        cases hf
        exact g_reti X S rfl dX1_carryOutCut_46
    · have hf := (if_pos c3).symm.trans hf
      refine lv_aload_n hx hb dX1_carryOutCut_17 rfl (lv_at hl 0 rfl) ?_
      refine gfX1_9 X S hN kd_s20 dX1_carryOutCut_18 ?_
      refine gfX1_118 X S hN kd_s1 dX1_carryOutCut_21 ?_
      refine lv_iload_n hx hb dX1_carryOutCut_24 rfl (lv_at hl 1 rfl) ?_
      obtain ⟨σ7, hσ7, hf⟩ := g_s1 hf
      refine g_kv S (g_runV (rest := []) X S (c_X0_takeAway l hN (kd_3_2 kd_s1) hσ7 _) cvX0_takeAway mlX1_170 (kd_N (kd_3_2 kd_s1) (by decide) hN) (ceC_0 (kd_3_2 kd_s1) _) rfl rfl rfl hl.1 (by decide) ⟨⟨rfl, rfl⟩, ⟨Nat.le_of_ble_eq_true rfl, Nat.le_of_ble_eq_true rfl⟩, Nat.le_of_ble_eq_true rfl, Nat.le_of_ble_eq_true rfl⟩ dX1_carryOutCut_25) (fun H locs S => ?_)
      refine lv_iconst (v := (0 : Int32)) hx hb dX1_carryOutCut_28 (by decide) ?_
      cases hf
      exact g_reti X S rfl dX1_carryOutCut_29
  · have hf := (if_pos c2).symm.trans hf
    refine lv_iconst (v := (1 : Int32)) hx hb dX1_carryOutCut_11 (by decide) ?_
    cases hf
    exact g_reti X S rfl dX1_carryOutCut_12

noncomputable def f_X5_isItem (σ : gSt) (a0 : Int32) : Option (Int32) :=
  (g_k1 (if a0 < 0 then some (0 : Int32) else (if (30 : Int32) ≤ a0 then some (0 : Int32) else some (1 : Int32))) fun x1 => (g_k1 (gzb x1) fun v4 => some v4))
set_option maxRecDepth 100000 in
set_option maxHeartbeats 4000000 in
theorem c_X5_isItem (l : Launch) {Γ : gG} {ad : Nat → Nat} {N : Nat} (hN : 202 ≤ N) {σ : gSt} {a0 : Int32}  {r : Int32} (hf : f_X5_isItem σ a0 = some r) : gMi l celC Γ ad N yX5_isItem cX5_isItem 1 (some .boolean) (gR 1 0 0) [.int a0] σ r σ := by
  intro sz
  refine gOf (Qc := fun sz => gQci celC Γ ad N r σ sz) RX5 (by decide) rfl (by decide) (fun p e s m args below meth c H locs ls X S hl => ?_)
  have hl : lv_has ls 1 [(0, .int a0)] := hl
  have hx := X.1
  have hb := X.2.1
  unfold f_X5_isItem at hf
  refine lv_iload_n hx hb dX5_isItem_0 rfl (lv_at hl 0 rfl) ?_
  obtain ⟨x1, hr2, hf⟩ := g_s1 hf
  have J3 : ∀ (H : Heap) (locs : List Loc) (ls : Array Slot), gS celC Γ ad N σ s H locs → lv_has ls 1 [] → W p l e (gR 1 0 0) s m args below meth c H locs 0 0 (gQi celC Γ ad N r σ below args s) (F0 m 15 ls [.int x1]) := by
    intro H locs ls S hl
    obtain ⟨v4, hv4, hf⟩ := g_s1 hf
    obtain ⟨hnv4, rfl⟩ := gzb_some hv4
    cases hf
    exact g_reti X S hnv4 dX5_isItem_15
  replace hf := hr2
  refine lv_if_lt (tgt := 14) hx hb dX5_isItem_1 (by decide) (fun c5 => ?_) (fun c5 => ?_)
  · have hf := (if_pos c5).symm.trans hf
    refine lv_iconst (v := (0 : Int32)) hx hb dX5_isItem_14 (by decide) ?_
    cases hf
    exact J3 _ _ _ S (lv_sub hl [] rfl)
  · have hf := (if_neg c5).symm.trans hf
    refine lv_iload_n hx hb dX5_isItem_4 rfl (lv_at hl 0 rfl) ?_
    refine lv_bipush (v := (30 : Int32)) hx hb dX5_isItem_5 (by decide) ?_
    refine lv_icmp_ge (tgt := 14) hx hb dX5_isItem_7 (by decide) (fun c6 => ?_) (fun c6 => ?_)
    · have hf := (if_pos c6).symm.trans hf
      refine lv_iconst (v := (0 : Int32)) hx hb dX5_isItem_14 (by decide) ?_
      cases hf
      exact J3 _ _ _ S (lv_sub hl [] rfl)
    · have hf := (if_neg c6).symm.trans hf
      refine lv_iconst (v := (1 : Int32)) hx hb dX5_isItem_10 (by decide) ?_
      refine lv_goto (tgt := 15) hx hb dX5_isItem_11 (by decide) ?_
      cases hf
      exact J3 _ _ _ S (lv_sub hl [] rfl)

noncomputable def f_X5_what (σ : gSt) (a0 : Int32) : Option (Int32) :=
  (g_k1 (f_X5_isItem σ a0) fun v1 => (g_k1 (if v1 = 0 then some (0 : Int32) else (g_k1 (gald σ 192 30 a0) fun v6 => some v6)) fun x2 => some x2))
set_option maxRecDepth 100000 in
set_option maxHeartbeats 4000000 in
theorem c_X5_what (l : Launch) {Γ : gG} {ad : Nat → Nat} {N : Nat} (hN : 202 ≤ N) {σ : gSt} {a0 : Int32}  {r : Int32} (hf : f_X5_what σ a0 = some r) : gMi l celC Γ ad N yX5_what cX5_what 2 (some .int) (gR 2 0 0) [.ref (ad 191), .int a0] σ r σ := by
  intro sz
  refine gOf (Qc := fun sz => gQci celC Γ ad N r σ sz) RX5 (by decide) rfl (by decide) (fun p e s m args below meth c H locs ls X S hl => ?_)
  have hl : lv_has ls 2 [(0, .ref (ad 191)), (1, .int a0)] := hl
  have hx := X.1
  have hb := X.2.1
  unfold f_X5_what at hf
  refine lv_iload_n hx hb dX5_what_0 rfl (lv_at hl 1 rfl) ?_
  obtain ⟨v1, hv1, hf⟩ := g_s1 hf
  refine g_ki S (g_runS (rest := []) X S (c_X5_isItem l hN  hv1 _) csX5_isItem mlX5_47 rfl rfl hl.1 (by decide) ⟨⟨rfl, rfl⟩, ⟨Nat.le_of_ble_eq_true rfl, Nat.le_of_ble_eq_true rfl⟩, Nat.le_of_ble_eq_true rfl, Nat.le_of_ble_eq_true rfl⟩ dX5_what_1) (fun H locs S => ?_)
  obtain ⟨x2, hr3, hf⟩ := g_s1 hf
  have J4 : ∀ (H : Heap) (locs : List Loc) (ls : Array Slot), gS celC Γ ad N σ s H locs → lv_has ls 2 [] → W p l e (gR 2 0 0) s m args below meth c H locs 0 0 (gQi celC Γ ad N r σ below args s) (F0 m 17 ls [.int x2]) := by
    intro H locs ls S hl
    cases hf
    exact g_reti X S rfl dX5_what_17
  replace hf := hr3
  refine lv_if_eq (tgt := 16) hx hb dX5_what_4 (by decide) (fun c5 => ?_) (fun c5 => ?_)
  · have hf := (if_pos c5).symm.trans hf
    refine lv_iconst (v := (0 : Int32)) hx hb dX5_what_16 (by decide) ?_
    cases hf
    exact J4 _ _ _ S (lv_sub hl [] rfl)
  · have hf := (if_neg c5).symm.trans hf
    refine lv_aload_n hx hb dX5_what_7 rfl (lv_at hl 0 rfl) ?_
    refine gfX5_9 X S hN kd_s191 dX5_what_8 ?_
    refine lv_iload_n hx hb dX5_what_11 rfl (lv_at hl 1 rfl) ?_
    obtain ⟨v6, hv6, hf⟩ := g_s1 hf
    refine g_iald X S (kd_N kd_s192 (by decide) hN) (ceC_130 kd_s192) hv6 dX5_what_12 ?_
    refine lv_goto (tgt := 17) hx hb dX5_what_13 (by decide) ?_
    cases hf
    exact J4 _ _ _ S (lv_sub hl [] rfl)

noncomputable def f_X5_trackOfItem (σ : gSt) (a0 : Int32) : Option (Int32) :=
  (g_k1 (f_X5_isItem σ a0) fun v1 => (g_k1 (if v1 = 0 then some (0 : Int32) else (g_k1 (gald σ 193 30 a0) fun v6 => some v6)) fun x2 => some x2))
set_option maxRecDepth 100000 in
set_option maxHeartbeats 4000000 in
theorem c_X5_trackOfItem (l : Launch) {Γ : gG} {ad : Nat → Nat} {N : Nat} (hN : 202 ≤ N) {σ : gSt} {a0 : Int32}  {r : Int32} (hf : f_X5_trackOfItem σ a0 = some r) : gMi l celC Γ ad N yX5_trackOfItem cX5_trackOfItem 2 (some .int) (gR 2 0 0) [.ref (ad 191), .int a0] σ r σ := by
  intro sz
  refine gOf (Qc := fun sz => gQci celC Γ ad N r σ sz) RX5 (by decide) rfl (by decide) (fun p e s m args below meth c H locs ls X S hl => ?_)
  have hl : lv_has ls 2 [(0, .ref (ad 191)), (1, .int a0)] := hl
  have hx := X.1
  have hb := X.2.1
  unfold f_X5_trackOfItem at hf
  refine lv_iload_n hx hb dX5_trackOfItem_0 rfl (lv_at hl 1 rfl) ?_
  obtain ⟨v1, hv1, hf⟩ := g_s1 hf
  refine g_ki S (g_runS (rest := []) X S (c_X5_isItem l hN  hv1 _) csX5_isItem mlX5_47 rfl rfl hl.1 (by decide) ⟨⟨rfl, rfl⟩, ⟨Nat.le_of_ble_eq_true rfl, Nat.le_of_ble_eq_true rfl⟩, Nat.le_of_ble_eq_true rfl, Nat.le_of_ble_eq_true rfl⟩ dX5_trackOfItem_1) (fun H locs S => ?_)
  obtain ⟨x2, hr3, hf⟩ := g_s1 hf
  have J4 : ∀ (H : Heap) (locs : List Loc) (ls : Array Slot), gS celC Γ ad N σ s H locs → lv_has ls 2 [] → W p l e (gR 2 0 0) s m args below meth c H locs 0 0 (gQi celC Γ ad N r σ below args s) (F0 m 17 ls [.int x2]) := by
    intro H locs ls S hl
    cases hf
    exact g_reti X S rfl dX5_trackOfItem_17
  replace hf := hr3
  refine lv_if_eq (tgt := 16) hx hb dX5_trackOfItem_4 (by decide) (fun c5 => ?_) (fun c5 => ?_)
  · have hf := (if_pos c5).symm.trans hf
    refine lv_iconst (v := (0 : Int32)) hx hb dX5_trackOfItem_16 (by decide) ?_
    cases hf
    exact J4 _ _ _ S (lv_sub hl [] rfl)
  · have hf := (if_neg c5).symm.trans hf
    refine lv_aload_n hx hb dX5_trackOfItem_7 rfl (lv_at hl 0 rfl) ?_
    refine gfX5_15 X S hN kd_s191 dX5_trackOfItem_8 ?_
    refine lv_iload_n hx hb dX5_trackOfItem_11 rfl (lv_at hl 1 rfl) ?_
    obtain ⟨v6, hv6, hf⟩ := g_s1 hf
    refine g_iald X S (kd_N kd_s193 (by decide) hN) (ceC_130 kd_s193) hv6 dX5_trackOfItem_12 ?_
    refine lv_goto (tgt := 17) hx hb dX5_trackOfItem_13 (by decide) ?_
    cases hf
    exact J4 _ _ _ S (lv_sub hl [] rfl)

noncomputable def f_X5_kind (σ : gSt) (a0 : Int32) : Option (Int32) :=
  (g_k1 (f_X5_isItem σ a0) fun v1 => (g_k1 (if v1 = 0 then some (0 : Int32) else (g_k1 (gald σ 194 30 a0) fun v6 => some v6)) fun x2 => some x2))
set_option maxRecDepth 100000 in
set_option maxHeartbeats 4000000 in
theorem c_X5_kind (l : Launch) {Γ : gG} {ad : Nat → Nat} {N : Nat} (hN : 202 ≤ N) {σ : gSt} {a0 : Int32}  {r : Int32} (hf : f_X5_kind σ a0 = some r) : gMi l celC Γ ad N yX5_kind cX5_kind 2 (some .int) (gR 2 0 0) [.ref (ad 191), .int a0] σ r σ := by
  intro sz
  refine gOf (Qc := fun sz => gQci celC Γ ad N r σ sz) RX5 (by decide) rfl (by decide) (fun p e s m args below meth c H locs ls X S hl => ?_)
  have hl : lv_has ls 2 [(0, .ref (ad 191)), (1, .int a0)] := hl
  have hx := X.1
  have hb := X.2.1
  unfold f_X5_kind at hf
  refine lv_iload_n hx hb dX5_kind_0 rfl (lv_at hl 1 rfl) ?_
  obtain ⟨v1, hv1, hf⟩ := g_s1 hf
  refine g_ki S (g_runS (rest := []) X S (c_X5_isItem l hN  hv1 _) csX5_isItem mlX5_47 rfl rfl hl.1 (by decide) ⟨⟨rfl, rfl⟩, ⟨Nat.le_of_ble_eq_true rfl, Nat.le_of_ble_eq_true rfl⟩, Nat.le_of_ble_eq_true rfl, Nat.le_of_ble_eq_true rfl⟩ dX5_kind_1) (fun H locs S => ?_)
  obtain ⟨x2, hr3, hf⟩ := g_s1 hf
  have J4 : ∀ (H : Heap) (locs : List Loc) (ls : Array Slot), gS celC Γ ad N σ s H locs → lv_has ls 2 [] → W p l e (gR 2 0 0) s m args below meth c H locs 0 0 (gQi celC Γ ad N r σ below args s) (F0 m 17 ls [.int x2]) := by
    intro H locs ls S hl
    cases hf
    exact g_reti X S rfl dX5_kind_17
  replace hf := hr3
  refine lv_if_eq (tgt := 16) hx hb dX5_kind_4 (by decide) (fun c5 => ?_) (fun c5 => ?_)
  · have hf := (if_pos c5).symm.trans hf
    refine lv_iconst (v := (0 : Int32)) hx hb dX5_kind_16 (by decide) ?_
    cases hf
    exact J4 _ _ _ S (lv_sub hl [] rfl)
  · have hf := (if_neg c5).symm.trans hf
    refine lv_aload_n hx hb dX5_kind_7 rfl (lv_at hl 0 rfl) ?_
    refine gfX5_18 X S hN kd_s191 dX5_kind_8 ?_
    refine lv_iload_n hx hb dX5_kind_11 rfl (lv_at hl 1 rfl) ?_
    obtain ⟨v6, hv6, hf⟩ := g_s1 hf
    refine g_iald X S (kd_N kd_s194 (by decide) hN) (ceC_130 kd_s194) hv6 dX5_kind_12 ?_
    refine lv_goto (tgt := 17) hx hb dX5_kind_13 (by decide) ?_
    cases hf
    exact J4 _ _ _ S (lv_sub hl [] rfl)

noncomputable def f_X5_first (σ : gSt) (a0 : Int32) : Option (Int32) :=
  (g_k1 (f_X5_isItem σ a0) fun v1 => (g_k1 (if v1 = 0 then some (0 : Int32) else (g_k1 (gald σ 195 30 a0) fun v6 => some v6)) fun x2 => some x2))
set_option maxRecDepth 100000 in
set_option maxHeartbeats 4000000 in
theorem c_X5_first (l : Launch) {Γ : gG} {ad : Nat → Nat} {N : Nat} (hN : 202 ≤ N) {σ : gSt} {a0 : Int32}  {r : Int32} (hf : f_X5_first σ a0 = some r) : gMi l celC Γ ad N yX5_first cX5_first 2 (some .int) (gR 2 0 0) [.ref (ad 191), .int a0] σ r σ := by
  intro sz
  refine gOf (Qc := fun sz => gQci celC Γ ad N r σ sz) RX5 (by decide) rfl (by decide) (fun p e s m args below meth c H locs ls X S hl => ?_)
  have hl : lv_has ls 2 [(0, .ref (ad 191)), (1, .int a0)] := hl
  have hx := X.1
  have hb := X.2.1
  unfold f_X5_first at hf
  refine lv_iload_n hx hb dX5_first_0 rfl (lv_at hl 1 rfl) ?_
  obtain ⟨v1, hv1, hf⟩ := g_s1 hf
  refine g_ki S (g_runS (rest := []) X S (c_X5_isItem l hN  hv1 _) csX5_isItem mlX5_47 rfl rfl hl.1 (by decide) ⟨⟨rfl, rfl⟩, ⟨Nat.le_of_ble_eq_true rfl, Nat.le_of_ble_eq_true rfl⟩, Nat.le_of_ble_eq_true rfl, Nat.le_of_ble_eq_true rfl⟩ dX5_first_1) (fun H locs S => ?_)
  obtain ⟨x2, hr3, hf⟩ := g_s1 hf
  have J4 : ∀ (H : Heap) (locs : List Loc) (ls : Array Slot), gS celC Γ ad N σ s H locs → lv_has ls 2 [] → W p l e (gR 2 0 0) s m args below meth c H locs 0 0 (gQi celC Γ ad N r σ below args s) (F0 m 17 ls [.int x2]) := by
    intro H locs ls S hl
    cases hf
    exact g_reti X S rfl dX5_first_17
  replace hf := hr3
  refine lv_if_eq (tgt := 16) hx hb dX5_first_4 (by decide) (fun c5 => ?_) (fun c5 => ?_)
  · have hf := (if_pos c5).symm.trans hf
    refine lv_iconst (v := (0 : Int32)) hx hb dX5_first_16 (by decide) ?_
    cases hf
    exact J4 _ _ _ S (lv_sub hl [] rfl)
  · have hf := (if_neg c5).symm.trans hf
    refine lv_aload_n hx hb dX5_first_7 rfl (lv_at hl 0 rfl) ?_
    refine gfX5_21 X S hN kd_s191 dX5_first_8 ?_
    refine lv_iload_n hx hb dX5_first_11 rfl (lv_at hl 1 rfl) ?_
    obtain ⟨v6, hv6, hf⟩ := g_s1 hf
    refine g_iald X S (kd_N kd_s195 (by decide) hN) (ceC_130 kd_s195) hv6 dX5_first_12 ?_
    refine lv_goto (tgt := 17) hx hb dX5_first_13 (by decide) ?_
    cases hf
    exact J4 _ _ _ S (lv_sub hl [] rfl)

noncomputable def f_X5_end (σ : gSt) (a0 : Int32) : Option (Int32) :=
  (g_k1 (f_X5_isItem σ a0) fun v1 => (g_k1 (if v1 = 0 then some (0 : Int32) else (g_k1 (gald σ 196 30 a0) fun v6 => some v6)) fun x2 => some x2))
set_option maxRecDepth 100000 in
set_option maxHeartbeats 4000000 in
theorem c_X5_end (l : Launch) {Γ : gG} {ad : Nat → Nat} {N : Nat} (hN : 202 ≤ N) {σ : gSt} {a0 : Int32}  {r : Int32} (hf : f_X5_end σ a0 = some r) : gMi l celC Γ ad N yX5_end cX5_end 2 (some .int) (gR 2 0 0) [.ref (ad 191), .int a0] σ r σ := by
  intro sz
  refine gOf (Qc := fun sz => gQci celC Γ ad N r σ sz) RX5 (by decide) rfl (by decide) (fun p e s m args below meth c H locs ls X S hl => ?_)
  have hl : lv_has ls 2 [(0, .ref (ad 191)), (1, .int a0)] := hl
  have hx := X.1
  have hb := X.2.1
  unfold f_X5_end at hf
  refine lv_iload_n hx hb dX5_end_0 rfl (lv_at hl 1 rfl) ?_
  obtain ⟨v1, hv1, hf⟩ := g_s1 hf
  refine g_ki S (g_runS (rest := []) X S (c_X5_isItem l hN  hv1 _) csX5_isItem mlX5_47 rfl rfl hl.1 (by decide) ⟨⟨rfl, rfl⟩, ⟨Nat.le_of_ble_eq_true rfl, Nat.le_of_ble_eq_true rfl⟩, Nat.le_of_ble_eq_true rfl, Nat.le_of_ble_eq_true rfl⟩ dX5_end_1) (fun H locs S => ?_)
  obtain ⟨x2, hr3, hf⟩ := g_s1 hf
  have J4 : ∀ (H : Heap) (locs : List Loc) (ls : Array Slot), gS celC Γ ad N σ s H locs → lv_has ls 2 [] → W p l e (gR 2 0 0) s m args below meth c H locs 0 0 (gQi celC Γ ad N r σ below args s) (F0 m 17 ls [.int x2]) := by
    intro H locs ls S hl
    cases hf
    exact g_reti X S rfl dX5_end_17
  replace hf := hr3
  refine lv_if_eq (tgt := 16) hx hb dX5_end_4 (by decide) (fun c5 => ?_) (fun c5 => ?_)
  · have hf := (if_pos c5).symm.trans hf
    refine lv_iconst (v := (0 : Int32)) hx hb dX5_end_16 (by decide) ?_
    cases hf
    exact J4 _ _ _ S (lv_sub hl [] rfl)
  · have hf := (if_neg c5).symm.trans hf
    refine lv_aload_n hx hb dX5_end_7 rfl (lv_at hl 0 rfl) ?_
    refine gfX5_24 X S hN kd_s191 dX5_end_8 ?_
    refine lv_iload_n hx hb dX5_end_11 rfl (lv_at hl 1 rfl) ?_
    obtain ⟨v6, hv6, hf⟩ := g_s1 hf
    refine g_iald X S (kd_N kd_s196 (by decide) hN) (ceC_130 kd_s196) hv6 dX5_end_12 ?_
    refine lv_goto (tgt := 17) hx hb dX5_end_13 (by decide) ?_
    cases hf
    exact J4 _ _ _ S (lv_sub hl [] rfl)

noncomputable def f_X5_wordsFrom (σ : gSt) (a0 : Int32) : Option (Int32) :=
  (g_k1 (f_X5_isItem σ a0) fun v1 => (g_k1 (if v1 = 0 then some (0 : Int32) else (g_k1 (gald σ 197 30 a0) fun v6 => some v6)) fun x2 => some x2))
set_option maxRecDepth 100000 in
set_option maxHeartbeats 4000000 in
theorem c_X5_wordsFrom (l : Launch) {Γ : gG} {ad : Nat → Nat} {N : Nat} (hN : 202 ≤ N) {σ : gSt} {a0 : Int32}  {r : Int32} (hf : f_X5_wordsFrom σ a0 = some r) : gMi l celC Γ ad N yX5_wordsFrom cX5_wordsFrom 2 (some .int) (gR 2 0 0) [.ref (ad 191), .int a0] σ r σ := by
  intro sz
  refine gOf (Qc := fun sz => gQci celC Γ ad N r σ sz) RX5 (by decide) rfl (by decide) (fun p e s m args below meth c H locs ls X S hl => ?_)
  have hl : lv_has ls 2 [(0, .ref (ad 191)), (1, .int a0)] := hl
  have hx := X.1
  have hb := X.2.1
  unfold f_X5_wordsFrom at hf
  refine lv_iload_n hx hb dX5_wordsFrom_0 rfl (lv_at hl 1 rfl) ?_
  obtain ⟨v1, hv1, hf⟩ := g_s1 hf
  refine g_ki S (g_runS (rest := []) X S (c_X5_isItem l hN  hv1 _) csX5_isItem mlX5_47 rfl rfl hl.1 (by decide) ⟨⟨rfl, rfl⟩, ⟨Nat.le_of_ble_eq_true rfl, Nat.le_of_ble_eq_true rfl⟩, Nat.le_of_ble_eq_true rfl, Nat.le_of_ble_eq_true rfl⟩ dX5_wordsFrom_1) (fun H locs S => ?_)
  obtain ⟨x2, hr3, hf⟩ := g_s1 hf
  have J4 : ∀ (H : Heap) (locs : List Loc) (ls : Array Slot), gS celC Γ ad N σ s H locs → lv_has ls 2 [] → W p l e (gR 2 0 0) s m args below meth c H locs 0 0 (gQi celC Γ ad N r σ below args s) (F0 m 17 ls [.int x2]) := by
    intro H locs ls S hl
    cases hf
    exact g_reti X S rfl dX5_wordsFrom_17
  replace hf := hr3
  refine lv_if_eq (tgt := 16) hx hb dX5_wordsFrom_4 (by decide) (fun c5 => ?_) (fun c5 => ?_)
  · have hf := (if_pos c5).symm.trans hf
    refine lv_iconst (v := (0 : Int32)) hx hb dX5_wordsFrom_16 (by decide) ?_
    cases hf
    exact J4 _ _ _ S (lv_sub hl [] rfl)
  · have hf := (if_neg c5).symm.trans hf
    refine lv_aload_n hx hb dX5_wordsFrom_7 rfl (lv_at hl 0 rfl) ?_
    refine gfX5_27 X S hN kd_s191 dX5_wordsFrom_8 ?_
    refine lv_iload_n hx hb dX5_wordsFrom_11 rfl (lv_at hl 1 rfl) ?_
    obtain ⟨v6, hv6, hf⟩ := g_s1 hf
    refine g_iald X S (kd_N kd_s197 (by decide) hN) (ceC_130 kd_s197) hv6 dX5_wordsFrom_12 ?_
    refine lv_goto (tgt := 17) hx hb dX5_wordsFrom_13 (by decide) ?_
    cases hf
    exact J4 _ _ _ S (lv_sub hl [] rfl)

noncomputable def f_X5_wordsTo (σ : gSt) (a0 : Int32) : Option (Int32) :=
  (g_k1 (f_X5_isItem σ a0) fun v1 => (g_k1 (if v1 = 0 then some (0 : Int32) else (g_k1 (gald σ 198 30 a0) fun v6 => some v6)) fun x2 => some x2))
set_option maxRecDepth 100000 in
set_option maxHeartbeats 4000000 in
theorem c_X5_wordsTo (l : Launch) {Γ : gG} {ad : Nat → Nat} {N : Nat} (hN : 202 ≤ N) {σ : gSt} {a0 : Int32}  {r : Int32} (hf : f_X5_wordsTo σ a0 = some r) : gMi l celC Γ ad N yX5_wordsTo cX5_wordsTo 2 (some .int) (gR 2 0 0) [.ref (ad 191), .int a0] σ r σ := by
  intro sz
  refine gOf (Qc := fun sz => gQci celC Γ ad N r σ sz) RX5 (by decide) rfl (by decide) (fun p e s m args below meth c H locs ls X S hl => ?_)
  have hl : lv_has ls 2 [(0, .ref (ad 191)), (1, .int a0)] := hl
  have hx := X.1
  have hb := X.2.1
  unfold f_X5_wordsTo at hf
  refine lv_iload_n hx hb dX5_wordsTo_0 rfl (lv_at hl 1 rfl) ?_
  obtain ⟨v1, hv1, hf⟩ := g_s1 hf
  refine g_ki S (g_runS (rest := []) X S (c_X5_isItem l hN  hv1 _) csX5_isItem mlX5_47 rfl rfl hl.1 (by decide) ⟨⟨rfl, rfl⟩, ⟨Nat.le_of_ble_eq_true rfl, Nat.le_of_ble_eq_true rfl⟩, Nat.le_of_ble_eq_true rfl, Nat.le_of_ble_eq_true rfl⟩ dX5_wordsTo_1) (fun H locs S => ?_)
  obtain ⟨x2, hr3, hf⟩ := g_s1 hf
  have J4 : ∀ (H : Heap) (locs : List Loc) (ls : Array Slot), gS celC Γ ad N σ s H locs → lv_has ls 2 [] → W p l e (gR 2 0 0) s m args below meth c H locs 0 0 (gQi celC Γ ad N r σ below args s) (F0 m 17 ls [.int x2]) := by
    intro H locs ls S hl
    cases hf
    exact g_reti X S rfl dX5_wordsTo_17
  replace hf := hr3
  refine lv_if_eq (tgt := 16) hx hb dX5_wordsTo_4 (by decide) (fun c5 => ?_) (fun c5 => ?_)
  · have hf := (if_pos c5).symm.trans hf
    refine lv_iconst (v := (0 : Int32)) hx hb dX5_wordsTo_16 (by decide) ?_
    cases hf
    exact J4 _ _ _ S (lv_sub hl [] rfl)
  · have hf := (if_neg c5).symm.trans hf
    refine lv_aload_n hx hb dX5_wordsTo_7 rfl (lv_at hl 0 rfl) ?_
    refine gfX5_30 X S hN kd_s191 dX5_wordsTo_8 ?_
    refine lv_iload_n hx hb dX5_wordsTo_11 rfl (lv_at hl 1 rfl) ?_
    obtain ⟨v6, hv6, hf⟩ := g_s1 hf
    refine g_iald X S (kd_N kd_s198 (by decide) hN) (ceC_130 kd_s198) hv6 dX5_wordsTo_12 ?_
    refine lv_goto (tgt := 17) hx hb dX5_wordsTo_13 (by decide) ?_
    cases hf
    exact J4 _ _ _ S (lv_sub hl [] rfl)

noncomputable def f_X5_takeSign (σ : gSt) (a0 : Int32) : Option (Int32 × gSt) :=
  (if gkd ((σ 191 9).toNatClampNeg) = 7 then (g_k1 (f_X7_signAt σ ((σ 191 9).toNatClampNeg) (σ 191 8)) fun v2 => (if v2 = a0 then (g_k1 (gset σ 191 8 ((σ 191 8) + (1 : Int32))) fun σ4 => some ((1 : Int32), σ4)) else some ((0 : Int32), σ))) else none)
set_option maxRecDepth 100000 in
set_option maxHeartbeats 4000000 in
theorem c_X5_takeSign (l : Launch) {Γ : gG} {ad : Nat → Nat} {N : Nat} (hN : 202 ≤ N) {σ : gSt} {a0 : Int32}  {r : Int32} {σ' : gSt} (hf : f_X5_takeSign σ a0 = some (r, σ')) : gMi l celC Γ ad N yX5_takeSign cX5_takeSign 2 (some .boolean) (gR 2 0 0) [.ref (ad 191), .int a0] σ r σ' := by
  intro sz
  refine gOf (Qc := fun sz => gQci celC Γ ad N r σ' sz) RX5 (by decide) rfl (by decide) (fun p e s m args below meth c H locs ls X S hl => ?_)
  have hl : lv_has ls 2 [(0, .ref (ad 191)), (1, .int a0)] := hl
  have hx := X.1
  have hb := X.2.1
  unfold f_X5_takeSign at hf
  refine lv_aload_n hx hb dX5_takeSign_0 rfl (lv_at hl 0 rfl) ?_
  refine gfX5_43 X S hN kd_s191 dX5_takeSign_1 ?_
  obtain ⟨hk1, hf⟩ := g_if hf
  refine lv_aload_n hx hb dX5_takeSign_4 rfl (lv_at hl 0 rfl) ?_
  refine gfX5_37 X S hN kd_s191 dX5_takeSign_5 ?_
  obtain ⟨v2, hv2, hf⟩ := g_s1 hf
  refine g_ki S (g_runV (rest := []) X S (c_X7_signAt l hN hk1 hv2 _) cvX7_signAt mlX5_78 (kd_N hk1 (by decide) hN) (ceC_7 hk1 _) rfl rfl rfl hl.1 (by decide) ⟨⟨rfl, rfl⟩, ⟨Nat.le_of_ble_eq_true rfl, Nat.le_of_ble_eq_true rfl⟩, Nat.le_of_ble_eq_true rfl, Nat.le_of_ble_eq_true rfl⟩ dX5_takeSign_8) (fun H locs S => ?_)
  refine lv_iload_n hx hb dX5_takeSign_11 rfl (lv_at hl 1 rfl) ?_
  refine lv_icmp_eq (tgt := 17) hx hb dX5_takeSign_12 (by decide) (fun c3 => ?_) (fun c3 => ?_)
  · have hf := (if_pos c3).symm.trans hf
    refine lv_aload_n hx hb dX5_takeSign_17 rfl (lv_at hl 0 rfl) ?_
    refine lv_dup hx hb dX5_takeSign_18 rfl ?_
    refine gfX5_37 X S hN kd_s191 dX5_takeSign_19 ?_
    refine lv_iconst (v := (1 : Int32)) hx hb dX5_takeSign_22 (by decide) ?_
    refine lv_iadd hx hb dX5_takeSign_23 ?_
    obtain ⟨σ4, hσ4, hf⟩ := g_s1 hf
    refine pfX5_37 X S hN kd_s191 hσ4 dX5_takeSign_24 (fun H locs S => ?_)
    refine lv_iconst (v := (1 : Int32)) hx hb dX5_takeSign_27 (by decide) ?_
    cases hf
    exact g_reti X S (by decide +kernel) dX5_takeSign_28
  · have hf := (if_neg c3).symm.trans hf
    refine lv_iconst (v := (0 : Int32)) hx hb dX5_takeSign_15 (by decide) ?_
    cases hf
    exact g_reti X S (by decide +kernel) dX5_takeSign_16

noncomputable def f_X5_isDigit (σ : gSt) (a0 : Int32) : Option (Int32) :=
  (g_k1 (if a0 < (48 : Int32) then some (0 : Int32) else (if (57 : Int32) < a0 then some (0 : Int32) else some (1 : Int32))) fun x1 => (g_k1 (gzb x1) fun v4 => some v4))
set_option maxRecDepth 100000 in
set_option maxHeartbeats 4000000 in
theorem c_X5_isDigit (l : Launch) {Γ : gG} {ad : Nat → Nat} {N : Nat} (hN : 202 ≤ N) {σ : gSt} {a0 : Int32}  {r : Int32} (hf : f_X5_isDigit σ a0 = some r) : gMi l celC Γ ad N yX5_isDigit cX5_isDigit 1 (some .boolean) (gR 1 0 0) [.int a0] σ r σ := by
  intro sz
  refine gOf (Qc := fun sz => gQci celC Γ ad N r σ sz) RX5 (by decide) rfl (by decide) (fun p e s m args below meth c H locs ls X S hl => ?_)
  have hl : lv_has ls 1 [(0, .int a0)] := hl
  have hx := X.1
  have hb := X.2.1
  unfold f_X5_isDigit at hf
  refine lv_iload_n hx hb dX5_isDigit_0 rfl (lv_at hl 0 rfl) ?_
  refine lv_bipush (v := (48 : Int32)) hx hb dX5_isDigit_1 (by decide) ?_
  obtain ⟨x1, hr2, hf⟩ := g_s1 hf
  have J3 : ∀ (H : Heap) (locs : List Loc) (ls : Array Slot), gS celC Γ ad N σ s H locs → lv_has ls 1 [] → W p l e (gR 1 0 0) s m args below meth c H locs 0 0 (gQi celC Γ ad N r σ below args s) (F0 m 17 ls [.int x1]) := by
    intro H locs ls S hl
    obtain ⟨v4, hv4, hf⟩ := g_s1 hf
    obtain ⟨hnv4, rfl⟩ := gzb_some hv4
    cases hf
    exact g_reti X S hnv4 dX5_isDigit_17
  replace hf := hr2
  refine lv_icmp_lt (tgt := 16) hx hb dX5_isDigit_3 (by decide) (fun c5 => ?_) (fun c5 => ?_)
  · have hf := (if_pos c5).symm.trans hf
    refine lv_iconst (v := (0 : Int32)) hx hb dX5_isDigit_16 (by decide) ?_
    cases hf
    exact J3 _ _ _ S (lv_sub hl [] rfl)
  · have hf := (if_neg c5).symm.trans hf
    refine lv_iload_n hx hb dX5_isDigit_6 rfl (lv_at hl 0 rfl) ?_
    refine lv_bipush (v := (57 : Int32)) hx hb dX5_isDigit_7 (by decide) ?_
    refine lv_icmp_gt (tgt := 16) hx hb dX5_isDigit_9 (by decide) (fun c6 => ?_) (fun c6 => ?_)
    · have hf := (if_pos c6).symm.trans hf
      refine lv_iconst (v := (0 : Int32)) hx hb dX5_isDigit_16 (by decide) ?_
      cases hf
      exact J3 _ _ _ S (lv_sub hl [] rfl)
    · have hf := (if_neg c6).symm.trans hf
      refine lv_iconst (v := (1 : Int32)) hx hb dX5_isDigit_12 (by decide) ?_
      refine lv_goto (tgt := 17) hx hb dX5_isDigit_13 (by decide) ?_
      cases hf
      exact J3 _ _ _ S (lv_sub hl [] rfl)

noncomputable def f_X5_readNumber_l1 (σ : gSt) : Nat → Int32 → Int32 → gSt → Option (Int32 × Int32 × gSt)
  | 0, _, _, _ => none
  | n + 1, i1, i2, σ3 => (if (4 : Int32) ≤ i1 then some (i1, i2, σ3) else (if gkd ((σ3 191 9).toNatClampNeg) = 7 then (g_k1 (f_X7_signAt σ3 ((σ3 191 9).toNatClampNeg) (σ3 191 8)) fun v9 => (g_k1 (f_X5_isDigit σ3 v9) fun v10 => (if v10 = 0 then some (i1, i2, σ3) else (if gkd ((σ3 191 9).toNatClampNeg) = 7 then (g_k1 (f_X7_signAt σ3 ((σ3 191 9).toNatClampNeg) (σ3 191 8)) fun v13 => (g_k1 (gset σ3 191 8 ((σ3 191 8) + (1 : Int32))) fun σ14 => (f_X5_readNumber_l1 σ n (i1 + 1) (((i2 * (10 : Int32)) + v13) - (48 : Int32)) σ14))) else none)))) else none))
set_option maxRecDepth 100000 in
set_option maxHeartbeats 4000000 in
theorem w_X5_readNumber_l1 {l : Launch} {Γ : gG} {ad : Nat → Nat} {N : Nat} {p : Program} {e : Env} {s : State} {m : MethodId} {args : Array Value} {below : List Frame} {meth : Method} {c : Code} {Q : State → Prop} (hN : 202 ≤ N) (X : gX celC Γ ad N RX5 cX5_readNumber 3 (some .int) p s m args meth c) {σ : gSt}  : ∀ (n : Nat) (i1 : Int32) (i2 : Int32) (σ3 : gSt) (r4 : Int32) (r5 : Int32) (σ6 : gSt), f_X5_readNumber_l1 σ n i1 i2 σ3 = some (r4, r5, σ6) → (∀ (H : Heap) (locs : List Loc) (ls : Array Slot), gS celC Γ ad N σ6 s H locs → lv_has ls 3 [(2, .int r4), (1, .int r5)] → W p l e (gR 2 0 0) s m args below meth c H locs 0 0 (Q) (F0 m 62 ls [])) → ∀ (H : Heap) (locs : List Loc) (ls : Array Slot), gS celC Γ ad N σ3 s H locs → lv_has ls 3 [(2, .int i1), (1, .int i2), (0, .ref (ad 191))] → W p l e (gR 2 0 0) s m args below meth c H locs 0 0 (Q) (F0 m 4 ls []) := by
  have hx := X.1
  have hb := X.2.1
  intro n
  induction n with
  | zero =>
    intro i1 i2 σ3 r4 r5 σ6 hf
    cases hf
  | succ n ih =>
    intro i1 i2 σ3 r4 r5 σ6 hf J H locs ls S hl
    rw [f_X5_readNumber_l1] at hf
    refine lv_iload_n hx hb dX5_readNumber_4 rfl (lv_at hl 0 rfl) ?_
    refine lv_iconst (v := (4 : Int32)) hx hb dX5_readNumber_5 (by decide) ?_
    refine lv_icmp_ge (tgt := 62) hx hb dX5_readNumber_6 (by decide) (fun c7 => ?_) (fun c7 => ?_)
    · have hf := (if_pos c7).symm.trans hf
      cases hf
      exact J _ _ _ S (lv_sub hl [0, 1] rfl)
    · have hf := (if_neg c7).symm.trans hf
      refine lv_aload_n hx hb dX5_readNumber_9 rfl (lv_at hl 2 rfl) ?_
      refine gfX5_43 X S hN kd_s191 dX5_readNumber_10 ?_
      obtain ⟨hk8, hf⟩ := g_if hf
      refine lv_aload_n hx hb dX5_readNumber_13 rfl (lv_at hl 2 rfl) ?_
      refine gfX5_37 X S hN kd_s191 dX5_readNumber_14 ?_
      obtain ⟨v9, hv9, hf⟩ := g_s1 hf
      refine g_ki S (g_runV (rest := []) X S (c_X7_signAt l hN hk8 hv9 _) cvX7_signAt mlX5_78 (kd_N hk8 (by decide) hN) (ceC_7 hk8 _) rfl rfl rfl hl.1 (by decide) ⟨⟨rfl, rfl⟩, ⟨Nat.le_of_ble_eq_true rfl, Nat.le_of_ble_eq_true rfl⟩, Nat.le_of_ble_eq_true rfl, Nat.le_of_ble_eq_true rfl⟩ dX5_readNumber_17) (fun H locs S => ?_)
      obtain ⟨v10, hv10, hf⟩ := g_s1 hf
      refine g_ki S (g_runS (rest := []) X S (c_X5_isDigit l hN  hv10 _) csX5_isDigit mlX5_82 rfl rfl hl.1 (by decide) ⟨⟨rfl, rfl⟩, ⟨Nat.le_of_ble_eq_true rfl, Nat.le_of_ble_eq_true rfl⟩, Nat.le_of_ble_eq_true rfl, Nat.le_of_ble_eq_true rfl⟩ dX5_readNumber_20) (fun H locs S => ?_)
      refine lv_if_eq (tgt := 62) hx hb dX5_readNumber_23 (by decide) (fun c11 => ?_) (fun c11 => ?_)
      · have hf := (if_pos c11).symm.trans hf
        cases hf
        exact J _ _ _ S (lv_sub hl [0, 1] rfl)
      · have hf := (if_neg c11).symm.trans hf
        refine lv_iload_n hx hb dX5_readNumber_26 rfl (lv_at hl 1 rfl) ?_
        refine lv_bipush (v := (10 : Int32)) hx hb dX5_readNumber_27 (by decide) ?_
        refine lv_imul hx hb dX5_readNumber_29 ?_
        refine lv_aload_n hx hb dX5_readNumber_30 rfl (lv_at hl 2 rfl) ?_
        refine gfX5_43 X S hN kd_s191 dX5_readNumber_31 ?_
        obtain ⟨hk12, hf⟩ := g_if hf
        refine lv_aload_n hx hb dX5_readNumber_34 rfl (lv_at hl 2 rfl) ?_
        refine gfX5_37 X S hN kd_s191 dX5_readNumber_35 ?_
        obtain ⟨v13, hv13, hf⟩ := g_s1 hf
        refine g_ki S (g_runV (rest := [.int (i2 * (10 : Int32))]) X S (c_X7_signAt l hN hk12 hv13 _) cvX7_signAt mlX5_78 (kd_N hk12 (by decide) hN) (ceC_7 hk12 _) rfl rfl rfl hl.1 (by decide) ⟨⟨rfl, rfl⟩, ⟨Nat.le_of_ble_eq_true rfl, Nat.le_of_ble_eq_true rfl⟩, Nat.le_of_ble_eq_true rfl, Nat.le_of_ble_eq_true rfl⟩ dX5_readNumber_38) (fun H locs S => ?_)
        refine lv_iadd hx hb dX5_readNumber_41 ?_
        refine lv_bipush (v := (48 : Int32)) hx hb dX5_readNumber_42 (by decide) ?_
        refine lv_isub hx hb dX5_readNumber_44 ?_
        refine lv_istore_n (lv' := [(1, .int (((i2 * (10 : Int32)) + v13) - (48 : Int32))), (2, .int i1), (0, .ref (ad 191))]) hx hb dX5_readNumber_45 rfl hl (by decide) rfl (fun ls hl => ?_)
        refine lv_aload_n hx hb dX5_readNumber_46 rfl (lv_at hl 2 rfl) ?_
        refine lv_dup hx hb dX5_readNumber_47 rfl ?_
        refine gfX5_37 X S hN kd_s191 dX5_readNumber_48 ?_
        refine lv_iconst (v := (1 : Int32)) hx hb dX5_readNumber_51 (by decide) ?_
        refine lv_iadd hx hb dX5_readNumber_52 ?_
        obtain ⟨σ14, hσ14, hf⟩ := g_s1 hf
        refine pfX5_37 X S hN kd_s191 hσ14 dX5_readNumber_53 (fun H locs S => ?_)
        refine lv_iinc (v := (i1 + 1)) (lv' := [(2, .int (i1 + 1)), (1, .int (((i2 * (10 : Int32)) + v13) - (48 : Int32))), (0, .ref (ad 191))]) hx hb dX5_readNumber_56 hl (k := 1) rfl rfl (by decide) rfl (fun ls hl => ?_)
        refine lv_goto (tgt := 4) hx hb dX5_readNumber_59 (by decide) ?_
        exact ih _ _ _ _ _ _  hf J _ _ _ S (lv_sub hl [0, 1, 2] rfl)
noncomputable def f_X5_readNumber (σ : gSt)  : Option (Int32 × gSt) :=
  (g_k3 (f_X5_readNumber_l1 σ FU (0 : Int32) (0 : Int32) σ) fun r4 r5 σ6 => (g_k1 (if r4 ≤ 0 then some (-1 : Int32) else some r5) fun x16 => some (x16, σ6)))
set_option maxRecDepth 100000 in
set_option maxHeartbeats 4000000 in
theorem c_X5_readNumber (l : Launch) {Γ : gG} {ad : Nat → Nat} {N : Nat} (hN : 202 ≤ N) {σ : gSt}   {r : Int32} {σ' : gSt} (hf : f_X5_readNumber σ  = some (r, σ')) : gMi l celC Γ ad N yX5_readNumber cX5_readNumber 3 (some .int) (gR 2 0 0) [.ref (ad 191)] σ r σ' := by
  intro sz
  refine gOf (Qc := fun sz => gQci celC Γ ad N r σ' sz) RX5 (by decide) rfl (by decide) (fun p e s m args below meth c H locs ls X S hl => ?_)
  have hl : lv_has ls 3 [(2, .int (0 : Int32)), (1, .int (0 : Int32)), (0, .ref (ad 191))] := hl
  have hx := X.1
  have hb := X.2.1
  unfold f_X5_readNumber at hf
  refine lv_iconst (v := (0 : Int32)) hx hb dX5_readNumber_0 (by decide) ?_
  refine lv_istore_n (lv' := [(1, .int (0 : Int32)), (0, .ref (ad 191))]) hx hb dX5_readNumber_1 rfl hl (by decide) rfl (fun ls hl => ?_)
  refine lv_iconst (v := (0 : Int32)) hx hb dX5_readNumber_2 (by decide) ?_
  refine lv_istore_n (lv' := [(2, .int (0 : Int32)), (1, .int (0 : Int32)), (0, .ref (ad 191))]) hx hb dX5_readNumber_3 rfl hl (by decide) rfl (fun ls hl => ?_)
  obtain ⟨r4, r5, σ6, hr15, hf⟩ := g_s3 hf
  refine w_X5_readNumber_l1 hN X  FU _ _ _ _ _ _  hr15 (fun H locs ls S hl => ?_) _ _ _ S (lv_sub hl [0, 1, 2] rfl)
  refine lv_iload_n hx hb dX5_readNumber_62 rfl (lv_at hl 0 rfl) ?_
  obtain ⟨x16, hr17, hf⟩ := g_s1 hf
  have J18 : ∀ (H : Heap) (locs : List Loc) (ls : Array Slot), gS celC Γ ad N σ6 s H locs → lv_has ls 3 [] → W p l e (gR 2 0 0) s m args below meth c H locs 0 0 (gQi celC Γ ad N r σ' below args s) (F0 m 71 ls [.int x16]) := by
    intro H locs ls S hl
    cases hf
    exact g_reti X S rfl dX5_readNumber_71
  replace hf := hr17
  refine lv_if_le (tgt := 70) hx hb dX5_readNumber_63 (by decide) (fun c19 => ?_) (fun c19 => ?_)
  · have hf := (if_pos c19).symm.trans hf
    refine lv_iconst (v := (-1 : Int32)) hx hb dX5_readNumber_70 (by decide) ?_
    cases hf
    exact J18 _ _ _ S (lv_sub hl [] rfl)
  · have hf := (if_neg c19).symm.trans hf
    refine lv_iload_n hx hb dX5_readNumber_66 rfl (lv_at hl 1 rfl) ?_
    refine lv_goto (tgt := 71) hx hb dX5_readNumber_67 (by decide) ?_
    cases hf
    exact J18 _ _ _ S (lv_sub hl [] rfl)

noncomputable def f_X5_readCut (σ : gSt) (a0 : Int32) (a1 : Int32) : Option (Int32 × gSt) :=
  (g_k2 (f_X5_readNumber σ ) fun v1 σ2 => (if v1 = (-1 : Int32) then some ((0 : Int32), σ2) else (g_k1 (f_X5_isItem σ2 a0) fun v4 => (if v4 = 0 then some ((0 : Int32), σ2) else (g_k1 (gast σ2 192 30 a0 a1) fun σ6 => (g_k1 (gast σ6 195 30 a0 v1) fun σ7 => some ((1 : Int32), σ7)))))))
set_option maxRecDepth 100000 in
set_option maxHeartbeats 4000000 in
theorem c_X5_readCut (l : Launch) {Γ : gG} {ad : Nat → Nat} {N : Nat} (hN : 202 ≤ N) {σ : gSt} {a0 : Int32} {a1 : Int32}  {r : Int32} {σ' : gSt} (hf : f_X5_readCut σ a0 a1 = some (r, σ')) : gMi l celC Γ ad N yX5_readCut cX5_readCut 4 (some .boolean) (gR 3 0 0) [.ref (ad 191), .int a0, .int a1] σ r σ' := by
  intro sz
  refine gOf (Qc := fun sz => gQci celC Γ ad N r σ' sz) RX5 (by decide) rfl (by decide) (fun p e s m args below meth c H locs ls X S hl => ?_)
  have hl : lv_has ls 4 [(3, .int v1), (0, .ref (ad 191)), (1, .int a0), (2, .int a1)] := hl
  have hx := X.1
  have hb := X.2.1
  unfold f_X5_readCut at hf
  refine lv_aload_n hx hb dX5_readCut_0 rfl (lv_at hl 0 rfl) ?_
  obtain ⟨v1, σ2, hv1, hf⟩ := g_s2 hf
  refine g_ki S (g_runV (rest := []) X S (c_X5_readNumber l hN  hv1 _) cvX5_readNumber mlX5_67 (kd_N kd_s191 (by decide) hN) (ceC_5 kd_s191 _) rfl rfl rfl hl.1 (by decide) ⟨⟨rfl, rfl⟩, ⟨Nat.le_of_ble_eq_true rfl, Nat.le_of_ble_eq_true rfl⟩, Nat.le_of_ble_eq_true rfl, Nat.le_of_ble_eq_true rfl⟩ dX5_readCut_1) (fun H locs S => ?_)
  refine lv_istore_n (lv' := [(3, .int v1), (0, .ref (ad 191)), (1, .int a0), (2, .int a1)]) hx hb dX5_readCut_4 rfl hl (by decide) rfl (fun ls hl => ?_)
  refine lv_iload_n hx hb dX5_readCut_5 rfl (lv_at hl 0 rfl) ?_
  refine lv_iconst (v := (-1 : Int32)) hx hb dX5_readCut_6 (by decide) ?_
  refine lv_icmp_eq (tgt := 17) hx hb dX5_readCut_7 (by decide) (fun c3 => ?_) (fun c3 => ?_)
  · have hf := (if_pos c3).symm.trans hf
    refine lv_iconst (v := (0 : Int32)) hx hb dX5_readCut_17 (by decide) ?_
    cases hf
    exact g_reti X S (by decide +kernel) dX5_readCut_18
  · have hf := (if_neg c3).symm.trans hf
    refine lv_iload_n hx hb dX5_readCut_10 rfl (lv_at hl 2 rfl) ?_
    obtain ⟨v4, hv4, hf⟩ := g_s1 hf
    refine g_ki S (g_runS (rest := []) X S (c_X5_isItem l hN  hv4 _) csX5_isItem mlX5_47 rfl rfl hl.1 (by decide) ⟨⟨rfl, rfl⟩, ⟨Nat.le_of_ble_eq_true rfl, Nat.le_of_ble_eq_true rfl⟩, Nat.le_of_ble_eq_true rfl, Nat.le_of_ble_eq_true rfl⟩ dX5_readCut_11) (fun H locs S => ?_)
    refine lv_if_ne (tgt := 19) hx hb dX5_readCut_14 (by decide) (fun c5 => ?_) (fun c5 => ?_)
    · have hf := (if_neg c5).symm.trans hf
      refine lv_aload_n hx hb dX5_readCut_19 rfl (lv_at hl 1 rfl) ?_
      refine gfX5_9 X S hN kd_s191 dX5_readCut_20 ?_
      refine lv_iload_n hx hb dX5_readCut_23 rfl (lv_at hl 2 rfl) ?_
      refine lv_iload_n hx hb dX5_readCut_24 rfl (lv_at hl 3 rfl) ?_
      obtain ⟨σ6, hσ6, hf⟩ := g_s1 hf
      refine g_iast X S (kd_N kd_s192 (by decide) hN) (ceC_130 kd_s192) hσ6 dX5_readCut_25 (fun H locs S => ?_)
      refine lv_aload_n hx hb dX5_readCut_26 rfl (lv_at hl 1 rfl) ?_
      refine gfX5_21 X S hN kd_s191 dX5_readCut_27 ?_
      refine lv_iload_n hx hb dX5_readCut_30 rfl (lv_at hl 2 rfl) ?_
      refine lv_iload_n hx hb dX5_readCut_31 rfl (lv_at hl 0 rfl) ?_
      obtain ⟨σ7, hσ7, hf⟩ := g_s1 hf
      refine g_iast X S (kd_N kd_s195 (by decide) hN) (ceC_130 kd_s195) hσ7 dX5_readCut_32 (fun H locs S => ?_)
      refine lv_iconst (v := (1 : Int32)) hx hb dX5_readCut_33 (by decide) ?_
      cases hf
      exact g_reti X S (by decide +kernel) dX5_readCut_34
    · have hf := (if_pos c5).symm.trans hf
      refine lv_iconst (v := (0 : Int32)) hx hb dX5_readCut_17 (by decide) ?_
      cases hf
      exact g_reti X S (by decide +kernel) dX5_readCut_18

noncomputable def f_X5_takeOneOf (σ : gSt) (a0 : Int32) (a1 : Int32) (a2 : Int32) : Option (Int32 × gSt) :=
  (if gkd ((σ 191 9).toNatClampNeg) = 7 then (g_k1 (f_X7_signAt σ ((σ 191 9).toNatClampNeg) (σ 191 8)) fun v2 => (if v2 = (-1 : Int32) then some ((-1 : Int32), σ) else (g_k1 (if v2 = a0 then some (0 : Int32) else (if v2 = a1 then some (1 : Int32) else (if v2 = a2 then some (2 : Int32) else some (-1 : Int32)))) fun x4 => (g_k1 (if x4 = (-1 : Int32) then some σ else (g_k1 (gset σ 191 8 ((σ 191 8) + (1 : Int32))) fun σ11 => some σ11)) fun σ7 => some (x4, σ7))))) else none)
set_option maxRecDepth 100000 in
set_option maxHeartbeats 4000000 in
theorem c_X5_takeOneOf (l : Launch) {Γ : gG} {ad : Nat → Nat} {N : Nat} (hN : 202 ≤ N) {σ : gSt} {a0 : Int32} {a1 : Int32} {a2 : Int32}  {r : Int32} {σ' : gSt} (hf : f_X5_takeOneOf σ a0 a1 a2 = some (r, σ')) : gMi l celC Γ ad N yX5_takeOneOf cX5_takeOneOf 6 (some .int) (gR 2 0 0) [.ref (ad 191), .int a0, .int a1, .int a2] σ r σ' := by
  intro sz
  refine gOf (Qc := fun sz => gQci celC Γ ad N r σ' sz) RX5 (by decide) rfl (by decide) (fun p e s m args below meth c H locs ls X S hl => ?_)
  have hl : lv_has ls 6 [(4, .int v2), (0, .ref (ad 191)), (1, .int a0), (2, .int a1), (3, .int a2)] := hl
  have hx := X.1
  have hb := X.2.1
  unfold f_X5_takeOneOf at hf
  refine lv_aload_n hx hb dX5_takeOneOf_0 rfl (lv_at hl 0 rfl) ?_
  refine gfX5_43 X S hN kd_s191 dX5_takeOneOf_1 ?_
  obtain ⟨hk1, hf⟩ := g_if hf
  refine lv_aload_n hx hb dX5_takeOneOf_4 rfl (lv_at hl 0 rfl) ?_
  refine gfX5_37 X S hN kd_s191 dX5_takeOneOf_5 ?_
  obtain ⟨v2, hv2, hf⟩ := g_s1 hf
  refine g_ki S (g_runV (rest := []) X S (c_X7_signAt l hN hk1 hv2 _) cvX7_signAt mlX5_78 (kd_N hk1 (by decide) hN) (ceC_7 hk1 _) rfl rfl rfl hl.1 (by decide) ⟨⟨rfl, rfl⟩, ⟨Nat.le_of_ble_eq_true rfl, Nat.le_of_ble_eq_true rfl⟩, Nat.le_of_ble_eq_true rfl, Nat.le_of_ble_eq_true rfl⟩ dX5_takeOneOf_8) (fun H locs S => ?_)
  refine lv_istore (lv' := [(4, .int v2), (0, .ref (ad 191)), (1, .int a0), (2, .int a1), (3, .int a2)]) hx hb dX5_takeOneOf_11 hl (by decide) rfl (fun ls hl => ?_)
  refine lv_iload hx hb dX5_takeOneOf_13 (lv_at hl 0 rfl) ?_
  refine lv_iconst (v := (-1 : Int32)) hx hb dX5_takeOneOf_15 (by decide) ?_
  refine lv_icmp_ne (tgt := 21) hx hb dX5_takeOneOf_16 (by decide) (fun c3 => ?_) (fun c3 => ?_)
  · have hf := (if_neg c3).symm.trans hf
    refine lv_iload hx hb dX5_takeOneOf_21 (lv_at hl 0 rfl) ?_
    refine lv_iload_n hx hb dX5_takeOneOf_23 rfl (lv_at hl 2 rfl) ?_
    obtain ⟨x4, hr5, hf⟩ := g_s1 hf
    have J6 : ∀ (H : Heap) (locs : List Loc) (ls : Array Slot), gS celC Γ ad N σ s H locs → lv_has ls 6 [(0, .ref (ad 191))] → W p l e (gR 2 0 0) s m args below meth c H locs 0 0 (gQi celC Γ ad N r σ' below args s) (F0 m 52 ls [.int x4]) := by
      intro H locs ls S hl
      refine lv_istore (lv' := [(5, .int x4), (0, .ref (ad 191))]) hx hb dX5_takeOneOf_52 hl (by decide) rfl (fun ls hl => ?_)
      refine lv_iload hx hb dX5_takeOneOf_54 (lv_at hl 0 rfl) ?_
      refine lv_iconst (v := (-1 : Int32)) hx hb dX5_takeOneOf_56 (by decide) ?_
      obtain ⟨σ7, hr8, hf⟩ := g_s1 hf
      have J9 : ∀ (H : Heap) (locs : List Loc) (ls : Array Slot), gS celC Γ ad N σ7 s H locs → lv_has ls 6 [(5, .int x4)] → W p l e (gR 2 0 0) s m args below meth c H locs 0 0 (gQi celC Γ ad N r σ' below args s) (F0 m 70 ls []) := by
        intro H locs ls S hl
        refine lv_iload hx hb dX5_takeOneOf_70 (lv_at hl 0 rfl) ?_
        cases hf
        exact g_reti X S rfl dX5_takeOneOf_72
      replace hf := hr8
      refine lv_icmp_eq (tgt := 70) hx hb dX5_takeOneOf_57 (by decide) (fun c10 => ?_) (fun c10 => ?_)
      · have hf := (if_pos c10).symm.trans hf
        cases hf
        exact J9 _ _ _ S (lv_sub hl [0] rfl)
      · have hf := (if_neg c10).symm.trans hf
        refine lv_aload_n hx hb dX5_takeOneOf_60 rfl (lv_at hl 1 rfl) ?_
        refine lv_dup hx hb dX5_takeOneOf_61 rfl ?_
        refine gfX5_37 X S hN kd_s191 dX5_takeOneOf_62 ?_
        refine lv_iconst (v := (1 : Int32)) hx hb dX5_takeOneOf_65 (by decide) ?_
        refine lv_iadd hx hb dX5_takeOneOf_66 ?_
        obtain ⟨σ11, hσ11, hf⟩ := g_s1 hf
        refine pfX5_37 X S hN kd_s191 hσ11 dX5_takeOneOf_67 (fun H locs S => ?_)
        cases hf
        exact J9 _ _ _ S (lv_sub hl [0] rfl)
    replace hf := hr5
    refine lv_icmp_ne (tgt := 31) hx hb dX5_takeOneOf_24 (by decide) (fun c12 => ?_) (fun c12 => ?_)
    · have hf := (if_neg c12).symm.trans hf
      refine lv_iload hx hb dX5_takeOneOf_31 (lv_at hl 0 rfl) ?_
      refine lv_iload_n hx hb dX5_takeOneOf_33 rfl (lv_at hl 3 rfl) ?_
      refine lv_icmp_ne (tgt := 41) hx hb dX5_takeOneOf_34 (by decide) (fun c13 => ?_) (fun c13 => ?_)
      · have hf := (if_neg c13).symm.trans hf
        refine lv_iload hx hb dX5_takeOneOf_41 (lv_at hl 0 rfl) ?_
        refine lv_iload_n hx hb dX5_takeOneOf_43 rfl (lv_at hl 4 rfl) ?_
        refine lv_icmp_ne (tgt := 51) hx hb dX5_takeOneOf_44 (by decide) (fun c14 => ?_) (fun c14 => ?_)
        · have hf := (if_neg c14).symm.trans hf
          refine lv_iconst (v := (-1 : Int32)) hx hb dX5_takeOneOf_51 (by decide) ?_
          cases hf
          exact J6 _ _ _ S (lv_sub hl [1] rfl)
        · have hf := (if_pos c14).symm.trans hf
          refine lv_iconst (v := (2 : Int32)) hx hb dX5_takeOneOf_47 (by decide) ?_
          refine lv_goto (tgt := 52) hx hb dX5_takeOneOf_48 (by decide) ?_
          cases hf
          exact J6 _ _ _ S (lv_sub hl [1] rfl)
      · have hf := (if_pos c13).symm.trans hf
        refine lv_iconst (v := (1 : Int32)) hx hb dX5_takeOneOf_37 (by decide) ?_
        refine lv_goto (tgt := 52) hx hb dX5_takeOneOf_38 (by decide) ?_
        cases hf
        exact J6 _ _ _ S (lv_sub hl [1] rfl)
    · have hf := (if_pos c12).symm.trans hf
      refine lv_iconst (v := (0 : Int32)) hx hb dX5_takeOneOf_27 (by decide) ?_
      refine lv_goto (tgt := 52) hx hb dX5_takeOneOf_28 (by decide) ?_
      cases hf
      exact J6 _ _ _ S (lv_sub hl [1] rfl)
  · have hf := (if_pos c3).symm.trans hf
    refine lv_iconst (v := (-1 : Int32)) hx hb dX5_takeOneOf_19 (by decide) ?_
    cases hf
    exact g_reti X S rfl dX5_takeOneOf_20

noncomputable def f_X5_skipWords_l1 (σ : gSt) : Nat → Int32 → gSt → Option (gSt)
  | 0, _, _ => none
  | n + 1, i1, σ2 => (if (24 : Int32) ≤ i1 then some σ2 else (if gkd ((σ2 191 9).toNatClampNeg) = 7 then (g_k1 (f_X7_signAt σ2 ((σ2 191 9).toNatClampNeg) (σ2 191 8)) fun v6 => (g_k1 (f_X9_isWordSign σ2 v6) fun v7 => (if v7 = 0 then some σ2 else (g_k1 (gset σ2 191 8 ((σ2 191 8) + (1 : Int32))) fun σ9 => (f_X5_skipWords_l1 σ n (i1 + 1) σ9))))) else none))
set_option maxRecDepth 100000 in
set_option maxHeartbeats 4000000 in
theorem w_X5_skipWords_l1 {l : Launch} {Γ : gG} {ad : Nat → Nat} {N : Nat} {p : Program} {e : Env} {s : State} {m : MethodId} {args : Array Value} {below : List Frame} {meth : Method} {c : Code} {Q : State → Prop} (hN : 202 ≤ N) (X : gX celC Γ ad N RX5 cX5_skipWords 2 none p s m args meth c) {σ : gSt}  : ∀ (n : Nat) (i1 : Int32) (σ2 : gSt) (σ3 : gSt), f_X5_skipWords_l1 σ n i1 σ2 = some σ3 → (∀ (H : Heap) (locs : List Loc) (ls : Array Slot), gS celC Γ ad N σ3 s H locs → lv_has ls 2 [] → W p l e (gR 2 0 0) s m args below meth c H locs 0 0 (Q) (F0 m 41 ls [])) → ∀ (H : Heap) (locs : List Loc) (ls : Array Slot), gS celC Γ ad N σ2 s H locs → lv_has ls 2 [(1, .int i1), (0, .ref (ad 191))] → W p l e (gR 2 0 0) s m args below meth c H locs 0 0 (Q) (F0 m 2 ls []) := by
  have hx := X.1
  have hb := X.2.1
  intro n
  induction n with
  | zero =>
    intro i1 σ2 σ3 hf
    cases hf
  | succ n ih =>
    intro i1 σ2 σ3 hf J H locs ls S hl
    rw [f_X5_skipWords_l1] at hf
    refine lv_iload_n hx hb dX5_skipWords_2 rfl (lv_at hl 0 rfl) ?_
    refine lv_bipush (v := (24 : Int32)) hx hb dX5_skipWords_3 (by decide) ?_
    refine lv_icmp_ge (tgt := 41) hx hb dX5_skipWords_5 (by decide) (fun c4 => ?_) (fun c4 => ?_)
    · have hf := (if_pos c4).symm.trans hf
      cases hf
      exact J _ _ _ S (lv_sub hl [] rfl)
    · have hf := (if_neg c4).symm.trans hf
      refine lv_aload_n hx hb dX5_skipWords_8 rfl (lv_at hl 1 rfl) ?_
      refine gfX5_43 X S hN kd_s191 dX5_skipWords_9 ?_
      obtain ⟨hk5, hf⟩ := g_if hf
      refine lv_aload_n hx hb dX5_skipWords_12 rfl (lv_at hl 1 rfl) ?_
      refine gfX5_37 X S hN kd_s191 dX5_skipWords_13 ?_
      obtain ⟨v6, hv6, hf⟩ := g_s1 hf
      refine g_ki S (g_runV (rest := []) X S (c_X7_signAt l hN hk5 hv6 _) cvX7_signAt mlX5_78 (kd_N hk5 (by decide) hN) (ceC_7 hk5 _) rfl rfl rfl hl.1 (by decide) ⟨⟨rfl, rfl⟩, ⟨Nat.le_of_ble_eq_true rfl, Nat.le_of_ble_eq_true rfl⟩, Nat.le_of_ble_eq_true rfl, Nat.le_of_ble_eq_true rfl⟩ dX5_skipWords_16) (fun H locs S => ?_)
      obtain ⟨v7, hv7, hf⟩ := g_s1 hf
      refine g_ki S (g_runN (rest := []) X S (c_X9_isWordSign l hN  hv7 _) csX9_isWordSign mnX5_85 rfl rfl hl.1 (by decide) ⟨⟨rfl, rfl⟩, ⟨Nat.le_of_ble_eq_true rfl, Nat.le_of_ble_eq_true rfl⟩, Nat.le_of_ble_eq_true rfl, Nat.le_of_ble_eq_true rfl⟩ dX5_skipWords_19) (fun H locs S => ?_)
      refine lv_if_eq (tgt := 41) hx hb dX5_skipWords_22 (by decide) (fun c8 => ?_) (fun c8 => ?_)
      · have hf := (if_pos c8).symm.trans hf
        cases hf
        exact J _ _ _ S (lv_sub hl [] rfl)
      · have hf := (if_neg c8).symm.trans hf
        refine lv_aload_n hx hb dX5_skipWords_25 rfl (lv_at hl 1 rfl) ?_
        refine lv_dup hx hb dX5_skipWords_26 rfl ?_
        refine gfX5_37 X S hN kd_s191 dX5_skipWords_27 ?_
        refine lv_iconst (v := (1 : Int32)) hx hb dX5_skipWords_30 (by decide) ?_
        refine lv_iadd hx hb dX5_skipWords_31 ?_
        obtain ⟨σ9, hσ9, hf⟩ := g_s1 hf
        refine pfX5_37 X S hN kd_s191 hσ9 dX5_skipWords_32 (fun H locs S => ?_)
        refine lv_iinc (v := (i1 + 1)) (lv' := [(1, .int (i1 + 1)), (0, .ref (ad 191))]) hx hb dX5_skipWords_35 hl (k := 0) rfl rfl (by decide) rfl (fun ls hl => ?_)
        refine lv_goto (tgt := 2) hx hb dX5_skipWords_38 (by decide) ?_
        exact ih _ _ _  hf J _ _ _ S (lv_sub hl [0, 1] rfl)
noncomputable def f_X5_skipWords (σ : gSt)  : Option (gSt) :=
  (g_k1 (f_X5_skipWords_l1 σ FU (0 : Int32) σ) fun σ3 => some σ3)
set_option maxRecDepth 100000 in
set_option maxHeartbeats 4000000 in
theorem c_X5_skipWords (l : Launch) {Γ : gG} {ad : Nat → Nat} {N : Nat} (hN : 202 ≤ N) {σ : gSt}   {σ' : gSt} (hf : f_X5_skipWords σ  = some σ') : gMv l celC Γ ad N yX5_skipWords cX5_skipWords 2 none (gR 2 0 0) [.ref (ad 191)] σ σ' := by
  intro sz
  refine gOf (Qc := fun sz => gQcv celC Γ ad N σ' sz) RX5 (by decide) rfl (by decide) (fun p e s m args below meth c H locs ls X S hl => ?_)
  have hl : lv_has ls 2 [(1, .int (0 : Int32)), (0, .ref (ad 191))] := hl
  have hx := X.1
  have hb := X.2.1
  unfold f_X5_skipWords at hf
  refine lv_iconst (v := (0 : Int32)) hx hb dX5_skipWords_0 (by decide) ?_
  refine lv_istore_n (lv' := [(1, .int (0 : Int32)), (0, .ref (ad 191))]) hx hb dX5_skipWords_1 rfl hl (by decide) rfl (fun ls hl => ?_)
  obtain ⟨σ3, hr10, hf⟩ := g_s1 hf
  refine w_X5_skipWords_l1 hN X  FU _ _ _  hr10 (fun H locs ls S hl => ?_) _ _ _ S (lv_sub hl [0, 1] rfl)
  cases hf
  exact g_retv X S dX5_skipWords_41

noncomputable def f_X5_readCaption (σ : gSt) (a0 : Int32) : Option (Int32 × gSt) :=
  (g_k2 (f_X5_takeOneOf σ (97 : Int32) (98 : Int32) (-1 : Int32)) fun v1 σ2 => (g_k2 (if v1 = (-1 : Int32) then some ((-1 : Int32), σ2) else (g_k2 (f_X5_takeOneOf σ2 (46 : Int32) (33 : Int32) (42 : Int32)) fun v46 σ47 => some (v46, σ47))) fun x3 σ4 => (g_k2 (if x3 = (-1 : Int32) then some ((-1 : Int32), σ4) else (g_k2 (f_X5_readNumber σ4 ) fun v43 σ44 => some (v43, σ44))) fun x7 σ8 => (g_k2 (if x7 = (-1 : Int32) then some ((-1 : Int32), σ8) else (g_k2 (f_X5_takeSign σ8 (45 : Int32)) fun v37 σ38 => (if v37 = 0 then some ((-1 : Int32), σ38) else (g_k2 (f_X5_readNumber σ38 ) fun v40 σ41 => some (v40, σ41))))) fun x11 σ12 => (if x11 = (-1 : Int32) then some ((0 : Int32), σ12) else (g_k2 (f_X5_takeSign σ12 (58 : Int32)) fun v16 σ17 => (if v16 = 0 then some ((0 : Int32), σ17) else (g_k1 (f_X5_isItem σ17 a0) fun v19 => (if v19 = 0 then some ((0 : Int32), σ17) else (g_k1 (gast σ17 192 30 a0 (0 : Int32)) fun σ21 => (g_k1 (gast σ21 193 30 a0 v1) fun σ22 => (g_k1 (gast σ22 194 30 a0 x3) fun σ23 => (g_k1 (gast σ23 195 30 a0 x7) fun σ24 => (g_k1 (gast σ24 196 30 a0 x11) fun σ25 => (g_k1 (gast σ25 197 30 a0 (σ25 191 8)) fun σ26 => (g_k1 (f_X5_skipWords σ26 ) fun σ27 => (g_k1 (gast σ27 198 30 a0 (σ27 191 8)) fun σ28 => (g_k1 (gald σ28 198 30 a0) fun v29 => (g_k1 (gald σ28 197 30 a0) fun v30 => (g_k1 (if v29 ≤ v30 then some (0 : Int32) else some (1 : Int32)) fun x31 => (g_k1 (gzb x31) fun v34 => some (v34, σ28))))))))))))))))))))))
set_option maxRecDepth 100000 in
set_option maxHeartbeats 4000000 in
theorem c_X5_readCaption (l : Launch) {Γ : gG} {ad : Nat → Nat} {N : Nat} (hN : 202 ≤ N) {σ : gSt} {a0 : Int32}  {r : Int32} {σ' : gSt} (hf : f_X5_readCaption σ a0 = some (r, σ')) : gMi l celC Γ ad N yX5_readCaption cX5_readCaption 6 (some .boolean) (gR 3 0 0) [.ref (ad 191), .int a0] σ r σ' := by
  intro sz
  refine gOf (Qc := fun sz => gQci celC Γ ad N r σ' sz) RX5 (by decide) rfl (by decide) (fun p e s m args below meth c H locs ls X S hl => ?_)
  have hl : lv_has ls 6 [(2, .int v1), (0, .ref (ad 191)), (1, .int a0)] := hl
  have hx := X.1
  have hb := X.2.1
  unfold f_X5_readCaption at hf
  refine lv_aload_n hx hb dX5_readCaption_0 rfl (lv_at hl 0 rfl) ?_
  refine lv_bipush (v := (97 : Int32)) hx hb dX5_readCaption_1 (by decide) ?_
  refine lv_bipush (v := (98 : Int32)) hx hb dX5_readCaption_3 (by decide) ?_
  refine lv_iconst (v := (-1 : Int32)) hx hb dX5_readCaption_5 (by decide) ?_
  obtain ⟨v1, σ2, hv1, hf⟩ := g_s2 hf
  refine g_ki S (g_runV (rest := []) X S (c_X5_takeOneOf l hN  hv1 _) cvX5_takeOneOf mlX5_71 (kd_N kd_s191 (by decide) hN) (ceC_5 kd_s191 _) rfl rfl rfl hl.1 (by decide) ⟨⟨rfl, rfl⟩, ⟨Nat.le_of_ble_eq_true rfl, Nat.le_of_ble_eq_true rfl⟩, Nat.le_of_ble_eq_true rfl, Nat.le_of_ble_eq_true rfl⟩ dX5_readCaption_6) (fun H locs S => ?_)
  refine lv_istore_n (lv' := [(2, .int v1), (0, .ref (ad 191)), (1, .int a0)]) hx hb dX5_readCaption_9 rfl hl (by decide) rfl (fun ls hl => ?_)
  refine lv_iload_n hx hb dX5_readCaption_10 rfl (lv_at hl 0 rfl) ?_
  refine lv_iconst (v := (-1 : Int32)) hx hb dX5_readCaption_11 (by decide) ?_
  obtain ⟨x3, σ4, hr5, hf⟩ := g_s2 hf
  have J6 : ∀ (H : Heap) (locs : List Loc) (ls : Array Slot), gS celC Γ ad N σ4 s H locs → lv_has ls 6 [(2, .int v1), (0, .ref (ad 191)), (1, .int a0)] → W p l e (gR 3 0 0) s m args below meth c H locs 0 0 (gQi celC Γ ad N r σ' below args s) (F0 m 29 ls [.int x3]) := by
    intro H locs ls S hl
    refine lv_istore_n (lv' := [(3, .int x3), (2, .int v1), (0, .ref (ad 191)), (1, .int a0)]) hx hb dX5_readCaption_29 rfl hl (by decide) rfl (fun ls hl => ?_)
    refine lv_iload_n hx hb dX5_readCaption_30 rfl (lv_at hl 0 rfl) ?_
    refine lv_iconst (v := (-1 : Int32)) hx hb dX5_readCaption_31 (by decide) ?_
    obtain ⟨x7, σ8, hr9, hf⟩ := g_s2 hf
    have J10 : ∀ (H : Heap) (locs : List Loc) (ls : Array Slot), gS celC Γ ad N σ8 s H locs → lv_has ls 6 [(3, .int x3), (2, .int v1), (0, .ref (ad 191)), (1, .int a0)] → W p l e (gR 3 0 0) s m args below meth c H locs 0 0 (gQi celC Γ ad N r σ' below args s) (F0 m 43 ls [.int x7]) := by
      intro H locs ls S hl
      refine lv_istore (lv' := [(4, .int x7), (3, .int x3), (2, .int v1), (0, .ref (ad 191)), (1, .int a0)]) hx hb dX5_readCaption_43 hl (by decide) rfl (fun ls hl => ?_)
      refine lv_iload hx hb dX5_readCaption_45 (lv_at hl 0 rfl) ?_
      refine lv_iconst (v := (-1 : Int32)) hx hb dX5_readCaption_47 (by decide) ?_
      obtain ⟨x11, σ12, hr13, hf⟩ := g_s2 hf
      have J14 : ∀ (H : Heap) (locs : List Loc) (ls : Array Slot), gS celC Γ ad N σ12 s H locs → lv_has ls 6 [(4, .int x7), (3, .int x3), (2, .int v1), (0, .ref (ad 191)), (1, .int a0)] → W p l e (gR 3 0 0) s m args below meth c H locs 0 0 (gQi celC Γ ad N r σ' below args s) (F0 m 68 ls [.int x11]) := by
        intro H locs ls S hl
        refine lv_istore (lv' := [(5, .int x11), (4, .int x7), (3, .int x3), (2, .int v1), (0, .ref (ad 191)), (1, .int a0)]) hx hb dX5_readCaption_68 hl (by decide) rfl (fun ls hl => ?_)
        refine lv_iload hx hb dX5_readCaption_70 (lv_at hl 0 rfl) ?_
        refine lv_iconst (v := (-1 : Int32)) hx hb dX5_readCaption_72 (by decide) ?_
        refine lv_icmp_eq (tgt := 92) hx hb dX5_readCaption_73 (by decide) (fun c15 => ?_) (fun c15 => ?_)
        · have hf := (if_pos c15).symm.trans hf
          refine lv_iconst (v := (0 : Int32)) hx hb dX5_readCaption_92 (by decide) ?_
          cases hf
          exact g_reti X S (by decide +kernel) dX5_readCaption_93
        · have hf := (if_neg c15).symm.trans hf
          refine lv_aload_n hx hb dX5_readCaption_76 rfl (lv_at hl 4 rfl) ?_
          refine lv_bipush (v := (58 : Int32)) hx hb dX5_readCaption_77 (by decide) ?_
          obtain ⟨v16, σ17, hv16, hf⟩ := g_s2 hf
          refine g_ki S (g_runV (rest := []) X S (c_X5_takeSign l hN  hv16 _) cvX5_takeSign mlX5_57 (kd_N kd_s191 (by decide) hN) (ceC_5 kd_s191 _) rfl rfl rfl hl.1 (by decide) ⟨⟨rfl, rfl⟩, ⟨Nat.le_of_ble_eq_true rfl, Nat.le_of_ble_eq_true rfl⟩, Nat.le_of_ble_eq_true rfl, Nat.le_of_ble_eq_true rfl⟩ dX5_readCaption_79) (fun H locs S => ?_)
          refine lv_if_eq (tgt := 92) hx hb dX5_readCaption_82 (by decide) (fun c18 => ?_) (fun c18 => ?_)
          · have hf := (if_pos c18).symm.trans hf
            refine lv_iconst (v := (0 : Int32)) hx hb dX5_readCaption_92 (by decide) ?_
            cases hf
            exact g_reti X S (by decide +kernel) dX5_readCaption_93
          · have hf := (if_neg c18).symm.trans hf
            refine lv_iload_n hx hb dX5_readCaption_85 rfl (lv_at hl 5 rfl) ?_
            obtain ⟨v19, hv19, hf⟩ := g_s1 hf
            refine g_ki S (g_runS (rest := []) X S (c_X5_isItem l hN  hv19 _) csX5_isItem mlX5_47 rfl rfl hl.1 (by decide) ⟨⟨rfl, rfl⟩, ⟨Nat.le_of_ble_eq_true rfl, Nat.le_of_ble_eq_true rfl⟩, Nat.le_of_ble_eq_true rfl, Nat.le_of_ble_eq_true rfl⟩ dX5_readCaption_86) (fun H locs S => ?_)
            refine lv_if_ne (tgt := 94) hx hb dX5_readCaption_89 (by decide) (fun c20 => ?_) (fun c20 => ?_)
            · have hf := (if_neg c20).symm.trans hf
              refine lv_aload_n hx hb dX5_readCaption_94 rfl (lv_at hl 4 rfl) ?_
              refine gfX5_9 X S hN kd_s191 dX5_readCaption_95 ?_
              refine lv_iload_n hx hb dX5_readCaption_98 rfl (lv_at hl 5 rfl) ?_
              refine lv_iconst (v := (0 : Int32)) hx hb dX5_readCaption_99 (by decide) ?_
              obtain ⟨σ21, hσ21, hf⟩ := g_s1 hf
              refine g_iast X S (kd_N kd_s192 (by decide) hN) (ceC_130 kd_s192) hσ21 dX5_readCaption_100 (fun H locs S => ?_)
              refine lv_aload_n hx hb dX5_readCaption_101 rfl (lv_at hl 4 rfl) ?_
              refine gfX5_15 X S hN kd_s191 dX5_readCaption_102 ?_
              refine lv_iload_n hx hb dX5_readCaption_105 rfl (lv_at hl 5 rfl) ?_
              refine lv_iload_n hx hb dX5_readCaption_106 rfl (lv_at hl 3 rfl) ?_
              obtain ⟨σ22, hσ22, hf⟩ := g_s1 hf
              refine g_iast X S (kd_N kd_s193 (by decide) hN) (ceC_130 kd_s193) hσ22 dX5_readCaption_107 (fun H locs S => ?_)
              refine lv_aload_n hx hb dX5_readCaption_108 rfl (lv_at hl 4 rfl) ?_
              refine gfX5_18 X S hN kd_s191 dX5_readCaption_109 ?_
              refine lv_iload_n hx hb dX5_readCaption_112 rfl (lv_at hl 5 rfl) ?_
              refine lv_iload_n hx hb dX5_readCaption_113 rfl (lv_at hl 2 rfl) ?_
              obtain ⟨σ23, hσ23, hf⟩ := g_s1 hf
              refine g_iast X S (kd_N kd_s194 (by decide) hN) (ceC_130 kd_s194) hσ23 dX5_readCaption_114 (fun H locs S => ?_)
              refine lv_aload_n hx hb dX5_readCaption_115 rfl (lv_at hl 4 rfl) ?_
              refine gfX5_21 X S hN kd_s191 dX5_readCaption_116 ?_
              refine lv_iload_n hx hb dX5_readCaption_119 rfl (lv_at hl 5 rfl) ?_
              refine lv_iload hx hb dX5_readCaption_120 (lv_at hl 1 rfl) ?_
              obtain ⟨σ24, hσ24, hf⟩ := g_s1 hf
              refine g_iast X S (kd_N kd_s195 (by decide) hN) (ceC_130 kd_s195) hσ24 dX5_readCaption_122 (fun H locs S => ?_)
              refine lv_aload_n hx hb dX5_readCaption_123 rfl (lv_at hl 4 rfl) ?_
              refine gfX5_24 X S hN kd_s191 dX5_readCaption_124 ?_
              refine lv_iload_n hx hb dX5_readCaption_127 rfl (lv_at hl 5 rfl) ?_
              refine lv_iload hx hb dX5_readCaption_128 (lv_at hl 0 rfl) ?_
              obtain ⟨σ25, hσ25, hf⟩ := g_s1 hf
              refine g_iast X S (kd_N kd_s196 (by decide) hN) (ceC_130 kd_s196) hσ25 dX5_readCaption_130 (fun H locs S => ?_)
              refine lv_aload_n hx hb dX5_readCaption_131 rfl (lv_at hl 4 rfl) ?_
              refine gfX5_27 X S hN kd_s191 dX5_readCaption_132 ?_
              refine lv_iload_n hx hb dX5_readCaption_135 rfl (lv_at hl 5 rfl) ?_
              refine lv_aload_n hx hb dX5_readCaption_136 rfl (lv_at hl 4 rfl) ?_
              refine gfX5_37 X S hN kd_s191 dX5_readCaption_137 ?_
              obtain ⟨σ26, hσ26, hf⟩ := g_s1 hf
              refine g_iast X S (kd_N kd_s197 (by decide) hN) (ceC_130 kd_s197) hσ26 dX5_readCaption_140 (fun H locs S => ?_)
              refine lv_aload_n hx hb dX5_readCaption_141 rfl (lv_at hl 4 rfl) ?_
              obtain ⟨σ27, hσ27, hf⟩ := g_s1 hf
              refine g_kv S (g_runV (rest := []) X S (c_X5_skipWords l hN  hσ27 _) cvX5_skipWords mlX5_75 (kd_N kd_s191 (by decide) hN) (ceC_5 kd_s191 _) rfl rfl rfl hl.1 (by decide) ⟨⟨rfl, rfl⟩, ⟨Nat.le_of_ble_eq_true rfl, Nat.le_of_ble_eq_true rfl⟩, Nat.le_of_ble_eq_true rfl, Nat.le_of_ble_eq_true rfl⟩ dX5_readCaption_142) (fun H locs S => ?_)
              refine lv_aload_n hx hb dX5_readCaption_145 rfl (lv_at hl 4 rfl) ?_
              refine gfX5_30 X S hN kd_s191 dX5_readCaption_146 ?_
              refine lv_iload_n hx hb dX5_readCaption_149 rfl (lv_at hl 5 rfl) ?_
              refine lv_aload_n hx hb dX5_readCaption_150 rfl (lv_at hl 4 rfl) ?_
              refine gfX5_37 X S hN kd_s191 dX5_readCaption_151 ?_
              obtain ⟨σ28, hσ28, hf⟩ := g_s1 hf
              refine g_iast X S (kd_N kd_s198 (by decide) hN) (ceC_130 kd_s198) hσ28 dX5_readCaption_154 (fun H locs S => ?_)
              refine lv_aload_n hx hb dX5_readCaption_155 rfl (lv_at hl 4 rfl) ?_
              refine gfX5_30 X S hN kd_s191 dX5_readCaption_156 ?_
              refine lv_iload_n hx hb dX5_readCaption_159 rfl (lv_at hl 5 rfl) ?_
              obtain ⟨v29, hv29, hf⟩ := g_s1 hf
              refine g_iald X S (kd_N kd_s198 (by decide) hN) (ceC_130 kd_s198) hv29 dX5_readCaption_160 ?_
              refine lv_aload_n hx hb dX5_readCaption_161 rfl (lv_at hl 4 rfl) ?_
              refine gfX5_27 X S hN kd_s191 dX5_readCaption_162 ?_
              refine lv_iload_n hx hb dX5_readCaption_165 rfl (lv_at hl 5 rfl) ?_
              obtain ⟨v30, hv30, hf⟩ := g_s1 hf
              refine g_iald X S (kd_N kd_s197 (by decide) hN) (ceC_130 kd_s197) hv30 dX5_readCaption_166 ?_
              obtain ⟨x31, hr32, hf⟩ := g_s1 hf
              have J33 : ∀ (H : Heap) (locs : List Loc) (ls : Array Slot), gS celC Γ ad N σ28 s H locs → lv_has ls 6 [] → W p l e (gR 3 0 0) s m args below meth c H locs 0 0 (gQi celC Γ ad N r σ' below args s) (F0 m 175 ls [.int x31]) := by
                intro H locs ls S hl
                obtain ⟨v34, hv34, hf⟩ := g_s1 hf
                obtain ⟨hnv34, rfl⟩ := gzb_some hv34
                cases hf
                exact g_reti X S hnv34 dX5_readCaption_175
              replace hf := hr32
              refine lv_icmp_le (tgt := 174) hx hb dX5_readCaption_167 (by decide) (fun c35 => ?_) (fun c35 => ?_)
              · have hf := (if_pos c35).symm.trans hf
                refine lv_iconst (v := (0 : Int32)) hx hb dX5_readCaption_174 (by decide) ?_
                cases hf
                exact J33 _ _ _ S (lv_sub hl [] rfl)
              · have hf := (if_neg c35).symm.trans hf
                refine lv_iconst (v := (1 : Int32)) hx hb dX5_readCaption_170 (by decide) ?_
                refine lv_goto (tgt := 175) hx hb dX5_readCaption_171 (by decide) ?_
                cases hf
                exact J33 _ _ _ S (lv_sub hl [] rfl)
            · have hf := (if_pos c20).symm.trans hf
              refine lv_iconst (v := (0 : Int32)) hx hb dX5_readCaption_92 (by decide) ?_
              cases hf
              exact g_reti X S (by decide +kernel) dX5_readCaption_93
      replace hf := hr13
      refine lv_icmp_eq (tgt := 60) hx hb dX5_readCaption_48 (by decide) (fun c36 => ?_) (fun c36 => ?_)
      · have hf := (if_pos c36).symm.trans hf
        refine lv_iconst (v := (-1 : Int32)) hx hb dX5_readCaption_60 (by decide) ?_
        refine lv_goto (tgt := 68) hx hb dX5_readCaption_61 (by decide) ?_
        cases hf
        exact J14 _ _ _ S (lv_sub hl [0, 1, 2, 3, 4] rfl)
      · have hf := (if_neg c36).symm.trans hf
        refine lv_aload_n hx hb dX5_readCaption_51 rfl (lv_at hl 3 rfl) ?_
        refine lv_bipush (v := (45 : Int32)) hx hb dX5_readCaption_52 (by decide) ?_
        obtain ⟨v37, σ38, hv37, hf⟩ := g_s2 hf
        refine g_ki S (g_runV (rest := []) X S (c_X5_takeSign l hN  hv37 _) cvX5_takeSign mlX5_57 (kd_N kd_s191 (by decide) hN) (ceC_5 kd_s191 _) rfl rfl rfl hl.1 (by decide) ⟨⟨rfl, rfl⟩, ⟨Nat.le_of_ble_eq_true rfl, Nat.le_of_ble_eq_true rfl⟩, Nat.le_of_ble_eq_true rfl, Nat.le_of_ble_eq_true rfl⟩ dX5_readCaption_54) (fun H locs S => ?_)
        refine lv_if_ne (tgt := 64) hx hb dX5_readCaption_57 (by decide) (fun c39 => ?_) (fun c39 => ?_)
        · have hf := (if_neg c39).symm.trans hf
          refine lv_aload_n hx hb dX5_readCaption_64 rfl (lv_at hl 3 rfl) ?_
          obtain ⟨v40, σ41, hv40, hf⟩ := g_s2 hf
          refine g_ki S (g_runV (rest := []) X S (c_X5_readNumber l hN  hv40 _) cvX5_readNumber mlX5_67 (kd_N kd_s191 (by decide) hN) (ceC_5 kd_s191 _) rfl rfl rfl hl.1 (by decide) ⟨⟨rfl, rfl⟩, ⟨Nat.le_of_ble_eq_true rfl, Nat.le_of_ble_eq_true rfl⟩, Nat.le_of_ble_eq_true rfl, Nat.le_of_ble_eq_true rfl⟩ dX5_readCaption_65) (fun H locs S => ?_)
          cases hf
          exact J14 _ _ _ S (lv_sub hl [0, 1, 2, 3, 4] rfl)
        · have hf := (if_pos c39).symm.trans hf
          refine lv_iconst (v := (-1 : Int32)) hx hb dX5_readCaption_60 (by decide) ?_
          refine lv_goto (tgt := 68) hx hb dX5_readCaption_61 (by decide) ?_
          cases hf
          exact J14 _ _ _ S (lv_sub hl [0, 1, 2, 3, 4] rfl)
    replace hf := hr9
    refine lv_icmp_ne (tgt := 39) hx hb dX5_readCaption_32 (by decide) (fun c42 => ?_) (fun c42 => ?_)
    · have hf := (if_neg c42).symm.trans hf
      refine lv_aload_n hx hb dX5_readCaption_39 rfl (lv_at hl 2 rfl) ?_
      obtain ⟨v43, σ44, hv43, hf⟩ := g_s2 hf
      refine g_ki S (g_runV (rest := []) X S (c_X5_readNumber l hN  hv43 _) cvX5_readNumber mlX5_67 (kd_N kd_s191 (by decide) hN) (ceC_5 kd_s191 _) rfl rfl rfl hl.1 (by decide) ⟨⟨rfl, rfl⟩, ⟨Nat.le_of_ble_eq_true rfl, Nat.le_of_ble_eq_true rfl⟩, Nat.le_of_ble_eq_true rfl, Nat.le_of_ble_eq_true rfl⟩ dX5_readCaption_40) (fun H locs S => ?_)
      cases hf
      exact J10 _ _ _ S (lv_sub hl [0, 1, 2, 3] rfl)
    · have hf := (if_pos c42).symm.trans hf
      refine lv_iconst (v := (-1 : Int32)) hx hb dX5_readCaption_35 (by decide) ?_
      refine lv_goto (tgt := 43) hx hb dX5_readCaption_36 (by decide) ?_
      cases hf
      exact J10 _ _ _ S (lv_sub hl [0, 1, 2, 3] rfl)
  replace hf := hr5
  refine lv_icmp_ne (tgt := 19) hx hb dX5_readCaption_12 (by decide) (fun c45 => ?_) (fun c45 => ?_)
  · have hf := (if_neg c45).symm.trans hf
    refine lv_aload_n hx hb dX5_readCaption_19 rfl (lv_at hl 1 rfl) ?_
    refine lv_bipush (v := (46 : Int32)) hx hb dX5_readCaption_20 (by decide) ?_
    refine lv_bipush (v := (33 : Int32)) hx hb dX5_readCaption_22 (by decide) ?_
    refine lv_bipush (v := (42 : Int32)) hx hb dX5_readCaption_24 (by decide) ?_
    obtain ⟨v46, σ47, hv46, hf⟩ := g_s2 hf
    refine g_ki S (g_runV (rest := []) X S (c_X5_takeOneOf l hN  hv46 _) cvX5_takeOneOf mlX5_71 (kd_N kd_s191 (by decide) hN) (ceC_5 kd_s191 _) rfl rfl rfl hl.1 (by decide) ⟨⟨rfl, rfl⟩, ⟨Nat.le_of_ble_eq_true rfl, Nat.le_of_ble_eq_true rfl⟩, Nat.le_of_ble_eq_true rfl, Nat.le_of_ble_eq_true rfl⟩ dX5_readCaption_26) (fun H locs S => ?_)
    cases hf
    exact J6 _ _ _ S (lv_sub hl [0, 1, 2] rfl)
  · have hf := (if_pos c45).symm.trans hf
    refine lv_iconst (v := (-1 : Int32)) hx hb dX5_readCaption_15 (by decide) ?_
    refine lv_goto (tgt := 29) hx hb dX5_readCaption_16 (by decide) ?_
    cases hf
    exact J6 _ _ _ S (lv_sub hl [0, 1, 2] rfl)

noncomputable def f_X5_readItem (σ : gSt) (a0 : Int32) : Option (Int32 × gSt) :=
  (g_k2 (f_X5_takeSign σ (99 : Int32)) fun v1 σ2 => (if v1 = 0 then (g_k2 (f_X5_takeSign σ2 (117 : Int32)) fun v4 σ5 => (if v4 = 0 then (g_k2 (f_X5_readCaption σ5 a0) fun v7 σ8 => (g_k1 (gzb v7) fun v9 => some (v9, σ8))) else (g_k2 (f_X5_readCut σ5 a0 (2 : Int32)) fun v10 σ11 => (g_k1 (gzb v10) fun v12 => some (v12, σ11))))) else (g_k2 (f_X5_readCut σ2 a0 (1 : Int32)) fun v13 σ14 => (g_k1 (gzb v13) fun v15 => some (v15, σ14)))))
set_option maxRecDepth 100000 in
set_option maxHeartbeats 4000000 in
theorem c_X5_readItem (l : Launch) {Γ : gG} {ad : Nat → Nat} {N : Nat} (hN : 202 ≤ N) {σ : gSt} {a0 : Int32}  {r : Int32} {σ' : gSt} (hf : f_X5_readItem σ a0 = some (r, σ')) : gMi l celC Γ ad N yX5_readItem cX5_readItem 2 (some .boolean) (gR 4 0 0) [.ref (ad 191), .int a0] σ r σ' := by
  intro sz
  refine gOf (Qc := fun sz => gQci celC Γ ad N r σ' sz) RX5 (by decide) rfl (by decide) (fun p e s m args below meth c H locs ls X S hl => ?_)
  have hl : lv_has ls 2 [(0, .ref (ad 191)), (1, .int a0)] := hl
  have hx := X.1
  have hb := X.2.1
  unfold f_X5_readItem at hf
  refine lv_aload_n hx hb dX5_readItem_0 rfl (lv_at hl 0 rfl) ?_
  refine lv_bipush (v := (99 : Int32)) hx hb dX5_readItem_1 (by decide) ?_
  obtain ⟨v1, σ2, hv1, hf⟩ := g_s2 hf
  refine g_ki S (g_runV (rest := []) X S (c_X5_takeSign l hN  hv1 _) cvX5_takeSign mlX5_57 (kd_N kd_s191 (by decide) hN) (ceC_5 kd_s191 _) rfl rfl rfl hl.1 (by decide) ⟨⟨rfl, rfl⟩, ⟨Nat.le_of_ble_eq_true rfl, Nat.le_of_ble_eq_true rfl⟩, Nat.le_of_ble_eq_true rfl, Nat.le_of_ble_eq_true rfl⟩ dX5_readItem_3) (fun H locs S => ?_)
  refine lv_if_eq (tgt := 16) hx hb dX5_readItem_6 (by decide) (fun c3 => ?_) (fun c3 => ?_)
  · have hf := (if_pos c3).symm.trans hf
    refine lv_aload_n hx hb dX5_readItem_16 rfl (lv_at hl 0 rfl) ?_
    refine lv_bipush (v := (117 : Int32)) hx hb dX5_readItem_17 (by decide) ?_
    obtain ⟨v4, σ5, hv4, hf⟩ := g_s2 hf
    refine g_ki S (g_runV (rest := []) X S (c_X5_takeSign l hN  hv4 _) cvX5_takeSign mlX5_57 (kd_N kd_s191 (by decide) hN) (ceC_5 kd_s191 _) rfl rfl rfl hl.1 (by decide) ⟨⟨rfl, rfl⟩, ⟨Nat.le_of_ble_eq_true rfl, Nat.le_of_ble_eq_true rfl⟩, Nat.le_of_ble_eq_true rfl, Nat.le_of_ble_eq_true rfl⟩ dX5_readItem_19) (fun H locs S => ?_)
    refine lv_if_eq (tgt := 32) hx hb dX5_readItem_22 (by decide) (fun c6 => ?_) (fun c6 => ?_)
    · have hf := (if_pos c6).symm.trans hf
      refine lv_aload_n hx hb dX5_readItem_32 rfl (lv_at hl 0 rfl) ?_
      refine lv_iload_n hx hb dX5_readItem_33 rfl (lv_at hl 1 rfl) ?_
      obtain ⟨v7, σ8, hv7, hf⟩ := g_s2 hf
      refine g_ki S (g_runV (rest := []) X S (c_X5_readCaption l hN  hv7 _) cvX5_readCaption mlX5_64 (kd_N kd_s191 (by decide) hN) (ceC_5 kd_s191 _) rfl rfl rfl hl.1 (by decide) ⟨⟨rfl, rfl⟩, ⟨Nat.le_of_ble_eq_true rfl, Nat.le_of_ble_eq_true rfl⟩, Nat.le_of_ble_eq_true rfl, Nat.le_of_ble_eq_true rfl⟩ dX5_readItem_34) (fun H locs S => ?_)
      obtain ⟨v9, hv9, hf⟩ := g_s1 hf
      obtain ⟨hnv9, rfl⟩ := gzb_some hv9
      cases hf
      exact g_reti X S hnv9 dX5_readItem_37
    · have hf := (if_neg c6).symm.trans hf
      refine lv_aload_n hx hb dX5_readItem_25 rfl (lv_at hl 0 rfl) ?_
      refine lv_iload_n hx hb dX5_readItem_26 rfl (lv_at hl 1 rfl) ?_
      refine lv_iconst (v := (2 : Int32)) hx hb dX5_readItem_27 (by decide) ?_
      obtain ⟨v10, σ11, hv10, hf⟩ := g_s2 hf
      refine g_ki S (g_runV (rest := []) X S (c_X5_readCut l hN  hv10 _) cvX5_readCut mlX5_60 (kd_N kd_s191 (by decide) hN) (ceC_5 kd_s191 _) rfl rfl rfl hl.1 (by decide) ⟨⟨rfl, rfl⟩, ⟨Nat.le_of_ble_eq_true rfl, Nat.le_of_ble_eq_true rfl⟩, Nat.le_of_ble_eq_true rfl, Nat.le_of_ble_eq_true rfl⟩ dX5_readItem_28) (fun H locs S => ?_)
      obtain ⟨v12, hv12, hf⟩ := g_s1 hf
      obtain ⟨hnv12, rfl⟩ := gzb_some hv12
      cases hf
      exact g_reti X S hnv12 dX5_readItem_31
  · have hf := (if_neg c3).symm.trans hf
    refine lv_aload_n hx hb dX5_readItem_9 rfl (lv_at hl 0 rfl) ?_
    refine lv_iload_n hx hb dX5_readItem_10 rfl (lv_at hl 1 rfl) ?_
    refine lv_iconst (v := (1 : Int32)) hx hb dX5_readItem_11 (by decide) ?_
    obtain ⟨v13, σ14, hv13, hf⟩ := g_s2 hf
    refine g_ki S (g_runV (rest := []) X S (c_X5_readCut l hN  hv13 _) cvX5_readCut mlX5_60 (kd_N kd_s191 (by decide) hN) (ceC_5 kd_s191 _) rfl rfl rfl hl.1 (by decide) ⟨⟨rfl, rfl⟩, ⟨Nat.le_of_ble_eq_true rfl, Nat.le_of_ble_eq_true rfl⟩, Nat.le_of_ble_eq_true rfl, Nat.le_of_ble_eq_true rfl⟩ dX5_readItem_12) (fun H locs S => ?_)
    obtain ⟨v15, hv15, hf⟩ := g_s1 hf
    obtain ⟨hnv15, rfl⟩ := gzb_some hv15
    cases hf
    exact g_reti X S hnv15 dX5_readItem_15

noncomputable def f_X5_readText_l1 (σ3 : gSt) : Nat → Int32 → gSt → Option (Int32 × gSt)
  | 0, _, _ => none
  | n + 1, i4, σ5 => (if (30 : Int32) ≤ i4 then some ((0 : Int32), σ5) else (g_k2 (f_X5_readItem σ5 i4) fun v7 σ8 => (if v7 = 0 then some ((0 : Int32), σ8) else (g_k1 (gset σ8 191 7 ((σ8 191 7) + (1 : Int32))) fun σ10 => (if gkd ((σ10 191 9).toNatClampNeg) = 7 then (if (σ10 191 8) < (σ10 ((σ10 191 9).toNatClampNeg) 1) then (g_k2 (f_X5_takeSign σ10 (59 : Int32)) fun v13 σ14 => (if v13 = 0 then some ((0 : Int32), σ14) else (f_X5_readText_l1 σ3 n (i4 + 1) σ14))) else some ((1 : Int32), σ10)) else none)))))
set_option maxRecDepth 100000 in
set_option maxHeartbeats 4000000 in
theorem w_X5_readText_l1 {l : Launch} {Γ : gG} {ad : Nat → Nat} {N : Nat} {p : Program} {e : Env} {s : State} {m : MethodId} {args : Array Value} {below : List Frame} {meth : Method} {c : Code} (hN : 202 ≤ N) (X : gX celC Γ ad N RX5 cX5_readText 3 (some .boolean) p s m args meth c) {σ3 : gSt}  : ∀ (n : Nat) (i4 : Int32) (σ5 : gSt) (r : Int32) (σ' : gSt), f_X5_readText_l1 σ3 n i4 σ5 = some (r, σ') → ∀ (H : Heap) (locs : List Loc) (ls : Array Slot), gS celC Γ ad N σ5 s H locs → lv_has ls 3 [(2, .int i4), (0, .ref (ad 191))] → W p l e (gR 5 0 0) s m args below meth c H locs 0 0 (gQi celC Γ ad N r σ' below args s) (F0 m 17 ls []) := by
  have hx := X.1
  have hb := X.2.1
  intro n
  induction n with
  | zero =>
    intro i4 σ5 r σ' hf
    cases hf
  | succ n ih =>
    intro i4 σ5 r σ' hf H locs ls S hl
    rw [f_X5_readText_l1] at hf
    refine lv_iload_n hx hb dX5_readText_17 rfl (lv_at hl 0 rfl) ?_
    refine lv_bipush (v := (30 : Int32)) hx hb dX5_readText_18 (by decide) ?_
    refine lv_icmp_ge (tgt := 76) hx hb dX5_readText_20 (by decide) (fun c6 => ?_) (fun c6 => ?_)
    · have hf := (if_pos c6).symm.trans hf
      refine lv_iconst (v := (0 : Int32)) hx hb dX5_readText_76 (by decide) ?_
      cases hf
      exact g_reti X S (by decide +kernel) dX5_readText_77
    · have hf := (if_neg c6).symm.trans hf
      refine lv_aload_n hx hb dX5_readText_23 rfl (lv_at hl 1 rfl) ?_
      refine lv_iload_n hx hb dX5_readText_24 rfl (lv_at hl 0 rfl) ?_
      obtain ⟨v7, σ8, hv7, hf⟩ := g_s2 hf
      refine g_ki S (g_runV (rest := []) X S (c_X5_readItem l hN  hv7 _) cvX5_readItem mlX5_51 (kd_N kd_s191 (by decide) hN) (ceC_5 kd_s191 _) rfl rfl rfl hl.1 (by decide) ⟨⟨rfl, rfl⟩, ⟨Nat.le_of_ble_eq_true rfl, Nat.le_of_ble_eq_true rfl⟩, Nat.le_of_ble_eq_true rfl, Nat.le_of_ble_eq_true rfl⟩ dX5_readText_25) (fun H locs S => ?_)
      refine lv_if_ne (tgt := 33) hx hb dX5_readText_28 (by decide) (fun c9 => ?_) (fun c9 => ?_)
      · have hf := (if_neg c9).symm.trans hf
        refine lv_aload_n hx hb dX5_readText_33 rfl (lv_at hl 1 rfl) ?_
        refine lv_dup hx hb dX5_readText_34 rfl ?_
        refine gfX5_33 X S hN kd_s191 dX5_readText_35 ?_
        refine lv_iconst (v := (1 : Int32)) hx hb dX5_readText_38 (by decide) ?_
        refine lv_iadd hx hb dX5_readText_39 ?_
        obtain ⟨σ10, hσ10, hf⟩ := g_s1 hf
        refine pfX5_33 X S hN kd_s191 hσ10 dX5_readText_40 (fun H locs S => ?_)
        refine lv_aload_n hx hb dX5_readText_43 rfl (lv_at hl 1 rfl) ?_
        refine gfX5_37 X S hN kd_s191 dX5_readText_44 ?_
        refine lv_aload_n hx hb dX5_readText_47 rfl (lv_at hl 1 rfl) ?_
        refine gfX5_43 X S hN kd_s191 dX5_readText_48 ?_
        obtain ⟨hk11, hf⟩ := g_if hf
        refine gfX5_54 X S hN hk11 dX5_readText_51 ?_
        refine lv_icmp_lt (tgt := 59) hx hb dX5_readText_54 (by decide) (fun c12 => ?_) (fun c12 => ?_)
        · have hf := (if_pos c12).symm.trans hf
          refine lv_aload_n hx hb dX5_readText_59 rfl (lv_at hl 1 rfl) ?_
          refine lv_bipush (v := (59 : Int32)) hx hb dX5_readText_60 (by decide) ?_
          obtain ⟨v13, σ14, hv13, hf⟩ := g_s2 hf
          refine g_ki S (g_runV (rest := []) X S (c_X5_takeSign l hN  hv13 _) cvX5_takeSign mlX5_57 (kd_N kd_s191 (by decide) hN) (ceC_5 kd_s191 _) rfl rfl rfl hl.1 (by decide) ⟨⟨rfl, rfl⟩, ⟨Nat.le_of_ble_eq_true rfl, Nat.le_of_ble_eq_true rfl⟩, Nat.le_of_ble_eq_true rfl, Nat.le_of_ble_eq_true rfl⟩ dX5_readText_62) (fun H locs S => ?_)
          refine lv_if_ne (tgt := 70) hx hb dX5_readText_65 (by decide) (fun c15 => ?_) (fun c15 => ?_)
          · have hf := (if_neg c15).symm.trans hf
            refine lv_iinc (v := (i4 + 1)) (lv' := [(2, .int (i4 + 1)), (0, .ref (ad 191))]) hx hb dX5_readText_70 hl (k := 0) rfl rfl (by decide) rfl (fun ls hl => ?_)
            refine lv_goto (tgt := 17) hx hb dX5_readText_73 (by decide) ?_
            exact ih _ _ _ _  hf _ _ _ S (lv_sub hl [0, 1] rfl)
          · have hf := (if_pos c15).symm.trans hf
            refine lv_iconst (v := (0 : Int32)) hx hb dX5_readText_68 (by decide) ?_
            cases hf
            exact g_reti X S (by decide +kernel) dX5_readText_69
        · have hf := (if_neg c12).symm.trans hf
          refine lv_iconst (v := (1 : Int32)) hx hb dX5_readText_57 (by decide) ?_
          cases hf
          exact g_reti X S (by decide +kernel) dX5_readText_58
      · have hf := (if_pos c9).symm.trans hf
        refine lv_iconst (v := (0 : Int32)) hx hb dX5_readText_31 (by decide) ?_
        cases hf
        exact g_reti X S (by decide +kernel) dX5_readText_32
noncomputable def f_X5_readText (σ : gSt) (a0 : Nat) : Option (Int32 × gSt) :=
  (g_k1 (gset σ 191 9 (nI a0)) fun σ1 => (g_k1 (gset σ1 191 8 (0 : Int32)) fun σ2 => (g_k1 (gset σ2 191 7 (0 : Int32)) fun σ3 => (f_X5_readText_l1 σ3 FU (0 : Int32) σ3))))
set_option maxRecDepth 100000 in
set_option maxHeartbeats 4000000 in
theorem c_X5_readText (l : Launch) {Γ : gG} {ad : Nat → Nat} {N : Nat} (hN : 202 ≤ N) {σ : gSt} {a0 : Nat} (ha0 : gkd a0 = 7) {r : Int32} {σ' : gSt} (hf : f_X5_readText σ a0 = some (r, σ')) : gMi l celC Γ ad N yX5_readText cX5_readText 3 (some .boolean) (gR 5 0 0) [.ref (ad 191), .ref (ad a0)] σ r σ' := by
  intro sz
  refine gOf (Qc := fun sz => gQci celC Γ ad N r σ' sz) RX5 (by decide) rfl (by decide) (fun p e s m args below meth c H locs ls X S hl => ?_)
  have hl : lv_has ls 3 [(2, .int (0 : Int32)), (0, .ref (ad 191))] := hl
  have hx := X.1
  have hb := X.2.1
  unfold f_X5_readText at hf
  refine lv_aload_n hx hb dX5_readText_0 rfl (lv_at hl 0 rfl) ?_
  refine lv_aload_n hx hb dX5_readText_1 rfl (lv_at hl 1 rfl) ?_
  obtain ⟨σ1, hσ1, hf⟩ := g_s1 hf
  refine pfX5_text X S hN ha0 hσ1 dX5_readText_2 (fun H locs S => ?_)
  refine lv_aload_n hx hb dX5_readText_5 rfl (lv_at hl 0 rfl) ?_
  refine lv_iconst (v := (0 : Int32)) hx hb dX5_readText_6 (by decide) ?_
  obtain ⟨σ2, hσ2, hf⟩ := g_s1 hf
  refine pfX5_37 X S hN kd_s191 hσ2 dX5_readText_7 (fun H locs S => ?_)
  refine lv_aload_n hx hb dX5_readText_10 rfl (lv_at hl 0 rfl) ?_
  refine lv_iconst (v := (0 : Int32)) hx hb dX5_readText_11 (by decide) ?_
  obtain ⟨σ3, hσ3, hf⟩ := g_s1 hf
  refine pfX5_33 X S hN kd_s191 hσ3 dX5_readText_12 (fun H locs S => ?_)
  refine lv_iconst (v := (0 : Int32)) hx hb dX5_readText_15 (by decide) ?_
  refine lv_istore_n (lv' := [(2, .int (0 : Int32)), (0, .ref (ad 191)), (1, .ref (ad a0))]) hx hb dX5_readText_16 rfl hl (by decide) rfl (fun ls hl => ?_)
  exact w_X5_readText_l1 hN X  FU _ _ _ _  hf _ _ _ S (lv_sub hl [0, 1] rfl)

noncomputable def f_X9_carryOutItem (σ : gSt) (a0 : Int32) : Option (Int32 × gSt) :=
  (g_k1 (f_X5_what σ a0) fun v1 => (if v1 = 0 then (g_k1 (f_X7_clear σ 189) fun σ3 => (g_k1 (f_X5_wordsFrom σ3 a0) fun v4 => (g_k1 (f_X5_wordsTo σ3 a0) fun v5 => (g_k1 (f_X7_appendPart σ3 189 187 v4 v5) fun σ6 => (g_k1 (f_X5_trackOfItem σ6 a0) fun v7 => (g_k1 (f_X5_first σ6 a0) fun v8 => (g_k1 (f_X5_end σ6 a0) fun v9 => (g_k1 (f_X3_addRefusal σ6 1 v7 v8 v9 189) fun v10 => (g_k1 (if v10 = 0 then (g_k1 (f_X5_trackOfItem σ6 a0) fun v15 => (g_k1 (f_X3_trackOf σ6 1 v15) fun v16 => (g_k1 (f_X5_kind σ6 a0) fun v17 => (g_k1 (f_X5_first σ6 a0) fun v18 => (g_k1 (f_X5_end σ6 a0) fun v19 => (g_k2 (f_X8_insertCaption σ6 v16 v17 v18 v19 189) fun v20 σ21 => some σ21)))))) else some σ6) fun σ11 => some (v10, σ11)))))))))) else (g_k1 (f_X5_first σ a0) fun v22 => (g_k1 (f_X5_what σ a0) fun v23 => (g_k1 (if v23 = (1 : Int32) then some (1 : Int32) else some (0 : Int32)) fun x24 => (g_k2 (f_X1_carryOutCut σ v22 x24) fun v27 σ28 => some (v27, σ28)))))))
set_option maxRecDepth 100000 in
set_option maxHeartbeats 4000000 in
theorem c_X9_carryOutItem (l : Launch) {Γ : gG} {ad : Nat → Nat} {N : Nat} (hN : 202 ≤ N) {σ : gSt} {a0 : Int32}  {r : Int32} {σ' : gSt} (hf : f_X9_carryOutItem σ a0 = some (r, σ')) : gMi l celC Γ ad N yX9_carryOutItem cX9_carryOutItem 4 (some .int) (gR 6 0 0) [.ref (ad 0), .int a0] σ r σ' := by
  intro sz
  refine gOf (Qc := fun sz => gQci celC Γ ad N r σ' sz) RX9 (by decide) rfl (by decide) (fun p e s m args below meth c H locs ls X S hl => ?_)
  have hl : lv_has ls 4 [(0, .ref (ad 0)), (1, .int a0)] := hl
  have hx := X.1
  have hb := X.2.1
  unfold f_X9_carryOutItem at hf
  refine lv_aload_n hx hb dX9_carryOutItem_0 rfl (lv_at hl 0 rfl) ?_
  refine gfX9_61 X S hN kd_s0 dX9_carryOutItem_1 ?_
  refine lv_iload_n hx hb dX9_carryOutItem_4 rfl (lv_at hl 1 rfl) ?_
  obtain ⟨v1, hv1, hf⟩ := g_s1 hf
  refine g_ki S (g_runV (rest := []) X S (c_X5_what l hN  hv1 _) cvX5_what mlX9_386 (kd_N kd_s191 (by decide) hN) (ceC_5 kd_s191 _) rfl rfl rfl hl.1 (by decide) ⟨⟨rfl, rfl⟩, ⟨Nat.le_of_ble_eq_true rfl, Nat.le_of_ble_eq_true rfl⟩, Nat.le_of_ble_eq_true rfl, Nat.le_of_ble_eq_true rfl⟩ dX9_carryOutItem_5) (fun H locs S => ?_)
  refine lv_if_eq (tgt := 44) hx hb dX9_carryOutItem_8 (by decide) (fun c2 => ?_) (fun c2 => ?_)
  · have hf := (if_pos c2).symm.trans hf
    refine lv_aload_n hx hb dX9_carryOutItem_44 rfl (lv_at hl 0 rfl) ?_
    refine gfX9_55 X S hN kd_s0 dX9_carryOutItem_45 ?_
    obtain ⟨σ3, hσ3, hf⟩ := g_s1 hf
    refine g_kv S (g_runV (rest := []) X S (c_X7_clear l hN kd_s189 hσ3 _) cvX7_clear mlX9_177 (kd_N kd_s189 (by decide) hN) (ceC_7 kd_s189 _) rfl rfl rfl hl.1 (by decide) ⟨⟨rfl, rfl⟩, ⟨Nat.le_of_ble_eq_true rfl, Nat.le_of_ble_eq_true rfl⟩, Nat.le_of_ble_eq_true rfl, Nat.le_of_ble_eq_true rfl⟩ dX9_carryOutItem_48) (fun H locs S => ?_)
    refine lv_aload_n hx hb dX9_carryOutItem_51 rfl (lv_at hl 0 rfl) ?_
    refine gfX9_55 X S hN kd_s0 dX9_carryOutItem_52 ?_
    refine lv_aload_n hx hb dX9_carryOutItem_55 rfl (lv_at hl 0 rfl) ?_
    refine gfX9_51 X S hN kd_s0 dX9_carryOutItem_56 ?_
    refine lv_aload_n hx hb dX9_carryOutItem_59 rfl (lv_at hl 0 rfl) ?_
    refine gfX9_61 X S hN kd_s0 dX9_carryOutItem_60 ?_
    refine lv_iload_n hx hb dX9_carryOutItem_63 rfl (lv_at hl 1 rfl) ?_
    obtain ⟨v4, hv4, hf⟩ := g_s1 hf
    refine g_ki S (g_runV (rest := [.ref (ad 187), .ref (ad 189)]) X S (c_X5_wordsFrom l hN  hv4 _) cvX5_wordsFrom mlX9_394 (kd_N kd_s191 (by decide) hN) (ceC_5 kd_s191 _) rfl rfl rfl hl.1 (by decide) ⟨⟨rfl, rfl⟩, ⟨Nat.le_of_ble_eq_true rfl, Nat.le_of_ble_eq_true rfl⟩, Nat.le_of_ble_eq_true rfl, Nat.le_of_ble_eq_true rfl⟩ dX9_carryOutItem_64) (fun H locs S => ?_)
    refine lv_aload_n hx hb dX9_carryOutItem_67 rfl (lv_at hl 0 rfl) ?_
    refine gfX9_61 X S hN kd_s0 dX9_carryOutItem_68 ?_
    refine lv_iload_n hx hb dX9_carryOutItem_71 rfl (lv_at hl 1 rfl) ?_
    obtain ⟨v5, hv5, hf⟩ := g_s1 hf
    refine g_ki S (g_runV (rest := [.int v4, .ref (ad 187), .ref (ad 189)]) X S (c_X5_wordsTo l hN  hv5 _) cvX5_wordsTo mlX9_397 (kd_N kd_s191 (by decide) hN) (ceC_5 kd_s191 _) rfl rfl rfl hl.1 (by decide) ⟨⟨rfl, rfl⟩, ⟨Nat.le_of_ble_eq_true rfl, Nat.le_of_ble_eq_true rfl⟩, Nat.le_of_ble_eq_true rfl, Nat.le_of_ble_eq_true rfl⟩ dX9_carryOutItem_72) (fun H locs S => ?_)
    obtain ⟨σ6, hσ6, hf⟩ := g_s1 hf
    refine g_kv S (g_runV (rest := []) X S (c_X7_appendPart l hN kd_s189 kd_s187 hσ6 _) cvX7_appendPart mlX9_180 (kd_N kd_s189 (by decide) hN) (ceC_7 kd_s189 _) rfl rfl rfl hl.1 (by decide) ⟨⟨rfl, rfl⟩, ⟨Nat.le_of_ble_eq_true rfl, Nat.le_of_ble_eq_true rfl⟩, Nat.le_of_ble_eq_true rfl, Nat.le_of_ble_eq_true rfl⟩ dX9_carryOutItem_75) (fun H locs S => ?_)
    refine lv_aload_n hx hb dX9_carryOutItem_78 rfl (lv_at hl 0 rfl) ?_
    refine gfX9_10 X S hN kd_s0 dX9_carryOutItem_79 ?_
    refine lv_aload_n hx hb dX9_carryOutItem_82 rfl (lv_at hl 0 rfl) ?_
    refine gfX9_61 X S hN kd_s0 dX9_carryOutItem_83 ?_
    refine lv_iload_n hx hb dX9_carryOutItem_86 rfl (lv_at hl 1 rfl) ?_
    obtain ⟨v7, hv7, hf⟩ := g_s1 hf
    refine g_ki S (g_runV (rest := [.ref (ad 1)]) X S (c_X5_trackOfItem l hN  hv7 _) cvX5_trackOfItem mlX9_400 (kd_N kd_s191 (by decide) hN) (ceC_5 kd_s191 _) rfl rfl rfl hl.1 (by decide) ⟨⟨rfl, rfl⟩, ⟨Nat.le_of_ble_eq_true rfl, Nat.le_of_ble_eq_true rfl⟩, Nat.le_of_ble_eq_true rfl, Nat.le_of_ble_eq_true rfl⟩ dX9_carryOutItem_87) (fun H locs S => ?_)
    refine lv_aload_n hx hb dX9_carryOutItem_90 rfl (lv_at hl 0 rfl) ?_
    refine gfX9_61 X S hN kd_s0 dX9_carryOutItem_91 ?_
    refine lv_iload_n hx hb dX9_carryOutItem_94 rfl (lv_at hl 1 rfl) ?_
    obtain ⟨v8, hv8, hf⟩ := g_s1 hf
    refine g_ki S (g_runV (rest := [.int v7, .ref (ad 1)]) X S (c_X5_first l hN  hv8 _) cvX5_first mlX9_389 (kd_N kd_s191 (by decide) hN) (ceC_5 kd_s191 _) rfl rfl rfl hl.1 (by decide) ⟨⟨rfl, rfl⟩, ⟨Nat.le_of_ble_eq_true rfl, Nat.le_of_ble_eq_true rfl⟩, Nat.le_of_ble_eq_true rfl, Nat.le_of_ble_eq_true rfl⟩ dX9_carryOutItem_95) (fun H locs S => ?_)
    refine lv_aload_n hx hb dX9_carryOutItem_98 rfl (lv_at hl 0 rfl) ?_
    refine gfX9_61 X S hN kd_s0 dX9_carryOutItem_99 ?_
    refine lv_iload_n hx hb dX9_carryOutItem_102 rfl (lv_at hl 1 rfl) ?_
    obtain ⟨v9, hv9, hf⟩ := g_s1 hf
    refine g_ki S (g_runV (rest := [.int v8, .int v7, .ref (ad 1)]) X S (c_X5_end l hN  hv9 _) cvX5_end mlX9_403 (kd_N kd_s191 (by decide) hN) (ceC_5 kd_s191 _) rfl rfl rfl hl.1 (by decide) ⟨⟨rfl, rfl⟩, ⟨Nat.le_of_ble_eq_true rfl, Nat.le_of_ble_eq_true rfl⟩, Nat.le_of_ble_eq_true rfl, Nat.le_of_ble_eq_true rfl⟩ dX9_carryOutItem_103) (fun H locs S => ?_)
    refine lv_aload_n hx hb dX9_carryOutItem_106 rfl (lv_at hl 0 rfl) ?_
    refine gfX9_55 X S hN kd_s0 dX9_carryOutItem_107 ?_
    obtain ⟨v10, hv10, hf⟩ := g_s1 hf
    refine g_ki S (g_runV (rest := []) X S (c_X3_addRefusal l hN kd_s1 kd_s189 hv10 _) cvX3_addRefusal mlX9_189 (kd_N kd_s1 (by decide) hN) (ceC_3 kd_s1 _) rfl rfl rfl hl.1 (by decide) ⟨⟨rfl, rfl⟩, ⟨Nat.le_of_ble_eq_true rfl, Nat.le_of_ble_eq_true rfl⟩, Nat.le_of_ble_eq_true rfl, Nat.le_of_ble_eq_true rfl⟩ dX9_carryOutItem_110) (fun H locs S => ?_)
    refine lv_istore_n (lv' := [(2, .int v10), (0, .ref (ad 0)), (1, .int a0)]) hx hb dX9_carryOutItem_113 rfl hl (by decide) rfl (fun ls hl => ?_)
    refine lv_iload_n hx hb dX9_carryOutItem_114 rfl (lv_at hl 0 rfl) ?_
    obtain ⟨σ11, hr12, hf⟩ := g_s1 hf
    have J13 : ∀ (H : Heap) (locs : List Loc) (ls : Array Slot), gS celC Γ ad N σ11 s H locs → lv_has ls 4 [(2, .int v10)] → W p l e (gR 6 0 0) s m args below meth c H locs 0 0 (gQi celC Γ ad N r σ' below args s) (F0 m 167 ls []) := by
      intro H locs ls S hl
      refine lv_iload_n hx hb dX9_carryOutItem_167 rfl (lv_at hl 0 rfl) ?_
      cases hf
      exact g_reti X S rfl dX9_carryOutItem_168
    replace hf := hr12
    refine lv_if_ne (tgt := 167) hx hb dX9_carryOutItem_115 (by decide) (fun c14 => ?_) (fun c14 => ?_)
    · have hf := (if_neg c14).symm.trans hf
      cases hf
      exact J13 _ _ _ S (lv_sub hl [0] rfl)
    · have hf := (if_pos c14).symm.trans hf
      refine lv_aload_n hx hb dX9_carryOutItem_118 rfl (lv_at hl 1 rfl) ?_
      refine gfX9_10 X S hN kd_s0 dX9_carryOutItem_119 ?_
      refine lv_aload_n hx hb dX9_carryOutItem_122 rfl (lv_at hl 1 rfl) ?_
      refine gfX9_61 X S hN kd_s0 dX9_carryOutItem_123 ?_
      refine lv_iload_n hx hb dX9_carryOutItem_126 rfl (lv_at hl 2 rfl) ?_
      obtain ⟨v15, hv15, hf⟩ := g_s1 hf
      refine g_ki S (g_runV (rest := [.ref (ad 1)]) X S (c_X5_trackOfItem l hN  hv15 _) cvX5_trackOfItem mlX9_400 (kd_N kd_s191 (by decide) hN) (ceC_5 kd_s191 _) rfl rfl rfl hl.1 (by decide) ⟨⟨rfl, rfl⟩, ⟨Nat.le_of_ble_eq_true rfl, Nat.le_of_ble_eq_true rfl⟩, Nat.le_of_ble_eq_true rfl, Nat.le_of_ble_eq_true rfl⟩ dX9_carryOutItem_127) (fun H locs S => ?_)
      obtain ⟨v16, hv16, hf⟩ := g_s1 hf
      refine g_kr S (g_runV (rest := []) X S (c_X3_trackOf l hN kd_s1 hv16 _) cvX3_trackOf mlX9_138 (kd_N kd_s1 (by decide) hN) (ceC_3 kd_s1 _) rfl rfl rfl hl.1 (by decide) ⟨⟨rfl, rfl⟩, ⟨Nat.le_of_ble_eq_true rfl, Nat.le_of_ble_eq_true rfl⟩, Nat.le_of_ble_eq_true rfl, Nat.le_of_ble_eq_true rfl⟩ dX9_carryOutItem_130) (fun H locs S => ?_)
      have hkv16 : gkd v16 = 8 := kr_X3_trackOf kd_s1 hv16
      refine lv_astore_n (lv' := [(3, .ref (ad v16)), (2, .int v10), (0, .ref (ad 0)), (1, .int a0)]) hx hb dX9_carryOutItem_133 rfl hl (by decide) rfl (fun ls hl => ?_)
      refine lv_aload_n hx hb dX9_carryOutItem_134 rfl (lv_at hl 0 rfl) ?_
      refine lv_aload_n hx hb dX9_carryOutItem_135 rfl (lv_at hl 2 rfl) ?_
      refine gfX9_61 X S hN kd_s0 dX9_carryOutItem_136 ?_
      refine lv_iload_n hx hb dX9_carryOutItem_139 rfl (lv_at hl 3 rfl) ?_
      obtain ⟨v17, hv17, hf⟩ := g_s1 hf
      refine g_ki S (g_runV (rest := [.ref (ad v16)]) X S (c_X5_kind l hN  hv17 _) cvX5_kind mlX9_404 (kd_N kd_s191 (by decide) hN) (ceC_5 kd_s191 _) rfl rfl rfl hl.1 (by decide) ⟨⟨rfl, rfl⟩, ⟨Nat.le_of_ble_eq_true rfl, Nat.le_of_ble_eq_true rfl⟩, Nat.le_of_ble_eq_true rfl, Nat.le_of_ble_eq_true rfl⟩ dX9_carryOutItem_140) (fun H locs S => ?_)
      refine lv_aload_n hx hb dX9_carryOutItem_143 rfl (lv_at hl 2 rfl) ?_
      refine gfX9_61 X S hN kd_s0 dX9_carryOutItem_144 ?_
      refine lv_iload_n hx hb dX9_carryOutItem_147 rfl (lv_at hl 3 rfl) ?_
      obtain ⟨v18, hv18, hf⟩ := g_s1 hf
      refine g_ki S (g_runV (rest := [.int v17, .ref (ad v16)]) X S (c_X5_first l hN  hv18 _) cvX5_first mlX9_389 (kd_N kd_s191 (by decide) hN) (ceC_5 kd_s191 _) rfl rfl rfl hl.1 (by decide) ⟨⟨rfl, rfl⟩, ⟨Nat.le_of_ble_eq_true rfl, Nat.le_of_ble_eq_true rfl⟩, Nat.le_of_ble_eq_true rfl, Nat.le_of_ble_eq_true rfl⟩ dX9_carryOutItem_148) (fun H locs S => ?_)
      refine lv_aload_n hx hb dX9_carryOutItem_151 rfl (lv_at hl 2 rfl) ?_
      refine gfX9_61 X S hN kd_s0 dX9_carryOutItem_152 ?_
      refine lv_iload_n hx hb dX9_carryOutItem_155 rfl (lv_at hl 3 rfl) ?_
      obtain ⟨v19, hv19, hf⟩ := g_s1 hf
      refine g_ki S (g_runV (rest := [.int v18, .int v17, .ref (ad v16)]) X S (c_X5_end l hN  hv19 _) cvX5_end mlX9_403 (kd_N kd_s191 (by decide) hN) (ceC_5 kd_s191 _) rfl rfl rfl hl.1 (by decide) ⟨⟨rfl, rfl⟩, ⟨Nat.le_of_ble_eq_true rfl, Nat.le_of_ble_eq_true rfl⟩, Nat.le_of_ble_eq_true rfl, Nat.le_of_ble_eq_true rfl⟩ dX9_carryOutItem_156) (fun H locs S => ?_)
      refine lv_aload_n hx hb dX9_carryOutItem_159 rfl (lv_at hl 2 rfl) ?_
      refine gfX9_55 X S hN kd_s0 dX9_carryOutItem_160 ?_
      obtain ⟨v20, σ21, hv20, hf⟩ := g_s2 hf
      refine g_ki S (g_runV (rest := []) X S (c_X8_insertCaption l hN hkv16 kd_s189 hv20 _) cvX8_insertCaption mlX9_193 (kd_N hkv16 (by decide) hN) (ceC_8 hkv16 _) rfl rfl rfl hl.1 (by decide) ⟨⟨rfl, rfl⟩, ⟨Nat.le_of_ble_eq_true rfl, Nat.le_of_ble_eq_true rfl⟩, Nat.le_of_ble_eq_true rfl, Nat.le_of_ble_eq_true rfl⟩ dX9_carryOutItem_163) (fun H locs S => ?_)
      refine lv_pop hx hb dX9_carryOutItem_166 rfl ?_
      cases hf
      exact J13 _ _ _ S (lv_sub hl [1] rfl)
  · have hf := (if_neg c2).symm.trans hf
    refine lv_aload_n hx hb dX9_carryOutItem_11 rfl (lv_at hl 0 rfl) ?_
    refine gfX9_30 X S hN kd_s0 dX9_carryOutItem_12 ?_
    refine lv_aload_n hx hb dX9_carryOutItem_15 rfl (lv_at hl 0 rfl) ?_
    refine gfX9_61 X S hN kd_s0 dX9_carryOutItem_16 ?_
    refine lv_iload_n hx hb dX9_carryOutItem_19 rfl (lv_at hl 1 rfl) ?_
    obtain ⟨v22, hv22, hf⟩ := g_s1 hf
    refine g_ki S (g_runV (rest := [.ref (ad 20)]) X S (c_X5_first l hN  hv22 _) cvX5_first mlX9_389 (kd_N kd_s191 (by decide) hN) (ceC_5 kd_s191 _) rfl rfl rfl hl.1 (by decide) ⟨⟨rfl, rfl⟩, ⟨Nat.le_of_ble_eq_true rfl, Nat.le_of_ble_eq_true rfl⟩, Nat.le_of_ble_eq_true rfl, Nat.le_of_ble_eq_true rfl⟩ dX9_carryOutItem_20) (fun H locs S => ?_)
    refine lv_aload_n hx hb dX9_carryOutItem_23 rfl (lv_at hl 0 rfl) ?_
    refine gfX9_61 X S hN kd_s0 dX9_carryOutItem_24 ?_
    refine lv_iload_n hx hb dX9_carryOutItem_27 rfl (lv_at hl 1 rfl) ?_
    obtain ⟨v23, hv23, hf⟩ := g_s1 hf
    refine g_ki S (g_runV (rest := [.int v22, .ref (ad 20)]) X S (c_X5_what l hN  hv23 _) cvX5_what mlX9_386 (kd_N kd_s191 (by decide) hN) (ceC_5 kd_s191 _) rfl rfl rfl hl.1 (by decide) ⟨⟨rfl, rfl⟩, ⟨Nat.le_of_ble_eq_true rfl, Nat.le_of_ble_eq_true rfl⟩, Nat.le_of_ble_eq_true rfl, Nat.le_of_ble_eq_true rfl⟩ dX9_carryOutItem_28) (fun H locs S => ?_)
    refine lv_iconst (v := (1 : Int32)) hx hb dX9_carryOutItem_31 (by decide) ?_
    obtain ⟨x24, hr25, hf⟩ := g_s1 hf
    have J26 : ∀ (H : Heap) (locs : List Loc) (ls : Array Slot), gS celC Γ ad N σ s H locs → lv_has ls 4 [] → W p l e (gR 6 0 0) s m args below meth c H locs 0 0 (gQi celC Γ ad N r σ' below args s) (F0 m 40 ls [.int x24, .int v22, .ref (ad 20)]) := by
      intro H locs ls S hl
      obtain ⟨v27, σ28, hv27, hf⟩ := g_s2 hf
      refine g_ki S (g_runV (rest := []) X S (c_X1_carryOutCut l hN  hv27 _) cvX1_carryOutCut mlX9_390 (kd_N kd_s20 (by decide) hN) (ceC_1 kd_s20 _) rfl rfl rfl hl.1 (by decide) ⟨⟨rfl, rfl⟩, ⟨Nat.le_of_ble_eq_true rfl, Nat.le_of_ble_eq_true rfl⟩, Nat.le_of_ble_eq_true rfl, Nat.le_of_ble_eq_true rfl⟩ dX9_carryOutItem_40) (fun H locs S => ?_)
      cases hf
      exact g_reti X S rfl dX9_carryOutItem_43
    replace hf := hr25
    refine lv_icmp_ne (tgt := 39) hx hb dX9_carryOutItem_32 (by decide) (fun c29 => ?_) (fun c29 => ?_)
    · have hf := (if_neg c29).symm.trans hf
      refine lv_iconst (v := (0 : Int32)) hx hb dX9_carryOutItem_39 (by decide) ?_
      cases hf
      exact J26 _ _ _ S (lv_sub hl [] rfl)
    · have hf := (if_pos c29).symm.trans hf
      refine lv_iconst (v := (1 : Int32)) hx hb dX9_carryOutItem_35 (by decide) ?_
      refine lv_goto (tgt := 40) hx hb dX9_carryOutItem_36 (by decide) ?_
      cases hf
      exact J26 _ _ _ S (lv_sub hl [] rfl)

noncomputable def f_X9_carryOutItems_l1 (σ1 : gSt) : Nat → Int32 → gSt → Option (Int32 × gSt)
  | 0, _, _ => none
  | n + 1, i2, σ3 => (if (σ3 191 7) ≤ i2 then (g_k1 (f_X4_commit σ3 ) fun σ5 => some ((1 : Int32), σ5)) else (g_k2 (f_X9_carryOutItem σ3 i2) fun v6 σ7 => (if v6 = 0 then (f_X9_carryOutItems_l1 σ1 n (i2 + 1) σ7) else (g_k1 (f_X4_takeBackInto σ7 1) fun σ9 => (g_k1 (f_X9_keepRefusal σ9 v6 i2) fun σ10 => some ((0 : Int32), σ10))))))
set_option maxRecDepth 100000 in
set_option maxHeartbeats 4000000 in
theorem w_X9_carryOutItems_l1 {l : Launch} {Γ : gG} {ad : Nat → Nat} {N : Nat} {p : Program} {e : Env} {s : State} {m : MethodId} {args : Array Value} {below : List Frame} {meth : Method} {c : Code} (hN : 202 ≤ N) (X : gX celC Γ ad N RX9 cX9_carryOutItems 3 (some .boolean) p s m args meth c) {σ1 : gSt}  : ∀ (n : Nat) (i2 : Int32) (σ3 : gSt) (r : Int32) (σ' : gSt), f_X9_carryOutItems_l1 σ1 n i2 σ3 = some (r, σ') → ∀ (H : Heap) (locs : List Loc) (ls : Array Slot), gS celC Γ ad N σ3 s H locs → lv_has ls 3 [(1, .int i2), (0, .ref (ad 0))] → W p l e (gR 7 0 0) s m args below meth c H locs 0 0 (gQi celC Γ ad N r σ' below args s) (F0 m 13 ls []) := by
  have hx := X.1
  have hb := X.2.1
  intro n
  induction n with
  | zero =>
    intro i2 σ3 r σ' hf
    cases hf
  | succ n ih =>
    intro i2 σ3 r σ' hf H locs ls S hl
    rw [f_X9_carryOutItems_l1] at hf
    refine lv_iload_n hx hb dX9_carryOutItems_13 rfl (lv_at hl 0 rfl) ?_
    refine lv_aload_n hx hb dX9_carryOutItems_14 rfl (lv_at hl 1 rfl) ?_
    refine gfX9_61 X S hN kd_s0 dX9_carryOutItems_15 ?_
    refine gfX9_338 X S hN kd_s191 dX9_carryOutItems_18 ?_
    refine lv_icmp_ge (tgt := 59) hx hb dX9_carryOutItems_21 (by decide) (fun c4 => ?_) (fun c4 => ?_)
    · have hf := (if_pos c4).symm.trans hf
      refine lv_aload_n hx hb dX9_carryOutItems_59 rfl (lv_at hl 1 rfl) ?_
      refine gfX9_37 X S hN kd_s0 dX9_carryOutItems_60 ?_
      obtain ⟨σ5, hσ5, hf⟩ := g_s1 hf
      refine g_kv S (g_runV (rest := []) X S (c_X4_commit l hN  hσ5 _) cvX4_commit mlX9_383 (kd_N kd_s25 (by decide) hN) (ceC_4 kd_s25 _) rfl rfl rfl hl.1 (by decide) ⟨⟨rfl, rfl⟩, ⟨Nat.le_of_ble_eq_true rfl, Nat.le_of_ble_eq_true rfl⟩, Nat.le_of_ble_eq_true rfl, Nat.le_of_ble_eq_true rfl⟩ dX9_carryOutItems_63) (fun H locs S => ?_)
      refine lv_iconst (v := (1 : Int32)) hx hb dX9_carryOutItems_66 (by decide) ?_
      cases hf
      exact g_reti X S (by decide +kernel) dX9_carryOutItems_67
    · have hf := (if_neg c4).symm.trans hf
      refine lv_aload_n hx hb dX9_carryOutItems_24 rfl (lv_at hl 1 rfl) ?_
      refine lv_iload_n hx hb dX9_carryOutItems_25 rfl (lv_at hl 0 rfl) ?_
      obtain ⟨v6, σ7, hv6, hf⟩ := g_s2 hf
      refine g_ki S (g_runV (rest := []) X S (c_X9_carryOutItem l hN  hv6 _) cvX9_carryOutItem mlX9_377 (kd_N kd_s0 (by decide) hN) (ceC_9 kd_s0 _) rfl rfl rfl hl.1 (by decide) ⟨⟨rfl, rfl⟩, ⟨Nat.le_of_ble_eq_true rfl, Nat.le_of_ble_eq_true rfl⟩, Nat.le_of_ble_eq_true rfl, Nat.le_of_ble_eq_true rfl⟩ dX9_carryOutItems_26) (fun H locs S => ?_)
      refine lv_istore_n (lv' := [(2, .int v6), (1, .int i2), (0, .ref (ad 0))]) hx hb dX9_carryOutItems_29 rfl hl (by decide) rfl (fun ls hl => ?_)
      refine lv_iload_n hx hb dX9_carryOutItems_30 rfl (lv_at hl 0 rfl) ?_
      refine lv_if_eq (tgt := 53) hx hb dX9_carryOutItems_31 (by decide) (fun c8 => ?_) (fun c8 => ?_)
      · have hf := (if_pos c8).symm.trans hf
        refine lv_iinc (v := (i2 + 1)) (lv' := [(1, .int (i2 + 1)), (2, .int v6), (0, .ref (ad 0))]) hx hb dX9_carryOutItems_53 hl (k := 1) rfl rfl (by decide) rfl (fun ls hl => ?_)
        refine lv_goto (tgt := 13) hx hb dX9_carryOutItems_56 (by decide) ?_
        exact ih _ _ _ _  hf _ _ _ S (lv_sub hl [0, 2] rfl)
      · have hf := (if_neg c8).symm.trans hf
        refine lv_aload_n hx hb dX9_carryOutItems_34 rfl (lv_at hl 2 rfl) ?_
        refine gfX9_37 X S hN kd_s0 dX9_carryOutItems_35 ?_
        refine lv_aload_n hx hb dX9_carryOutItems_38 rfl (lv_at hl 2 rfl) ?_
        refine gfX9_10 X S hN kd_s0 dX9_carryOutItems_39 ?_
        obtain ⟨σ9, hσ9, hf⟩ := g_s1 hf
        refine g_kv S (g_runV (rest := []) X S (c_X4_takeBackInto l hN kd_s1 hσ9 _) cvX4_takeBackInto mlX9_380 (kd_N kd_s25 (by decide) hN) (ceC_4 kd_s25 _) rfl rfl rfl hl.1 (by decide) ⟨⟨rfl, rfl⟩, ⟨Nat.le_of_ble_eq_true rfl, Nat.le_of_ble_eq_true rfl⟩, Nat.le_of_ble_eq_true rfl, Nat.le_of_ble_eq_true rfl⟩ dX9_carryOutItems_42) (fun H locs S => ?_)
        refine lv_aload_n hx hb dX9_carryOutItems_45 rfl (lv_at hl 2 rfl) ?_
        refine lv_iload_n hx hb dX9_carryOutItems_46 rfl (lv_at hl 0 rfl) ?_
        refine lv_iload_n hx hb dX9_carryOutItems_47 rfl (lv_at hl 1 rfl) ?_
        obtain ⟨σ10, hσ10, hf⟩ := g_s1 hf
        refine g_kv S (g_runV (rest := []) X S (c_X9_keepRefusal l hN  hσ10 _) cvX9_keepRefusal mlX9_369 (kd_N kd_s0 (by decide) hN) (ceC_9 kd_s0 _) rfl rfl rfl hl.1 (by decide) ⟨⟨rfl, rfl⟩, ⟨Nat.le_of_ble_eq_true rfl, Nat.le_of_ble_eq_true rfl⟩, Nat.le_of_ble_eq_true rfl, Nat.le_of_ble_eq_true rfl⟩ dX9_carryOutItems_48) (fun H locs S => ?_)
        refine lv_iconst (v := (0 : Int32)) hx hb dX9_carryOutItems_51 (by decide) ?_
        cases hf
        exact g_reti X S (by decide +kernel) dX9_carryOutItems_52
noncomputable def f_X9_carryOutItems (σ : gSt)  : Option (Int32 × gSt) :=
  (g_k1 (f_X4_prepare σ 1) fun σ1 => (f_X9_carryOutItems_l1 σ1 FU (0 : Int32) σ1))
set_option maxRecDepth 100000 in
set_option maxHeartbeats 4000000 in
theorem c_X9_carryOutItems (l : Launch) {Γ : gG} {ad : Nat → Nat} {N : Nat} (hN : 202 ≤ N) {σ : gSt}   {r : Int32} {σ' : gSt} (hf : f_X9_carryOutItems σ  = some (r, σ')) : gMi l celC Γ ad N yX9_carryOutItems cX9_carryOutItems 3 (some .boolean) (gR 7 0 0) [.ref (ad 0)] σ r σ' := by
  intro sz
  refine gOf (Qc := fun sz => gQci celC Γ ad N r σ' sz) RX9 (by decide) rfl (by decide) (fun p e s m args below meth c H locs ls X S hl => ?_)
  have hl : lv_has ls 3 [(1, .int (0 : Int32)), (0, .ref (ad 0))] := hl
  have hx := X.1
  have hb := X.2.1
  unfold f_X9_carryOutItems at hf
  refine lv_aload_n hx hb dX9_carryOutItems_0 rfl (lv_at hl 0 rfl) ?_
  refine gfX9_37 X S hN kd_s0 dX9_carryOutItems_1 ?_
  refine lv_aload_n hx hb dX9_carryOutItems_4 rfl (lv_at hl 0 rfl) ?_
  refine gfX9_10 X S hN kd_s0 dX9_carryOutItems_5 ?_
  obtain ⟨σ1, hσ1, hf⟩ := g_s1 hf
  refine g_kv S (g_runV (rest := []) X S (c_X4_prepare l hN kd_s1 hσ1 _) cvX4_prepare mlX9_374 (kd_N kd_s25 (by decide) hN) (ceC_4 kd_s25 _) rfl rfl rfl hl.1 (by decide) ⟨⟨rfl, rfl⟩, ⟨Nat.le_of_ble_eq_true rfl, Nat.le_of_ble_eq_true rfl⟩, Nat.le_of_ble_eq_true rfl, Nat.le_of_ble_eq_true rfl⟩ dX9_carryOutItems_8) (fun H locs S => ?_)
  refine lv_iconst (v := (0 : Int32)) hx hb dX9_carryOutItems_11 (by decide) ?_
  refine lv_istore_n (lv' := [(1, .int (0 : Int32)), (0, .ref (ad 0))]) hx hb dX9_carryOutItems_12 rfl hl (by decide) rfl (fun ls hl => ?_)
  exact w_X9_carryOutItems_l1 hN X  FU _ _ _ _  hf _ _ _ S (lv_sub hl [0, 1] rfl)

