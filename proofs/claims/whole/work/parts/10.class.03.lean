noncomputable def f_X2_joinWithNext (σ : gSt) (a0 : Int32) (a1 : Int32) : Option (Nat × gSt) :=
  (g_k1 (f_X3_trackOf σ 1 a0) fun v1 => (g_k1 (f_X7_clear σ 18) fun σ2 => (g_k1 (f_X8_size σ2 v1 a1) fun v3 => (g_k1 (f_X8_appendTextTo σ2 v1 18 a1 (0 : Int32) v3) fun σ4 => (g_k2 (f_X7_append σ4 18 (95 : Int32)) fun v5 σ6 => (g_k1 (f_X8_size σ6 v1 (a1 + (1 : Int32))) fun v7 => (g_k1 (f_X8_appendTextTo σ6 v1 18 (a1 + (1 : Int32)) (0 : Int32) v7) fun σ8 => some (18, σ8))))))))
set_option maxRecDepth 100000 in
set_option maxHeartbeats 4000000 in
theorem c_X2_joinWithNext (l : Launch) {Γ : gG} {ad : Nat → Nat} {N : Nat} (hN : 202 ≤ N) {σ : gSt} {a0 : Int32} {a1 : Int32}  {r : Nat} {σ' : gSt} (hf : f_X2_joinWithNext σ a0 a1 = some (r, σ')) : gMr l celC Γ ad N yX2_joinWithNext cX2_joinWithNext 4 (some (.object "SubtitleDesk$Text")) (gR 4 0 0) [.ref (ad 17), .int a0, .int a1] σ (some r) σ' := by
  intro sz
  refine gOf (Qc := fun sz => gQcr celC Γ ad N (some r) σ' sz) RX2 (by decide) rfl (Nat.le_of_ble_eq_true rfl) (fun p e s m args below meth c H locs ls X S hl => ?_)
  have hl : lv_has ls 4 [(0, .ref (ad 17)), (1, .int a0), (2, .int a1)] := hl
  have hx := X.1
  have hb := X.2.1
  unfold f_X2_joinWithNext at hf
  refine lv_aload_n hx hb dX2_joinWithNext_0 rfl (lv_at hl 0 rfl) ?_
  refine gfX2_9 X S hN kd_s17 dX2_joinWithNext_1 ?_
  refine lv_iload_n hx hb dX2_joinWithNext_4 rfl (lv_at hl 1 rfl) ?_
  obtain ⟨v1, hv1, hf⟩ := g_s1 hf
  refine g_kr S (g_runV (rest := []) X S (c_X3_trackOf l hN kd_s1 hv1 _) cvX3_trackOf mlX2_22 (kd_N kd_s1 (by decide) hN) (ceC_3 kd_s1 _) rfl rfl rfl hl.1 (Nat.le_of_ble_eq_true rfl) ⟨⟨rfl, rfl⟩, ⟨Nat.le_of_ble_eq_true rfl, Nat.le_of_ble_eq_true rfl⟩, Nat.le_of_ble_eq_true rfl, Nat.le_of_ble_eq_true rfl⟩ dX2_joinWithNext_5) (fun H locs S => ?_)
  have hkv1 : gkd v1 = 8 := kr_X3_trackOf kd_s1 hv1
  refine lv_astore_n (lv' := [(3, .ref (ad v1)), (0, .ref (ad 17)), (1, .int a0), (2, .int a1)]) hx hb dX2_joinWithNext_8 rfl hl (by decide) rfl (fun ls hl => ?_)
  refine lv_aload_n hx hb dX2_joinWithNext_9 rfl (lv_at hl 1 rfl) ?_
  refine gfX2_18 X S hN kd_s17 dX2_joinWithNext_10 ?_
  obtain ⟨σ2, hσ2, hf⟩ := g_s1 hf
  refine g_kv S (g_runV (rest := []) X S (c_X7_clear l hN kd_s18 hσ2 _) cvX7_clear mlX2_119 (kd_N kd_s18 (by decide) hN) (ceC_7 kd_s18 _) rfl rfl rfl hl.1 (Nat.le_of_ble_eq_true rfl) ⟨⟨rfl, rfl⟩, ⟨Nat.le_of_ble_eq_true rfl, Nat.le_of_ble_eq_true rfl⟩, Nat.le_of_ble_eq_true rfl, Nat.le_of_ble_eq_true rfl⟩ dX2_joinWithNext_13) (fun H locs S => ?_)
  refine lv_aload_n hx hb dX2_joinWithNext_16 rfl (lv_at hl 0 rfl) ?_
  refine lv_aload_n hx hb dX2_joinWithNext_17 rfl (lv_at hl 1 rfl) ?_
  refine gfX2_18 X S hN kd_s17 dX2_joinWithNext_18 ?_
  refine lv_iload_n hx hb dX2_joinWithNext_21 rfl (lv_at hl 3 rfl) ?_
  refine lv_iconst (v := (0 : Int32)) hx hb dX2_joinWithNext_22 (by decide) ?_
  refine lv_aload_n hx hb dX2_joinWithNext_23 rfl (lv_at hl 0 rfl) ?_
  refine lv_iload_n hx hb dX2_joinWithNext_24 rfl (lv_at hl 3 rfl) ?_
  obtain ⟨v3, hv3, hf⟩ := g_s1 hf
  refine g_ki S (g_runV (rest := [.int (0 : Int32), .int a1, .ref (ad 18), .ref (ad v1)]) X S (c_X8_size l hN hkv1 hv3 _) cvX8_size mlX2_122 (kd_N hkv1 (by decide) hN) (ceC_8 hkv1 _) rfl rfl rfl hl.1 (Nat.le_of_ble_eq_true rfl) ⟨⟨rfl, rfl⟩, ⟨Nat.le_of_ble_eq_true rfl, Nat.le_of_ble_eq_true rfl⟩, Nat.le_of_ble_eq_true rfl, Nat.le_of_ble_eq_true rfl⟩ dX2_joinWithNext_25) (fun H locs S => ?_)
  obtain ⟨σ4, hσ4, hf⟩ := g_s1 hf
  refine g_kv S (g_runV (rest := []) X S (c_X8_appendTextTo l hN hkv1 kd_s18 hσ4 _) cvX8_appendTextTo mlX2_125 (kd_N hkv1 (by decide) hN) (ceC_8 hkv1 _) rfl rfl rfl hl.1 (Nat.le_of_ble_eq_true rfl) ⟨⟨rfl, rfl⟩, ⟨Nat.le_of_ble_eq_true rfl, Nat.le_of_ble_eq_true rfl⟩, Nat.le_of_ble_eq_true rfl, Nat.le_of_ble_eq_true rfl⟩ dX2_joinWithNext_28) (fun H locs S => ?_)
  refine lv_aload_n hx hb dX2_joinWithNext_31 rfl (lv_at hl 1 rfl) ?_
  refine gfX2_18 X S hN kd_s17 dX2_joinWithNext_32 ?_
  refine lv_bipush (v := (95 : Int32)) hx hb dX2_joinWithNext_35 (by decide) ?_
  obtain ⟨v5, σ6, hv5, hf⟩ := g_s2 hf
  refine g_ki S (g_runV (rest := []) X S (c_X7_append l hN kd_s18 hv5 _) cvX7_append mlX2_129 (kd_N kd_s18 (by decide) hN) (ceC_7 kd_s18 _) rfl rfl rfl hl.1 (Nat.le_of_ble_eq_true rfl) ⟨⟨rfl, rfl⟩, ⟨Nat.le_of_ble_eq_true rfl, Nat.le_of_ble_eq_true rfl⟩, Nat.le_of_ble_eq_true rfl, Nat.le_of_ble_eq_true rfl⟩ dX2_joinWithNext_37) (fun H locs S => ?_)
  refine lv_pop hx hb dX2_joinWithNext_40 rfl ?_
  refine lv_aload_n hx hb dX2_joinWithNext_41 rfl (lv_at hl 0 rfl) ?_
  refine lv_aload_n hx hb dX2_joinWithNext_42 rfl (lv_at hl 1 rfl) ?_
  refine gfX2_18 X S hN kd_s17 dX2_joinWithNext_43 ?_
  refine lv_iload_n hx hb dX2_joinWithNext_46 rfl (lv_at hl 3 rfl) ?_
  refine lv_iconst (v := (1 : Int32)) hx hb dX2_joinWithNext_47 (by decide) ?_
  refine lv_iadd hx hb dX2_joinWithNext_48 ?_
  refine lv_iconst (v := (0 : Int32)) hx hb dX2_joinWithNext_49 (by decide) ?_
  refine lv_aload_n hx hb dX2_joinWithNext_50 rfl (lv_at hl 0 rfl) ?_
  refine lv_iload_n hx hb dX2_joinWithNext_51 rfl (lv_at hl 3 rfl) ?_
  refine lv_iconst (v := (1 : Int32)) hx hb dX2_joinWithNext_52 (by decide) ?_
  refine lv_iadd hx hb dX2_joinWithNext_53 ?_
  obtain ⟨v7, hv7, hf⟩ := g_s1 hf
  refine g_ki S (g_runV (rest := [.int (0 : Int32), .int (a1 + (1 : Int32)), .ref (ad 18), .ref (ad v1)]) X S (c_X8_size l hN hkv1 hv7 _) cvX8_size mlX2_122 (kd_N hkv1 (by decide) hN) (ceC_8 hkv1 _) rfl rfl rfl hl.1 (Nat.le_of_ble_eq_true rfl) ⟨⟨rfl, rfl⟩, ⟨Nat.le_of_ble_eq_true rfl, Nat.le_of_ble_eq_true rfl⟩, Nat.le_of_ble_eq_true rfl, Nat.le_of_ble_eq_true rfl⟩ dX2_joinWithNext_54) (fun H locs S => ?_)
  obtain ⟨σ8, hσ8, hf⟩ := g_s1 hf
  refine g_kv S (g_runV (rest := []) X S (c_X8_appendTextTo l hN hkv1 kd_s18 hσ8 _) cvX8_appendTextTo mlX2_125 (kd_N hkv1 (by decide) hN) (ceC_8 hkv1 _) rfl rfl rfl hl.1 (Nat.le_of_ble_eq_true rfl) ⟨⟨rfl, rfl⟩, ⟨Nat.le_of_ble_eq_true rfl, Nat.le_of_ble_eq_true rfl⟩, Nat.le_of_ble_eq_true rfl, Nat.le_of_ble_eq_true rfl⟩ dX2_joinWithNext_57) (fun H locs S => ?_)
  refine lv_aload_n hx hb dX2_joinWithNext_60 rfl (lv_at hl 1 rfl) ?_
  refine gfX2_18 X S hN kd_s17 dX2_joinWithNext_61 ?_
  cases hf
  exact g_retr X S dX2_joinWithNext_64
theorem kr_X2_joinWithNext {σ σ' : gSt} {a0 a1 : Int32} {r : Nat} (h : f_X2_joinWithNext σ a0 a1 = some (r, σ')) : gkd r = 7 := by
  unfold f_X2_joinWithNext at h
  obtain ⟨_, _, h⟩ := g_s1 h
  obtain ⟨_, _, h⟩ := g_s1 h
  obtain ⟨_, _, h⟩ := g_s1 h
  obtain ⟨_, _, h⟩ := g_s1 h
  obtain ⟨_, _, _, h⟩ := g_s2 h
  obtain ⟨_, _, h⟩ := g_s1 h
  obtain ⟨_, _, h⟩ := g_s1 h
  cases h
  exact kd_s18

noncomputable def f_X3_setting (σ : gSt) (k : Nat) (a0 : Int32) : Option (Int32) :=
  (g_k1 (f_X9_isSetting σ a0) fun v1 => (g_k1 (if v1 = 0 then some (0 : Int32) else (g_k1 (gald σ (k + 1) 6 a0) fun v6 => some v6)) fun x2 => some x2))
set_option maxRecDepth 100000 in
set_option maxHeartbeats 4000000 in
theorem c_X3_setting (l : Launch) {Γ : gG} {ad : Nat → Nat} {N : Nat} (hN : 202 ≤ N) {σ : gSt} {k : Nat} {a0 : Int32} (hk : gkd k = 3) {r : Int32} (hf : f_X3_setting σ k a0 = some r) : gMi l celC Γ ad N yX3_setting cX3_setting 2 (some .int) (gR 2 0 0) [.ref (ad k), .int a0] σ r σ := by
  intro sz
  refine gOf (Qc := fun sz => gQci celC Γ ad N r σ sz) RX3 (by decide) rfl (Nat.le_of_ble_eq_true rfl) (fun p e s m args below meth c H locs ls X S hl => ?_)
  have hl : lv_has ls 2 [(0, .ref (ad k)), (1, .int a0)] := hl
  have hx := X.1
  have hb := X.2.1
  unfold f_X3_setting at hf
  refine lv_iload_n hx hb dX3_setting_0 rfl (lv_at hl 1 rfl) ?_
  obtain ⟨v1, hv1, hf⟩ := g_s1 hf
  refine g_ki S (g_runN (rest := []) X S (c_X9_isSetting l hN  hv1 _) csX9_isSetting mnX3_55 rfl rfl hl.1 (Nat.le_of_ble_eq_true rfl) ⟨⟨rfl, rfl⟩, ⟨Nat.le_of_ble_eq_true rfl, Nat.le_of_ble_eq_true rfl⟩, Nat.le_of_ble_eq_true rfl, Nat.le_of_ble_eq_true rfl⟩ dX3_setting_1) (fun H locs S => ?_)
  obtain ⟨x2, hr3, hf⟩ := g_s1 hf
  have J4 : ∀ (H : Heap) (locs : List Loc) (ls : Array Slot), gS celC Γ ad N σ s H locs → lv_has ls 2 [] → W p l e (gR 2 0 0) s m args below meth c H locs 0 0 (gQi celC Γ ad N r σ below args s) (F0 m 17 ls [.int x2]) := by
    intro H locs ls S hl
    cases hf
    exact g_reti X S rfl dX3_setting_17
  replace hf := hr3
  refine lv_if_eq (tgt := 16) hx hb dX3_setting_4 (by decide) (fun c5 => ?_) (fun c5 => ?_)
  · have hf := (if_pos c5).symm.trans hf
    refine lv_iconst (v := (0 : Int32)) hx hb dX3_setting_16 (by decide) ?_
    cases hf
    exact J4 _ _ _ S (lv_sub hl [] rfl)
  · have hf := (if_neg c5).symm.trans hf
    refine lv_aload_n hx hb dX3_setting_7 rfl (lv_at hl 0 rfl) ?_
    refine gfX3_15 X S hN hk dX3_setting_8 ?_
    refine lv_iload_n hx hb dX3_setting_11 rfl (lv_at hl 1 rfl) ?_
    obtain ⟨v6, hv6, hf⟩ := g_s1 hf
    refine g_iald X S (kd_N (kd_3_1 hk) (by decide) hN) (ceC_106 (kd_3_1 hk)) hv6 dX3_setting_12 ?_
    refine lv_goto (tgt := 17) hx hb dX3_setting_13 (by decide) ?_
    cases hf
    exact J4 _ _ _ S (lv_sub hl [] rfl)

noncomputable def f_X3_isLoose (σ : gSt) (k : Nat) (a0 : Int32) : Option (Int32) :=
  (g_k1 (f_X0_nearest σ (k + 2) a0) fun v1 => (g_k1 (if v1 = (-1 : Int32) then some (0 : Int32) else (if v1 = a0 then some (0 : Int32) else (g_k1 (f_X9_distance σ v1 a0) fun v8 => (g_k1 (f_X3_setting σ k (1 : Int32)) fun v9 => (if v9 < v8 then some (0 : Int32) else some (1 : Int32)))))) fun x2 => (g_k1 (gzb x2) fun v5 => some v5)))
set_option maxRecDepth 100000 in
set_option maxHeartbeats 4000000 in
theorem c_X3_isLoose (l : Launch) {Γ : gG} {ad : Nat → Nat} {N : Nat} (hN : 202 ≤ N) {σ : gSt} {k : Nat} {a0 : Int32} (hk : gkd k = 3) {r : Int32} (hf : f_X3_isLoose σ k a0 = some r) : gMi l celC Γ ad N yX3_isLoose cX3_isLoose 3 (some .boolean) (gR 4 0 0) [.ref (ad k), .int a0] σ r σ := by
  intro sz
  refine gOf (Qc := fun sz => gQci celC Γ ad N r σ sz) RX3 (by decide) rfl (Nat.le_of_ble_eq_true rfl) (fun p e s m args below meth c H locs ls X S hl => ?_)
  have hl : lv_has ls 3 [(0, .ref (ad k)), (1, .int a0)] := hl
  have hx := X.1
  have hb := X.2.1
  unfold f_X3_isLoose at hf
  refine lv_aload_n hx hb dX3_isLoose_0 rfl (lv_at hl 0 rfl) ?_
  refine gfX3_31 X S hN hk dX3_isLoose_1 ?_
  refine lv_iload_n hx hb dX3_isLoose_4 rfl (lv_at hl 1 rfl) ?_
  obtain ⟨v1, hv1, hf⟩ := g_s1 hf
  refine g_ki S (g_runV (rest := []) X S (c_X0_nearest l hN (kd_3_2 hk) hv1 _) cvX0_nearest mlX3_63 (kd_N (kd_3_2 hk) (by decide) hN) (ceC_0 (kd_3_2 hk) _) rfl rfl rfl hl.1 (Nat.le_of_ble_eq_true rfl) ⟨⟨rfl, rfl⟩, ⟨Nat.le_of_ble_eq_true rfl, Nat.le_of_ble_eq_true rfl⟩, Nat.le_of_ble_eq_true rfl, Nat.le_of_ble_eq_true rfl⟩ dX3_isLoose_5) (fun H locs S => ?_)
  refine lv_istore_n (lv' := [(2, .int v1), (0, .ref (ad k)), (1, .int a0)]) hx hb dX3_isLoose_8 rfl hl (by decide) rfl (fun ls hl => ?_)
  refine lv_iload_n hx hb dX3_isLoose_9 rfl (lv_at hl 0 rfl) ?_
  refine lv_iconst (v := (-1 : Int32)) hx hb dX3_isLoose_10 (by decide) ?_
  obtain ⟨x2, hr3, hf⟩ := g_s1 hf
  have J4 : ∀ (H : Heap) (locs : List Loc) (ls : Array Slot), gS celC Γ ad N σ s H locs → lv_has ls 3 [] → W p l e (gR 4 0 0) s m args below meth c H locs 0 0 (gQi celC Γ ad N r σ below args s) (F0 m 37 ls [.int x2]) := by
    intro H locs ls S hl
    obtain ⟨v5, hv5, hf⟩ := g_s1 hf
    obtain ⟨hnv5, rfl⟩ := gzb_some hv5
    cases hf
    exact g_reti X S hnv5 dX3_isLoose_37
  replace hf := hr3
  refine lv_icmp_eq (tgt := 36) hx hb dX3_isLoose_11 (by decide) (fun c6 => ?_) (fun c6 => ?_)
  · have hf := (if_pos c6).symm.trans hf
    refine lv_iconst (v := (0 : Int32)) hx hb dX3_isLoose_36 (by decide) ?_
    cases hf
    exact J4 _ _ _ S (lv_sub hl [] rfl)
  · have hf := (if_neg c6).symm.trans hf
    refine lv_iload_n hx hb dX3_isLoose_14 rfl (lv_at hl 0 rfl) ?_
    refine lv_iload_n hx hb dX3_isLoose_15 rfl (lv_at hl 2 rfl) ?_
    refine lv_icmp_eq (tgt := 36) hx hb dX3_isLoose_16 (by decide) (fun c7 => ?_) (fun c7 => ?_)
    · have hf := (if_pos c7).symm.trans hf
      refine lv_iconst (v := (0 : Int32)) hx hb dX3_isLoose_36 (by decide) ?_
      cases hf
      exact J4 _ _ _ S (lv_sub hl [] rfl)
    · have hf := (if_neg c7).symm.trans hf
      refine lv_iload_n hx hb dX3_isLoose_19 rfl (lv_at hl 0 rfl) ?_
      refine lv_iload_n hx hb dX3_isLoose_20 rfl (lv_at hl 2 rfl) ?_
      obtain ⟨v8, hv8, hf⟩ := g_s1 hf
      refine g_ki S (g_runN (rest := []) X S (c_X9_distance l hN  hv8 _) csX9_distance mnX3_66 rfl rfl hl.1 (Nat.le_of_ble_eq_true rfl) ⟨⟨rfl, rfl⟩, ⟨Nat.le_of_ble_eq_true rfl, Nat.le_of_ble_eq_true rfl⟩, Nat.le_of_ble_eq_true rfl, Nat.le_of_ble_eq_true rfl⟩ dX3_isLoose_21) (fun H locs S => ?_)
      refine lv_aload_n hx hb dX3_isLoose_24 rfl (lv_at hl 1 rfl) ?_
      refine lv_iconst (v := (1 : Int32)) hx hb dX3_isLoose_25 (by decide) ?_
      obtain ⟨v9, hv9, hf⟩ := g_s1 hf
      refine g_ki S (g_runV (rest := [.int v8]) X S (c_X3_setting l hN hk hv9 _) cvX3_setting mlX3_59 (kd_N hk (by decide) hN) (ceC_3 hk _) rfl rfl rfl hl.1 (Nat.le_of_ble_eq_true rfl) ⟨⟨rfl, rfl⟩, ⟨Nat.le_of_ble_eq_true rfl, Nat.le_of_ble_eq_true rfl⟩, Nat.le_of_ble_eq_true rfl, Nat.le_of_ble_eq_true rfl⟩ dX3_isLoose_26) (fun H locs S => ?_)
      refine lv_icmp_gt (tgt := 36) hx hb dX3_isLoose_29 (by decide) (fun c10 => ?_) (fun c10 => ?_)
      · have hf := (if_pos c10).symm.trans hf
        refine lv_iconst (v := (0 : Int32)) hx hb dX3_isLoose_36 (by decide) ?_
        cases hf
        exact J4 _ _ _ S (lv_sub hl [] rfl)
      · have hf := (if_neg c10).symm.trans hf
        refine lv_iconst (v := (1 : Int32)) hx hb dX3_isLoose_32 (by decide) ?_
        refine lv_goto (tgt := 37) hx hb dX3_isLoose_33 (by decide) ?_
        cases hf
        exact J4 _ _ _ S (lv_sub hl [] rfl)

noncomputable def f_X3_spanRefusal (σ : gSt) (k : Nat) (a0 : Int32) (a1 : Int32) : Option (Int32) :=
  (if a0 < 0 then some (1 : Int32) else (if a1 ≤ (σ k 0) then (g_k1 (if a0 < a1 then some (0 : Int32) else some (2 : Int32)) fun x3 => some x3) else some (1 : Int32)))
set_option maxRecDepth 100000 in
set_option maxHeartbeats 4000000 in
theorem c_X3_spanRefusal (l : Launch) {Γ : gG} {ad : Nat → Nat} {N : Nat} (hN : 202 ≤ N) {σ : gSt} {k : Nat} {a0 : Int32} {a1 : Int32} (hk : gkd k = 3) {r : Int32} (hf : f_X3_spanRefusal σ k a0 a1 = some r) : gMi l celC Γ ad N yX3_spanRefusal cX3_spanRefusal 3 (some .int) (gR 1 0 0) [.ref (ad k), .int a0, .int a1] σ r σ := by
  intro sz
  refine gOf (Qc := fun sz => gQci celC Γ ad N r σ sz) RX3 (by decide) rfl (Nat.le_of_ble_eq_true rfl) (fun p e s m args below meth c H locs ls X S hl => ?_)
  have hl : lv_has ls 3 [(0, .ref (ad k)), (1, .int a0), (2, .int a1)] := hl
  have hx := X.1
  have hb := X.2.1
  unfold f_X3_spanRefusal at hf
  refine lv_iload_n hx hb dX3_spanRefusal_0 rfl (lv_at hl 1 rfl) ?_
  refine lv_if_lt (tgt := 12) hx hb dX3_spanRefusal_1 (by decide) (fun c1 => ?_) (fun c1 => ?_)
  · have hf := (if_pos c1).symm.trans hf
    refine lv_iconst (v := (1 : Int32)) hx hb dX3_spanRefusal_12 (by decide) ?_
    cases hf
    exact g_reti X S rfl dX3_spanRefusal_13
  · have hf := (if_neg c1).symm.trans hf
    refine lv_iload_n hx hb dX3_spanRefusal_4 rfl (lv_at hl 2 rfl) ?_
    refine lv_aload_n hx hb dX3_spanRefusal_5 rfl (lv_at hl 0 rfl) ?_
    refine gfX3_9 X S hN hk dX3_spanRefusal_6 ?_
    refine lv_icmp_le (tgt := 14) hx hb dX3_spanRefusal_9 (by decide) (fun c2 => ?_) (fun c2 => ?_)
    · have hf := (if_pos c2).symm.trans hf
      refine lv_iload_n hx hb dX3_spanRefusal_14 rfl (lv_at hl 1 rfl) ?_
      refine lv_iload_n hx hb dX3_spanRefusal_15 rfl (lv_at hl 2 rfl) ?_
      obtain ⟨x3, hr4, hf⟩ := g_s1 hf
      have J5 : ∀ (H : Heap) (locs : List Loc) (ls : Array Slot), gS celC Γ ad N σ s H locs → lv_has ls 3 [] → W p l e (gR 1 0 0) s m args below meth c H locs 0 0 (gQi celC Γ ad N r σ below args s) (F0 m 24 ls [.int x3]) := by
        intro H locs ls S hl
        cases hf
        exact g_reti X S rfl dX3_spanRefusal_24
      replace hf := hr4
      refine lv_icmp_lt (tgt := 23) hx hb dX3_spanRefusal_16 (by decide) (fun c6 => ?_) (fun c6 => ?_)
      · have hf := (if_pos c6).symm.trans hf
        refine lv_iconst (v := (0 : Int32)) hx hb dX3_spanRefusal_23 (by decide) ?_
        cases hf
        exact J5 _ _ _ S (lv_sub hl [] rfl)
      · have hf := (if_neg c6).symm.trans hf
        refine lv_iconst (v := (2 : Int32)) hx hb dX3_spanRefusal_19 (by decide) ?_
        refine lv_goto (tgt := 24) hx hb dX3_spanRefusal_20 (by decide) ?_
        cases hf
        exact J5 _ _ _ S (lv_sub hl [] rfl)
    · have hf := (if_neg c2).symm.trans hf
      refine lv_iconst (v := (1 : Int32)) hx hb dX3_spanRefusal_12 (by decide) ?_
      cases hf
      exact g_reti X S rfl dX3_spanRefusal_13

noncomputable def f_X3_placeRefusal (σ : gSt) (k : Nat) (a0 : Int32) (a1 : Int32) (a2 : Int32) (a3 : Int32) : Option (Int32) :=
  (g_k1 (f_X3_spanRefusal σ k a2 a3) fun v1 => (g_k1 (if v1 = 0 then (g_k1 (f_X3_trackOf σ k a0) fun v6 => (g_k1 (f_X8_sharesWithOthers σ v6 a1 a2 a3) fun v7 => (if v7 = 0 then some v1 else some (3 : Int32)))) else some v1) fun x2 => some x2))
set_option maxRecDepth 100000 in
set_option maxHeartbeats 4000000 in
theorem c_X3_placeRefusal (l : Launch) {Γ : gG} {ad : Nat → Nat} {N : Nat} (hN : 202 ≤ N) {σ : gSt} {k : Nat} {a0 : Int32} {a1 : Int32} {a2 : Int32} {a3 : Int32} (hk : gkd k = 3) {r : Int32} (hf : f_X3_placeRefusal σ k a0 a1 a2 a3 = some r) : gMi l celC Γ ad N yX3_placeRefusal cX3_placeRefusal 6 (some .int) (gR 4 0 0) [.ref (ad k), .int a0, .int a1, .int a2, .int a3] σ r σ := by
  intro sz
  refine gOf (Qc := fun sz => gQci celC Γ ad N r σ sz) RX3 (by decide) rfl (Nat.le_of_ble_eq_true rfl) (fun p e s m args below meth c H locs ls X S hl => ?_)
  have hl : lv_has ls 6 [(0, .ref (ad k)), (1, .int a0), (2, .int a1), (3, .int a2), (4, .int a3)] := hl
  have hx := X.1
  have hb := X.2.1
  unfold f_X3_placeRefusal at hf
  refine lv_aload_n hx hb dX3_placeRefusal_0 rfl (lv_at hl 0 rfl) ?_
  refine lv_iload_n hx hb dX3_placeRefusal_1 rfl (lv_at hl 3 rfl) ?_
  refine lv_iload hx hb dX3_placeRefusal_2 (lv_at hl 4 rfl) ?_
  obtain ⟨v1, hv1, hf⟩ := g_s1 hf
  refine g_ki S (g_runV (rest := []) X S (c_X3_spanRefusal l hN hk hv1 _) cvX3_spanRefusal mlX3_81 (kd_N hk (by decide) hN) (ceC_3 hk _) rfl rfl rfl hl.1 (Nat.le_of_ble_eq_true rfl) ⟨⟨rfl, rfl⟩, ⟨Nat.le_of_ble_eq_true rfl, Nat.le_of_ble_eq_true rfl⟩, Nat.le_of_ble_eq_true rfl, Nat.le_of_ble_eq_true rfl⟩ dX3_placeRefusal_4) (fun H locs S => ?_)
  refine lv_istore (lv' := [(5, .int v1), (0, .ref (ad k)), (1, .int a0), (2, .int a1), (3, .int a2), (4, .int a3)]) hx hb dX3_placeRefusal_7 hl (by decide) rfl (fun ls hl => ?_)
  refine lv_iload hx hb dX3_placeRefusal_9 (lv_at hl 0 rfl) ?_
  obtain ⟨x2, hr3, hf⟩ := g_s1 hf
  have J4 : ∀ (H : Heap) (locs : List Loc) (ls : Array Slot), gS celC Γ ad N σ s H locs → lv_has ls 6 [(5, .int x2)] → W p l e (gR 4 0 0) s m args below meth c H locs 0 0 (gQi celC Γ ad N r σ below args s) (F0 m 32 ls []) := by
    intro H locs ls S hl
    refine lv_iload hx hb dX3_placeRefusal_32 (lv_at hl 0 rfl) ?_
    cases hf
    exact g_reti X S rfl dX3_placeRefusal_34
  replace hf := hr3
  refine lv_if_ne (tgt := 32) hx hb dX3_placeRefusal_11 (by decide) (fun c5 => ?_) (fun c5 => ?_)
  · have hf := (if_neg c5).symm.trans hf
    cases hf
    exact J4 _ _ _ S (lv_sub hl [0] rfl)
  · have hf := (if_pos c5).symm.trans hf
    refine lv_aload_n hx hb dX3_placeRefusal_14 rfl (lv_at hl 1 rfl) ?_
    refine lv_iload_n hx hb dX3_placeRefusal_15 rfl (lv_at hl 2 rfl) ?_
    obtain ⟨v6, hv6, hf⟩ := g_s1 hf
    refine g_kr S (g_runV (rest := []) X S (c_X3_trackOf l hN hk hv6 _) cvX3_trackOf mlX3_70 (kd_N hk (by decide) hN) (ceC_3 hk _) rfl rfl rfl hl.1 (Nat.le_of_ble_eq_true rfl) ⟨⟨rfl, rfl⟩, ⟨Nat.le_of_ble_eq_true rfl, Nat.le_of_ble_eq_true rfl⟩, Nat.le_of_ble_eq_true rfl, Nat.le_of_ble_eq_true rfl⟩ dX3_placeRefusal_16) (fun H locs S => ?_)
    have hkv6 : gkd v6 = 8 := kr_X3_trackOf hk hv6
    refine lv_iload_n hx hb dX3_placeRefusal_19 rfl (lv_at hl 3 rfl) ?_
    refine lv_iload_n hx hb dX3_placeRefusal_20 rfl (lv_at hl 4 rfl) ?_
    refine lv_iload hx hb dX3_placeRefusal_21 (lv_at hl 5 rfl) ?_
    obtain ⟨v7, hv7, hf⟩ := g_s1 hf
    refine g_ki S (g_runV (rest := []) X S (c_X8_sharesWithOthers l hN hkv6 hv7 _) cvX8_sharesWithOthers mlX3_84 (kd_N hkv6 (by decide) hN) (ceC_8 hkv6 _) rfl rfl rfl hl.1 (Nat.le_of_ble_eq_true rfl) ⟨⟨rfl, rfl⟩, ⟨Nat.le_of_ble_eq_true rfl, Nat.le_of_ble_eq_true rfl⟩, Nat.le_of_ble_eq_true rfl, Nat.le_of_ble_eq_true rfl⟩ dX3_placeRefusal_23) (fun H locs S => ?_)
    refine lv_if_eq (tgt := 32) hx hb dX3_placeRefusal_26 (by decide) (fun c8 => ?_) (fun c8 => ?_)
    · have hf := (if_pos c8).symm.trans hf
      cases hf
      exact J4 _ _ _ S (lv_sub hl [0] rfl)
    · have hf := (if_neg c8).symm.trans hf
      refine lv_iconst (v := (3 : Int32)) hx hb dX3_placeRefusal_29 (by decide) ?_
      refine lv_istore (lv' := [(5, .int (3 : Int32)), (0, .ref (ad k)), (1, .int a0), (2, .int a1), (3, .int a2), (4, .int a3)]) hx hb dX3_placeRefusal_30 hl (by decide) rfl (fun ls hl => ?_)
      cases hf
      exact J4 _ _ _ S (lv_sub hl [0] rfl)

noncomputable def f_X2_needs (σ : gSt) (a0 : Int32) (a1 : Int32) : Option (Int32) :=
  (g_k1 (f_X3_trackOf σ 1 a0) fun v1 => (g_k1 (f_X8_kind σ v1 a1) fun v2 => (g_k1 (if v2 = (2 : Int32) then some (20 : Int32) else some (25 : Int32)) fun x3 => (g_k1 (f_X8_load σ v1 a1) fun v6 => (g_k1 (f_X3_setting σ 1 (0 : Int32)) fun v7 => (g_k1 (f_X9_dividedUp σ (x3 * v6) v7) fun v8 => (g_k1 (f_X8_kind σ v1 a1) fun v9 => (g_k1 (if v9 = (1 : Int32) then (g_k1 (f_X9_dividedUp σ v8 (2 : Int32)) fun v14 => some v14) else some v8) fun x10 => some x10))))))))
set_option maxRecDepth 100000 in
set_option maxHeartbeats 4000000 in
theorem c_X2_needs (l : Launch) {Γ : gG} {ad : Nat → Nat} {N : Nat} (hN : 202 ≤ N) {σ : gSt} {a0 : Int32} {a1 : Int32}  {r : Int32} (hf : f_X2_needs σ a0 a1 = some r) : gMi l celC Γ ad N yX2_needs cX2_needs 6 (some .int) (gR 5 0 0) [.ref (ad 17), .int a0, .int a1] σ r σ := by
  intro sz
  refine gOf (Qc := fun sz => gQci celC Γ ad N r σ sz) RX2 (by decide) rfl (Nat.le_of_ble_eq_true rfl) (fun p e s m args below meth c H locs ls X S hl => ?_)
  have hl : lv_has ls 6 [(0, .ref (ad 17)), (1, .int a0), (2, .int a1)] := hl
  have hx := X.1
  have hb := X.2.1
  unfold f_X2_needs at hf
  refine lv_aload_n hx hb dX2_needs_0 rfl (lv_at hl 0 rfl) ?_
  refine gfX2_9 X S hN kd_s17 dX2_needs_1 ?_
  refine lv_iload_n hx hb dX2_needs_4 rfl (lv_at hl 1 rfl) ?_
  obtain ⟨v1, hv1, hf⟩ := g_s1 hf
  refine g_kr S (g_runV (rest := []) X S (c_X3_trackOf l hN kd_s1 hv1 _) cvX3_trackOf mlX2_22 (kd_N kd_s1 (by decide) hN) (ceC_3 kd_s1 _) rfl rfl rfl hl.1 (Nat.le_of_ble_eq_true rfl) ⟨⟨rfl, rfl⟩, ⟨Nat.le_of_ble_eq_true rfl, Nat.le_of_ble_eq_true rfl⟩, Nat.le_of_ble_eq_true rfl, Nat.le_of_ble_eq_true rfl⟩ dX2_needs_5) (fun H locs S => ?_)
  have hkv1 : gkd v1 = 8 := kr_X3_trackOf kd_s1 hv1
  refine lv_astore_n (lv' := [(3, .ref (ad v1)), (0, .ref (ad 17)), (1, .int a0), (2, .int a1)]) hx hb dX2_needs_8 rfl hl (by decide) rfl (fun ls hl => ?_)
  refine lv_aload_n hx hb dX2_needs_9 rfl (lv_at hl 0 rfl) ?_
  refine lv_iload_n hx hb dX2_needs_10 rfl (lv_at hl 3 rfl) ?_
  obtain ⟨v2, hv2, hf⟩ := g_s1 hf
  refine g_ki S (g_runV (rest := []) X S (c_X8_kind l hN hkv1 hv2 _) cvX8_kind mlX2_28 (kd_N hkv1 (by decide) hN) (ceC_8 hkv1 _) rfl rfl rfl hl.1 (Nat.le_of_ble_eq_true rfl) ⟨⟨rfl, rfl⟩, ⟨Nat.le_of_ble_eq_true rfl, Nat.le_of_ble_eq_true rfl⟩, Nat.le_of_ble_eq_true rfl, Nat.le_of_ble_eq_true rfl⟩ dX2_needs_11) (fun H locs S => ?_)
  refine lv_iconst (v := (2 : Int32)) hx hb dX2_needs_14 (by decide) ?_
  obtain ⟨x3, hr4, hf⟩ := g_s1 hf
  have J5 : ∀ (H : Heap) (locs : List Loc) (ls : Array Slot), gS celC Γ ad N σ s H locs → lv_has ls 6 [(3, .ref (ad v1)), (0, .ref (ad 17)), (2, .int a1)] → W p l e (gR 5 0 0) s m args below meth c H locs 0 0 (gQi celC Γ ad N r σ below args s) (F0 m 25 ls [.int x3]) := by
    intro H locs ls S hl
    refine lv_istore (lv' := [(4, .int x3), (3, .ref (ad v1)), (0, .ref (ad 17)), (2, .int a1)]) hx hb dX2_needs_25 hl (by decide) rfl (fun ls hl => ?_)
    refine lv_iload hx hb dX2_needs_27 (lv_at hl 0 rfl) ?_
    refine lv_aload_n hx hb dX2_needs_29 rfl (lv_at hl 1 rfl) ?_
    refine lv_iload_n hx hb dX2_needs_30 rfl (lv_at hl 3 rfl) ?_
    obtain ⟨v6, hv6, hf⟩ := g_s1 hf
    refine g_ki S (g_runV (rest := [.int x3]) X S (c_X8_load l hN hkv1 hv6 _) cvX8_load mlX2_34 (kd_N hkv1 (by decide) hN) (ceC_8 hkv1 _) rfl rfl rfl hl.1 (Nat.le_of_ble_eq_true rfl) ⟨⟨rfl, rfl⟩, ⟨Nat.le_of_ble_eq_true rfl, Nat.le_of_ble_eq_true rfl⟩, Nat.le_of_ble_eq_true rfl, Nat.le_of_ble_eq_true rfl⟩ dX2_needs_31) (fun H locs S => ?_)
    refine lv_imul hx hb dX2_needs_34 ?_
    refine lv_aload_n hx hb dX2_needs_35 rfl (lv_at hl 2 rfl) ?_
    refine gfX2_9 X S hN kd_s17 dX2_needs_36 ?_
    refine lv_iconst (v := (0 : Int32)) hx hb dX2_needs_39 (by decide) ?_
    obtain ⟨v7, hv7, hf⟩ := g_s1 hf
    refine g_ki S (g_runV (rest := [.int (x3 * v6)]) X S (c_X3_setting l hN kd_s1 hv7 _) cvX3_setting mlX2_37 (kd_N kd_s1 (by decide) hN) (ceC_3 kd_s1 _) rfl rfl rfl hl.1 (Nat.le_of_ble_eq_true rfl) ⟨⟨rfl, rfl⟩, ⟨Nat.le_of_ble_eq_true rfl, Nat.le_of_ble_eq_true rfl⟩, Nat.le_of_ble_eq_true rfl, Nat.le_of_ble_eq_true rfl⟩ dX2_needs_40) (fun H locs S => ?_)
    obtain ⟨v8, hv8, hf⟩ := g_s1 hf
    refine g_ki S (g_runN (rest := []) X S (c_X9_dividedUp l hN  hv8 _) csX9_dividedUp mnX2_40 rfl rfl hl.1 (Nat.le_of_ble_eq_true rfl) ⟨⟨rfl, rfl⟩, ⟨Nat.le_of_ble_eq_true rfl, Nat.le_of_ble_eq_true rfl⟩, Nat.le_of_ble_eq_true rfl, Nat.le_of_ble_eq_true rfl⟩ dX2_needs_43) (fun H locs S => ?_)
    refine lv_istore (lv' := [(5, .int v8), (4, .int x3), (3, .ref (ad v1)), (0, .ref (ad 17)), (2, .int a1)]) hx hb dX2_needs_46 hl (by decide) rfl (fun ls hl => ?_)
    refine lv_aload_n hx hb dX2_needs_48 rfl (lv_at hl 2 rfl) ?_
    refine lv_iload_n hx hb dX2_needs_49 rfl (lv_at hl 4 rfl) ?_
    obtain ⟨v9, hv9, hf⟩ := g_s1 hf
    refine g_ki S (g_runV (rest := []) X S (c_X8_kind l hN hkv1 hv9 _) cvX8_kind mlX2_28 (kd_N hkv1 (by decide) hN) (ceC_8 hkv1 _) rfl rfl rfl hl.1 (Nat.le_of_ble_eq_true rfl) ⟨⟨rfl, rfl⟩, ⟨Nat.le_of_ble_eq_true rfl, Nat.le_of_ble_eq_true rfl⟩, Nat.le_of_ble_eq_true rfl, Nat.le_of_ble_eq_true rfl⟩ dX2_needs_50) (fun H locs S => ?_)
    refine lv_iconst (v := (1 : Int32)) hx hb dX2_needs_53 (by decide) ?_
    obtain ⟨x10, hr11, hf⟩ := g_s1 hf
    have J12 : ∀ (H : Heap) (locs : List Loc) (ls : Array Slot), gS celC Γ ad N σ s H locs → lv_has ls 6 [] → W p l e (gR 5 0 0) s m args below meth c H locs 0 0 (gQi celC Γ ad N r σ below args s) (F0 m 68 ls [.int x10]) := by
      intro H locs ls S hl
      cases hf
      exact g_reti X S rfl dX2_needs_68
    replace hf := hr11
    refine lv_icmp_ne (tgt := 66) hx hb dX2_needs_54 (by decide) (fun c13 => ?_) (fun c13 => ?_)
    · have hf := (if_neg c13).symm.trans hf
      refine lv_iload hx hb dX2_needs_66 (lv_at hl 0 rfl) ?_
      cases hf
      exact J12 _ _ _ S (lv_sub hl [] rfl)
    · have hf := (if_pos c13).symm.trans hf
      refine lv_iload hx hb dX2_needs_57 (lv_at hl 0 rfl) ?_
      refine lv_iconst (v := (2 : Int32)) hx hb dX2_needs_59 (by decide) ?_
      obtain ⟨v14, hv14, hf⟩ := g_s1 hf
      refine g_ki S (g_runN (rest := []) X S (c_X9_dividedUp l hN  hv14 _) csX9_dividedUp mnX2_40 rfl rfl hl.1 (Nat.le_of_ble_eq_true rfl) ⟨⟨rfl, rfl⟩, ⟨Nat.le_of_ble_eq_true rfl, Nat.le_of_ble_eq_true rfl⟩, Nat.le_of_ble_eq_true rfl, Nat.le_of_ble_eq_true rfl⟩ dX2_needs_60) (fun H locs S => ?_)
      refine lv_goto (tgt := 68) hx hb dX2_needs_63 (by decide) ?_
      cases hf
      exact J12 _ _ _ S (lv_sub hl [] rfl)
  replace hf := hr4
  refine lv_icmp_ne (tgt := 23) hx hb dX2_needs_15 (by decide) (fun c15 => ?_) (fun c15 => ?_)
  · have hf := (if_neg c15).symm.trans hf
    refine lv_bipush (v := (25 : Int32)) hx hb dX2_needs_23 (by decide) ?_
    cases hf
    exact J5 _ _ _ S (lv_sub hl [0, 1, 3] rfl)
  · have hf := (if_pos c15).symm.trans hf
    refine lv_bipush (v := (20 : Int32)) hx hb dX2_needs_18 (by decide) ?_
    refine lv_goto (tgt := 25) hx hb dX2_needs_20 (by decide) ?_
    cases hf
    exact J5 _ _ _ S (lv_sub hl [0, 1, 3] rfl)

noncomputable def f_X3_canBeCut (σ : gSt) (k : Nat) (a0 : Int32) : Option (Int32) :=
  (g_k1 (if a0 < (1 : Int32) then some (0 : Int32) else (if (σ k 0) ≤ a0 then some (0 : Int32) else some (1 : Int32))) fun x1 => (g_k1 (gzb x1) fun v4 => some v4))
set_option maxRecDepth 100000 in
set_option maxHeartbeats 4000000 in
theorem c_X3_canBeCut (l : Launch) {Γ : gG} {ad : Nat → Nat} {N : Nat} (hN : 202 ≤ N) {σ : gSt} {k : Nat} {a0 : Int32} (hk : gkd k = 3) {r : Int32} (hf : f_X3_canBeCut σ k a0 = some r) : gMi l celC Γ ad N yX3_canBeCut cX3_canBeCut 2 (some .boolean) (gR 1 0 0) [.ref (ad k), .int a0] σ r σ := by
  intro sz
  refine gOf (Qc := fun sz => gQci celC Γ ad N r σ sz) RX3 (by decide) rfl (Nat.le_of_ble_eq_true rfl) (fun p e s m args below meth c H locs ls X S hl => ?_)
  have hl : lv_has ls 2 [(0, .ref (ad k)), (1, .int a0)] := hl
  have hx := X.1
  have hb := X.2.1
  unfold f_X3_canBeCut at hf
  refine lv_iload_n hx hb dX3_canBeCut_0 rfl (lv_at hl 1 rfl) ?_
  refine lv_iconst (v := (1 : Int32)) hx hb dX3_canBeCut_1 (by decide) ?_
  obtain ⟨x1, hr2, hf⟩ := g_s1 hf
  have J3 : ∀ (H : Heap) (locs : List Loc) (ls : Array Slot), gS celC Γ ad N σ s H locs → lv_has ls 2 [] → W p l e (gR 1 0 0) s m args below meth c H locs 0 0 (gQi celC Γ ad N r σ below args s) (F0 m 18 ls [.int x1]) := by
    intro H locs ls S hl
    obtain ⟨v4, hv4, hf⟩ := g_s1 hf
    obtain ⟨hnv4, rfl⟩ := gzb_some hv4
    cases hf
    exact g_reti X S hnv4 dX3_canBeCut_18
  replace hf := hr2
  refine lv_icmp_lt (tgt := 17) hx hb dX3_canBeCut_2 (by decide) (fun c5 => ?_) (fun c5 => ?_)
  · have hf := (if_pos c5).symm.trans hf
    refine lv_iconst (v := (0 : Int32)) hx hb dX3_canBeCut_17 (by decide) ?_
    cases hf
    exact J3 _ _ _ S (lv_sub hl [] rfl)
  · have hf := (if_neg c5).symm.trans hf
    refine lv_iload_n hx hb dX3_canBeCut_5 rfl (lv_at hl 1 rfl) ?_
    refine lv_aload_n hx hb dX3_canBeCut_6 rfl (lv_at hl 0 rfl) ?_
    refine gfX3_9 X S hN hk dX3_canBeCut_7 ?_
    refine lv_icmp_ge (tgt := 17) hx hb dX3_canBeCut_10 (by decide) (fun c6 => ?_) (fun c6 => ?_)
    · have hf := (if_pos c6).symm.trans hf
      refine lv_iconst (v := (0 : Int32)) hx hb dX3_canBeCut_17 (by decide) ?_
      cases hf
      exact J3 _ _ _ S (lv_sub hl [] rfl)
    · have hf := (if_neg c6).symm.trans hf
      refine lv_iconst (v := (1 : Int32)) hx hb dX3_canBeCut_13 (by decide) ?_
      refine lv_goto (tgt := 18) hx hb dX3_canBeCut_14 (by decide) ?_
      cases hf
      exact J3 _ _ _ S (lv_sub hl [] rfl)

noncomputable def f_X3_trackBeside (σ : gSt) (k : Nat) (a0 : Int32) : Option (Nat) :=
  (g_k1 (if a0 = 0 then some (k + 10) else some (k + 4)) fun x1 => some x1)
set_option maxRecDepth 100000 in
set_option maxHeartbeats 4000000 in
theorem c_X3_trackBeside (l : Launch) {Γ : gG} {ad : Nat → Nat} {N : Nat} (hN : 202 ≤ N) {σ : gSt} {k : Nat} {a0 : Int32} (hk : gkd k = 3) {r : Nat} (hf : f_X3_trackBeside σ k a0 = some r) : gMr l celC Γ ad N yX3_trackBeside cX3_trackBeside 2 (some (.object "SubtitleDesk$Track")) (gR 1 0 0) [.ref (ad k), .int a0] σ (some r) σ := by
  intro sz
  refine gOf (Qc := fun sz => gQcr celC Γ ad N (some r) σ sz) RX3 (by decide) rfl (Nat.le_of_ble_eq_true rfl) (fun p e s m args below meth c H locs ls X S hl => ?_)
  have hl : lv_has ls 2 [(0, .ref (ad k)), (1, .int a0)] := hl
  have hx := X.1
  have hb := X.2.1
  unfold f_X3_trackBeside at hf
  refine lv_iload_n hx hb dX3_trackBeside_0 rfl (lv_at hl 1 rfl) ?_
  obtain ⟨x1, hr2, hf⟩ := g_s1 hf
  have J3 : ∀ (hkx1 : gkd x1 = 8) (H : Heap) (locs : List Loc) (ls : Array Slot), gS celC Γ ad N σ s H locs → lv_has ls 2 [] → W p l e (gR 1 0 0) s m args below meth c H locs 0 0 (gQr celC Γ ad N (some r) σ below args s) (F0 m 15 ls [.ref (ad x1)]) := by
    intro hkx1 H locs ls S hl
    cases hf
    exact g_retr X S dX3_trackBeside_15
  replace hf := hr2
  refine lv_if_ne (tgt := 11) hx hb dX3_trackBeside_1 (by decide) (fun c4 => ?_) (fun c4 => ?_)
  · have hf := (if_neg c4).symm.trans hf
    refine lv_aload_n hx hb dX3_trackBeside_11 rfl (lv_at hl 0 rfl) ?_
    refine gfX3_38 X S hN hk dX3_trackBeside_12 ?_
    cases hf
    exact J3 (kd_3_4 hk) _ _ _ S (lv_sub hl [] rfl)
  · have hf := (if_pos c4).symm.trans hf
    refine lv_aload_n hx hb dX3_trackBeside_4 rfl (lv_at hl 0 rfl) ?_
    refine gfX3_42 X S hN hk dX3_trackBeside_5 ?_
    refine lv_goto (tgt := 15) hx hb dX3_trackBeside_8 (by decide) ?_
    cases hf
    exact J3 (kd_3_10 hk) _ _ _ S (lv_sub hl [] rfl)
theorem kr_X3_trackBeside {σ : gSt} {k : Nat} {a0 : Int32} {r : Nat} (hk : gkd k = 3) (h : f_X3_trackBeside σ k a0 = some r) : gkd r = 8 := by
  unfold f_X3_trackBeside at h
  obtain ⟨x, hx, h⟩ := g_s1 h
  cases h
  split at hx <;> cases hx
  · exact kd_3_10 hk
  · exact kd_3_4 hk

noncomputable def f_X2_partner_l1 (σ : gSt) (a1 : Int32) (v1 : Nat) (v2 : Nat) : Nat → Int32 → Int32 → Int32 → Option (Int32)
  | 0, _, _, _ => none
  | n + 1, i3, i4, i5 => (if (σ v2 5) ≤ i3 then some i5 else (g_k1 (f_X8_first σ v1 a1) fun v8 => (g_k1 (f_X8_end σ v1 a1) fun v9 => (g_k1 (f_X8_shared σ v2 i3 v8 v9) fun v10 => (g_k2 (if v10 ≤ i4 then some (i4, i5) else some (v10, i3)) fun x11 x12 => (f_X2_partner_l1 σ a1 v1 v2 n (i3 + 1) x11 x12))))))
set_option maxRecDepth 100000 in
set_option maxHeartbeats 4000000 in
theorem w_X2_partner_l1 {l : Launch} {Γ : gG} {ad : Nat → Nat} {N : Nat} {p : Program} {e : Env} {s : State} {m : MethodId} {args : Array Value} {below : List Frame} {meth : Method} {c : Code} {Q : State → Prop} (hN : 202 ≤ N) (X : gX celC Γ ad N RX2 cX2_partner 9 (some .int) p s m args meth c) {σ : gSt} {a1 : Int32} {v1 : Nat} {v2 : Nat} (hkv1 : gkd v1 = 8) (hkv2 : gkd v2 = 8) : ∀ (n : Nat) (i3 : Int32) (i4 : Int32) (i5 : Int32) (r6 : Int32), f_X2_partner_l1 σ a1 v1 v2 n i3 i4 i5 = some r6 → (∀ (H : Heap) (locs : List Loc) (ls : Array Slot), gS celC Γ ad N σ s H locs → lv_has ls 9 [(5, .int r6)] → W p l e (gR 3 0 0) s m args below meth c H locs 0 0 (Q) (F0 m 78 ls [])) → ∀ (H : Heap) (locs : List Loc) (ls : Array Slot), gS celC Γ ad N σ s H locs → lv_has ls 9 [(7, .int i3), (6, .int i4), (5, .int i5), (4, .ref (ad v2)), (3, .ref (ad v1)), (2, .int a1)] → W p l e (gR 3 0 0) s m args below meth c H locs 0 0 (Q) (F0 m 28 ls []) := by
  have hx := X.1
  have hb := X.2.1
  intro n
  induction n with
  | zero =>
    intro i3 i4 i5 r6 hf
    cases hf
  | succ n ih =>
    intro i3 i4 i5 r6 hf J H locs ls S hl
    rw [f_X2_partner_l1] at hf
    refine lv_iload hx hb dX2_partner_28 (lv_at hl 0 rfl) ?_
    refine lv_aload hx hb dX2_partner_30 (lv_at hl 3 rfl) ?_
    refine gfX2_47 X S hN hkv2 dX2_partner_32 ?_
    refine lv_icmp_ge (tgt := 78) hx hb dX2_partner_35 (by decide) (fun c7 => ?_) (fun c7 => ?_)
    · have hf := (if_pos c7).symm.trans hf
      cases hf
      exact J _ _ _ S (lv_sub hl [2] rfl)
    · have hf := (if_neg c7).symm.trans hf
      refine lv_aload hx hb dX2_partner_38 (lv_at hl 3 rfl) ?_
      refine lv_iload hx hb dX2_partner_40 (lv_at hl 0 rfl) ?_
      refine lv_aload_n hx hb dX2_partner_42 rfl (lv_at hl 4 rfl) ?_
      refine lv_iload_n hx hb dX2_partner_43 rfl (lv_at hl 5 rfl) ?_
      obtain ⟨v8, hv8, hf⟩ := g_s1 hf
      refine g_ki S (g_runV (rest := [.int i3, .ref (ad v2)]) X S (c_X8_first l hN hkv1 hv8 _) cvX8_first mlX2_51 (kd_N hkv1 (by decide) hN) (ceC_8 hkv1 _) rfl rfl rfl hl.1 (Nat.le_of_ble_eq_true rfl) ⟨⟨rfl, rfl⟩, ⟨Nat.le_of_ble_eq_true rfl, Nat.le_of_ble_eq_true rfl⟩, Nat.le_of_ble_eq_true rfl, Nat.le_of_ble_eq_true rfl⟩ dX2_partner_44) (fun H locs S => ?_)
      refine lv_aload_n hx hb dX2_partner_47 rfl (lv_at hl 4 rfl) ?_
      refine lv_iload_n hx hb dX2_partner_48 rfl (lv_at hl 5 rfl) ?_
      obtain ⟨v9, hv9, hf⟩ := g_s1 hf
      refine g_ki S (g_runV (rest := [.int v8, .int i3, .ref (ad v2)]) X S (c_X8_end l hN hkv1 hv9 _) cvX8_end mlX2_54 (kd_N hkv1 (by decide) hN) (ceC_8 hkv1 _) rfl rfl rfl hl.1 (Nat.le_of_ble_eq_true rfl) ⟨⟨rfl, rfl⟩, ⟨Nat.le_of_ble_eq_true rfl, Nat.le_of_ble_eq_true rfl⟩, Nat.le_of_ble_eq_true rfl, Nat.le_of_ble_eq_true rfl⟩ dX2_partner_49) (fun H locs S => ?_)
      obtain ⟨v10, hv10, hf⟩ := g_s1 hf
      refine g_ki S (g_runV (rest := []) X S (c_X8_shared l hN hkv2 hv10 _) cvX8_shared mlX2_57 (kd_N hkv2 (by decide) hN) (ceC_8 hkv2 _) rfl rfl rfl hl.1 (Nat.le_of_ble_eq_true rfl) ⟨⟨rfl, rfl⟩, ⟨Nat.le_of_ble_eq_true rfl, Nat.le_of_ble_eq_true rfl⟩, Nat.le_of_ble_eq_true rfl, Nat.le_of_ble_eq_true rfl⟩ dX2_partner_52) (fun H locs S => ?_)
      refine lv_istore (lv' := [(8, .int v10), (7, .int i3), (6, .int i4), (5, .int i5), (4, .ref (ad v2)), (3, .ref (ad v1)), (2, .int a1)]) hx hb dX2_partner_55 hl (by decide) rfl (fun ls hl => ?_)
      refine lv_iload hx hb dX2_partner_57 (lv_at hl 0 rfl) ?_
      refine lv_iload hx hb dX2_partner_59 (lv_at hl 2 rfl) ?_
      obtain ⟨x11, x12, hr13, hf⟩ := g_s2 hf
      have J14 : ∀ (H : Heap) (locs : List Loc) (ls : Array Slot), gS celC Γ ad N σ s H locs → lv_has ls 9 [(7, .int i3), (6, .int x11), (5, .int x12), (4, .ref (ad v2)), (3, .ref (ad v1)), (2, .int a1)] → W p l e (gR 3 0 0) s m args below meth c H locs 0 0 (Q) (F0 m 72 ls []) := by
        intro H locs ls S hl
        refine lv_iinc (v := (i3 + 1)) (lv' := [(7, .int (i3 + 1)), (6, .int x11), (5, .int x12), (4, .ref (ad v2)), (3, .ref (ad v1)), (2, .int a1)]) hx hb dX2_partner_72 hl (k := 0) rfl rfl (by decide) rfl (fun ls hl => ?_)
        refine lv_goto (tgt := 28) hx hb dX2_partner_75 (by decide) ?_
        exact ih _ _ _ _  hf J _ _ _ S (lv_sub hl [0, 1, 2, 3, 4, 5] rfl)
      replace hf := hr13
      refine lv_icmp_le (tgt := 72) hx hb dX2_partner_61 (by decide) (fun c15 => ?_) (fun c15 => ?_)
      · have hf := (if_pos c15).symm.trans hf
        cases hf
        exact J14 _ _ _ S (lv_sub hl [1, 2, 3, 4, 5, 6] rfl)
      · have hf := (if_neg c15).symm.trans hf
        refine lv_iload hx hb dX2_partner_64 (lv_at hl 0 rfl) ?_
        refine lv_istore (lv' := [(6, .int v10), (8, .int v10), (7, .int i3), (5, .int i5), (4, .ref (ad v2)), (3, .ref (ad v1)), (2, .int a1)]) hx hb dX2_partner_66 hl (by decide) rfl (fun ls hl => ?_)
        refine lv_iload hx hb dX2_partner_68 (lv_at hl 2 rfl) ?_
        refine lv_istore (lv' := [(5, .int i3), (6, .int v10), (8, .int v10), (7, .int i3), (4, .ref (ad v2)), (3, .ref (ad v1)), (2, .int a1)]) hx hb dX2_partner_70 hl (by decide) rfl (fun ls hl => ?_)
        cases hf
        exact J14 _ _ _ S (lv_sub hl [3, 1, 0, 4, 5, 6] rfl)
noncomputable def f_X2_partner (σ : gSt) (a0 : Int32) (a1 : Int32) : Option (Int32) :=
  (g_k1 (f_X3_trackOf σ 1 a0) fun v1 => (g_k1 (f_X3_trackBeside σ 1 a0) fun v2 => (g_k1 (f_X2_partner_l1 σ a1 v1 v2 FU (0 : Int32) (0 : Int32) (-1 : Int32)) fun r6 => some r6)))
set_option maxRecDepth 100000 in
set_option maxHeartbeats 4000000 in
theorem c_X2_partner (l : Launch) {Γ : gG} {ad : Nat → Nat} {N : Nat} (hN : 202 ≤ N) {σ : gSt} {a0 : Int32} {a1 : Int32}  {r : Int32} (hf : f_X2_partner σ a0 a1 = some r) : gMi l celC Γ ad N yX2_partner cX2_partner 9 (some .int) (gR 3 0 0) [.ref (ad 17), .int a0, .int a1] σ r σ := by
  intro sz
  refine gOf (Qc := fun sz => gQci celC Γ ad N r σ sz) RX2 (by decide) rfl (Nat.le_of_ble_eq_true rfl) (fun p e s m args below meth c H locs ls X S hl => ?_)
  have hl : lv_has ls 9 [(0, .ref (ad 17)), (1, .int a0), (2, .int a1)] := hl
  have hx := X.1
  have hb := X.2.1
  unfold f_X2_partner at hf
  refine lv_aload_n hx hb dX2_partner_0 rfl (lv_at hl 0 rfl) ?_
  refine gfX2_9 X S hN kd_s17 dX2_partner_1 ?_
  refine lv_iload_n hx hb dX2_partner_4 rfl (lv_at hl 1 rfl) ?_
  obtain ⟨v1, hv1, hf⟩ := g_s1 hf
  refine g_kr S (g_runV (rest := []) X S (c_X3_trackOf l hN kd_s1 hv1 _) cvX3_trackOf mlX2_22 (kd_N kd_s1 (by decide) hN) (ceC_3 kd_s1 _) rfl rfl rfl hl.1 (Nat.le_of_ble_eq_true rfl) ⟨⟨rfl, rfl⟩, ⟨Nat.le_of_ble_eq_true rfl, Nat.le_of_ble_eq_true rfl⟩, Nat.le_of_ble_eq_true rfl, Nat.le_of_ble_eq_true rfl⟩ dX2_partner_5) (fun H locs S => ?_)
  have hkv1 : gkd v1 = 8 := kr_X3_trackOf kd_s1 hv1
  refine lv_astore_n (lv' := [(3, .ref (ad v1)), (0, .ref (ad 17)), (1, .int a0), (2, .int a1)]) hx hb dX2_partner_8 rfl hl (by decide) rfl (fun ls hl => ?_)
  refine lv_aload_n hx hb dX2_partner_9 rfl (lv_at hl 1 rfl) ?_
  refine gfX2_9 X S hN kd_s17 dX2_partner_10 ?_
  refine lv_iload_n hx hb dX2_partner_13 rfl (lv_at hl 2 rfl) ?_
  obtain ⟨v2, hv2, hf⟩ := g_s1 hf
  refine g_kr S (g_runV (rest := []) X S (c_X3_trackBeside l hN kd_s1 hv2 _) cvX3_trackBeside mlX2_44 (kd_N kd_s1 (by decide) hN) (ceC_3 kd_s1 _) rfl rfl rfl hl.1 (Nat.le_of_ble_eq_true rfl) ⟨⟨rfl, rfl⟩, ⟨Nat.le_of_ble_eq_true rfl, Nat.le_of_ble_eq_true rfl⟩, Nat.le_of_ble_eq_true rfl, Nat.le_of_ble_eq_true rfl⟩ dX2_partner_14) (fun H locs S => ?_)
  have hkv2 : gkd v2 = 8 := kr_X3_trackBeside kd_s1 hv2
  refine lv_astore (lv' := [(4, .ref (ad v2)), (3, .ref (ad v1)), (0, .ref (ad 17)), (1, .int a0), (2, .int a1)]) hx hb dX2_partner_17 hl (by decide) rfl (fun ls hl => ?_)
  refine lv_iconst (v := (-1 : Int32)) hx hb dX2_partner_19 (by decide) ?_
  refine lv_istore (lv' := [(5, .int (-1 : Int32)), (4, .ref (ad v2)), (3, .ref (ad v1)), (0, .ref (ad 17)), (1, .int a0), (2, .int a1)]) hx hb dX2_partner_20 hl (by decide) rfl (fun ls hl => ?_)
  refine lv_iconst (v := (0 : Int32)) hx hb dX2_partner_22 (by decide) ?_
  refine lv_istore (lv' := [(6, .int (0 : Int32)), (5, .int (-1 : Int32)), (4, .ref (ad v2)), (3, .ref (ad v1)), (0, .ref (ad 17)), (1, .int a0), (2, .int a1)]) hx hb dX2_partner_23 hl (by decide) rfl (fun ls hl => ?_)
  refine lv_iconst (v := (0 : Int32)) hx hb dX2_partner_25 (by decide) ?_
  refine lv_istore (lv' := [(7, .int (0 : Int32)), (6, .int (0 : Int32)), (5, .int (-1 : Int32)), (4, .ref (ad v2)), (3, .ref (ad v1)), (0, .ref (ad 17)), (1, .int a0), (2, .int a1)]) hx hb dX2_partner_26 hl (by decide) rfl (fun ls hl => ?_)
  obtain ⟨r6, hr16, hf⟩ := g_s1 hf
  refine w_X2_partner_l1 hN X hkv1 hkv2 FU _ _ _ _  hr16 (fun H locs ls S hl => ?_) _ _ _ S (lv_sub hl [0, 1, 2, 3, 4, 7] rfl)
  refine lv_iload hx hb dX2_partner_78 (lv_at hl 0 rfl) ?_
  cases hf
  exact g_reti X S rfl dX2_partner_80

noncomputable def f_X2_sharedWithPartner (σ : gSt) (a0 : Int32) (a1 : Int32) : Option (Int32) :=
  (g_k1 (f_X2_partner σ a0 a1) fun v1 => (if v1 = (-1 : Int32) then some (0 : Int32) else (g_k1 (f_X3_trackOf σ 1 a0) fun v3 => (g_k1 (f_X3_trackBeside σ 1 a0) fun v4 => (g_k1 (f_X8_first σ v3 a1) fun v5 => (g_k1 (f_X8_end σ v3 a1) fun v6 => (g_k1 (f_X8_shared σ v4 v1 v5 v6) fun v7 => some v7)))))))
set_option maxRecDepth 100000 in
set_option maxHeartbeats 4000000 in
theorem c_X2_sharedWithPartner (l : Launch) {Γ : gG} {ad : Nat → Nat} {N : Nat} (hN : 202 ≤ N) {σ : gSt} {a0 : Int32} {a1 : Int32}  {r : Int32} (hf : f_X2_sharedWithPartner σ a0 a1 = some r) : gMi l celC Γ ad N yX2_sharedWithPartner cX2_sharedWithPartner 5 (some .int) (gR 4 0 0) [.ref (ad 17), .int a0, .int a1] σ r σ := by
  intro sz
  refine gOf (Qc := fun sz => gQci celC Γ ad N r σ sz) RX2 (by decide) rfl (Nat.le_of_ble_eq_true rfl) (fun p e s m args below meth c H locs ls X S hl => ?_)
  have hl : lv_has ls 5 [(0, .ref (ad 17)), (1, .int a0), (2, .int a1)] := hl
  have hx := X.1
  have hb := X.2.1
  unfold f_X2_sharedWithPartner at hf
  refine lv_aload_n hx hb dX2_sharedWithPartner_0 rfl (lv_at hl 0 rfl) ?_
  refine lv_iload_n hx hb dX2_sharedWithPartner_1 rfl (lv_at hl 1 rfl) ?_
  refine lv_iload_n hx hb dX2_sharedWithPartner_2 rfl (lv_at hl 2 rfl) ?_
  obtain ⟨v1, hv1, hf⟩ := g_s1 hf
  refine g_ki S (g_runV (rest := []) X S (c_X2_partner l hN  hv1 _) cvX2_partner mlX2_61 (kd_N kd_s17 (by decide) hN) (ceC_2 kd_s17 _) rfl rfl rfl hl.1 (Nat.le_of_ble_eq_true rfl) ⟨⟨rfl, rfl⟩, ⟨Nat.le_of_ble_eq_true rfl, Nat.le_of_ble_eq_true rfl⟩, Nat.le_of_ble_eq_true rfl, Nat.le_of_ble_eq_true rfl⟩ dX2_sharedWithPartner_3) (fun H locs S => ?_)
  refine lv_istore_n (lv' := [(3, .int v1), (0, .ref (ad 17)), (1, .int a0), (2, .int a1)]) hx hb dX2_sharedWithPartner_6 rfl hl (by decide) rfl (fun ls hl => ?_)
  refine lv_iload_n hx hb dX2_sharedWithPartner_7 rfl (lv_at hl 0 rfl) ?_
  refine lv_iconst (v := (-1 : Int32)) hx hb dX2_sharedWithPartner_8 (by decide) ?_
  refine lv_icmp_ne (tgt := 14) hx hb dX2_sharedWithPartner_9 (by decide) (fun c2 => ?_) (fun c2 => ?_)
  · have hf := (if_neg c2).symm.trans hf
    refine lv_aload_n hx hb dX2_sharedWithPartner_14 rfl (lv_at hl 1 rfl) ?_
    refine gfX2_9 X S hN kd_s17 dX2_sharedWithPartner_15 ?_
    refine lv_iload_n hx hb dX2_sharedWithPartner_18 rfl (lv_at hl 2 rfl) ?_
    obtain ⟨v3, hv3, hf⟩ := g_s1 hf
    refine g_kr S (g_runV (rest := []) X S (c_X3_trackOf l hN kd_s1 hv3 _) cvX3_trackOf mlX2_22 (kd_N kd_s1 (by decide) hN) (ceC_3 kd_s1 _) rfl rfl rfl hl.1 (Nat.le_of_ble_eq_true rfl) ⟨⟨rfl, rfl⟩, ⟨Nat.le_of_ble_eq_true rfl, Nat.le_of_ble_eq_true rfl⟩, Nat.le_of_ble_eq_true rfl, Nat.le_of_ble_eq_true rfl⟩ dX2_sharedWithPartner_19) (fun H locs S => ?_)
    have hkv3 : gkd v3 = 8 := kr_X3_trackOf kd_s1 hv3
    refine lv_astore (lv' := [(4, .ref (ad v3)), (3, .int v1), (0, .ref (ad 17)), (1, .int a0), (2, .int a1)]) hx hb dX2_sharedWithPartner_22 hl (by decide) rfl (fun ls hl => ?_)
    refine lv_aload_n hx hb dX2_sharedWithPartner_24 rfl (lv_at hl 2 rfl) ?_
    refine gfX2_9 X S hN kd_s17 dX2_sharedWithPartner_25 ?_
    refine lv_iload_n hx hb dX2_sharedWithPartner_28 rfl (lv_at hl 3 rfl) ?_
    obtain ⟨v4, hv4, hf⟩ := g_s1 hf
    refine g_kr S (g_runV (rest := []) X S (c_X3_trackBeside l hN kd_s1 hv4 _) cvX3_trackBeside mlX2_44 (kd_N kd_s1 (by decide) hN) (ceC_3 kd_s1 _) rfl rfl rfl hl.1 (Nat.le_of_ble_eq_true rfl) ⟨⟨rfl, rfl⟩, ⟨Nat.le_of_ble_eq_true rfl, Nat.le_of_ble_eq_true rfl⟩, Nat.le_of_ble_eq_true rfl, Nat.le_of_ble_eq_true rfl⟩ dX2_sharedWithPartner_29) (fun H locs S => ?_)
    have hkv4 : gkd v4 = 8 := kr_X3_trackBeside kd_s1 hv4
    refine lv_iload_n hx hb dX2_sharedWithPartner_32 rfl (lv_at hl 1 rfl) ?_
    refine lv_aload hx hb dX2_sharedWithPartner_33 (lv_at hl 0 rfl) ?_
    refine lv_iload_n hx hb dX2_sharedWithPartner_35 rfl (lv_at hl 4 rfl) ?_
    obtain ⟨v5, hv5, hf⟩ := g_s1 hf
    refine g_ki S (g_runV (rest := [.int v1, .ref (ad v4)]) X S (c_X8_first l hN hkv3 hv5 _) cvX8_first mlX2_51 (kd_N hkv3 (by decide) hN) (ceC_8 hkv3 _) rfl rfl rfl hl.1 (Nat.le_of_ble_eq_true rfl) ⟨⟨rfl, rfl⟩, ⟨Nat.le_of_ble_eq_true rfl, Nat.le_of_ble_eq_true rfl⟩, Nat.le_of_ble_eq_true rfl, Nat.le_of_ble_eq_true rfl⟩ dX2_sharedWithPartner_36) (fun H locs S => ?_)
    refine lv_aload hx hb dX2_sharedWithPartner_39 (lv_at hl 0 rfl) ?_
    refine lv_iload_n hx hb dX2_sharedWithPartner_41 rfl (lv_at hl 4 rfl) ?_
    obtain ⟨v6, hv6, hf⟩ := g_s1 hf
    refine g_ki S (g_runV (rest := [.int v5, .int v1, .ref (ad v4)]) X S (c_X8_end l hN hkv3 hv6 _) cvX8_end mlX2_54 (kd_N hkv3 (by decide) hN) (ceC_8 hkv3 _) rfl rfl rfl hl.1 (Nat.le_of_ble_eq_true rfl) ⟨⟨rfl, rfl⟩, ⟨Nat.le_of_ble_eq_true rfl, Nat.le_of_ble_eq_true rfl⟩, Nat.le_of_ble_eq_true rfl, Nat.le_of_ble_eq_true rfl⟩ dX2_sharedWithPartner_42) (fun H locs S => ?_)
    obtain ⟨v7, hv7, hf⟩ := g_s1 hf
    refine g_ki S (g_runV (rest := []) X S (c_X8_shared l hN hkv4 hv7 _) cvX8_shared mlX2_57 (kd_N hkv4 (by decide) hN) (ceC_8 hkv4 _) rfl rfl rfl hl.1 (Nat.le_of_ble_eq_true rfl) ⟨⟨rfl, rfl⟩, ⟨Nat.le_of_ble_eq_true rfl, Nat.le_of_ble_eq_true rfl⟩, Nat.le_of_ble_eq_true rfl, Nat.le_of_ble_eq_true rfl⟩ dX2_sharedWithPartner_45) (fun H locs S => ?_)
    cases hf
    exact g_reti X S rfl dX2_sharedWithPartner_48
  · have hf := (if_pos c2).symm.trans hf
    refine lv_iconst (v := (0 : Int32)) hx hb dX2_sharedWithPartner_12 (by decide) ?_
    cases hf
    exact g_reti X S rfl dX2_sharedWithPartner_13

noncomputable def f_X2_isInStep (σ : gSt) (a0 : Int32) (a1 : Int32) : Option (Int32) :=
  (g_k1 (f_X2_partner σ a0 a1) fun v1 => (if v1 = (-1 : Int32) then some (0 : Int32) else (g_k1 (f_X3_trackOf σ 1 a0) fun v3 => (g_k1 (f_X3_trackBeside σ 1 a0) fun v4 => (g_k1 (f_X3_setting σ 1 (4 : Int32)) fun v5 => (g_k1 (f_X8_first σ v3 a1) fun v6 => (g_k1 (f_X8_first σ v4 v1) fun v7 => (g_k1 (f_X9_distance σ v6 v7) fun v8 => (g_k1 (if v5 < v8 then some (0 : Int32) else (g_k1 (f_X8_end σ v3 a1) fun v14 => (g_k1 (f_X8_end σ v4 v1) fun v15 => (g_k1 (f_X9_distance σ v14 v15) fun v16 => (if v5 < v16 then some (0 : Int32) else some (1 : Int32)))))) fun x9 => (g_k1 (gzb x9) fun v12 => some v12))))))))))
set_option maxRecDepth 100000 in
set_option maxHeartbeats 4000000 in
theorem c_X2_isInStep (l : Launch) {Γ : gG} {ad : Nat → Nat} {N : Nat} (hN : 202 ≤ N) {σ : gSt} {a0 : Int32} {a1 : Int32}  {r : Int32} (hf : f_X2_isInStep σ a0 a1 = some r) : gMi l celC Γ ad N yX2_isInStep cX2_isInStep 7 (some .boolean) (gR 4 0 0) [.ref (ad 17), .int a0, .int a1] σ r σ := by
  intro sz
  refine gOf (Qc := fun sz => gQci celC Γ ad N r σ sz) RX2 (by decide) rfl (Nat.le_of_ble_eq_true rfl) (fun p e s m args below meth c H locs ls X S hl => ?_)
  have hl : lv_has ls 7 [(0, .ref (ad 17)), (1, .int a0), (2, .int a1)] := hl
  have hx := X.1
  have hb := X.2.1
  unfold f_X2_isInStep at hf
  refine lv_aload_n hx hb dX2_isInStep_0 rfl (lv_at hl 0 rfl) ?_
  refine lv_iload_n hx hb dX2_isInStep_1 rfl (lv_at hl 1 rfl) ?_
  refine lv_iload_n hx hb dX2_isInStep_2 rfl (lv_at hl 2 rfl) ?_
  obtain ⟨v1, hv1, hf⟩ := g_s1 hf
  refine g_ki S (g_runV (rest := []) X S (c_X2_partner l hN  hv1 _) cvX2_partner mlX2_61 (kd_N kd_s17 (by decide) hN) (ceC_2 kd_s17 _) rfl rfl rfl hl.1 (Nat.le_of_ble_eq_true rfl) ⟨⟨rfl, rfl⟩, ⟨Nat.le_of_ble_eq_true rfl, Nat.le_of_ble_eq_true rfl⟩, Nat.le_of_ble_eq_true rfl, Nat.le_of_ble_eq_true rfl⟩ dX2_isInStep_3) (fun H locs S => ?_)
  refine lv_istore_n (lv' := [(3, .int v1), (0, .ref (ad 17)), (1, .int a0), (2, .int a1)]) hx hb dX2_isInStep_6 rfl hl (by decide) rfl (fun ls hl => ?_)
  refine lv_iload_n hx hb dX2_isInStep_7 rfl (lv_at hl 0 rfl) ?_
  refine lv_iconst (v := (-1 : Int32)) hx hb dX2_isInStep_8 (by decide) ?_
  refine lv_icmp_ne (tgt := 14) hx hb dX2_isInStep_9 (by decide) (fun c2 => ?_) (fun c2 => ?_)
  · have hf := (if_neg c2).symm.trans hf
    refine lv_aload_n hx hb dX2_isInStep_14 rfl (lv_at hl 1 rfl) ?_
    refine gfX2_9 X S hN kd_s17 dX2_isInStep_15 ?_
    refine lv_iload_n hx hb dX2_isInStep_18 rfl (lv_at hl 2 rfl) ?_
    obtain ⟨v3, hv3, hf⟩ := g_s1 hf
    refine g_kr S (g_runV (rest := []) X S (c_X3_trackOf l hN kd_s1 hv3 _) cvX3_trackOf mlX2_22 (kd_N kd_s1 (by decide) hN) (ceC_3 kd_s1 _) rfl rfl rfl hl.1 (Nat.le_of_ble_eq_true rfl) ⟨⟨rfl, rfl⟩, ⟨Nat.le_of_ble_eq_true rfl, Nat.le_of_ble_eq_true rfl⟩, Nat.le_of_ble_eq_true rfl, Nat.le_of_ble_eq_true rfl⟩ dX2_isInStep_19) (fun H locs S => ?_)
    have hkv3 : gkd v3 = 8 := kr_X3_trackOf kd_s1 hv3
    refine lv_astore (lv' := [(4, .ref (ad v3)), (3, .int v1), (0, .ref (ad 17)), (1, .int a0), (2, .int a1)]) hx hb dX2_isInStep_22 hl (by decide) rfl (fun ls hl => ?_)
    refine lv_aload_n hx hb dX2_isInStep_24 rfl (lv_at hl 2 rfl) ?_
    refine gfX2_9 X S hN kd_s17 dX2_isInStep_25 ?_
    refine lv_iload_n hx hb dX2_isInStep_28 rfl (lv_at hl 3 rfl) ?_
    obtain ⟨v4, hv4, hf⟩ := g_s1 hf
    refine g_kr S (g_runV (rest := []) X S (c_X3_trackBeside l hN kd_s1 hv4 _) cvX3_trackBeside mlX2_44 (kd_N kd_s1 (by decide) hN) (ceC_3 kd_s1 _) rfl rfl rfl hl.1 (Nat.le_of_ble_eq_true rfl) ⟨⟨rfl, rfl⟩, ⟨Nat.le_of_ble_eq_true rfl, Nat.le_of_ble_eq_true rfl⟩, Nat.le_of_ble_eq_true rfl, Nat.le_of_ble_eq_true rfl⟩ dX2_isInStep_29) (fun H locs S => ?_)
    have hkv4 : gkd v4 = 8 := kr_X3_trackBeside kd_s1 hv4
    refine lv_astore (lv' := [(5, .ref (ad v4)), (4, .ref (ad v3)), (3, .int v1), (0, .ref (ad 17)), (1, .int a0), (2, .int a1)]) hx hb dX2_isInStep_32 hl (by decide) rfl (fun ls hl => ?_)
    refine lv_aload_n hx hb dX2_isInStep_34 rfl (lv_at hl 3 rfl) ?_
    refine gfX2_9 X S hN kd_s17 dX2_isInStep_35 ?_
    refine lv_iconst (v := (4 : Int32)) hx hb dX2_isInStep_38 (by decide) ?_
    obtain ⟨v5, hv5, hf⟩ := g_s1 hf
    refine g_ki S (g_runV (rest := []) X S (c_X3_setting l hN kd_s1 hv5 _) cvX3_setting mlX2_37 (kd_N kd_s1 (by decide) hN) (ceC_3 kd_s1 _) rfl rfl rfl hl.1 (Nat.le_of_ble_eq_true rfl) ⟨⟨rfl, rfl⟩, ⟨Nat.le_of_ble_eq_true rfl, Nat.le_of_ble_eq_true rfl⟩, Nat.le_of_ble_eq_true rfl, Nat.le_of_ble_eq_true rfl⟩ dX2_isInStep_39) (fun H locs S => ?_)
    refine lv_istore (lv' := [(6, .int v5), (5, .ref (ad v4)), (4, .ref (ad v3)), (3, .int v1), (0, .ref (ad 17)), (1, .int a0), (2, .int a1)]) hx hb dX2_isInStep_42 hl (by decide) rfl (fun ls hl => ?_)
    refine lv_aload hx hb dX2_isInStep_44 (lv_at hl 2 rfl) ?_
    refine lv_iload_n hx hb dX2_isInStep_46 rfl (lv_at hl 6 rfl) ?_
    obtain ⟨v6, hv6, hf⟩ := g_s1 hf
    refine g_ki S (g_runV (rest := []) X S (c_X8_first l hN hkv3 hv6 _) cvX8_first mlX2_51 (kd_N hkv3 (by decide) hN) (ceC_8 hkv3 _) rfl rfl rfl hl.1 (Nat.le_of_ble_eq_true rfl) ⟨⟨rfl, rfl⟩, ⟨Nat.le_of_ble_eq_true rfl, Nat.le_of_ble_eq_true rfl⟩, Nat.le_of_ble_eq_true rfl, Nat.le_of_ble_eq_true rfl⟩ dX2_isInStep_47) (fun H locs S => ?_)
    refine lv_aload hx hb dX2_isInStep_50 (lv_at hl 1 rfl) ?_
    refine lv_iload_n hx hb dX2_isInStep_52 rfl (lv_at hl 3 rfl) ?_
    obtain ⟨v7, hv7, hf⟩ := g_s1 hf
    refine g_ki S (g_runV (rest := [.int v6]) X S (c_X8_first l hN hkv4 hv7 _) cvX8_first mlX2_51 (kd_N hkv4 (by decide) hN) (ceC_8 hkv4 _) rfl rfl rfl hl.1 (Nat.le_of_ble_eq_true rfl) ⟨⟨rfl, rfl⟩, ⟨Nat.le_of_ble_eq_true rfl, Nat.le_of_ble_eq_true rfl⟩, Nat.le_of_ble_eq_true rfl, Nat.le_of_ble_eq_true rfl⟩ dX2_isInStep_53) (fun H locs S => ?_)
    obtain ⟨v8, hv8, hf⟩ := g_s1 hf
    refine g_ki S (g_runN (rest := []) X S (c_X9_distance l hN  hv8 _) csX9_distance mnX2_64 rfl rfl hl.1 (Nat.le_of_ble_eq_true rfl) ⟨⟨rfl, rfl⟩, ⟨Nat.le_of_ble_eq_true rfl, Nat.le_of_ble_eq_true rfl⟩, Nat.le_of_ble_eq_true rfl, Nat.le_of_ble_eq_true rfl⟩ dX2_isInStep_56) (fun H locs S => ?_)
    refine lv_iload hx hb dX2_isInStep_59 (lv_at hl 0 rfl) ?_
    obtain ⟨x9, hr10, hf⟩ := g_s1 hf
    have J11 : ∀ (H : Heap) (locs : List Loc) (ls : Array Slot), gS celC Γ ad N σ s H locs → lv_has ls 7 [] → W p l e (gR 4 0 0) s m args below meth c H locs 0 0 (gQi celC Γ ad N r σ below args s) (F0 m 89 ls [.int x9]) := by
      intro H locs ls S hl
      obtain ⟨v12, hv12, hf⟩ := g_s1 hf
      obtain ⟨hnv12, rfl⟩ := gzb_some hv12
      cases hf
      exact g_reti X S hnv12 dX2_isInStep_89
    replace hf := hr10
    refine lv_icmp_gt (tgt := 88) hx hb dX2_isInStep_61 (by decide) (fun c13 => ?_) (fun c13 => ?_)
    · have hf := (if_pos c13).symm.trans hf
      refine lv_iconst (v := (0 : Int32)) hx hb dX2_isInStep_88 (by decide) ?_
      cases hf
      exact J11 _ _ _ S (lv_sub hl [] rfl)
    · have hf := (if_neg c13).symm.trans hf
      refine lv_aload hx hb dX2_isInStep_64 (lv_at hl 2 rfl) ?_
      refine lv_iload_n hx hb dX2_isInStep_66 rfl (lv_at hl 6 rfl) ?_
      obtain ⟨v14, hv14, hf⟩ := g_s1 hf
      refine g_ki S (g_runV (rest := []) X S (c_X8_end l hN hkv3 hv14 _) cvX8_end mlX2_54 (kd_N hkv3 (by decide) hN) (ceC_8 hkv3 _) rfl rfl rfl hl.1 (Nat.le_of_ble_eq_true rfl) ⟨⟨rfl, rfl⟩, ⟨Nat.le_of_ble_eq_true rfl, Nat.le_of_ble_eq_true rfl⟩, Nat.le_of_ble_eq_true rfl, Nat.le_of_ble_eq_true rfl⟩ dX2_isInStep_67) (fun H locs S => ?_)
      refine lv_aload hx hb dX2_isInStep_70 (lv_at hl 1 rfl) ?_
      refine lv_iload_n hx hb dX2_isInStep_72 rfl (lv_at hl 3 rfl) ?_
      obtain ⟨v15, hv15, hf⟩ := g_s1 hf
      refine g_ki S (g_runV (rest := [.int v14]) X S (c_X8_end l hN hkv4 hv15 _) cvX8_end mlX2_54 (kd_N hkv4 (by decide) hN) (ceC_8 hkv4 _) rfl rfl rfl hl.1 (Nat.le_of_ble_eq_true rfl) ⟨⟨rfl, rfl⟩, ⟨Nat.le_of_ble_eq_true rfl, Nat.le_of_ble_eq_true rfl⟩, Nat.le_of_ble_eq_true rfl, Nat.le_of_ble_eq_true rfl⟩ dX2_isInStep_73) (fun H locs S => ?_)
      obtain ⟨v16, hv16, hf⟩ := g_s1 hf
      refine g_ki S (g_runN (rest := []) X S (c_X9_distance l hN  hv16 _) csX9_distance mnX2_64 rfl rfl hl.1 (Nat.le_of_ble_eq_true rfl) ⟨⟨rfl, rfl⟩, ⟨Nat.le_of_ble_eq_true rfl, Nat.le_of_ble_eq_true rfl⟩, Nat.le_of_ble_eq_true rfl, Nat.le_of_ble_eq_true rfl⟩ dX2_isInStep_76) (fun H locs S => ?_)
      refine lv_iload hx hb dX2_isInStep_79 (lv_at hl 0 rfl) ?_
      refine lv_icmp_gt (tgt := 88) hx hb dX2_isInStep_81 (by decide) (fun c17 => ?_) (fun c17 => ?_)
      · have hf := (if_pos c17).symm.trans hf
        refine lv_iconst (v := (0 : Int32)) hx hb dX2_isInStep_88 (by decide) ?_
        cases hf
        exact J11 _ _ _ S (lv_sub hl [] rfl)
      · have hf := (if_neg c17).symm.trans hf
        refine lv_iconst (v := (1 : Int32)) hx hb dX2_isInStep_84 (by decide) ?_
        refine lv_goto (tgt := 89) hx hb dX2_isInStep_85 (by decide) ?_
        cases hf
        exact J11 _ _ _ S (lv_sub hl [] rfl)
  · have hf := (if_pos c2).symm.trans hf
    refine lv_iconst (v := (0 : Int32)) hx hb dX2_isInStep_12 (by decide) ?_
    cases hf
    exact g_reti X S (by decide +kernel) dX2_isInStep_13

noncomputable def f_X2_isTight (σ : gSt) (a0 : Int32) (a1 : Int32) : Option (Int32) :=
  (g_k1 (f_X3_trackOf σ 1 a0) fun v1 => (g_k1 (f_X8_gapBefore σ v1 a1) fun v2 => (g_k1 (if v2 ≤ 0 then some (0 : Int32) else (g_k1 (f_X3_setting σ 1 (2 : Int32)) fun v8 => (if v8 ≤ v2 then some (0 : Int32) else some (1 : Int32)))) fun x3 => (g_k1 (gzb x3) fun v6 => some v6))))
set_option maxRecDepth 100000 in
set_option maxHeartbeats 4000000 in
theorem c_X2_isTight (l : Launch) {Γ : gG} {ad : Nat → Nat} {N : Nat} (hN : 202 ≤ N) {σ : gSt} {a0 : Int32} {a1 : Int32}  {r : Int32} (hf : f_X2_isTight σ a0 a1 = some r) : gMi l celC Γ ad N yX2_isTight cX2_isTight 4 (some .boolean) (gR 4 0 0) [.ref (ad 17), .int a0, .int a1] σ r σ := by
  intro sz
  refine gOf (Qc := fun sz => gQci celC Γ ad N r σ sz) RX2 (by decide) rfl (Nat.le_of_ble_eq_true rfl) (fun p e s m args below meth c H locs ls X S hl => ?_)
  have hl : lv_has ls 4 [(0, .ref (ad 17)), (1, .int a0), (2, .int a1)] := hl
  have hx := X.1
  have hb := X.2.1
  unfold f_X2_isTight at hf
  refine lv_aload_n hx hb dX2_isTight_0 rfl (lv_at hl 0 rfl) ?_
  refine gfX2_9 X S hN kd_s17 dX2_isTight_1 ?_
  refine lv_iload_n hx hb dX2_isTight_4 rfl (lv_at hl 1 rfl) ?_
  obtain ⟨v1, hv1, hf⟩ := g_s1 hf
  refine g_kr S (g_runV (rest := []) X S (c_X3_trackOf l hN kd_s1 hv1 _) cvX3_trackOf mlX2_22 (kd_N kd_s1 (by decide) hN) (ceC_3 kd_s1 _) rfl rfl rfl hl.1 (Nat.le_of_ble_eq_true rfl) ⟨⟨rfl, rfl⟩, ⟨Nat.le_of_ble_eq_true rfl, Nat.le_of_ble_eq_true rfl⟩, Nat.le_of_ble_eq_true rfl, Nat.le_of_ble_eq_true rfl⟩ dX2_isTight_5) (fun H locs S => ?_)
  have hkv1 : gkd v1 = 8 := kr_X3_trackOf kd_s1 hv1
  refine lv_iload_n hx hb dX2_isTight_8 rfl (lv_at hl 2 rfl) ?_
  obtain ⟨v2, hv2, hf⟩ := g_s1 hf
  refine g_ki S (g_runV (rest := []) X S (c_X8_gapBefore l hN hkv1 hv2 _) cvX8_gapBefore mlX2_67 (kd_N hkv1 (by decide) hN) (ceC_8 hkv1 _) rfl rfl rfl hl.1 (Nat.le_of_ble_eq_true rfl) ⟨⟨rfl, rfl⟩, ⟨Nat.le_of_ble_eq_true rfl, Nat.le_of_ble_eq_true rfl⟩, Nat.le_of_ble_eq_true rfl, Nat.le_of_ble_eq_true rfl⟩ dX2_isTight_9) (fun H locs S => ?_)
  refine lv_istore_n (lv' := [(3, .int v2), (0, .ref (ad 17)), (1, .int a0), (2, .int a1)]) hx hb dX2_isTight_12 rfl hl (by decide) rfl (fun ls hl => ?_)
  refine lv_iload_n hx hb dX2_isTight_13 rfl (lv_at hl 0 rfl) ?_
  obtain ⟨x3, hr4, hf⟩ := g_s1 hf
  have J5 : ∀ (H : Heap) (locs : List Loc) (ls : Array Slot), gS celC Γ ad N σ s H locs → lv_has ls 4 [] → W p l e (gR 4 0 0) s m args below meth c H locs 0 0 (gQi celC Γ ad N r σ below args s) (F0 m 34 ls [.int x3]) := by
    intro H locs ls S hl
    obtain ⟨v6, hv6, hf⟩ := g_s1 hf
    obtain ⟨hnv6, rfl⟩ := gzb_some hv6
    cases hf
    exact g_reti X S hnv6 dX2_isTight_34
  replace hf := hr4
  refine lv_if_le (tgt := 33) hx hb dX2_isTight_14 (by decide) (fun c7 => ?_) (fun c7 => ?_)
  · have hf := (if_pos c7).symm.trans hf
    refine lv_iconst (v := (0 : Int32)) hx hb dX2_isTight_33 (by decide) ?_
    cases hf
    exact J5 _ _ _ S (lv_sub hl [] rfl)
  · have hf := (if_neg c7).symm.trans hf
    refine lv_iload_n hx hb dX2_isTight_17 rfl (lv_at hl 0 rfl) ?_
    refine lv_aload_n hx hb dX2_isTight_18 rfl (lv_at hl 1 rfl) ?_
    refine gfX2_9 X S hN kd_s17 dX2_isTight_19 ?_
    refine lv_iconst (v := (2 : Int32)) hx hb dX2_isTight_22 (by decide) ?_
    obtain ⟨v8, hv8, hf⟩ := g_s1 hf
    refine g_ki S (g_runV (rest := [.int v2]) X S (c_X3_setting l hN kd_s1 hv8 _) cvX3_setting mlX2_37 (kd_N kd_s1 (by decide) hN) (ceC_3 kd_s1 _) rfl rfl rfl hl.1 (Nat.le_of_ble_eq_true rfl) ⟨⟨rfl, rfl⟩, ⟨Nat.le_of_ble_eq_true rfl, Nat.le_of_ble_eq_true rfl⟩, Nat.le_of_ble_eq_true rfl, Nat.le_of_ble_eq_true rfl⟩ dX2_isTight_23) (fun H locs S => ?_)
    refine lv_icmp_ge (tgt := 33) hx hb dX2_isTight_26 (by decide) (fun c9 => ?_) (fun c9 => ?_)
    · have hf := (if_pos c9).symm.trans hf
      refine lv_iconst (v := (0 : Int32)) hx hb dX2_isTight_33 (by decide) ?_
      cases hf
      exact J5 _ _ _ S (lv_sub hl [] rfl)
    · have hf := (if_neg c9).symm.trans hf
      refine lv_iconst (v := (1 : Int32)) hx hb dX2_isTight_29 (by decide) ?_
      refine lv_goto (tgt := 34) hx hb dX2_isTight_30 (by decide) ?_
      cases hf
      exact J5 _ _ _ S (lv_sub hl [] rfl)

noncomputable def f_X2_problems (σ : gSt) (a0 : Int32) (a1 : Int32) : Option (Int32) :=
  (g_k1 (f_X3_trackOf σ 1 a0) fun v1 => (g_k1 (f_X8_frames σ v1 a1) fun v2 => (g_k1 (f_X2_needs σ a0 a1) fun v3 => (g_k1 (if v3 ≤ v2 then some (0 : Int32) else some ((0 : Int32) + 1)) fun x4 => (g_k1 (f_X8_first σ v1 a1) fun v7 => (g_k1 (f_X3_isLoose σ 1 v7) fun v8 => (g_k1 (if v8 = 0 then some x4 else some (x4 + 2)) fun x9 => (g_k1 (f_X8_end σ v1 a1) fun v12 => (g_k1 (f_X3_isLoose σ 1 v12) fun v13 => (g_k1 (if v13 = 0 then some x9 else some (x9 + 4)) fun x14 => (g_k1 (f_X2_isTight σ a0 a1) fun v17 => (g_k1 (if v17 = 0 then some x14 else some (x14 + 8)) fun x18 => (g_k1 (f_X8_longestLine σ v1 a1) fun v21 => (g_k1 (f_X3_setting σ 1 (5 : Int32)) fun v22 => (g_k1 (if v21 ≤ v22 then some x18 else some (x18 + 16)) fun x23 => (g_k1 (f_X8_kind σ v1 a1) fun v26 => (g_k1 (if v26 = (1 : Int32) then some x23 else (g_k1 (f_X2_isInStep σ a0 a1) fun v31 => (if v31 = 0 then some (x23 + 32) else some x23))) fun x27 => some x27)))))))))))))))))
set_option maxRecDepth 100000 in
set_option maxHeartbeats 4000000 in
theorem c_X2_problems (l : Launch) {Γ : gG} {ad : Nat → Nat} {N : Nat} (hN : 202 ≤ N) {σ : gSt} {a0 : Int32} {a1 : Int32}  {r : Int32} (hf : f_X2_problems σ a0 a1 = some r) : gMi l celC Γ ad N yX2_problems cX2_problems 5 (some .int) (gR 6 0 0) [.ref (ad 17), .int a0, .int a1] σ r σ := by
  intro sz
  refine gOf (Qc := fun sz => gQci celC Γ ad N r σ sz) RX2 (by decide) rfl (Nat.le_of_ble_eq_true rfl) (fun p e s m args below meth c H locs ls X S hl => ?_)
  have hl : lv_has ls 5 [(0, .ref (ad 17)), (1, .int a0), (2, .int a1)] := hl
  have hx := X.1
  have hb := X.2.1
  unfold f_X2_problems at hf
  refine lv_aload_n hx hb dX2_problems_0 rfl (lv_at hl 0 rfl) ?_
  refine gfX2_9 X S hN kd_s17 dX2_problems_1 ?_
  refine lv_iload_n hx hb dX2_problems_4 rfl (lv_at hl 1 rfl) ?_
  obtain ⟨v1, hv1, hf⟩ := g_s1 hf
  refine g_kr S (g_runV (rest := []) X S (c_X3_trackOf l hN kd_s1 hv1 _) cvX3_trackOf mlX2_22 (kd_N kd_s1 (by decide) hN) (ceC_3 kd_s1 _) rfl rfl rfl hl.1 (Nat.le_of_ble_eq_true rfl) ⟨⟨rfl, rfl⟩, ⟨Nat.le_of_ble_eq_true rfl, Nat.le_of_ble_eq_true rfl⟩, Nat.le_of_ble_eq_true rfl, Nat.le_of_ble_eq_true rfl⟩ dX2_problems_5) (fun H locs S => ?_)
  have hkv1 : gkd v1 = 8 := kr_X3_trackOf kd_s1 hv1
  refine lv_astore_n (lv' := [(3, .ref (ad v1)), (0, .ref (ad 17)), (1, .int a0), (2, .int a1)]) hx hb dX2_problems_8 rfl hl (by decide) rfl (fun ls hl => ?_)
  refine lv_iconst (v := (0 : Int32)) hx hb dX2_problems_9 (by decide) ?_
  refine lv_istore (lv' := [(4, .int (0 : Int32)), (3, .ref (ad v1)), (0, .ref (ad 17)), (1, .int a0), (2, .int a1)]) hx hb dX2_problems_10 hl (by decide) rfl (fun ls hl => ?_)
  refine lv_aload_n hx hb dX2_problems_12 rfl (lv_at hl 1 rfl) ?_
  refine lv_iload_n hx hb dX2_problems_13 rfl (lv_at hl 4 rfl) ?_
  obtain ⟨v2, hv2, hf⟩ := g_s1 hf
  refine g_ki S (g_runV (rest := []) X S (c_X8_frames l hN hkv1 hv2 _) cvX8_frames mlX2_70 (kd_N hkv1 (by decide) hN) (ceC_8 hkv1 _) rfl rfl rfl hl.1 (Nat.le_of_ble_eq_true rfl) ⟨⟨rfl, rfl⟩, ⟨Nat.le_of_ble_eq_true rfl, Nat.le_of_ble_eq_true rfl⟩, Nat.le_of_ble_eq_true rfl, Nat.le_of_ble_eq_true rfl⟩ dX2_problems_14) (fun H locs S => ?_)
  refine lv_aload_n hx hb dX2_problems_17 rfl (lv_at hl 2 rfl) ?_
  refine lv_iload_n hx hb dX2_problems_18 rfl (lv_at hl 3 rfl) ?_
  refine lv_iload_n hx hb dX2_problems_19 rfl (lv_at hl 4 rfl) ?_
  obtain ⟨v3, hv3, hf⟩ := g_s1 hf
  refine g_ki S (g_runV (rest := [.int v2]) X S (c_X2_needs l hN  hv3 _) cvX2_needs mlX2_73 (kd_N kd_s17 (by decide) hN) (ceC_2 kd_s17 _) rfl rfl rfl hl.1 (Nat.le_of_ble_eq_true rfl) ⟨⟨rfl, rfl⟩, ⟨Nat.le_of_ble_eq_true rfl, Nat.le_of_ble_eq_true rfl⟩, Nat.le_of_ble_eq_true rfl, Nat.le_of_ble_eq_true rfl⟩ dX2_problems_20) (fun H locs S => ?_)
  obtain ⟨x4, hr5, hf⟩ := g_s1 hf
  have J6 : ∀ (H : Heap) (locs : List Loc) (ls : Array Slot), gS celC Γ ad N σ s H locs → lv_has ls 5 [(4, .int x4), (3, .ref (ad v1)), (0, .ref (ad 17)), (1, .int a0), (2, .int a1)] → W p l e (gR 6 0 0) s m args below meth c H locs 0 0 (gQi celC Γ ad N r σ below args s) (F0 m 29 ls []) := by
    intro H locs ls S hl
    refine lv_aload_n hx hb dX2_problems_29 rfl (lv_at hl 2 rfl) ?_
    refine gfX2_9 X S hN kd_s17 dX2_problems_30 ?_
    refine lv_aload_n hx hb dX2_problems_33 rfl (lv_at hl 1 rfl) ?_
    refine lv_iload_n hx hb dX2_problems_34 rfl (lv_at hl 4 rfl) ?_
    obtain ⟨v7, hv7, hf⟩ := g_s1 hf
    refine g_ki S (g_runV (rest := [.ref (ad 1)]) X S (c_X8_first l hN hkv1 hv7 _) cvX8_first mlX2_51 (kd_N hkv1 (by decide) hN) (ceC_8 hkv1 _) rfl rfl rfl hl.1 (Nat.le_of_ble_eq_true rfl) ⟨⟨rfl, rfl⟩, ⟨Nat.le_of_ble_eq_true rfl, Nat.le_of_ble_eq_true rfl⟩, Nat.le_of_ble_eq_true rfl, Nat.le_of_ble_eq_true rfl⟩ dX2_problems_35) (fun H locs S => ?_)
    obtain ⟨v8, hv8, hf⟩ := g_s1 hf
    refine g_ki S (g_runV (rest := []) X S (c_X3_isLoose l hN kd_s1 hv8 _) cvX3_isLoose mlX2_76 (kd_N kd_s1 (by decide) hN) (ceC_3 kd_s1 _) rfl rfl rfl hl.1 (Nat.le_of_ble_eq_true rfl) ⟨⟨rfl, rfl⟩, ⟨Nat.le_of_ble_eq_true rfl, Nat.le_of_ble_eq_true rfl⟩, Nat.le_of_ble_eq_true rfl, Nat.le_of_ble_eq_true rfl⟩ dX2_problems_38) (fun H locs S => ?_)
    obtain ⟨x9, hr10, hf⟩ := g_s1 hf
    have J11 : ∀ (H : Heap) (locs : List Loc) (ls : Array Slot), gS celC Γ ad N σ s H locs → lv_has ls 5 [(4, .int x9), (3, .ref (ad v1)), (0, .ref (ad 17)), (1, .int a0), (2, .int a1)] → W p l e (gR 6 0 0) s m args below meth c H locs 0 0 (gQi celC Γ ad N r σ below args s) (F0 m 47 ls []) := by
      intro H locs ls S hl
      refine lv_aload_n hx hb dX2_problems_47 rfl (lv_at hl 2 rfl) ?_
      refine gfX2_9 X S hN kd_s17 dX2_problems_48 ?_
      refine lv_aload_n hx hb dX2_problems_51 rfl (lv_at hl 1 rfl) ?_
      refine lv_iload_n hx hb dX2_problems_52 rfl (lv_at hl 4 rfl) ?_
      obtain ⟨v12, hv12, hf⟩ := g_s1 hf
      refine g_ki S (g_runV (rest := [.ref (ad 1)]) X S (c_X8_end l hN hkv1 hv12 _) cvX8_end mlX2_54 (kd_N hkv1 (by decide) hN) (ceC_8 hkv1 _) rfl rfl rfl hl.1 (Nat.le_of_ble_eq_true rfl) ⟨⟨rfl, rfl⟩, ⟨Nat.le_of_ble_eq_true rfl, Nat.le_of_ble_eq_true rfl⟩, Nat.le_of_ble_eq_true rfl, Nat.le_of_ble_eq_true rfl⟩ dX2_problems_53) (fun H locs S => ?_)
      obtain ⟨v13, hv13, hf⟩ := g_s1 hf
      refine g_ki S (g_runV (rest := []) X S (c_X3_isLoose l hN kd_s1 hv13 _) cvX3_isLoose mlX2_76 (kd_N kd_s1 (by decide) hN) (ceC_3 kd_s1 _) rfl rfl rfl hl.1 (Nat.le_of_ble_eq_true rfl) ⟨⟨rfl, rfl⟩, ⟨Nat.le_of_ble_eq_true rfl, Nat.le_of_ble_eq_true rfl⟩, Nat.le_of_ble_eq_true rfl, Nat.le_of_ble_eq_true rfl⟩ dX2_problems_56) (fun H locs S => ?_)
      obtain ⟨x14, hr15, hf⟩ := g_s1 hf
      have J16 : ∀ (H : Heap) (locs : List Loc) (ls : Array Slot), gS celC Γ ad N σ s H locs → lv_has ls 5 [(4, .int x14), (3, .ref (ad v1)), (0, .ref (ad 17)), (1, .int a0), (2, .int a1)] → W p l e (gR 6 0 0) s m args below meth c H locs 0 0 (gQi celC Γ ad N r σ below args s) (F0 m 65 ls []) := by
        intro H locs ls S hl
        refine lv_aload_n hx hb dX2_problems_65 rfl (lv_at hl 2 rfl) ?_
        refine lv_iload_n hx hb dX2_problems_66 rfl (lv_at hl 3 rfl) ?_
        refine lv_iload_n hx hb dX2_problems_67 rfl (lv_at hl 4 rfl) ?_
        obtain ⟨v17, hv17, hf⟩ := g_s1 hf
        refine g_ki S (g_runV (rest := []) X S (c_X2_isTight l hN  hv17 _) cvX2_isTight mlX2_80 (kd_N kd_s17 (by decide) hN) (ceC_2 kd_s17 _) rfl rfl rfl hl.1 (Nat.le_of_ble_eq_true rfl) ⟨⟨rfl, rfl⟩, ⟨Nat.le_of_ble_eq_true rfl, Nat.le_of_ble_eq_true rfl⟩, Nat.le_of_ble_eq_true rfl, Nat.le_of_ble_eq_true rfl⟩ dX2_problems_68) (fun H locs S => ?_)
        obtain ⟨x18, hr19, hf⟩ := g_s1 hf
        have J20 : ∀ (H : Heap) (locs : List Loc) (ls : Array Slot), gS celC Γ ad N σ s H locs → lv_has ls 5 [(4, .int x18), (3, .ref (ad v1)), (0, .ref (ad 17)), (1, .int a0), (2, .int a1)] → W p l e (gR 6 0 0) s m args below meth c H locs 0 0 (gQi celC Γ ad N r σ below args s) (F0 m 77 ls []) := by
          intro H locs ls S hl
          refine lv_aload_n hx hb dX2_problems_77 rfl (lv_at hl 1 rfl) ?_
          refine lv_iload_n hx hb dX2_problems_78 rfl (lv_at hl 4 rfl) ?_
          obtain ⟨v21, hv21, hf⟩ := g_s1 hf
          refine g_ki S (g_runV (rest := []) X S (c_X8_longestLine l hN hkv1 hv21 _) cvX8_longestLine mlX2_84 (kd_N hkv1 (by decide) hN) (ceC_8 hkv1 _) rfl rfl rfl hl.1 (Nat.le_of_ble_eq_true rfl) ⟨⟨rfl, rfl⟩, ⟨Nat.le_of_ble_eq_true rfl, Nat.le_of_ble_eq_true rfl⟩, Nat.le_of_ble_eq_true rfl, Nat.le_of_ble_eq_true rfl⟩ dX2_problems_79) (fun H locs S => ?_)
          refine lv_aload_n hx hb dX2_problems_82 rfl (lv_at hl 2 rfl) ?_
          refine gfX2_9 X S hN kd_s17 dX2_problems_83 ?_
          refine lv_iconst (v := (5 : Int32)) hx hb dX2_problems_86 (by decide) ?_
          obtain ⟨v22, hv22, hf⟩ := g_s1 hf
          refine g_ki S (g_runV (rest := [.int v21]) X S (c_X3_setting l hN kd_s1 hv22 _) cvX3_setting mlX2_37 (kd_N kd_s1 (by decide) hN) (ceC_3 kd_s1 _) rfl rfl rfl hl.1 (Nat.le_of_ble_eq_true rfl) ⟨⟨rfl, rfl⟩, ⟨Nat.le_of_ble_eq_true rfl, Nat.le_of_ble_eq_true rfl⟩, Nat.le_of_ble_eq_true rfl, Nat.le_of_ble_eq_true rfl⟩ dX2_problems_87) (fun H locs S => ?_)
          obtain ⟨x23, hr24, hf⟩ := g_s1 hf
          have J25 : ∀ (H : Heap) (locs : List Loc) (ls : Array Slot), gS celC Γ ad N σ s H locs → lv_has ls 5 [(4, .int x23), (3, .ref (ad v1)), (0, .ref (ad 17)), (1, .int a0), (2, .int a1)] → W p l e (gR 6 0 0) s m args below meth c H locs 0 0 (gQi celC Γ ad N r σ below args s) (F0 m 96 ls []) := by
            intro H locs ls S hl
            refine lv_aload_n hx hb dX2_problems_96 rfl (lv_at hl 1 rfl) ?_
            refine lv_iload_n hx hb dX2_problems_97 rfl (lv_at hl 4 rfl) ?_
            obtain ⟨v26, hv26, hf⟩ := g_s1 hf
            refine g_ki S (g_runV (rest := []) X S (c_X8_kind l hN hkv1 hv26 _) cvX8_kind mlX2_28 (kd_N hkv1 (by decide) hN) (ceC_8 hkv1 _) rfl rfl rfl hl.1 (Nat.le_of_ble_eq_true rfl) ⟨⟨rfl, rfl⟩, ⟨Nat.le_of_ble_eq_true rfl, Nat.le_of_ble_eq_true rfl⟩, Nat.le_of_ble_eq_true rfl, Nat.le_of_ble_eq_true rfl⟩ dX2_problems_98) (fun H locs S => ?_)
            refine lv_iconst (v := (1 : Int32)) hx hb dX2_problems_101 (by decide) ?_
            obtain ⟨x27, hr28, hf⟩ := g_s1 hf
            have J29 : ∀ (H : Heap) (locs : List Loc) (ls : Array Slot), gS celC Γ ad N σ s H locs → lv_has ls 5 [(4, .int x27)] → W p l e (gR 6 0 0) s m args below meth c H locs 0 0 (gQi celC Γ ad N r σ below args s) (F0 m 117 ls []) := by
              intro H locs ls S hl
              refine lv_iload hx hb dX2_problems_117 (lv_at hl 0 rfl) ?_
              cases hf
              exact g_reti X S rfl dX2_problems_119
            replace hf := hr28
            refine lv_icmp_eq (tgt := 117) hx hb dX2_problems_102 (by decide) (fun c30 => ?_) (fun c30 => ?_)
            · have hf := (if_pos c30).symm.trans hf
              cases hf
              exact J29 _ _ _ S (lv_sub hl [0] rfl)
            · have hf := (if_neg c30).symm.trans hf
              refine lv_aload_n hx hb dX2_problems_105 rfl (lv_at hl 2 rfl) ?_
              refine lv_iload_n hx hb dX2_problems_106 rfl (lv_at hl 3 rfl) ?_
              refine lv_iload_n hx hb dX2_problems_107 rfl (lv_at hl 4 rfl) ?_
              obtain ⟨v31, hv31, hf⟩ := g_s1 hf
              refine g_ki S (g_runV (rest := []) X S (c_X2_isInStep l hN  hv31 _) cvX2_isInStep mlX2_87 (kd_N kd_s17 (by decide) hN) (ceC_2 kd_s17 _) rfl rfl rfl hl.1 (Nat.le_of_ble_eq_true rfl) ⟨⟨rfl, rfl⟩, ⟨Nat.le_of_ble_eq_true rfl, Nat.le_of_ble_eq_true rfl⟩, Nat.le_of_ble_eq_true rfl, Nat.le_of_ble_eq_true rfl⟩ dX2_problems_108) (fun H locs S => ?_)
              refine lv_if_ne (tgt := 117) hx hb dX2_problems_111 (by decide) (fun c32 => ?_) (fun c32 => ?_)
              · have hf := (if_neg c32).symm.trans hf
                cases hf
                exact J29 _ _ _ S (lv_sub hl [0] rfl)
              · have hf := (if_pos c32).symm.trans hf
                refine lv_iinc (v := (x23 + 32)) (lv' := [(4, .int (x23 + 32)), (3, .ref (ad v1)), (0, .ref (ad 17)), (1, .int a0), (2, .int a1)]) hx hb dX2_problems_114 hl (k := 0) rfl rfl (by decide) rfl (fun ls hl => ?_)
                cases hf
                exact J29 _ _ _ S (lv_sub hl [0] rfl)
          replace hf := hr24
          refine lv_icmp_le (tgt := 96) hx hb dX2_problems_90 (by decide) (fun c33 => ?_) (fun c33 => ?_)
          · have hf := (if_pos c33).symm.trans hf
            cases hf
            exact J25 _ _ _ S (lv_sub hl [0, 1, 2, 3, 4] rfl)
          · have hf := (if_neg c33).symm.trans hf
            refine lv_iinc (v := (x18 + 16)) (lv' := [(4, .int (x18 + 16)), (3, .ref (ad v1)), (0, .ref (ad 17)), (1, .int a0), (2, .int a1)]) hx hb dX2_problems_93 hl (k := 0) rfl rfl (by decide) rfl (fun ls hl => ?_)
            cases hf
            exact J25 _ _ _ S (lv_sub hl [0, 1, 2, 3, 4] rfl)
        replace hf := hr19
        refine lv_if_eq (tgt := 77) hx hb dX2_problems_71 (by decide) (fun c34 => ?_) (fun c34 => ?_)
        · have hf := (if_pos c34).symm.trans hf
          cases hf
          exact J20 _ _ _ S (lv_sub hl [0, 1, 2, 3, 4] rfl)
        · have hf := (if_neg c34).symm.trans hf
          refine lv_iinc (v := (x14 + 8)) (lv' := [(4, .int (x14 + 8)), (3, .ref (ad v1)), (0, .ref (ad 17)), (1, .int a0), (2, .int a1)]) hx hb dX2_problems_74 hl (k := 0) rfl rfl (by decide) rfl (fun ls hl => ?_)
          cases hf
          exact J20 _ _ _ S (lv_sub hl [0, 1, 2, 3, 4] rfl)
      replace hf := hr15
      refine lv_if_eq (tgt := 65) hx hb dX2_problems_59 (by decide) (fun c35 => ?_) (fun c35 => ?_)
      · have hf := (if_pos c35).symm.trans hf
        cases hf
        exact J16 _ _ _ S (lv_sub hl [0, 1, 2, 3, 4] rfl)
      · have hf := (if_neg c35).symm.trans hf
        refine lv_iinc (v := (x9 + 4)) (lv' := [(4, .int (x9 + 4)), (3, .ref (ad v1)), (0, .ref (ad 17)), (1, .int a0), (2, .int a1)]) hx hb dX2_problems_62 hl (k := 0) rfl rfl (by decide) rfl (fun ls hl => ?_)
        cases hf
        exact J16 _ _ _ S (lv_sub hl [0, 1, 2, 3, 4] rfl)
    replace hf := hr10
    refine lv_if_eq (tgt := 47) hx hb dX2_problems_41 (by decide) (fun c36 => ?_) (fun c36 => ?_)
    · have hf := (if_pos c36).symm.trans hf
      cases hf
      exact J11 _ _ _ S (lv_sub hl [0, 1, 2, 3, 4] rfl)
    · have hf := (if_neg c36).symm.trans hf
      refine lv_iinc (v := (x4 + 2)) (lv' := [(4, .int (x4 + 2)), (3, .ref (ad v1)), (0, .ref (ad 17)), (1, .int a0), (2, .int a1)]) hx hb dX2_problems_44 hl (k := 0) rfl rfl (by decide) rfl (fun ls hl => ?_)
      cases hf
      exact J11 _ _ _ S (lv_sub hl [0, 1, 2, 3, 4] rfl)
  replace hf := hr5
  refine lv_icmp_ge (tgt := 29) hx hb dX2_problems_23 (by decide) (fun c37 => ?_) (fun c37 => ?_)
  · have hf := (if_pos c37).symm.trans hf
    cases hf
    exact J6 _ _ _ S (lv_sub hl [0, 1, 2, 3, 4] rfl)
  · have hf := (if_neg c37).symm.trans hf
    refine lv_iinc (v := ((0 : Int32) + 1)) (lv' := [(4, .int ((0 : Int32) + 1)), (3, .ref (ad v1)), (0, .ref (ad 17)), (1, .int a0), (2, .int a1)]) hx hb dX2_problems_26 hl (k := 0) rfl rfl (by decide) rfl (fun ls hl => ?_)
    cases hf
    exact J6 _ _ _ S (lv_sub hl [0, 1, 2, 3, 4] rfl)

noncomputable def f_X2_captionsWith_l1 (σ : gSt) (a0 : Int32) (a1 : Int32) : Nat → Int32 → Int32 → Option (Int32)
  | 0, _, _ => none
  | n + 1, i1, i2 => (g_k1 (f_X3_trackOf σ 1 a0) fun v4 => (if (σ v4 5) ≤ i1 then some i2 else (g_k1 (f_X2_problems σ a0 i1) fun v6 => (g_k1 (if (v6 &&& a1) = 0 then some i2 else some (i2 + 1)) fun x7 => (f_X2_captionsWith_l1 σ a0 a1 n (i1 + 1) x7)))))
set_option maxRecDepth 100000 in
set_option maxHeartbeats 4000000 in
theorem w_X2_captionsWith_l1 {l : Launch} {Γ : gG} {ad : Nat → Nat} {N : Nat} {p : Program} {e : Env} {s : State} {m : MethodId} {args : Array Value} {below : List Frame} {meth : Method} {c : Code} {Q : State → Prop} (hN : 202 ≤ N) (X : gX celC Γ ad N RX2 cX2_captionsWith 5 (some .int) p s m args meth c) {σ : gSt} {a0 : Int32} {a1 : Int32}  : ∀ (n : Nat) (i1 : Int32) (i2 : Int32) (r3 : Int32), f_X2_captionsWith_l1 σ a0 a1 n i1 i2 = some r3 → (∀ (H : Heap) (locs : List Loc) (ls : Array Slot), gS celC Γ ad N σ s H locs → lv_has ls 5 [(3, .int r3)] → W p l e (gR 7 0 0) s m args below meth c H locs 0 0 (Q) (F0 m 42 ls [])) → ∀ (H : Heap) (locs : List Loc) (ls : Array Slot), gS celC Γ ad N σ s H locs → lv_has ls 5 [(4, .int i1), (3, .int i2), (0, .ref (ad 17)), (1, .int a0), (2, .int a1)] → W p l e (gR 7 0 0) s m args below meth c H locs 0 0 (Q) (F0 m 5 ls []) := by
  have hx := X.1
  have hb := X.2.1
  intro n
  induction n with
  | zero =>
    intro i1 i2 r3 hf
    cases hf
  | succ n ih =>
    intro i1 i2 r3 hf J H locs ls S hl
    rw [f_X2_captionsWith_l1] at hf
    refine lv_iload hx hb dX2_captionsWith_5 (lv_at hl 0 rfl) ?_
    refine lv_aload_n hx hb dX2_captionsWith_7 rfl (lv_at hl 2 rfl) ?_
    refine gfX2_9 X S hN kd_s17 dX2_captionsWith_8 ?_
    refine lv_iload_n hx hb dX2_captionsWith_11 rfl (lv_at hl 3 rfl) ?_
    obtain ⟨v4, hv4, hf⟩ := g_s1 hf
    refine g_kr S (g_runV (rest := [.int i1]) X S (c_X3_trackOf l hN kd_s1 hv4 _) cvX3_trackOf mlX2_22 (kd_N kd_s1 (by decide) hN) (ceC_3 kd_s1 _) rfl rfl rfl hl.1 (Nat.le_of_ble_eq_true rfl) ⟨⟨rfl, rfl⟩, ⟨Nat.le_of_ble_eq_true rfl, Nat.le_of_ble_eq_true rfl⟩, Nat.le_of_ble_eq_true rfl, Nat.le_of_ble_eq_true rfl⟩ dX2_captionsWith_12) (fun H locs S => ?_)
    have hkv4 : gkd v4 = 8 := kr_X3_trackOf kd_s1 hv4
    refine gfX2_47 X S hN hkv4 dX2_captionsWith_15 ?_
    refine lv_icmp_ge (tgt := 42) hx hb dX2_captionsWith_18 (by decide) (fun c5 => ?_) (fun c5 => ?_)
    · have hf := (if_pos c5).symm.trans hf
      cases hf
      exact J _ _ _ S (lv_sub hl [1] rfl)
    · have hf := (if_neg c5).symm.trans hf
      refine lv_aload_n hx hb dX2_captionsWith_21 rfl (lv_at hl 2 rfl) ?_
      refine lv_iload_n hx hb dX2_captionsWith_22 rfl (lv_at hl 3 rfl) ?_
      refine lv_iload hx hb dX2_captionsWith_23 (lv_at hl 0 rfl) ?_
      obtain ⟨v6, hv6, hf⟩ := g_s1 hf
      refine g_ki S (g_runV (rest := []) X S (c_X2_problems l hN  hv6 _) cvX2_problems mlX2_90 (kd_N kd_s17 (by decide) hN) (ceC_2 kd_s17 _) rfl rfl rfl hl.1 (Nat.le_of_ble_eq_true rfl) ⟨⟨rfl, rfl⟩, ⟨Nat.le_of_ble_eq_true rfl, Nat.le_of_ble_eq_true rfl⟩, Nat.le_of_ble_eq_true rfl, Nat.le_of_ble_eq_true rfl⟩ dX2_captionsWith_25) (fun H locs S => ?_)
      refine lv_iload_n hx hb dX2_captionsWith_28 rfl (lv_at hl 4 rfl) ?_
      refine lv_iand hx hb dX2_captionsWith_29 ?_
      obtain ⟨x7, hr8, hf⟩ := g_s1 hf
      have J9 : ∀ (H : Heap) (locs : List Loc) (ls : Array Slot), gS celC Γ ad N σ s H locs → lv_has ls 5 [(4, .int i1), (3, .int x7), (0, .ref (ad 17)), (1, .int a0), (2, .int a1)] → W p l e (gR 7 0 0) s m args below meth c H locs 0 0 (Q) (F0 m 36 ls []) := by
        intro H locs ls S hl
        refine lv_iinc (v := (i1 + 1)) (lv' := [(4, .int (i1 + 1)), (3, .int x7), (0, .ref (ad 17)), (1, .int a0), (2, .int a1)]) hx hb dX2_captionsWith_36 hl (k := 0) rfl rfl (by decide) rfl (fun ls hl => ?_)
        refine lv_goto (tgt := 5) hx hb dX2_captionsWith_39 (by decide) ?_
        exact ih _ _ _  hf J _ _ _ S (lv_sub hl [0, 1, 2, 3, 4] rfl)
      replace hf := hr8
      refine lv_if_eq (tgt := 36) hx hb dX2_captionsWith_30 (by decide) (fun c10 => ?_) (fun c10 => ?_)
      · have hf := (if_pos c10).symm.trans hf
        cases hf
        exact J9 _ _ _ S (lv_sub hl [0, 1, 2, 3, 4] rfl)
      · have hf := (if_neg c10).symm.trans hf
        refine lv_iinc (v := (i2 + 1)) (lv' := [(3, .int (i2 + 1)), (4, .int i1), (0, .ref (ad 17)), (1, .int a0), (2, .int a1)]) hx hb dX2_captionsWith_33 hl (k := 1) rfl rfl (by decide) rfl (fun ls hl => ?_)
        cases hf
        exact J9 _ _ _ S (lv_sub hl [1, 0, 2, 3, 4] rfl)
noncomputable def f_X2_captionsWith (σ : gSt) (a0 : Int32) (a1 : Int32) : Option (Int32) :=
  (g_k1 (f_X2_captionsWith_l1 σ a0 a1 FU (0 : Int32) (0 : Int32)) fun r3 => some r3)
set_option maxRecDepth 100000 in
set_option maxHeartbeats 4000000 in
theorem c_X2_captionsWith (l : Launch) {Γ : gG} {ad : Nat → Nat} {N : Nat} (hN : 202 ≤ N) {σ : gSt} {a0 : Int32} {a1 : Int32}  {r : Int32} (hf : f_X2_captionsWith σ a0 a1 = some r) : gMi l celC Γ ad N yX2_captionsWith cX2_captionsWith 5 (some .int) (gR 7 0 0) [.ref (ad 17), .int a0, .int a1] σ r σ := by
  intro sz
  refine gOf (Qc := fun sz => gQci celC Γ ad N r σ sz) RX2 (by decide) rfl (Nat.le_of_ble_eq_true rfl) (fun p e s m args below meth c H locs ls X S hl => ?_)
  have hl : lv_has ls 5 [(0, .ref (ad 17)), (1, .int a0), (2, .int a1)] := hl
  have hx := X.1
  have hb := X.2.1
  unfold f_X2_captionsWith at hf
  refine lv_iconst (v := (0 : Int32)) hx hb dX2_captionsWith_0 (by decide) ?_
  refine lv_istore_n (lv' := [(3, .int (0 : Int32)), (0, .ref (ad 17)), (1, .int a0), (2, .int a1)]) hx hb dX2_captionsWith_1 rfl hl (by decide) rfl (fun ls hl => ?_)
  refine lv_iconst (v := (0 : Int32)) hx hb dX2_captionsWith_2 (by decide) ?_
  refine lv_istore (lv' := [(4, .int (0 : Int32)), (3, .int (0 : Int32)), (0, .ref (ad 17)), (1, .int a0), (2, .int a1)]) hx hb dX2_captionsWith_3 hl (by decide) rfl (fun ls hl => ?_)
  obtain ⟨r3, hr11, hf⟩ := g_s1 hf
  refine w_X2_captionsWith_l1 hN X  FU _ _ _  hr11 (fun H locs ls S hl => ?_) _ _ _ S (lv_sub hl [0, 1, 2, 3, 4] rfl)
  refine lv_iload_n hx hb dX2_captionsWith_42 rfl (lv_at hl 0 rfl) ?_
  cases hf
  exact g_reti X S rfl dX2_captionsWith_43

noncomputable def f_X2_cutsWithin (σ : gSt) (a0 : Int32) (a1 : Int32) : Option (Int32) :=
  (g_k1 (f_X3_trackOf σ 1 a0) fun v1 => (g_k1 (f_X8_end σ v1 a1) fun v2 => (g_k1 (f_X0_upTo σ (1 + 2) (v2 - (1 : Int32))) fun v3 => (g_k1 (f_X8_first σ v1 a1) fun v4 => (g_k1 (f_X0_upTo σ (1 + 2) v4) fun v5 => some (v3 - v5))))))
set_option maxRecDepth 100000 in
set_option maxHeartbeats 4000000 in
theorem c_X2_cutsWithin (l : Launch) {Γ : gG} {ad : Nat → Nat} {N : Nat} (hN : 202 ≤ N) {σ : gSt} {a0 : Int32} {a1 : Int32}  {r : Int32} (hf : f_X2_cutsWithin σ a0 a1 = some r) : gMi l celC Γ ad N yX2_cutsWithin cX2_cutsWithin 4 (some .int) (gR 3 0 0) [.ref (ad 17), .int a0, .int a1] σ r σ := by
  intro sz
  refine gOf (Qc := fun sz => gQci celC Γ ad N r σ sz) RX2 (by decide) rfl (Nat.le_of_ble_eq_true rfl) (fun p e s m args below meth c H locs ls X S hl => ?_)
  have hl : lv_has ls 4 [(0, .ref (ad 17)), (1, .int a0), (2, .int a1)] := hl
  have hx := X.1
  have hb := X.2.1
  unfold f_X2_cutsWithin at hf
  refine lv_aload_n hx hb dX2_cutsWithin_0 rfl (lv_at hl 0 rfl) ?_
  refine gfX2_9 X S hN kd_s17 dX2_cutsWithin_1 ?_
  refine lv_iload_n hx hb dX2_cutsWithin_4 rfl (lv_at hl 1 rfl) ?_
  obtain ⟨v1, hv1, hf⟩ := g_s1 hf
  refine g_kr S (g_runV (rest := []) X S (c_X3_trackOf l hN kd_s1 hv1 _) cvX3_trackOf mlX2_22 (kd_N kd_s1 (by decide) hN) (ceC_3 kd_s1 _) rfl rfl rfl hl.1 (Nat.le_of_ble_eq_true rfl) ⟨⟨rfl, rfl⟩, ⟨Nat.le_of_ble_eq_true rfl, Nat.le_of_ble_eq_true rfl⟩, Nat.le_of_ble_eq_true rfl, Nat.le_of_ble_eq_true rfl⟩ dX2_cutsWithin_5) (fun H locs S => ?_)
  have hkv1 : gkd v1 = 8 := kr_X3_trackOf kd_s1 hv1
  refine lv_astore_n (lv' := [(3, .ref (ad v1)), (0, .ref (ad 17)), (1, .int a0), (2, .int a1)]) hx hb dX2_cutsWithin_8 rfl hl (by decide) rfl (fun ls hl => ?_)
  refine lv_aload_n hx hb dX2_cutsWithin_9 rfl (lv_at hl 1 rfl) ?_
  refine gfX2_9 X S hN kd_s17 dX2_cutsWithin_10 ?_
  refine gfX2_93 X S hN kd_s1 dX2_cutsWithin_13 ?_
  refine lv_aload_n hx hb dX2_cutsWithin_16 rfl (lv_at hl 0 rfl) ?_
  refine lv_iload_n hx hb dX2_cutsWithin_17 rfl (lv_at hl 3 rfl) ?_
  obtain ⟨v2, hv2, hf⟩ := g_s1 hf
  refine g_ki S (g_runV (rest := [.ref (ad (1 + 2))]) X S (c_X8_end l hN hkv1 hv2 _) cvX8_end mlX2_54 (kd_N hkv1 (by decide) hN) (ceC_8 hkv1 _) rfl rfl rfl hl.1 (Nat.le_of_ble_eq_true rfl) ⟨⟨rfl, rfl⟩, ⟨Nat.le_of_ble_eq_true rfl, Nat.le_of_ble_eq_true rfl⟩, Nat.le_of_ble_eq_true rfl, Nat.le_of_ble_eq_true rfl⟩ dX2_cutsWithin_18) (fun H locs S => ?_)
  refine lv_iconst (v := (1 : Int32)) hx hb dX2_cutsWithin_21 (by decide) ?_
  refine lv_isub hx hb dX2_cutsWithin_22 ?_
  obtain ⟨v3, hv3, hf⟩ := g_s1 hf
  refine g_ki S (g_runV (rest := []) X S (c_X0_upTo l hN (kd_3_2 kd_s1) hv3 _) cvX0_upTo mlX2_97 (kd_N (kd_3_2 kd_s1) (by decide) hN) (ceC_0 (kd_3_2 kd_s1) _) rfl rfl rfl hl.1 (Nat.le_of_ble_eq_true rfl) ⟨⟨rfl, rfl⟩, ⟨Nat.le_of_ble_eq_true rfl, Nat.le_of_ble_eq_true rfl⟩, Nat.le_of_ble_eq_true rfl, Nat.le_of_ble_eq_true rfl⟩ dX2_cutsWithin_23) (fun H locs S => ?_)
  refine lv_aload_n hx hb dX2_cutsWithin_26 rfl (lv_at hl 1 rfl) ?_
  refine gfX2_9 X S hN kd_s17 dX2_cutsWithin_27 ?_
  refine gfX2_93 X S hN kd_s1 dX2_cutsWithin_30 ?_
  refine lv_aload_n hx hb dX2_cutsWithin_33 rfl (lv_at hl 0 rfl) ?_
  refine lv_iload_n hx hb dX2_cutsWithin_34 rfl (lv_at hl 3 rfl) ?_
  obtain ⟨v4, hv4, hf⟩ := g_s1 hf
  refine g_ki S (g_runV (rest := [.ref (ad (1 + 2)), .int v3]) X S (c_X8_first l hN hkv1 hv4 _) cvX8_first mlX2_51 (kd_N hkv1 (by decide) hN) (ceC_8 hkv1 _) rfl rfl rfl hl.1 (Nat.le_of_ble_eq_true rfl) ⟨⟨rfl, rfl⟩, ⟨Nat.le_of_ble_eq_true rfl, Nat.le_of_ble_eq_true rfl⟩, Nat.le_of_ble_eq_true rfl, Nat.le_of_ble_eq_true rfl⟩ dX2_cutsWithin_35) (fun H locs S => ?_)
  obtain ⟨v5, hv5, hf⟩ := g_s1 hf
  refine g_ki S (g_runV (rest := [.int v3]) X S (c_X0_upTo l hN (kd_3_2 kd_s1) hv5 _) cvX0_upTo mlX2_97 (kd_N (kd_3_2 kd_s1) (by decide) hN) (ceC_0 (kd_3_2 kd_s1) _) rfl rfl rfl hl.1 (Nat.le_of_ble_eq_true rfl) ⟨⟨rfl, rfl⟩, ⟨Nat.le_of_ble_eq_true rfl, Nat.le_of_ble_eq_true rfl⟩, Nat.le_of_ble_eq_true rfl, Nat.le_of_ble_eq_true rfl⟩ dX2_cutsWithin_38) (fun H locs S => ?_)
  refine lv_isub hx hb dX2_cutsWithin_41 ?_
  cases hf
  exact g_reti X S rfl dX2_cutsWithin_42

