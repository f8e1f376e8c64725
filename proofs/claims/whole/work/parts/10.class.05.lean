noncomputable def f_X1_divideText (σ : gSt) (a0 : Nat) (a1 : Int32) (a2 : Int32) : Option (gSt) :=
  (g_k1 (f_X7_clear σ 21) fun σ1 => (g_k1 (f_X8_appendTextTo σ1 a0 21 a1 (0 : Int32) a2) fun σ2 => (g_k1 (f_X7_clear σ2 23) fun σ3 => (g_k1 (f_X8_size σ3 a0 a1) fun v4 => (g_k1 (f_X8_appendTextTo σ3 a0 23 a1 (a2 + (1 : Int32)) v4) fun σ5 => some σ5)))))
set_option maxRecDepth 100000 in
set_option maxHeartbeats 4000000 in
theorem c_X1_divideText (l : Launch) {Γ : gG} {ad : Nat → Nat} {N : Nat} (hN : 202 ≤ N) {σ : gSt} {a0 : Nat} {a1 : Int32} {a2 : Int32} (ha0 : gkd a0 = 8) {σ' : gSt} (hf : f_X1_divideText σ a0 a1 a2 = some σ') : gMv l celC Γ ad N yX1_divideText cX1_divideText 4 none (gR 4 0 0) [.ref (ad 20), .ref (ad a0), .int a1, .int a2] σ σ' := by
  intro sz
  refine gOf (Qc := fun sz => gQcv celC Γ ad N σ' sz) RX1 (by decide) rfl (Nat.le_of_ble_eq_true rfl) (fun p e s m args below meth c H locs ls X S hl => ?_)
  have hl : lv_has ls 4 [(0, .ref (ad 20)), (1, .ref (ad a0)), (2, .int a1), (3, .int a2)] := hl
  have hx := X.1
  have hb := X.2.1
  unfold f_X1_divideText at hf
  refine lv_aload_n hx hb dX1_divideText_0 rfl (lv_at hl 0 rfl) ?_
  refine gfX1_22 X S hN kd_s20 dX1_divideText_1 ?_
  obtain ⟨σ1, hσ1, hf⟩ := g_s1 hf
  refine g_kv S (g_runV (rest := []) X S (c_X7_clear l hN kd_s21 hσ1 _) cvX7_clear mlX1_41 (kd_N kd_s21 (by decide) hN) (ceC_7 kd_s21 _) rfl rfl rfl hl.1 (Nat.le_of_ble_eq_true rfl) ⟨⟨rfl, rfl⟩, ⟨Nat.le_of_ble_eq_true rfl, Nat.le_of_ble_eq_true rfl⟩, Nat.le_of_ble_eq_true rfl, Nat.le_of_ble_eq_true rfl⟩ dX1_divideText_4) (fun H locs S => ?_)
  refine lv_aload_n hx hb dX1_divideText_7 rfl (lv_at hl 1 rfl) ?_
  refine lv_aload_n hx hb dX1_divideText_8 rfl (lv_at hl 0 rfl) ?_
  refine gfX1_22 X S hN kd_s20 dX1_divideText_9 ?_
  refine lv_iload_n hx hb dX1_divideText_12 rfl (lv_at hl 2 rfl) ?_
  refine lv_iconst (v := (0 : Int32)) hx hb dX1_divideText_13 (by decide) ?_
  refine lv_iload_n hx hb dX1_divideText_14 rfl (lv_at hl 3 rfl) ?_
  obtain ⟨σ2, hσ2, hf⟩ := g_s1 hf
  refine g_kv S (g_runV (rest := []) X S (c_X8_appendTextTo l hN ha0 kd_s21 hσ2 _) cvX8_appendTextTo mlX1_47 (kd_N ha0 (by decide) hN) (ceC_8 ha0 _) rfl rfl rfl hl.1 (Nat.le_of_ble_eq_true rfl) ⟨⟨rfl, rfl⟩, ⟨Nat.le_of_ble_eq_true rfl, Nat.le_of_ble_eq_true rfl⟩, Nat.le_of_ble_eq_true rfl, Nat.le_of_ble_eq_true rfl⟩ dX1_divideText_15) (fun H locs S => ?_)
  refine lv_aload_n hx hb dX1_divideText_18 rfl (lv_at hl 0 rfl) ?_
  refine gfX1_26 X S hN kd_s20 dX1_divideText_19 ?_
  obtain ⟨σ3, hσ3, hf⟩ := g_s1 hf
  refine g_kv S (g_runV (rest := []) X S (c_X7_clear l hN kd_s23 hσ3 _) cvX7_clear mlX1_41 (kd_N kd_s23 (by decide) hN) (ceC_7 kd_s23 _) rfl rfl rfl hl.1 (Nat.le_of_ble_eq_true rfl) ⟨⟨rfl, rfl⟩, ⟨Nat.le_of_ble_eq_true rfl, Nat.le_of_ble_eq_true rfl⟩, Nat.le_of_ble_eq_true rfl, Nat.le_of_ble_eq_true rfl⟩ dX1_divideText_22) (fun H locs S => ?_)
  refine lv_aload_n hx hb dX1_divideText_25 rfl (lv_at hl 1 rfl) ?_
  refine lv_aload_n hx hb dX1_divideText_26 rfl (lv_at hl 0 rfl) ?_
  refine gfX1_26 X S hN kd_s20 dX1_divideText_27 ?_
  refine lv_iload_n hx hb dX1_divideText_30 rfl (lv_at hl 2 rfl) ?_
  refine lv_iload_n hx hb dX1_divideText_31 rfl (lv_at hl 3 rfl) ?_
  refine lv_iconst (v := (1 : Int32)) hx hb dX1_divideText_32 (by decide) ?_
  refine lv_iadd hx hb dX1_divideText_33 ?_
  refine lv_aload_n hx hb dX1_divideText_34 rfl (lv_at hl 1 rfl) ?_
  refine lv_iload_n hx hb dX1_divideText_35 rfl (lv_at hl 2 rfl) ?_
  obtain ⟨v4, hv4, hf⟩ := g_s1 hf
  refine g_ki S (g_runV (rest := [.int (a2 + (1 : Int32)), .int a1, .ref (ad 23), .ref (ad a0)]) X S (c_X8_size l hN ha0 hv4 _) cvX8_size mlX1_44 (kd_N ha0 (by decide) hN) (ceC_8 ha0 _) rfl rfl rfl hl.1 (Nat.le_of_ble_eq_true rfl) ⟨⟨rfl, rfl⟩, ⟨Nat.le_of_ble_eq_true rfl, Nat.le_of_ble_eq_true rfl⟩, Nat.le_of_ble_eq_true rfl, Nat.le_of_ble_eq_true rfl⟩ dX1_divideText_36) (fun H locs S => ?_)
  obtain ⟨σ5, hσ5, hf⟩ := g_s1 hf
  refine g_kv S (g_runV (rest := []) X S (c_X8_appendTextTo l hN ha0 kd_s23 hσ5 _) cvX8_appendTextTo mlX1_47 (kd_N ha0 (by decide) hN) (ceC_8 ha0 _) rfl rfl rfl hl.1 (Nat.le_of_ble_eq_true rfl) ⟨⟨rfl, rfl⟩, ⟨Nat.le_of_ble_eq_true rfl, Nat.le_of_ble_eq_true rfl⟩, Nat.le_of_ble_eq_true rfl, Nat.le_of_ble_eq_true rfl⟩ dX1_divideText_39) (fun H locs S => ?_)
  cases hf
  exact g_retv X S dX1_divideText_42

noncomputable def f_X1_framesOfHead (σ : gSt) (a0 : Nat) (a1 : Int32) (a2 : Int32) : Option (Int32) :=
  (g_k1 (f_X8_loadBetween σ a0 a1 (0 : Int32) a2) fun v1 => (g_k1 (f_X8_size σ a0 a1) fun v2 => (g_k1 (f_X8_loadBetween σ a0 a1 (a2 + (1 : Int32)) v2) fun v3 => (g_k1 (if (v1 + v3) ≤ 0 then some (1 : Int32) else (g_k1 (f_X8_frames σ a0 a1) fun v8 => (g_k1 (gdiv (v8 * v1) (v1 + v3)) fun _ => some (if (1 : Int32) < ((v8 * v1) / (v1 + v3)) then ((v8 * v1) / (v1 + v3)) else (1 : Int32))))) fun x4 => some x4))))
set_option maxRecDepth 100000 in
set_option maxHeartbeats 4000000 in
theorem c_X1_framesOfHead (l : Launch) {Γ : gG} {ad : Nat → Nat} {N : Nat} (hN : 202 ≤ N) {σ : gSt} {a0 : Nat} {a1 : Int32} {a2 : Int32} (ha0 : gkd a0 = 8) {r : Int32} (hf : f_X1_framesOfHead σ a0 a1 a2 = some r) : gMi l celC Γ ad N yX1_framesOfHead cX1_framesOfHead 6 (some .int) (gR 4 0 0) [.ref (ad 20), .ref (ad a0), .int a1, .int a2] σ r σ := by
  intro sz
  refine gOf (Qc := fun sz => gQci celC Γ ad N r σ sz) RX1 (by decide) rfl (Nat.le_of_ble_eq_true rfl) (fun p e s m args below meth c H locs ls X S hl => ?_)
  have hl : lv_has ls 6 [(0, .ref (ad 20)), (1, .ref (ad a0)), (2, .int a1), (3, .int a2)] := hl
  have hx := X.1
  have hb := X.2.1
  unfold f_X1_framesOfHead at hf
  refine lv_aload_n hx hb dX1_framesOfHead_0 rfl (lv_at hl 1 rfl) ?_
  refine lv_iload_n hx hb dX1_framesOfHead_1 rfl (lv_at hl 2 rfl) ?_
  refine lv_iconst (v := (0 : Int32)) hx hb dX1_framesOfHead_2 (by decide) ?_
  refine lv_iload_n hx hb dX1_framesOfHead_3 rfl (lv_at hl 3 rfl) ?_
  obtain ⟨v1, hv1, hf⟩ := g_s1 hf
  refine g_ki S (g_runV (rest := []) X S (c_X8_loadBetween l hN ha0 hv1 _) cvX8_loadBetween mlX1_96 (kd_N ha0 (by decide) hN) (ceC_8 ha0 _) rfl rfl rfl hl.1 (Nat.le_of_ble_eq_true rfl) ⟨⟨rfl, rfl⟩, ⟨Nat.le_of_ble_eq_true rfl, Nat.le_of_ble_eq_true rfl⟩, Nat.le_of_ble_eq_true rfl, Nat.le_of_ble_eq_true rfl⟩ dX1_framesOfHead_4) (fun H locs S => ?_)
  refine lv_istore (lv' := [(4, .int v1), (0, .ref (ad 20)), (1, .ref (ad a0)), (2, .int a1), (3, .int a2)]) hx hb dX1_framesOfHead_7 hl (by decide) rfl (fun ls hl => ?_)
  refine lv_iload hx hb dX1_framesOfHead_9 (lv_at hl 0 rfl) ?_
  refine lv_aload_n hx hb dX1_framesOfHead_11 rfl (lv_at hl 2 rfl) ?_
  refine lv_iload_n hx hb dX1_framesOfHead_12 rfl (lv_at hl 3 rfl) ?_
  refine lv_iload_n hx hb dX1_framesOfHead_13 rfl (lv_at hl 4 rfl) ?_
  refine lv_iconst (v := (1 : Int32)) hx hb dX1_framesOfHead_14 (by decide) ?_
  refine lv_iadd hx hb dX1_framesOfHead_15 ?_
  refine lv_aload_n hx hb dX1_framesOfHead_16 rfl (lv_at hl 2 rfl) ?_
  refine lv_iload_n hx hb dX1_framesOfHead_17 rfl (lv_at hl 3 rfl) ?_
  obtain ⟨v2, hv2, hf⟩ := g_s1 hf
  refine g_ki S (g_runV (rest := [.int (a2 + (1 : Int32)), .int a1, .ref (ad a0), .int v1]) X S (c_X8_size l hN ha0 hv2 _) cvX8_size mlX1_44 (kd_N ha0 (by decide) hN) (ceC_8 ha0 _) rfl rfl rfl hl.1 (Nat.le_of_ble_eq_true rfl) ⟨⟨rfl, rfl⟩, ⟨Nat.le_of_ble_eq_true rfl, Nat.le_of_ble_eq_true rfl⟩, Nat.le_of_ble_eq_true rfl, Nat.le_of_ble_eq_true rfl⟩ dX1_framesOfHead_18) (fun H locs S => ?_)
  obtain ⟨v3, hv3, hf⟩ := g_s1 hf
  refine g_ki S (g_runV (rest := [.int v1]) X S (c_X8_loadBetween l hN ha0 hv3 _) cvX8_loadBetween mlX1_96 (kd_N ha0 (by decide) hN) (ceC_8 ha0 _) rfl rfl rfl hl.1 (Nat.le_of_ble_eq_true rfl) ⟨⟨rfl, rfl⟩, ⟨Nat.le_of_ble_eq_true rfl, Nat.le_of_ble_eq_true rfl⟩, Nat.le_of_ble_eq_true rfl, Nat.le_of_ble_eq_true rfl⟩ dX1_framesOfHead_21) (fun H locs S => ?_)
  refine lv_iadd hx hb dX1_framesOfHead_24 ?_
  refine lv_istore (lv' := [(5, .int (v1 + v3)), (4, .int v1), (0, .ref (ad 20)), (1, .ref (ad a0)), (2, .int a1), (3, .int a2)]) hx hb dX1_framesOfHead_25 hl (by decide) rfl (fun ls hl => ?_)
  refine lv_iload hx hb dX1_framesOfHead_27 (lv_at hl 0 rfl) ?_
  obtain ⟨x4, hr5, hf⟩ := g_s1 hf
  have J6 : ∀ (H : Heap) (locs : List Loc) (ls : Array Slot), gS celC Γ ad N σ s H locs → lv_has ls 6 [] → W p l e (gR 4 0 0) s m args below meth c H locs 0 0 (gQi celC Γ ad N r σ below args s) (F0 m 51 ls [.int x4]) := by
    intro H locs ls S hl
    cases hf
    exact g_reti X S rfl dX1_framesOfHead_51
  replace hf := hr5
  refine lv_if_le (tgt := 50) hx hb dX1_framesOfHead_29 (by decide) (fun c7 => ?_) (fun c7 => ?_)
  · have hf := (if_pos c7).symm.trans hf
    refine lv_iconst (v := (1 : Int32)) hx hb dX1_framesOfHead_50 (by decide) ?_
    cases hf
    exact J6 _ _ _ S (lv_sub hl [] rfl)
  · have hf := (if_neg c7).symm.trans hf
    refine lv_iconst (v := (1 : Int32)) hx hb dX1_framesOfHead_32 (by decide) ?_
    refine lv_aload_n hx hb dX1_framesOfHead_33 rfl (lv_at hl 3 rfl) ?_
    refine lv_iload_n hx hb dX1_framesOfHead_34 rfl (lv_at hl 4 rfl) ?_
    obtain ⟨v8, hv8, hf⟩ := g_s1 hf
    refine g_ki S (g_runV (rest := [.int (1 : Int32)]) X S (c_X8_frames l hN ha0 hv8 _) cvX8_frames mlX1_75 (kd_N ha0 (by decide) hN) (ceC_8 ha0 _) rfl rfl rfl hl.1 (Nat.le_of_ble_eq_true rfl) ⟨⟨rfl, rfl⟩, ⟨Nat.le_of_ble_eq_true rfl, Nat.le_of_ble_eq_true rfl⟩, Nat.le_of_ble_eq_true rfl, Nat.le_of_ble_eq_true rfl⟩ dX1_framesOfHead_35) (fun H locs S => ?_)
    refine lv_iload hx hb dX1_framesOfHead_38 (lv_at hl 1 rfl) ?_
    refine lv_imul hx hb dX1_framesOfHead_40 ?_
    refine lv_iload hx hb dX1_framesOfHead_41 (lv_at hl 0 rfl) ?_
    obtain ⟨v9, hv9, hf⟩ := g_s1 hf
    obtain ⟨hzv9, rfl⟩ := gdiv_some hv9
    refine lv_idiv hx hb dX1_framesOfHead_43 hzv9 ?_
    refine g_max X hl.1 mwX1_100 ⟨⟨by decide, Nat.le_of_ble_eq_true rfl⟩, Nat.le_of_ble_eq_true rfl, Nat.le_of_ble_eq_true rfl⟩ dX1_framesOfHead_44 ?_
    refine lv_goto (tgt := 51) hx hb dX1_framesOfHead_47 (by decide) ?_
    cases hf
    exact J6 _ _ _ S (lv_sub hl [] rfl)

noncomputable def f_X1_splitRefusal_b1 (a0 : Int32) (a1 : Int32) (a2 : Int32) (b4 : Nat) (σ5 : gSt) : Option (Int32 × gSt) :=
  (g_k1 (f_X1_divideText σ5 b4 a1 a2) fun σ6 => (g_k1 (f_X7_isValid σ6 21) fun v7 => (if v7 = 0 then some ((4 : Int32), σ6) else (g_k1 (f_X7_isValid σ6 23) fun v9 => (if v9 = 0 then some ((4 : Int32), σ6) else (g_k1 (f_X1_framesOfHead σ6 b4 a1 a2) fun v11 => (g_k1 (f_X8_frames σ6 b4 a1) fun v12 => (if v11 < v12 then (g_k1 (if (σ6 b4 5) < (16 : Int32) then some (0 : Int32) else some (8 : Int32)) fun x14 => some (x14, σ6)) else some ((2 : Int32), σ6)))))))))
set_option maxRecDepth 100000 in
set_option maxHeartbeats 4000000 in
theorem w_X1_splitRefusal_b1 {l : Launch} {Γ : gG} {ad : Nat → Nat} {N : Nat} {p : Program} {e : Env} {s : State} {m : MethodId} {args : Array Value} {below : List Frame} {meth : Method} {c : Code} (hN : 202 ≤ N) (X : gX celC Γ ad N RX1 cX1_splitRefusal 6 (some .int) p s m args meth c) {a0 : Int32} {a1 : Int32} {a2 : Int32} {b4 : Nat} {σ5 : gSt} (hkb4 : gkd b4 = 8) {r : Int32} {σ' : gSt} (hf : f_X1_splitRefusal_b1 a0 a1 a2 b4 σ5 = some (r, σ')) (H : Heap) (locs : List Loc) (ls : Array Slot) (S : gS celC Γ ad N σ5 s H locs) (hl : lv_has ls 6 [(4, .ref (ad b4)), (0, .ref (ad 20)), (2, .int a1), (3, .int a2)]) : W p l e (gR 5 0 0) s m args below meth c H locs 0 0 (gQi celC Γ ad N r σ' below args s) (F0 m 35 ls []) := by
  have hx := X.1
  have hb := X.2.1
  unfold f_X1_splitRefusal_b1 at hf
  refine lv_aload_n hx hb dX1_splitRefusal_35 rfl (lv_at hl 1 rfl) ?_
  refine lv_aload hx hb dX1_splitRefusal_36 (lv_at hl 0 rfl) ?_
  refine lv_iload_n hx hb dX1_splitRefusal_38 rfl (lv_at hl 2 rfl) ?_
  refine lv_iload_n hx hb dX1_splitRefusal_39 rfl (lv_at hl 3 rfl) ?_
  obtain ⟨σ6, hσ6, hf⟩ := g_s1 hf
  refine g_kv S (g_runV (rest := []) X S (c_X1_divideText l hN hkb4 hσ6 _) cvX1_divideText mlX1_63 (kd_N kd_s20 (by decide) hN) (ceC_1 kd_s20 _) rfl rfl rfl hl.1 (Nat.le_of_ble_eq_true rfl) ⟨⟨rfl, rfl⟩, ⟨Nat.le_of_ble_eq_true rfl, Nat.le_of_ble_eq_true rfl⟩, Nat.le_of_ble_eq_true rfl, Nat.le_of_ble_eq_true rfl⟩ dX1_splitRefusal_40) (fun H locs S => ?_)
  refine lv_aload_n hx hb dX1_splitRefusal_43 rfl (lv_at hl 1 rfl) ?_
  refine gfX1_22 X S hN kd_s20 dX1_splitRefusal_44 ?_
  obtain ⟨v7, hv7, hf⟩ := g_s1 hf
  refine g_ki S (g_runV (rest := []) X S (c_X7_isValid l hN kd_s21 hv7 _) cvX7_isValid mlX1_67 (kd_N kd_s21 (by decide) hN) (ceC_7 kd_s21 _) rfl rfl rfl hl.1 (Nat.le_of_ble_eq_true rfl) ⟨⟨rfl, rfl⟩, ⟨Nat.le_of_ble_eq_true rfl, Nat.le_of_ble_eq_true rfl⟩, Nat.le_of_ble_eq_true rfl, Nat.le_of_ble_eq_true rfl⟩ dX1_splitRefusal_47) (fun H locs S => ?_)
  refine lv_if_eq (tgt := 63) hx hb dX1_splitRefusal_50 (by decide) (fun c8 => ?_) (fun c8 => ?_)
  · have hf := (if_pos c8).symm.trans hf
    refine lv_iconst (v := (4 : Int32)) hx hb dX1_splitRefusal_63 (by decide) ?_
    cases hf
    exact g_reti X S rfl dX1_splitRefusal_64
  · have hf := (if_neg c8).symm.trans hf
    refine lv_aload_n hx hb dX1_splitRefusal_53 rfl (lv_at hl 1 rfl) ?_
    refine gfX1_26 X S hN kd_s20 dX1_splitRefusal_54 ?_
    obtain ⟨v9, hv9, hf⟩ := g_s1 hf
    refine g_ki S (g_runV (rest := []) X S (c_X7_isValid l hN kd_s23 hv9 _) cvX7_isValid mlX1_67 (kd_N kd_s23 (by decide) hN) (ceC_7 kd_s23 _) rfl rfl rfl hl.1 (Nat.le_of_ble_eq_true rfl) ⟨⟨rfl, rfl⟩, ⟨Nat.le_of_ble_eq_true rfl, Nat.le_of_ble_eq_true rfl⟩, Nat.le_of_ble_eq_true rfl, Nat.le_of_ble_eq_true rfl⟩ dX1_splitRefusal_57) (fun H locs S => ?_)
    refine lv_if_ne (tgt := 65) hx hb dX1_splitRefusal_60 (by decide) (fun c10 => ?_) (fun c10 => ?_)
    · have hf := (if_neg c10).symm.trans hf
      refine lv_aload_n hx hb dX1_splitRefusal_65 rfl (lv_at hl 1 rfl) ?_
      refine lv_aload hx hb dX1_splitRefusal_66 (lv_at hl 0 rfl) ?_
      refine lv_iload_n hx hb dX1_splitRefusal_68 rfl (lv_at hl 2 rfl) ?_
      refine lv_iload_n hx hb dX1_splitRefusal_69 rfl (lv_at hl 3 rfl) ?_
      obtain ⟨v11, hv11, hf⟩ := g_s1 hf
      refine g_ki S (g_runV (rest := []) X S (c_X1_framesOfHead l hN hkb4 hv11 _) cvX1_framesOfHead mlX1_71 (kd_N kd_s20 (by decide) hN) (ceC_1 kd_s20 _) rfl rfl rfl hl.1 (Nat.le_of_ble_eq_true rfl) ⟨⟨rfl, rfl⟩, ⟨Nat.le_of_ble_eq_true rfl, Nat.le_of_ble_eq_true rfl⟩, Nat.le_of_ble_eq_true rfl, Nat.le_of_ble_eq_true rfl⟩ dX1_splitRefusal_70) (fun H locs S => ?_)
      refine lv_aload hx hb dX1_splitRefusal_73 (lv_at hl 0 rfl) ?_
      refine lv_iload_n hx hb dX1_splitRefusal_75 rfl (lv_at hl 2 rfl) ?_
      obtain ⟨v12, hv12, hf⟩ := g_s1 hf
      refine g_ki S (g_runV (rest := [.int v11]) X S (c_X8_frames l hN hkb4 hv12 _) cvX8_frames mlX1_75 (kd_N hkb4 (by decide) hN) (ceC_8 hkb4 _) rfl rfl rfl hl.1 (Nat.le_of_ble_eq_true rfl) ⟨⟨rfl, rfl⟩, ⟨Nat.le_of_ble_eq_true rfl, Nat.le_of_ble_eq_true rfl⟩, Nat.le_of_ble_eq_true rfl, Nat.le_of_ble_eq_true rfl⟩ dX1_splitRefusal_76) (fun H locs S => ?_)
      refine lv_icmp_lt (tgt := 84) hx hb dX1_splitRefusal_79 (by decide) (fun c13 => ?_) (fun c13 => ?_)
      · have hf := (if_pos c13).symm.trans hf
        refine lv_aload hx hb dX1_splitRefusal_84 (lv_at hl 0 rfl) ?_
        refine gfX1_78 X S hN hkb4 dX1_splitRefusal_86 ?_
        refine lv_bipush (v := (16 : Int32)) hx hb dX1_splitRefusal_89 (by decide) ?_
        obtain ⟨x14, hr15, hf⟩ := g_s1 hf
        have J16 : ∀ (H : Heap) (locs : List Loc) (ls : Array Slot), gS celC Γ ad N σ6 s H locs → lv_has ls 6 [] → W p l e (gR 5 0 0) s m args below meth c H locs 0 0 (gQi celC Γ ad N r σ' below args s) (F0 m 100 ls [.int x14]) := by
          intro H locs ls S hl
          cases hf
          exact g_reti X S rfl dX1_splitRefusal_100
        replace hf := hr15
        refine lv_icmp_lt (tgt := 99) hx hb dX1_splitRefusal_91 (by decide) (fun c17 => ?_) (fun c17 => ?_)
        · have hf := (if_pos c17).symm.trans hf
          refine lv_iconst (v := (0 : Int32)) hx hb dX1_splitRefusal_99 (by decide) ?_
          cases hf
          exact J16 _ _ _ S (lv_sub hl [] rfl)
        · have hf := (if_neg c17).symm.trans hf
          refine lv_bipush (v := (8 : Int32)) hx hb dX1_splitRefusal_94 (by decide) ?_
          refine lv_goto (tgt := 100) hx hb dX1_splitRefusal_96 (by decide) ?_
          cases hf
          exact J16 _ _ _ S (lv_sub hl [] rfl)
      · have hf := (if_neg c13).symm.trans hf
        refine lv_iconst (v := (2 : Int32)) hx hb dX1_splitRefusal_82 (by decide) ?_
        cases hf
        exact g_reti X S rfl dX1_splitRefusal_83
    · have hf := (if_pos c10).symm.trans hf
      refine lv_iconst (v := (4 : Int32)) hx hb dX1_splitRefusal_63 (by decide) ?_
      cases hf
      exact g_reti X S rfl dX1_splitRefusal_64
noncomputable def f_X1_splitRefusal (σ : gSt) (a0 : Int32) (a1 : Int32) (a2 : Int32) : Option (Int32 × gSt) :=
  (g_k1 (f_X3_trackOf σ 1 a0) fun v1 => (g_k1 (f_X8_signAt σ v1 a1 a2) fun v2 => (if v2 = (95 : Int32) then (f_X1_splitRefusal_b1 a0 a1 a2 v1 σ) else (if v2 = (124 : Int32) then (f_X1_splitRefusal_b1 a0 a1 a2 v1 σ) else some ((4 : Int32), σ)))))
set_option maxRecDepth 100000 in
set_option maxHeartbeats 4000000 in
theorem c_X1_splitRefusal (l : Launch) {Γ : gG} {ad : Nat → Nat} {N : Nat} (hN : 202 ≤ N) {σ : gSt} {a0 : Int32} {a1 : Int32} {a2 : Int32}  {r : Int32} {σ' : gSt} (hf : f_X1_splitRefusal σ a0 a1 a2 = some (r, σ')) : gMi l celC Γ ad N yX1_splitRefusal cX1_splitRefusal 6 (some .int) (gR 5 0 0) [.ref (ad 20), .int a0, .int a1, .int a2] σ r σ' := by
  intro sz
  refine gOf (Qc := fun sz => gQci celC Γ ad N r σ' sz) RX1 (by decide) rfl (Nat.le_of_ble_eq_true rfl) (fun p e s m args below meth c H locs ls X S hl => ?_)
  have hl : lv_has ls 6 [(0, .ref (ad 20)), (1, .int a0), (2, .int a1), (3, .int a2)] := hl
  have hx := X.1
  have hb := X.2.1
  unfold f_X1_splitRefusal at hf
  refine lv_aload_n hx hb dX1_splitRefusal_0 rfl (lv_at hl 0 rfl) ?_
  refine gfX1_9 X S hN kd_s20 dX1_splitRefusal_1 ?_
  refine lv_iload_n hx hb dX1_splitRefusal_4 rfl (lv_at hl 1 rfl) ?_
  obtain ⟨v1, hv1, hf⟩ := g_s1 hf
  refine g_kr S (g_runV (rest := []) X S (c_X3_trackOf l hN kd_s1 hv1 _) cvX3_trackOf mlX1_29 (kd_N kd_s1 (by decide) hN) (ceC_3 kd_s1 _) rfl rfl rfl hl.1 (Nat.le_of_ble_eq_true rfl) ⟨⟨rfl, rfl⟩, ⟨Nat.le_of_ble_eq_true rfl, Nat.le_of_ble_eq_true rfl⟩, Nat.le_of_ble_eq_true rfl, Nat.le_of_ble_eq_true rfl⟩ dX1_splitRefusal_5) (fun H locs S => ?_)
  have hkv1 : gkd v1 = 8 := kr_X3_trackOf kd_s1 hv1
  refine lv_astore (lv' := [(4, .ref (ad v1)), (0, .ref (ad 20)), (1, .int a0), (2, .int a1), (3, .int a2)]) hx hb dX1_splitRefusal_8 hl (by decide) rfl (fun ls hl => ?_)
  refine lv_aload hx hb dX1_splitRefusal_10 (lv_at hl 0 rfl) ?_
  refine lv_iload_n hx hb dX1_splitRefusal_12 rfl (lv_at hl 3 rfl) ?_
  refine lv_iload_n hx hb dX1_splitRefusal_13 rfl (lv_at hl 4 rfl) ?_
  obtain ⟨v2, hv2, hf⟩ := g_s1 hf
  refine g_ki S (g_runV (rest := []) X S (c_X8_signAt l hN hkv1 hv2 _) cvX8_signAt mlX1_59 (kd_N hkv1 (by decide) hN) (ceC_8 hkv1 _) rfl rfl rfl hl.1 (Nat.le_of_ble_eq_true rfl) ⟨⟨rfl, rfl⟩, ⟨Nat.le_of_ble_eq_true rfl, Nat.le_of_ble_eq_true rfl⟩, Nat.le_of_ble_eq_true rfl, Nat.le_of_ble_eq_true rfl⟩ dX1_splitRefusal_14) (fun H locs S => ?_)
  refine lv_istore (lv' := [(5, .int v2), (4, .ref (ad v1)), (0, .ref (ad 20)), (1, .int a0), (2, .int a1), (3, .int a2)]) hx hb dX1_splitRefusal_17 hl (by decide) rfl (fun ls hl => ?_)
  refine lv_iload hx hb dX1_splitRefusal_19 (lv_at hl 0 rfl) ?_
  refine lv_bipush (v := (95 : Int32)) hx hb dX1_splitRefusal_21 (by decide) ?_
  refine lv_icmp_eq (tgt := 35) hx hb dX1_splitRefusal_23 (by decide) (fun c3 => ?_) (fun c3 => ?_)
  · have hf := (if_pos c3).symm.trans hf
    exact w_X1_splitRefusal_b1 hN X (by assumption) hf _ _ _ S (lv_sub hl [1, 2, 4, 5] rfl)
  · have hf := (if_neg c3).symm.trans hf
    refine lv_iload hx hb dX1_splitRefusal_26 (lv_at hl 0 rfl) ?_
    refine lv_bipush (v := (124 : Int32)) hx hb dX1_splitRefusal_28 (by decide) ?_
    refine lv_icmp_eq (tgt := 35) hx hb dX1_splitRefusal_30 (by decide) (fun c18 => ?_) (fun c18 => ?_)
    · have hf := (if_pos c18).symm.trans hf
      exact w_X1_splitRefusal_b1 hN X (by assumption) hf _ _ _ S (lv_sub hl [1, 2, 4, 5] rfl)
    · have hf := (if_neg c18).symm.trans hf
      refine lv_iconst (v := (4 : Int32)) hx hb dX1_splitRefusal_33 (by decide) ?_
      cases hf
      exact g_reti X S rfl dX1_splitRefusal_34

noncomputable def f_X1_splitCaption (σ : gSt) (a0 : Int32) (a1 : Int32) (a2 : Int32) : Option (Int32 × gSt) :=
  (g_k1 (f_X3_trackOf σ 1 a0) fun v1 => (g_k1 (f_X1_framesOfHead σ v1 a1 a2) fun v2 => (g_k1 (f_X8_first σ v1 a1) fun v3 => (g_k1 (f_X8_end σ v1 a1) fun v4 => (g_k1 (f_X1_divideText σ v1 a1 a2) fun σ5 => (g_k1 (f_X8_first σ5 v1 a1) fun v6 => (g_k1 (f_X8_setFrames σ5 v1 a1 v6 (v3 + v2)) fun σ7 => (g_k1 (f_X8_setText σ7 v1 a1 21) fun σ8 => (g_k1 (f_X8_kind σ8 v1 a1) fun v9 => (g_k2 (f_X8_insertCaption σ8 v1 v9 (v3 + v2) v4 23) fun v10 σ11 => some (v2, σ11)))))))))))
set_option maxRecDepth 100000 in
set_option maxHeartbeats 4000000 in
theorem c_X1_splitCaption (l : Launch) {Γ : gG} {ad : Nat → Nat} {N : Nat} (hN : 202 ≤ N) {σ : gSt} {a0 : Int32} {a1 : Int32} {a2 : Int32}  {r : Int32} {σ' : gSt} (hf : f_X1_splitCaption σ a0 a1 a2 = some (r, σ')) : gMi l celC Γ ad N yX1_splitCaption cX1_splitCaption 8 (some .int) (gR 5 0 0) [.ref (ad 20), .int a0, .int a1, .int a2] σ r σ' := by
  intro sz
  refine gOf (Qc := fun sz => gQci celC Γ ad N r σ' sz) RX1 (by decide) rfl (Nat.le_of_ble_eq_true rfl) (fun p e s m args below meth c H locs ls X S hl => ?_)
  have hl : lv_has ls 8 [(0, .ref (ad 20)), (1, .int a0), (2, .int a1), (3, .int a2)] := hl
  have hx := X.1
  have hb := X.2.1
  unfold f_X1_splitCaption at hf
  refine lv_aload_n hx hb dX1_splitCaption_0 rfl (lv_at hl 0 rfl) ?_
  refine gfX1_9 X S hN kd_s20 dX1_splitCaption_1 ?_
  refine lv_iload_n hx hb dX1_splitCaption_4 rfl (lv_at hl 1 rfl) ?_
  obtain ⟨v1, hv1, hf⟩ := g_s1 hf
  refine g_kr S (g_runV (rest := []) X S (c_X3_trackOf l hN kd_s1 hv1 _) cvX3_trackOf mlX1_29 (kd_N kd_s1 (by decide) hN) (ceC_3 kd_s1 _) rfl rfl rfl hl.1 (Nat.le_of_ble_eq_true rfl) ⟨⟨rfl, rfl⟩, ⟨Nat.le_of_ble_eq_true rfl, Nat.le_of_ble_eq_true rfl⟩, Nat.le_of_ble_eq_true rfl, Nat.le_of_ble_eq_true rfl⟩ dX1_splitCaption_5) (fun H locs S => ?_)
  have hkv1 : gkd v1 = 8 := kr_X3_trackOf kd_s1 hv1
  refine lv_astore (lv' := [(4, .ref (ad v1)), (0, .ref (ad 20)), (1, .int a0), (2, .int a1), (3, .int a2)]) hx hb dX1_splitCaption_8 hl (by decide) rfl (fun ls hl => ?_)
  refine lv_aload_n hx hb dX1_splitCaption_10 rfl (lv_at hl 1 rfl) ?_
  refine lv_aload hx hb dX1_splitCaption_11 (lv_at hl 0 rfl) ?_
  refine lv_iload_n hx hb dX1_splitCaption_13 rfl (lv_at hl 3 rfl) ?_
  refine lv_iload_n hx hb dX1_splitCaption_14 rfl (lv_at hl 4 rfl) ?_
  obtain ⟨v2, hv2, hf⟩ := g_s1 hf
  refine g_ki S (g_runV (rest := []) X S (c_X1_framesOfHead l hN hkv1 hv2 _) cvX1_framesOfHead mlX1_71 (kd_N kd_s20 (by decide) hN) (ceC_1 kd_s20 _) rfl rfl rfl hl.1 (Nat.le_of_ble_eq_true rfl) ⟨⟨rfl, rfl⟩, ⟨Nat.le_of_ble_eq_true rfl, Nat.le_of_ble_eq_true rfl⟩, Nat.le_of_ble_eq_true rfl, Nat.le_of_ble_eq_true rfl⟩ dX1_splitCaption_15) (fun H locs S => ?_)
  refine lv_istore (lv' := [(5, .int v2), (4, .ref (ad v1)), (0, .ref (ad 20)), (1, .int a0), (2, .int a1), (3, .int a2)]) hx hb dX1_splitCaption_18 hl (by decide) rfl (fun ls hl => ?_)
  refine lv_aload hx hb dX1_splitCaption_20 (lv_at hl 1 rfl) ?_
  refine lv_iload_n hx hb dX1_splitCaption_22 rfl (lv_at hl 4 rfl) ?_
  obtain ⟨v3, hv3, hf⟩ := g_s1 hf
  refine g_ki S (g_runV (rest := []) X S (c_X8_first l hN hkv1 hv3 _) cvX8_first mlX1_82 (kd_N hkv1 (by decide) hN) (ceC_8 hkv1 _) rfl rfl rfl hl.1 (Nat.le_of_ble_eq_true rfl) ⟨⟨rfl, rfl⟩, ⟨Nat.le_of_ble_eq_true rfl, Nat.le_of_ble_eq_true rfl⟩, Nat.le_of_ble_eq_true rfl, Nat.le_of_ble_eq_true rfl⟩ dX1_splitCaption_23) (fun H locs S => ?_)
  refine lv_iload hx hb dX1_splitCaption_26 (lv_at hl 0 rfl) ?_
  refine lv_iadd hx hb dX1_splitCaption_28 ?_
  refine lv_istore (lv' := [(6, .int (v3 + v2)), (5, .int v2), (4, .ref (ad v1)), (0, .ref (ad 20)), (1, .int a0), (2, .int a1), (3, .int a2)]) hx hb dX1_splitCaption_29 hl (by decide) rfl (fun ls hl => ?_)
  refine lv_aload hx hb dX1_splitCaption_31 (lv_at hl 2 rfl) ?_
  refine lv_iload_n hx hb dX1_splitCaption_33 rfl (lv_at hl 5 rfl) ?_
  obtain ⟨v4, hv4, hf⟩ := g_s1 hf
  refine g_ki S (g_runV (rest := []) X S (c_X8_end l hN hkv1 hv4 _) cvX8_end mlX1_85 (kd_N hkv1 (by decide) hN) (ceC_8 hkv1 _) rfl rfl rfl hl.1 (Nat.le_of_ble_eq_true rfl) ⟨⟨rfl, rfl⟩, ⟨Nat.le_of_ble_eq_true rfl, Nat.le_of_ble_eq_true rfl⟩, Nat.le_of_ble_eq_true rfl, Nat.le_of_ble_eq_true rfl⟩ dX1_splitCaption_34) (fun H locs S => ?_)
  refine lv_istore (lv' := [(7, .int v4), (6, .int (v3 + v2)), (5, .int v2), (4, .ref (ad v1)), (0, .ref (ad 20)), (1, .int a0), (2, .int a1), (3, .int a2)]) hx hb dX1_splitCaption_37 hl (by decide) rfl (fun ls hl => ?_)
  refine lv_aload_n hx hb dX1_splitCaption_39 rfl (lv_at hl 4 rfl) ?_
  refine lv_aload hx hb dX1_splitCaption_40 (lv_at hl 3 rfl) ?_
  refine lv_iload_n hx hb dX1_splitCaption_42 rfl (lv_at hl 6 rfl) ?_
  refine lv_iload_n hx hb dX1_splitCaption_43 rfl (lv_at hl 7 rfl) ?_
  obtain ⟨σ5, hσ5, hf⟩ := g_s1 hf
  refine g_kv S (g_runV (rest := []) X S (c_X1_divideText l hN hkv1 hσ5 _) cvX1_divideText mlX1_63 (kd_N kd_s20 (by decide) hN) (ceC_1 kd_s20 _) rfl rfl rfl hl.1 (Nat.le_of_ble_eq_true rfl) ⟨⟨rfl, rfl⟩, ⟨Nat.le_of_ble_eq_true rfl, Nat.le_of_ble_eq_true rfl⟩, Nat.le_of_ble_eq_true rfl, Nat.le_of_ble_eq_true rfl⟩ dX1_splitCaption_44) (fun H locs S => ?_)
  refine lv_aload hx hb dX1_splitCaption_47 (lv_at hl 3 rfl) ?_
  refine lv_iload_n hx hb dX1_splitCaption_49 rfl (lv_at hl 6 rfl) ?_
  refine lv_aload hx hb dX1_splitCaption_50 (lv_at hl 3 rfl) ?_
  refine lv_iload_n hx hb dX1_splitCaption_52 rfl (lv_at hl 6 rfl) ?_
  obtain ⟨v6, hv6, hf⟩ := g_s1 hf
  refine g_ki S (g_runV (rest := [.int a1, .ref (ad v1)]) X S (c_X8_first l hN hkv1 hv6 _) cvX8_first mlX1_82 (kd_N hkv1 (by decide) hN) (ceC_8 hkv1 _) rfl rfl rfl hl.1 (Nat.le_of_ble_eq_true rfl) ⟨⟨rfl, rfl⟩, ⟨Nat.le_of_ble_eq_true rfl, Nat.le_of_ble_eq_true rfl⟩, Nat.le_of_ble_eq_true rfl, Nat.le_of_ble_eq_true rfl⟩ dX1_splitCaption_53) (fun H locs S => ?_)
  refine lv_iload hx hb dX1_splitCaption_56 (lv_at hl 1 rfl) ?_
  obtain ⟨σ7, hσ7, hf⟩ := g_s1 hf
  refine g_kv S (g_runV (rest := []) X S (c_X8_setFrames l hN hkv1 hσ7 _) cvX8_setFrames mlX1_88 (kd_N hkv1 (by decide) hN) (ceC_8 hkv1 _) rfl rfl rfl hl.1 (Nat.le_of_ble_eq_true rfl) ⟨⟨rfl, rfl⟩, ⟨Nat.le_of_ble_eq_true rfl, Nat.le_of_ble_eq_true rfl⟩, Nat.le_of_ble_eq_true rfl, Nat.le_of_ble_eq_true rfl⟩ dX1_splitCaption_58) (fun H locs S => ?_)
  refine lv_aload hx hb dX1_splitCaption_61 (lv_at hl 3 rfl) ?_
  refine lv_iload_n hx hb dX1_splitCaption_63 rfl (lv_at hl 6 rfl) ?_
  refine lv_aload_n hx hb dX1_splitCaption_64 rfl (lv_at hl 4 rfl) ?_
  refine gfX1_22 X S hN kd_s20 dX1_splitCaption_65 ?_
  obtain ⟨σ8, hσ8, hf⟩ := g_s1 hf
  refine g_kv S (g_runV (rest := []) X S (c_X8_setText l hN hkv1 kd_s21 hσ8 _) cvX8_setText mlX1_92 (kd_N hkv1 (by decide) hN) (ceC_8 hkv1 _) rfl rfl rfl hl.1 (Nat.le_of_ble_eq_true rfl) ⟨⟨rfl, rfl⟩, ⟨Nat.le_of_ble_eq_true rfl, Nat.le_of_ble_eq_true rfl⟩, Nat.le_of_ble_eq_true rfl, Nat.le_of_ble_eq_true rfl⟩ dX1_splitCaption_68) (fun H locs S => ?_)
  refine lv_aload hx hb dX1_splitCaption_71 (lv_at hl 3 rfl) ?_
  refine lv_aload hx hb dX1_splitCaption_73 (lv_at hl 3 rfl) ?_
  refine lv_iload_n hx hb dX1_splitCaption_75 rfl (lv_at hl 6 rfl) ?_
  obtain ⟨v9, hv9, hf⟩ := g_s1 hf
  refine g_ki S (g_runV (rest := [.ref (ad v1)]) X S (c_X8_kind l hN hkv1 hv9 _) cvX8_kind mlX1_35 (kd_N hkv1 (by decide) hN) (ceC_8 hkv1 _) rfl rfl rfl hl.1 (Nat.le_of_ble_eq_true rfl) ⟨⟨rfl, rfl⟩, ⟨Nat.le_of_ble_eq_true rfl, Nat.le_of_ble_eq_true rfl⟩, Nat.le_of_ble_eq_true rfl, Nat.le_of_ble_eq_true rfl⟩ dX1_splitCaption_76) (fun H locs S => ?_)
  refine lv_iload hx hb dX1_splitCaption_79 (lv_at hl 1 rfl) ?_
  refine lv_iload hx hb dX1_splitCaption_81 (lv_at hl 0 rfl) ?_
  refine lv_aload_n hx hb dX1_splitCaption_83 rfl (lv_at hl 4 rfl) ?_
  refine gfX1_26 X S hN kd_s20 dX1_splitCaption_84 ?_
  obtain ⟨v10, σ11, hv10, hf⟩ := g_s2 hf
  refine g_ki S (g_runV (rest := []) X S (c_X8_insertCaption l hN hkv1 kd_s23 hv10 _) cvX8_insertCaption mlX1_55 (kd_N hkv1 (by decide) hN) (ceC_8 hkv1 _) rfl rfl rfl hl.1 (Nat.le_of_ble_eq_true rfl) ⟨⟨rfl, rfl⟩, ⟨Nat.le_of_ble_eq_true rfl, Nat.le_of_ble_eq_true rfl⟩, Nat.le_of_ble_eq_true rfl, Nat.le_of_ble_eq_true rfl⟩ dX1_splitCaption_87) (fun H locs S => ?_)
  refine lv_pop hx hb dX1_splitCaption_90 rfl ?_
  refine lv_iload hx hb dX1_splitCaption_91 (lv_at hl 2 rfl) ?_
  cases hf
  exact g_reti X S rfl dX1_splitCaption_93

noncomputable def f_X1_mergeCaption (σ : gSt) (a0 : Int32) (a1 : Int32) : Option (Int32 × gSt) :=
  (g_k1 (f_X3_trackOf σ 1 a0) fun v1 => (g_k2 (f_X2_joinWithNext σ a0 a1) fun v2 σ3 => (g_k1 (f_X8_first σ3 v1 a1) fun v4 => (g_k1 (f_X8_end σ3 v1 (a1 + (1 : Int32))) fun v5 => (g_k1 (f_X8_setFrames σ3 v1 a1 v4 v5) fun σ6 => (g_k1 (f_X8_setText σ6 v1 a1 v2) fun σ7 => (g_k1 (f_X8_closeRow σ7 v1 (a1 + (1 : Int32))) fun σ8 => (g_k1 (f_X8_load σ8 v1 a1) fun v9 => some (v9, σ8)))))))))
set_option maxRecDepth 100000 in
set_option maxHeartbeats 4000000 in
theorem c_X1_mergeCaption (l : Launch) {Γ : gG} {ad : Nat → Nat} {N : Nat} (hN : 202 ≤ N) {σ : gSt} {a0 : Int32} {a1 : Int32}  {r : Int32} {σ' : gSt} (hf : f_X1_mergeCaption σ a0 a1 = some (r, σ')) : gMi l celC Γ ad N yX1_mergeCaption cX1_mergeCaption 5 (some .int) (gR 5 0 0) [.ref (ad 20), .int a0, .int a1] σ r σ' := by
  intro sz
  refine gOf (Qc := fun sz => gQci celC Γ ad N r σ' sz) RX1 (by decide) rfl (Nat.le_of_ble_eq_true rfl) (fun p e s m args below meth c H locs ls X S hl => ?_)
  have hl : lv_has ls 5 [(0, .ref (ad 20)), (1, .int a0), (2, .int a1)] := hl
  have hx := X.1
  have hb := X.2.1
  unfold f_X1_mergeCaption at hf
  refine lv_aload_n hx hb dX1_mergeCaption_0 rfl (lv_at hl 0 rfl) ?_
  refine gfX1_9 X S hN kd_s20 dX1_mergeCaption_1 ?_
  refine lv_iload_n hx hb dX1_mergeCaption_4 rfl (lv_at hl 1 rfl) ?_
  obtain ⟨v1, hv1, hf⟩ := g_s1 hf
  refine g_kr S (g_runV (rest := []) X S (c_X3_trackOf l hN kd_s1 hv1 _) cvX3_trackOf mlX1_29 (kd_N kd_s1 (by decide) hN) (ceC_3 kd_s1 _) rfl rfl rfl hl.1 (Nat.le_of_ble_eq_true rfl) ⟨⟨rfl, rfl⟩, ⟨Nat.le_of_ble_eq_true rfl, Nat.le_of_ble_eq_true rfl⟩, Nat.le_of_ble_eq_true rfl, Nat.le_of_ble_eq_true rfl⟩ dX1_mergeCaption_5) (fun H locs S => ?_)
  have hkv1 : gkd v1 = 8 := kr_X3_trackOf kd_s1 hv1
  refine lv_astore_n (lv' := [(3, .ref (ad v1)), (0, .ref (ad 20)), (1, .int a0), (2, .int a1)]) hx hb dX1_mergeCaption_8 rfl hl (by decide) rfl (fun ls hl => ?_)
  refine lv_aload_n hx hb dX1_mergeCaption_9 rfl (lv_at hl 1 rfl) ?_
  refine gfX1_15 X S hN kd_s20 dX1_mergeCaption_10 ?_
  refine lv_iload_n hx hb dX1_mergeCaption_13 rfl (lv_at hl 2 rfl) ?_
  refine lv_iload_n hx hb dX1_mergeCaption_14 rfl (lv_at hl 3 rfl) ?_
  obtain ⟨v2, σ3, hv2, hf⟩ := g_s2 hf
  refine g_kr S (g_runV (rest := []) X S (c_X2_joinWithNext l hN  hv2 _) cvX2_joinWithNext mlX1_105 (kd_N kd_s17 (by decide) hN) (ceC_2 kd_s17 _) rfl rfl rfl hl.1 (Nat.le_of_ble_eq_true rfl) ⟨⟨rfl, rfl⟩, ⟨Nat.le_of_ble_eq_true rfl, Nat.le_of_ble_eq_true rfl⟩, Nat.le_of_ble_eq_true rfl, Nat.le_of_ble_eq_true rfl⟩ dX1_mergeCaption_15) (fun H locs S => ?_)
  have hkv2 : gkd v2 = 7 := kr_X2_joinWithNext  hv2
  refine lv_astore (lv' := [(4, .ref (ad v2)), (3, .ref (ad v1)), (0, .ref (ad 20)), (1, .int a0), (2, .int a1)]) hx hb dX1_mergeCaption_18 hl (by decide) rfl (fun ls hl => ?_)
  refine lv_aload_n hx hb dX1_mergeCaption_20 rfl (lv_at hl 1 rfl) ?_
  refine lv_iload_n hx hb dX1_mergeCaption_21 rfl (lv_at hl 4 rfl) ?_
  refine lv_aload_n hx hb dX1_mergeCaption_22 rfl (lv_at hl 1 rfl) ?_
  refine lv_iload_n hx hb dX1_mergeCaption_23 rfl (lv_at hl 4 rfl) ?_
  obtain ⟨v4, hv4, hf⟩ := g_s1 hf
  refine g_ki S (g_runV (rest := [.int a1, .ref (ad v1)]) X S (c_X8_first l hN hkv1 hv4 _) cvX8_first mlX1_82 (kd_N hkv1 (by decide) hN) (ceC_8 hkv1 _) rfl rfl rfl hl.1 (Nat.le_of_ble_eq_true rfl) ⟨⟨rfl, rfl⟩, ⟨Nat.le_of_ble_eq_true rfl, Nat.le_of_ble_eq_true rfl⟩, Nat.le_of_ble_eq_true rfl, Nat.le_of_ble_eq_true rfl⟩ dX1_mergeCaption_24) (fun H locs S => ?_)
  refine lv_aload_n hx hb dX1_mergeCaption_27 rfl (lv_at hl 1 rfl) ?_
  refine lv_iload_n hx hb dX1_mergeCaption_28 rfl (lv_at hl 4 rfl) ?_
  refine lv_iconst (v := (1 : Int32)) hx hb dX1_mergeCaption_29 (by decide) ?_
  refine lv_iadd hx hb dX1_mergeCaption_30 ?_
  obtain ⟨v5, hv5, hf⟩ := g_s1 hf
  refine g_ki S (g_runV (rest := [.int v4, .int a1, .ref (ad v1)]) X S (c_X8_end l hN hkv1 hv5 _) cvX8_end mlX1_85 (kd_N hkv1 (by decide) hN) (ceC_8 hkv1 _) rfl rfl rfl hl.1 (Nat.le_of_ble_eq_true rfl) ⟨⟨rfl, rfl⟩, ⟨Nat.le_of_ble_eq_true rfl, Nat.le_of_ble_eq_true rfl⟩, Nat.le_of_ble_eq_true rfl, Nat.le_of_ble_eq_true rfl⟩ dX1_mergeCaption_31) (fun H locs S => ?_)
  obtain ⟨σ6, hσ6, hf⟩ := g_s1 hf
  refine g_kv S (g_runV (rest := []) X S (c_X8_setFrames l hN hkv1 hσ6 _) cvX8_setFrames mlX1_88 (kd_N hkv1 (by decide) hN) (ceC_8 hkv1 _) rfl rfl rfl hl.1 (Nat.le_of_ble_eq_true rfl) ⟨⟨rfl, rfl⟩, ⟨Nat.le_of_ble_eq_true rfl, Nat.le_of_ble_eq_true rfl⟩, Nat.le_of_ble_eq_true rfl, Nat.le_of_ble_eq_true rfl⟩ dX1_mergeCaption_34) (fun H locs S => ?_)
  refine lv_aload_n hx hb dX1_mergeCaption_37 rfl (lv_at hl 1 rfl) ?_
  refine lv_iload_n hx hb dX1_mergeCaption_38 rfl (lv_at hl 4 rfl) ?_
  refine lv_aload hx hb dX1_mergeCaption_39 (lv_at hl 0 rfl) ?_
  obtain ⟨σ7, hσ7, hf⟩ := g_s1 hf
  refine g_kv S (g_runV (rest := []) X S (c_X8_setText l hN hkv1 hkv2 hσ7 _) cvX8_setText mlX1_92 (kd_N hkv1 (by decide) hN) (ceC_8 hkv1 _) rfl rfl rfl hl.1 (Nat.le_of_ble_eq_true rfl) ⟨⟨rfl, rfl⟩, ⟨Nat.le_of_ble_eq_true rfl, Nat.le_of_ble_eq_true rfl⟩, Nat.le_of_ble_eq_true rfl, Nat.le_of_ble_eq_true rfl⟩ dX1_mergeCaption_41) (fun H locs S => ?_)
  refine lv_aload_n hx hb dX1_mergeCaption_44 rfl (lv_at hl 1 rfl) ?_
  refine lv_iload_n hx hb dX1_mergeCaption_45 rfl (lv_at hl 4 rfl) ?_
  refine lv_iconst (v := (1 : Int32)) hx hb dX1_mergeCaption_46 (by decide) ?_
  refine lv_iadd hx hb dX1_mergeCaption_47 ?_
  obtain ⟨σ8, hσ8, hf⟩ := g_s1 hf
  refine g_kv S (g_runV (rest := []) X S (c_X8_closeRow l hN hkv1 hσ8 _) cvX8_closeRow mlX1_51 (kd_N hkv1 (by decide) hN) (ceC_8 hkv1 _) rfl rfl rfl hl.1 (Nat.le_of_ble_eq_true rfl) ⟨⟨rfl, rfl⟩, ⟨Nat.le_of_ble_eq_true rfl, Nat.le_of_ble_eq_true rfl⟩, Nat.le_of_ble_eq_true rfl, Nat.le_of_ble_eq_true rfl⟩ dX1_mergeCaption_48) (fun H locs S => ?_)
  refine lv_aload_n hx hb dX1_mergeCaption_51 rfl (lv_at hl 1 rfl) ?_
  refine lv_iload_n hx hb dX1_mergeCaption_52 rfl (lv_at hl 4 rfl) ?_
  obtain ⟨v9, hv9, hf⟩ := g_s1 hf
  refine g_ki S (g_runV (rest := []) X S (c_X8_load l hN hkv1 hv9 _) cvX8_load mlX1_111 (kd_N hkv1 (by decide) hN) (ceC_8 hkv1 _) rfl rfl rfl hl.1 (Nat.le_of_ble_eq_true rfl) ⟨⟨rfl, rfl⟩, ⟨Nat.le_of_ble_eq_true rfl, Nat.le_of_ble_eq_true rfl⟩, Nat.le_of_ble_eq_true rfl, Nat.le_of_ble_eq_true rfl⟩ dX1_mergeCaption_53) (fun H locs S => ?_)
  cases hf
  exact g_reti X S rfl dX1_mergeCaption_56

noncomputable def f_X1_snapped (σ : gSt) (a0 : Int32) : Option (Int32) :=
  (g_k1 (f_X3_isLoose σ 1 a0) fun v1 => (g_k1 (if v1 = 0 then some a0 else (g_k1 (f_X0_nearest σ (1 + 2) a0) fun v6 => some v6)) fun x2 => some x2))
set_option maxRecDepth 100000 in
set_option maxHeartbeats 4000000 in
theorem c_X1_snapped (l : Launch) {Γ : gG} {ad : Nat → Nat} {N : Nat} (hN : 202 ≤ N) {σ : gSt} {a0 : Int32}  {r : Int32} (hf : f_X1_snapped σ a0 = some r) : gMi l celC Γ ad N yX1_snapped cX1_snapped 2 (some .int) (gR 5 0 0) [.ref (ad 20), .int a0] σ r σ := by
  intro sz
  refine gOf (Qc := fun sz => gQci celC Γ ad N r σ sz) RX1 (by decide) rfl (Nat.le_of_ble_eq_true rfl) (fun p e s m args below meth c H locs ls X S hl => ?_)
  have hl : lv_has ls 2 [(0, .ref (ad 20)), (1, .int a0)] := hl
  have hx := X.1
  have hb := X.2.1
  unfold f_X1_snapped at hf
  refine lv_aload_n hx hb dX1_snapped_0 rfl (lv_at hl 0 rfl) ?_
  refine gfX1_9 X S hN kd_s20 dX1_snapped_1 ?_
  refine lv_iload_n hx hb dX1_snapped_4 rfl (lv_at hl 1 rfl) ?_
  obtain ⟨v1, hv1, hf⟩ := g_s1 hf
  refine g_ki S (g_runV (rest := []) X S (c_X3_isLoose l hN kd_s1 hv1 _) cvX3_isLoose mlX1_114 (kd_N kd_s1 (by decide) hN) (ceC_3 kd_s1 _) rfl rfl rfl hl.1 (Nat.le_of_ble_eq_true rfl) ⟨⟨rfl, rfl⟩, ⟨Nat.le_of_ble_eq_true rfl, Nat.le_of_ble_eq_true rfl⟩, Nat.le_of_ble_eq_true rfl, Nat.le_of_ble_eq_true rfl⟩ dX1_snapped_5) (fun H locs S => ?_)
  obtain ⟨x2, hr3, hf⟩ := g_s1 hf
  have J4 : ∀ (H : Heap) (locs : List Loc) (ls : Array Slot), gS celC Γ ad N σ s H locs → lv_has ls 2 [] → W p l e (gR 5 0 0) s m args below meth c H locs 0 0 (gQi celC Γ ad N r σ below args s) (F0 m 26 ls [.int x2]) := by
    intro H locs ls S hl
    cases hf
    exact g_reti X S rfl dX1_snapped_26
  replace hf := hr3
  refine lv_if_eq (tgt := 25) hx hb dX1_snapped_8 (by decide) (fun c5 => ?_) (fun c5 => ?_)
  · have hf := (if_pos c5).symm.trans hf
    refine lv_iload_n hx hb dX1_snapped_25 rfl (lv_at hl 1 rfl) ?_
    cases hf
    exact J4 _ _ _ S (lv_sub hl [] rfl)
  · have hf := (if_neg c5).symm.trans hf
    refine lv_aload_n hx hb dX1_snapped_11 rfl (lv_at hl 0 rfl) ?_
    refine gfX1_9 X S hN kd_s20 dX1_snapped_12 ?_
    refine gfX1_118 X S hN kd_s1 dX1_snapped_15 ?_
    refine lv_iload_n hx hb dX1_snapped_18 rfl (lv_at hl 1 rfl) ?_
    obtain ⟨v6, hv6, hf⟩ := g_s1 hf
    refine g_ki S (g_runV (rest := []) X S (c_X0_nearest l hN (kd_3_2 kd_s1) hv6 _) cvX0_nearest mlX1_122 (kd_N (kd_3_2 kd_s1) (by decide) hN) (ceC_0 (kd_3_2 kd_s1) _) rfl rfl rfl hl.1 (Nat.le_of_ble_eq_true rfl) ⟨⟨rfl, rfl⟩, ⟨Nat.le_of_ble_eq_true rfl, Nat.le_of_ble_eq_true rfl⟩, Nat.le_of_ble_eq_true rfl, Nat.le_of_ble_eq_true rfl⟩ dX1_snapped_19) (fun H locs S => ?_)
    refine lv_goto (tgt := 26) hx hb dX1_snapped_22 (by decide) ?_
    cases hf
    exact J4 _ _ _ S (lv_sub hl [] rfl)

noncomputable def f_X1_snapRefusal (σ : gSt) (a0 : Int32) (a1 : Int32) : Option (Int32) :=
  (g_k1 (f_X3_trackOf σ 1 a0) fun v1 => (g_k1 (f_X8_first σ v1 a1) fun v2 => (g_k1 (f_X1_snapped σ v2) fun v3 => (g_k1 (f_X8_end σ v1 a1) fun v4 => (g_k1 (f_X1_snapped σ v4) fun v5 => (g_k1 (f_X3_placeRefusal σ 1 a0 a1 v3 v5) fun v6 => some v6))))))
set_option maxRecDepth 100000 in
set_option maxHeartbeats 4000000 in
theorem c_X1_snapRefusal (l : Launch) {Γ : gG} {ad : Nat → Nat} {N : Nat} (hN : 202 ≤ N) {σ : gSt} {a0 : Int32} {a1 : Int32}  {r : Int32} (hf : f_X1_snapRefusal σ a0 a1 = some r) : gMi l celC Γ ad N yX1_snapRefusal cX1_snapRefusal 4 (some .int) (gR 6 0 0) [.ref (ad 20), .int a0, .int a1] σ r σ := by
  intro sz
  refine gOf (Qc := fun sz => gQci celC Γ ad N r σ sz) RX1 (by decide) rfl (Nat.le_of_ble_eq_true rfl) (fun p e s m args below meth c H locs ls X S hl => ?_)
  have hl : lv_has ls 4 [(0, .ref (ad 20)), (1, .int a0), (2, .int a1)] := hl
  have hx := X.1
  have hb := X.2.1
  unfold f_X1_snapRefusal at hf
  refine lv_aload_n hx hb dX1_snapRefusal_0 rfl (lv_at hl 0 rfl) ?_
  refine gfX1_9 X S hN kd_s20 dX1_snapRefusal_1 ?_
  refine lv_iload_n hx hb dX1_snapRefusal_4 rfl (lv_at hl 1 rfl) ?_
  obtain ⟨v1, hv1, hf⟩ := g_s1 hf
  refine g_kr S (g_runV (rest := []) X S (c_X3_trackOf l hN kd_s1 hv1 _) cvX3_trackOf mlX1_29 (kd_N kd_s1 (by decide) hN) (ceC_3 kd_s1 _) rfl rfl rfl hl.1 (Nat.le_of_ble_eq_true rfl) ⟨⟨rfl, rfl⟩, ⟨Nat.le_of_ble_eq_true rfl, Nat.le_of_ble_eq_true rfl⟩, Nat.le_of_ble_eq_true rfl, Nat.le_of_ble_eq_true rfl⟩ dX1_snapRefusal_5) (fun H locs S => ?_)
  have hkv1 : gkd v1 = 8 := kr_X3_trackOf kd_s1 hv1
  refine lv_astore_n (lv' := [(3, .ref (ad v1)), (0, .ref (ad 20)), (1, .int a0), (2, .int a1)]) hx hb dX1_snapRefusal_8 rfl hl (by decide) rfl (fun ls hl => ?_)
  refine lv_aload_n hx hb dX1_snapRefusal_9 rfl (lv_at hl 1 rfl) ?_
  refine gfX1_9 X S hN kd_s20 dX1_snapRefusal_10 ?_
  refine lv_iload_n hx hb dX1_snapRefusal_13 rfl (lv_at hl 2 rfl) ?_
  refine lv_iload_n hx hb dX1_snapRefusal_14 rfl (lv_at hl 3 rfl) ?_
  refine lv_aload_n hx hb dX1_snapRefusal_15 rfl (lv_at hl 1 rfl) ?_
  refine lv_aload_n hx hb dX1_snapRefusal_16 rfl (lv_at hl 0 rfl) ?_
  refine lv_iload_n hx hb dX1_snapRefusal_17 rfl (lv_at hl 3 rfl) ?_
  obtain ⟨v2, hv2, hf⟩ := g_s1 hf
  refine g_ki S (g_runV (rest := [.ref (ad 20), .int a1, .int a0, .ref (ad 1)]) X S (c_X8_first l hN hkv1 hv2 _) cvX8_first mlX1_82 (kd_N hkv1 (by decide) hN) (ceC_8 hkv1 _) rfl rfl rfl hl.1 (Nat.le_of_ble_eq_true rfl) ⟨⟨rfl, rfl⟩, ⟨Nat.le_of_ble_eq_true rfl, Nat.le_of_ble_eq_true rfl⟩, Nat.le_of_ble_eq_true rfl, Nat.le_of_ble_eq_true rfl⟩ dX1_snapRefusal_18) (fun H locs S => ?_)
  obtain ⟨v3, hv3, hf⟩ := g_s1 hf
  refine g_ki S (g_runV (rest := [.int a1, .int a0, .ref (ad 1)]) X S (c_X1_snapped l hN  hv3 _) cvX1_snapped mlX1_127 (kd_N kd_s20 (by decide) hN) (ceC_1 kd_s20 _) rfl rfl rfl hl.1 (Nat.le_of_ble_eq_true rfl) ⟨⟨rfl, rfl⟩, ⟨Nat.le_of_ble_eq_true rfl, Nat.le_of_ble_eq_true rfl⟩, Nat.le_of_ble_eq_true rfl, Nat.le_of_ble_eq_true rfl⟩ dX1_snapRefusal_21) (fun H locs S => ?_)
  refine lv_aload_n hx hb dX1_snapRefusal_24 rfl (lv_at hl 1 rfl) ?_
  refine lv_aload_n hx hb dX1_snapRefusal_25 rfl (lv_at hl 0 rfl) ?_
  refine lv_iload_n hx hb dX1_snapRefusal_26 rfl (lv_at hl 3 rfl) ?_
  obtain ⟨v4, hv4, hf⟩ := g_s1 hf
  refine g_ki S (g_runV (rest := [.ref (ad 20), .int v3, .int a1, .int a0, .ref (ad 1)]) X S (c_X8_end l hN hkv1 hv4 _) cvX8_end mlX1_85 (kd_N hkv1 (by decide) hN) (ceC_8 hkv1 _) rfl rfl rfl hl.1 (Nat.le_of_ble_eq_true rfl) ⟨⟨rfl, rfl⟩, ⟨Nat.le_of_ble_eq_true rfl, Nat.le_of_ble_eq_true rfl⟩, Nat.le_of_ble_eq_true rfl, Nat.le_of_ble_eq_true rfl⟩ dX1_snapRefusal_27) (fun H locs S => ?_)
  obtain ⟨v5, hv5, hf⟩ := g_s1 hf
  refine g_ki S (g_runV (rest := [.int v3, .int a1, .int a0, .ref (ad 1)]) X S (c_X1_snapped l hN  hv5 _) cvX1_snapped mlX1_127 (kd_N kd_s20 (by decide) hN) (ceC_1 kd_s20 _) rfl rfl rfl hl.1 (Nat.le_of_ble_eq_true rfl) ⟨⟨rfl, rfl⟩, ⟨Nat.le_of_ble_eq_true rfl, Nat.le_of_ble_eq_true rfl⟩, Nat.le_of_ble_eq_true rfl, Nat.le_of_ble_eq_true rfl⟩ dX1_snapRefusal_30) (fun H locs S => ?_)
  obtain ⟨v6, hv6, hf⟩ := g_s1 hf
  refine g_ki S (g_runV (rest := []) X S (c_X3_placeRefusal l hN kd_s1 hv6 _) cvX3_placeRefusal mlX1_130 (kd_N kd_s1 (by decide) hN) (ceC_3 kd_s1 _) rfl rfl rfl hl.1 (Nat.le_of_ble_eq_true rfl) ⟨⟨rfl, rfl⟩, ⟨Nat.le_of_ble_eq_true rfl, Nat.le_of_ble_eq_true rfl⟩, Nat.le_of_ble_eq_true rfl, Nat.le_of_ble_eq_true rfl⟩ dX1_snapRefusal_33) (fun H locs S => ?_)
  cases hf
  exact g_reti X S rfl dX1_snapRefusal_36

noncomputable def f_X1_snapCaption (σ : gSt) (a0 : Int32) (a1 : Int32) : Option (Int32 × gSt) :=
  (g_k1 (f_X3_trackOf σ 1 a0) fun v1 => (g_k1 (f_X8_first σ v1 a1) fun v2 => (g_k1 (f_X1_snapped σ v2) fun v3 => (g_k1 (f_X8_end σ v1 a1) fun v4 => (g_k1 (f_X1_snapped σ v4) fun v5 => (g_k1 (f_X8_first σ v1 a1) fun v6 => (g_k1 (if v3 = v6 then some (0 : Int32) else some (1 : Int32)) fun x7 => (g_k1 (f_X8_end σ v1 a1) fun v10 => (g_k1 (if v5 = v10 then some (0 : Int32) else some (2 : Int32)) fun x11 => (g_k2 (f_X1_placeCaption σ a0 a1 v3 v5) fun v14 σ15 => some ((x7 + x11), σ15)))))))))))
set_option maxRecDepth 100000 in
set_option maxHeartbeats 4000000 in
theorem c_X1_snapCaption (l : Launch) {Γ : gG} {ad : Nat → Nat} {N : Nat} (hN : 202 ≤ N) {σ : gSt} {a0 : Int32} {a1 : Int32}  {r : Int32} {σ' : gSt} (hf : f_X1_snapCaption σ a0 a1 = some (r, σ')) : gMi l celC Γ ad N yX1_snapCaption cX1_snapCaption 7 (some .int) (gR 6 0 0) [.ref (ad 20), .int a0, .int a1] σ r σ' := by
  intro sz
  refine gOf (Qc := fun sz => gQci celC Γ ad N r σ' sz) RX1 (by decide) rfl (Nat.le_of_ble_eq_true rfl) (fun p e s m args below meth c H locs ls X S hl => ?_)
  have hl : lv_has ls 7 [(0, .ref (ad 20)), (1, .int a0), (2, .int a1)] := hl
  have hx := X.1
  have hb := X.2.1
  unfold f_X1_snapCaption at hf
  refine lv_aload_n hx hb dX1_snapCaption_0 rfl (lv_at hl 0 rfl) ?_
  refine gfX1_9 X S hN kd_s20 dX1_snapCaption_1 ?_
  refine lv_iload_n hx hb dX1_snapCaption_4 rfl (lv_at hl 1 rfl) ?_
  obtain ⟨v1, hv1, hf⟩ := g_s1 hf
  refine g_kr S (g_runV (rest := []) X S (c_X3_trackOf l hN kd_s1 hv1 _) cvX3_trackOf mlX1_29 (kd_N kd_s1 (by decide) hN) (ceC_3 kd_s1 _) rfl rfl rfl hl.1 (Nat.le_of_ble_eq_true rfl) ⟨⟨rfl, rfl⟩, ⟨Nat.le_of_ble_eq_true rfl, Nat.le_of_ble_eq_true rfl⟩, Nat.le_of_ble_eq_true rfl, Nat.le_of_ble_eq_true rfl⟩ dX1_snapCaption_5) (fun H locs S => ?_)
  have hkv1 : gkd v1 = 8 := kr_X3_trackOf kd_s1 hv1
  refine lv_astore_n (lv' := [(3, .ref (ad v1)), (0, .ref (ad 20)), (1, .int a0), (2, .int a1)]) hx hb dX1_snapCaption_8 rfl hl (by decide) rfl (fun ls hl => ?_)
  refine lv_aload_n hx hb dX1_snapCaption_9 rfl (lv_at hl 1 rfl) ?_
  refine lv_aload_n hx hb dX1_snapCaption_10 rfl (lv_at hl 0 rfl) ?_
  refine lv_iload_n hx hb dX1_snapCaption_11 rfl (lv_at hl 3 rfl) ?_
  obtain ⟨v2, hv2, hf⟩ := g_s1 hf
  refine g_ki S (g_runV (rest := [.ref (ad 20)]) X S (c_X8_first l hN hkv1 hv2 _) cvX8_first mlX1_82 (kd_N hkv1 (by decide) hN) (ceC_8 hkv1 _) rfl rfl rfl hl.1 (Nat.le_of_ble_eq_true rfl) ⟨⟨rfl, rfl⟩, ⟨Nat.le_of_ble_eq_true rfl, Nat.le_of_ble_eq_true rfl⟩, Nat.le_of_ble_eq_true rfl, Nat.le_of_ble_eq_true rfl⟩ dX1_snapCaption_12) (fun H locs S => ?_)
  obtain ⟨v3, hv3, hf⟩ := g_s1 hf
  refine g_ki S (g_runV (rest := []) X S (c_X1_snapped l hN  hv3 _) cvX1_snapped mlX1_127 (kd_N kd_s20 (by decide) hN) (ceC_1 kd_s20 _) rfl rfl rfl hl.1 (Nat.le_of_ble_eq_true rfl) ⟨⟨rfl, rfl⟩, ⟨Nat.le_of_ble_eq_true rfl, Nat.le_of_ble_eq_true rfl⟩, Nat.le_of_ble_eq_true rfl, Nat.le_of_ble_eq_true rfl⟩ dX1_snapCaption_15) (fun H locs S => ?_)
  refine lv_istore (lv' := [(4, .int v3), (3, .ref (ad v1)), (0, .ref (ad 20)), (1, .int a0), (2, .int a1)]) hx hb dX1_snapCaption_18 hl (by decide) rfl (fun ls hl => ?_)
  refine lv_aload_n hx hb dX1_snapCaption_20 rfl (lv_at hl 2 rfl) ?_
  refine lv_aload_n hx hb dX1_snapCaption_21 rfl (lv_at hl 1 rfl) ?_
  refine lv_iload_n hx hb dX1_snapCaption_22 rfl (lv_at hl 4 rfl) ?_
  obtain ⟨v4, hv4, hf⟩ := g_s1 hf
  refine g_ki S (g_runV (rest := [.ref (ad 20)]) X S (c_X8_end l hN hkv1 hv4 _) cvX8_end mlX1_85 (kd_N hkv1 (by decide) hN) (ceC_8 hkv1 _) rfl rfl rfl hl.1 (Nat.le_of_ble_eq_true rfl) ⟨⟨rfl, rfl⟩, ⟨Nat.le_of_ble_eq_true rfl, Nat.le_of_ble_eq_true rfl⟩, Nat.le_of_ble_eq_true rfl, Nat.le_of_ble_eq_true rfl⟩ dX1_snapCaption_23) (fun H locs S => ?_)
  obtain ⟨v5, hv5, hf⟩ := g_s1 hf
  refine g_ki S (g_runV (rest := []) X S (c_X1_snapped l hN  hv5 _) cvX1_snapped mlX1_127 (kd_N kd_s20 (by decide) hN) (ceC_1 kd_s20 _) rfl rfl rfl hl.1 (Nat.le_of_ble_eq_true rfl) ⟨⟨rfl, rfl⟩, ⟨Nat.le_of_ble_eq_true rfl, Nat.le_of_ble_eq_true rfl⟩, Nat.le_of_ble_eq_true rfl, Nat.le_of_ble_eq_true rfl⟩ dX1_snapCaption_26) (fun H locs S => ?_)
  refine lv_istore (lv' := [(5, .int v5), (4, .int v3), (3, .ref (ad v1)), (0, .ref (ad 20)), (1, .int a0), (2, .int a1)]) hx hb dX1_snapCaption_29 hl (by decide) rfl (fun ls hl => ?_)
  refine lv_iload hx hb dX1_snapCaption_31 (lv_at hl 1 rfl) ?_
  refine lv_aload_n hx hb dX1_snapCaption_33 rfl (lv_at hl 2 rfl) ?_
  refine lv_iload_n hx hb dX1_snapCaption_34 rfl (lv_at hl 5 rfl) ?_
  obtain ⟨v6, hv6, hf⟩ := g_s1 hf
  refine g_ki S (g_runV (rest := [.int v3]) X S (c_X8_first l hN hkv1 hv6 _) cvX8_first mlX1_82 (kd_N hkv1 (by decide) hN) (ceC_8 hkv1 _) rfl rfl rfl hl.1 (Nat.le_of_ble_eq_true rfl) ⟨⟨rfl, rfl⟩, ⟨Nat.le_of_ble_eq_true rfl, Nat.le_of_ble_eq_true rfl⟩, Nat.le_of_ble_eq_true rfl, Nat.le_of_ble_eq_true rfl⟩ dX1_snapCaption_35) (fun H locs S => ?_)
  obtain ⟨x7, hr8, hf⟩ := g_s1 hf
  have J9 : ∀ (H : Heap) (locs : List Loc) (ls : Array Slot), gS celC Γ ad N σ s H locs → lv_has ls 7 [(5, .int v5), (4, .int v3), (3, .ref (ad v1)), (0, .ref (ad 20)), (1, .int a0), (2, .int a1)] → W p l e (gR 6 0 0) s m args below meth c H locs 0 0 (gQi celC Γ ad N r σ' below args s) (F0 m 46 ls [.int x7]) := by
    intro H locs ls S hl
    refine lv_iload hx hb dX1_snapCaption_46 (lv_at hl 0 rfl) ?_
    refine lv_aload_n hx hb dX1_snapCaption_48 rfl (lv_at hl 2 rfl) ?_
    refine lv_iload_n hx hb dX1_snapCaption_49 rfl (lv_at hl 5 rfl) ?_
    obtain ⟨v10, hv10, hf⟩ := g_s1 hf
    refine g_ki S (g_runV (rest := [.int v5, .int x7]) X S (c_X8_end l hN hkv1 hv10 _) cvX8_end mlX1_85 (kd_N hkv1 (by decide) hN) (ceC_8 hkv1 _) rfl rfl rfl hl.1 (Nat.le_of_ble_eq_true rfl) ⟨⟨rfl, rfl⟩, ⟨Nat.le_of_ble_eq_true rfl, Nat.le_of_ble_eq_true rfl⟩, Nat.le_of_ble_eq_true rfl, Nat.le_of_ble_eq_true rfl⟩ dX1_snapCaption_50) (fun H locs S => ?_)
    obtain ⟨x11, hr12, hf⟩ := g_s1 hf
    have J13 : ∀ (H : Heap) (locs : List Loc) (ls : Array Slot), gS celC Γ ad N σ s H locs → lv_has ls 7 [(5, .int v5), (4, .int v3), (0, .ref (ad 20)), (1, .int a0), (2, .int a1)] → W p l e (gR 6 0 0) s m args below meth c H locs 0 0 (gQi celC Γ ad N r σ' below args s) (F0 m 61 ls [.int x11, .int x7]) := by
      intro H locs ls S hl
      refine lv_iadd hx hb dX1_snapCaption_61 ?_
      refine lv_istore (lv' := [(6, .int (x7 + x11)), (5, .int v5), (4, .int v3), (0, .ref (ad 20)), (1, .int a0), (2, .int a1)]) hx hb dX1_snapCaption_62 hl (by decide) rfl (fun ls hl => ?_)
      refine lv_aload_n hx hb dX1_snapCaption_64 rfl (lv_at hl 3 rfl) ?_
      refine lv_iload_n hx hb dX1_snapCaption_65 rfl (lv_at hl 4 rfl) ?_
      refine lv_iload_n hx hb dX1_snapCaption_66 rfl (lv_at hl 5 rfl) ?_
      refine lv_iload hx hb dX1_snapCaption_67 (lv_at hl 2 rfl) ?_
      refine lv_iload hx hb dX1_snapCaption_69 (lv_at hl 1 rfl) ?_
      obtain ⟨v14, σ15, hv14, hf⟩ := g_s2 hf
      refine g_ki S (g_runV (rest := []) X S (c_X1_placeCaption l hN  hv14 _) cvX1_placeCaption mlX1_134 (kd_N kd_s20 (by decide) hN) (ceC_1 kd_s20 _) rfl rfl rfl hl.1 (Nat.le_of_ble_eq_true rfl) ⟨⟨rfl, rfl⟩, ⟨Nat.le_of_ble_eq_true rfl, Nat.le_of_ble_eq_true rfl⟩, Nat.le_of_ble_eq_true rfl, Nat.le_of_ble_eq_true rfl⟩ dX1_snapCaption_71) (fun H locs S => ?_)
      refine lv_pop hx hb dX1_snapCaption_74 rfl ?_
      refine lv_iload hx hb dX1_snapCaption_75 (lv_at hl 0 rfl) ?_
      cases hf
      exact g_reti X S rfl dX1_snapCaption_77
    replace hf := hr12
    refine lv_icmp_eq (tgt := 60) hx hb dX1_snapCaption_53 (by decide) (fun c16 => ?_) (fun c16 => ?_)
    · have hf := (if_pos c16).symm.trans hf
      refine lv_iconst (v := (0 : Int32)) hx hb dX1_snapCaption_60 (by decide) ?_
      cases hf
      exact J13 _ _ _ S (lv_sub hl [0, 1, 3, 4, 5] rfl)
    · have hf := (if_neg c16).symm.trans hf
      refine lv_iconst (v := (2 : Int32)) hx hb dX1_snapCaption_56 (by decide) ?_
      refine lv_goto (tgt := 61) hx hb dX1_snapCaption_57 (by decide) ?_
      cases hf
      exact J13 _ _ _ S (lv_sub hl [0, 1, 3, 4, 5] rfl)
  replace hf := hr8
  refine lv_icmp_eq (tgt := 45) hx hb dX1_snapCaption_38 (by decide) (fun c17 => ?_) (fun c17 => ?_)
  · have hf := (if_pos c17).symm.trans hf
    refine lv_iconst (v := (0 : Int32)) hx hb dX1_snapCaption_45 (by decide) ?_
    cases hf
    exact J9 _ _ _ S (lv_sub hl [0, 1, 2, 3, 4, 5] rfl)
  · have hf := (if_neg c17).symm.trans hf
    refine lv_iconst (v := (1 : Int32)) hx hb dX1_snapCaption_41 (by decide) ?_
    refine lv_goto (tgt := 46) hx hb dX1_snapCaption_42 (by decide) ?_
    cases hf
    exact J9 _ _ _ S (lv_sub hl [0, 1, 2, 3, 4, 5] rfl)

noncomputable def f_X1_fitCaption (σ : gSt) (a0 : Int32) (a1 : Int32) : Option (Int32 × gSt) :=
  (g_k1 (f_X3_trackOf σ 1 a0) fun v1 => (g_k1 (f_X8_end σ v1 a1) fun v2 => (g_k1 (f_X8_first σ v1 a1) fun v3 => (g_k1 (f_X2_needs σ a0 a1) fun v4 => (g_k1 (f_X8_has σ v1 (a1 + (1 : Int32))) fun v6 => (g_k1 (if v6 = 0 then some (if (v3 + v4) < (σ 1 0) then (v3 + v4) else (σ 1 0)) else (g_k1 (f_X8_first σ v1 (a1 + (1 : Int32))) fun v20 => (g_k1 (f_X3_setting σ 1 (2 : Int32)) fun v21 => some (if (v20 - v21) < (if (v3 + v4) < (σ 1 0) then (v3 + v4) else (σ 1 0)) then (v20 - v21) else (if (v3 + v4) < (σ 1 0) then (v3 + v4) else (σ 1 0)))))) fun x7 => (g_k1 (f_X0_firstFrom σ (1 + 2) v2) fun v10 => (g_k1 (if v10 = (-1 : Int32) then some x7 else some (if v10 < x7 then v10 else x7)) fun x11 => (g_k1 (f_X8_first σ v1 a1) fun v15 => (g_k1 (f_X8_setFrames σ v1 a1 v15 (v2 + (if (0 : Int32) < (x11 - v2) then (x11 - v2) else (0 : Int32)))) fun σ16 => some ((if (0 : Int32) < (x11 - v2) then (x11 - v2) else (0 : Int32)), σ16)))))))))))
set_option maxRecDepth 100000 in
set_option maxHeartbeats 4000000 in
theorem c_X1_fitCaption (l : Launch) {Γ : gG} {ad : Nat → Nat} {N : Nat} (hN : 202 ≤ N) {σ : gSt} {a0 : Int32} {a1 : Int32}  {r : Int32} {σ' : gSt} (hf : f_X1_fitCaption σ a0 a1 = some (r, σ')) : gMi l celC Γ ad N yX1_fitCaption cX1_fitCaption 8 (some .int) (gR 6 0 0) [.ref (ad 20), .int a0, .int a1] σ r σ' := by
  intro sz
  refine gOf (Qc := fun sz => gQci celC Γ ad N r σ' sz) RX1 (by decide) rfl (Nat.le_of_ble_eq_true rfl) (fun p e s m args below meth c H locs ls X S hl => ?_)
  have hl : lv_has ls 8 [(0, .ref (ad 20)), (1, .int a0), (2, .int a1)] := hl
  have hx := X.1
  have hb := X.2.1
  unfold f_X1_fitCaption at hf
  refine lv_aload_n hx hb dX1_fitCaption_0 rfl (lv_at hl 0 rfl) ?_
  refine gfX1_9 X S hN kd_s20 dX1_fitCaption_1 ?_
  refine lv_iload_n hx hb dX1_fitCaption_4 rfl (lv_at hl 1 rfl) ?_
  obtain ⟨v1, hv1, hf⟩ := g_s1 hf
  refine g_kr S (g_runV (rest := []) X S (c_X3_trackOf l hN kd_s1 hv1 _) cvX3_trackOf mlX1_29 (kd_N kd_s1 (by decide) hN) (ceC_3 kd_s1 _) rfl rfl rfl hl.1 (Nat.le_of_ble_eq_true rfl) ⟨⟨rfl, rfl⟩, ⟨Nat.le_of_ble_eq_true rfl, Nat.le_of_ble_eq_true rfl⟩, Nat.le_of_ble_eq_true rfl, Nat.le_of_ble_eq_true rfl⟩ dX1_fitCaption_5) (fun H locs S => ?_)
  have hkv1 : gkd v1 = 8 := kr_X3_trackOf kd_s1 hv1
  refine lv_astore_n (lv' := [(3, .ref (ad v1)), (0, .ref (ad 20)), (1, .int a0), (2, .int a1)]) hx hb dX1_fitCaption_8 rfl hl (by decide) rfl (fun ls hl => ?_)
  refine lv_aload_n hx hb dX1_fitCaption_9 rfl (lv_at hl 0 rfl) ?_
  refine lv_iload_n hx hb dX1_fitCaption_10 rfl (lv_at hl 3 rfl) ?_
  obtain ⟨v2, hv2, hf⟩ := g_s1 hf
  refine g_ki S (g_runV (rest := []) X S (c_X8_end l hN hkv1 hv2 _) cvX8_end mlX1_85 (kd_N hkv1 (by decide) hN) (ceC_8 hkv1 _) rfl rfl rfl hl.1 (Nat.le_of_ble_eq_true rfl) ⟨⟨rfl, rfl⟩, ⟨Nat.le_of_ble_eq_true rfl, Nat.le_of_ble_eq_true rfl⟩, Nat.le_of_ble_eq_true rfl, Nat.le_of_ble_eq_true rfl⟩ dX1_fitCaption_11) (fun H locs S => ?_)
  refine lv_istore (lv' := [(4, .int v2), (3, .ref (ad v1)), (0, .ref (ad 20)), (1, .int a0), (2, .int a1)]) hx hb dX1_fitCaption_14 hl (by decide) rfl (fun ls hl => ?_)
  refine lv_aload_n hx hb dX1_fitCaption_16 rfl (lv_at hl 2 rfl) ?_
  refine gfX1_9 X S hN kd_s20 dX1_fitCaption_17 ?_
  refine gfX1_137 X S hN kd_s1 dX1_fitCaption_20 ?_
  refine lv_aload_n hx hb dX1_fitCaption_23 rfl (lv_at hl 1 rfl) ?_
  refine lv_iload_n hx hb dX1_fitCaption_24 rfl (lv_at hl 4 rfl) ?_
  obtain ⟨v3, hv3, hf⟩ := g_s1 hf
  refine g_ki S (g_runV (rest := [.int (σ 1 0)]) X S (c_X8_first l hN hkv1 hv3 _) cvX8_first mlX1_82 (kd_N hkv1 (by decide) hN) (ceC_8 hkv1 _) rfl rfl rfl hl.1 (Nat.le_of_ble_eq_true rfl) ⟨⟨rfl, rfl⟩, ⟨Nat.le_of_ble_eq_true rfl, Nat.le_of_ble_eq_true rfl⟩, Nat.le_of_ble_eq_true rfl, Nat.le_of_ble_eq_true rfl⟩ dX1_fitCaption_25) (fun H locs S => ?_)
  refine lv_aload_n hx hb dX1_fitCaption_28 rfl (lv_at hl 2 rfl) ?_
  refine gfX1_15 X S hN kd_s20 dX1_fitCaption_29 ?_
  refine lv_iload_n hx hb dX1_fitCaption_32 rfl (lv_at hl 3 rfl) ?_
  refine lv_iload_n hx hb dX1_fitCaption_33 rfl (lv_at hl 4 rfl) ?_
  obtain ⟨v4, hv4, hf⟩ := g_s1 hf
  refine g_ki S (g_runV (rest := [.int v3, .int (σ 1 0)]) X S (c_X2_needs l hN  hv4 _) cvX2_needs mlX1_140 (kd_N kd_s17 (by decide) hN) (ceC_2 kd_s17 _) rfl rfl rfl hl.1 (Nat.le_of_ble_eq_true rfl) ⟨⟨rfl, rfl⟩, ⟨Nat.le_of_ble_eq_true rfl, Nat.le_of_ble_eq_true rfl⟩, Nat.le_of_ble_eq_true rfl, Nat.le_of_ble_eq_true rfl⟩ dX1_fitCaption_34) (fun H locs S => ?_)
  refine lv_iadd hx hb dX1_fitCaption_37 ?_
  refine g_min X hl.1 mwX1_143 ⟨⟨by decide, Nat.le_of_ble_eq_true rfl⟩, Nat.le_of_ble_eq_true rfl, Nat.le_of_ble_eq_true rfl⟩ dX1_fitCaption_38 ?_
  refine lv_istore (lv' := [(5, .int (if (v3 + v4) < (σ 1 0) then (v3 + v4) else (σ 1 0))), (4, .int v2), (3, .ref (ad v1)), (0, .ref (ad 20)), (1, .int a0), (2, .int a1)]) hx hb dX1_fitCaption_41 hl (by decide) rfl (fun ls hl => ?_)
  refine lv_aload_n hx hb dX1_fitCaption_43 rfl (lv_at hl 2 rfl) ?_
  refine lv_iload_n hx hb dX1_fitCaption_44 rfl (lv_at hl 5 rfl) ?_
  refine lv_iconst (v := (1 : Int32)) hx hb dX1_fitCaption_45 (by decide) ?_
  refine lv_iadd hx hb dX1_fitCaption_46 ?_
  obtain ⟨v6, hv6, hf⟩ := g_s1 hf
  refine g_ki S (g_runV (rest := []) X S (c_X8_has l hN hkv1 hv6 _) cvX8_has mlX1_146 (kd_N hkv1 (by decide) hN) (ceC_8 hkv1 _) rfl rfl rfl hl.1 (Nat.le_of_ble_eq_true rfl) ⟨⟨rfl, rfl⟩, ⟨Nat.le_of_ble_eq_true rfl, Nat.le_of_ble_eq_true rfl⟩, Nat.le_of_ble_eq_true rfl, Nat.le_of_ble_eq_true rfl⟩ dX1_fitCaption_47) (fun H locs S => ?_)
  obtain ⟨x7, hr8, hf⟩ := g_s1 hf
  have J9 : ∀ (H : Heap) (locs : List Loc) (ls : Array Slot), gS celC Γ ad N σ s H locs → lv_has ls 8 [(5, .int x7), (4, .int v2), (3, .ref (ad v1)), (0, .ref (ad 20)), (2, .int a1)] → W p l e (gR 6 0 0) s m args below meth c H locs 0 0 (gQi celC Γ ad N r σ' below args s) (F0 m 76 ls []) := by
    intro H locs ls S hl
    refine lv_aload_n hx hb dX1_fitCaption_76 rfl (lv_at hl 3 rfl) ?_
    refine gfX1_9 X S hN kd_s20 dX1_fitCaption_77 ?_
    refine gfX1_118 X S hN kd_s1 dX1_fitCaption_80 ?_
    refine lv_iload hx hb dX1_fitCaption_83 (lv_at hl 1 rfl) ?_
    obtain ⟨v10, hv10, hf⟩ := g_s1 hf
    refine g_ki S (g_runV (rest := []) X S (c_X0_firstFrom l hN (kd_3_2 kd_s1) hv10 _) cvX0_firstFrom mlX1_152 (kd_N (kd_3_2 kd_s1) (by decide) hN) (ceC_0 (kd_3_2 kd_s1) _) rfl rfl rfl hl.1 (Nat.le_of_ble_eq_true rfl) ⟨⟨rfl, rfl⟩, ⟨Nat.le_of_ble_eq_true rfl, Nat.le_of_ble_eq_true rfl⟩, Nat.le_of_ble_eq_true rfl, Nat.le_of_ble_eq_true rfl⟩ dX1_fitCaption_85) (fun H locs S => ?_)
    refine lv_istore (lv' := [(6, .int v10), (5, .int x7), (4, .int v2), (3, .ref (ad v1)), (0, .ref (ad 20)), (2, .int a1)]) hx hb dX1_fitCaption_88 hl (by decide) rfl (fun ls hl => ?_)
    refine lv_iload hx hb dX1_fitCaption_90 (lv_at hl 0 rfl) ?_
    refine lv_iconst (v := (-1 : Int32)) hx hb dX1_fitCaption_92 (by decide) ?_
    obtain ⟨x11, hr12, hf⟩ := g_s1 hf
    have J13 : ∀ (H : Heap) (locs : List Loc) (ls : Array Slot), gS celC Γ ad N σ s H locs → lv_has ls 8 [(5, .int x11), (4, .int v2), (3, .ref (ad v1)), (2, .int a1)] → W p l e (gR 6 0 0) s m args below meth c H locs 0 0 (gQi celC Γ ad N r σ' below args s) (F0 m 105 ls []) := by
      intro H locs ls S hl
      refine lv_iconst (v := (0 : Int32)) hx hb dX1_fitCaption_105 (by decide) ?_
      refine lv_iload hx hb dX1_fitCaption_106 (lv_at hl 0 rfl) ?_
      refine lv_iload hx hb dX1_fitCaption_108 (lv_at hl 1 rfl) ?_
      refine lv_isub hx hb dX1_fitCaption_110 ?_
      refine g_max X hl.1 mwX1_100 ⟨⟨by decide, Nat.le_of_ble_eq_true rfl⟩, Nat.le_of_ble_eq_true rfl, Nat.le_of_ble_eq_true rfl⟩ dX1_fitCaption_111 ?_
      refine lv_istore (lv' := [(7, .int (if (0 : Int32) < (x11 - v2) then (x11 - v2) else (0 : Int32))), (5, .int x11), (4, .int v2), (3, .ref (ad v1)), (2, .int a1)]) hx hb dX1_fitCaption_114 hl (by decide) rfl (fun ls hl => ?_)
      refine lv_aload_n hx hb dX1_fitCaption_116 rfl (lv_at hl 3 rfl) ?_
      refine lv_iload_n hx hb dX1_fitCaption_117 rfl (lv_at hl 4 rfl) ?_
      refine lv_aload_n hx hb dX1_fitCaption_118 rfl (lv_at hl 3 rfl) ?_
      refine lv_iload_n hx hb dX1_fitCaption_119 rfl (lv_at hl 4 rfl) ?_
      obtain ⟨v15, hv15, hf⟩ := g_s1 hf
      refine g_ki S (g_runV (rest := [.int a1, .ref (ad v1)]) X S (c_X8_first l hN hkv1 hv15 _) cvX8_first mlX1_82 (kd_N hkv1 (by decide) hN) (ceC_8 hkv1 _) rfl rfl rfl hl.1 (Nat.le_of_ble_eq_true rfl) ⟨⟨rfl, rfl⟩, ⟨Nat.le_of_ble_eq_true rfl, Nat.le_of_ble_eq_true rfl⟩, Nat.le_of_ble_eq_true rfl, Nat.le_of_ble_eq_true rfl⟩ dX1_fitCaption_120) (fun H locs S => ?_)
      refine lv_iload hx hb dX1_fitCaption_123 (lv_at hl 2 rfl) ?_
      refine lv_iload hx hb dX1_fitCaption_125 (lv_at hl 0 rfl) ?_
      refine lv_iadd hx hb dX1_fitCaption_127 ?_
      obtain ⟨σ16, hσ16, hf⟩ := g_s1 hf
      refine g_kv S (g_runV (rest := []) X S (c_X8_setFrames l hN hkv1 hσ16 _) cvX8_setFrames mlX1_88 (kd_N hkv1 (by decide) hN) (ceC_8 hkv1 _) rfl rfl rfl hl.1 (Nat.le_of_ble_eq_true rfl) ⟨⟨rfl, rfl⟩, ⟨Nat.le_of_ble_eq_true rfl, Nat.le_of_ble_eq_true rfl⟩, Nat.le_of_ble_eq_true rfl, Nat.le_of_ble_eq_true rfl⟩ dX1_fitCaption_128) (fun H locs S => ?_)
      refine lv_iload hx hb dX1_fitCaption_131 (lv_at hl 0 rfl) ?_
      cases hf
      exact g_reti X S rfl dX1_fitCaption_133
    replace hf := hr12
    refine lv_icmp_eq (tgt := 105) hx hb dX1_fitCaption_93 (by decide) (fun c17 => ?_) (fun c17 => ?_)
    · have hf := (if_pos c17).symm.trans hf
      cases hf
      exact J13 _ _ _ S (lv_sub hl [1, 2, 3, 5] rfl)
    · have hf := (if_neg c17).symm.trans hf
      refine lv_iload hx hb dX1_fitCaption_96 (lv_at hl 1 rfl) ?_
      refine lv_iload hx hb dX1_fitCaption_98 (lv_at hl 0 rfl) ?_
      refine g_min X hl.1 mwX1_143 ⟨⟨by decide, Nat.le_of_ble_eq_true rfl⟩, Nat.le_of_ble_eq_true rfl, Nat.le_of_ble_eq_true rfl⟩ dX1_fitCaption_100 ?_
      refine lv_istore (lv' := [(5, .int (if v10 < x7 then v10 else x7)), (6, .int v10), (4, .int v2), (3, .ref (ad v1)), (0, .ref (ad 20)), (2, .int a1)]) hx hb dX1_fitCaption_103 hl (by decide) rfl (fun ls hl => ?_)
      cases hf
      exact J13 _ _ _ S (lv_sub hl [0, 2, 3, 5] rfl)
  replace hf := hr8
  refine lv_if_eq (tgt := 76) hx hb dX1_fitCaption_50 (by decide) (fun c19 => ?_) (fun c19 => ?_)
  · have hf := (if_pos c19).symm.trans hf
    cases hf
    exact J9 _ _ _ S (lv_sub hl [0, 1, 2, 3, 5] rfl)
  · have hf := (if_neg c19).symm.trans hf
    refine lv_iload hx hb dX1_fitCaption_53 (lv_at hl 0 rfl) ?_
    refine lv_aload_n hx hb dX1_fitCaption_55 rfl (lv_at hl 2 rfl) ?_
    refine lv_iload_n hx hb dX1_fitCaption_56 rfl (lv_at hl 5 rfl) ?_
    refine lv_iconst (v := (1 : Int32)) hx hb dX1_fitCaption_57 (by decide) ?_
    refine lv_iadd hx hb dX1_fitCaption_58 ?_
    obtain ⟨v20, hv20, hf⟩ := g_s1 hf
    refine g_ki S (g_runV (rest := [.int (if (v3 + v4) < (σ 1 0) then (v3 + v4) else (σ 1 0))]) X S (c_X8_first l hN hkv1 hv20 _) cvX8_first mlX1_82 (kd_N hkv1 (by decide) hN) (ceC_8 hkv1 _) rfl rfl rfl hl.1 (Nat.le_of_ble_eq_true rfl) ⟨⟨rfl, rfl⟩, ⟨Nat.le_of_ble_eq_true rfl, Nat.le_of_ble_eq_true rfl⟩, Nat.le_of_ble_eq_true rfl, Nat.le_of_ble_eq_true rfl⟩ dX1_fitCaption_59) (fun H locs S => ?_)
    refine lv_aload_n hx hb dX1_fitCaption_62 rfl (lv_at hl 3 rfl) ?_
    refine gfX1_9 X S hN kd_s20 dX1_fitCaption_63 ?_
    refine lv_iconst (v := (2 : Int32)) hx hb dX1_fitCaption_66 (by decide) ?_
    obtain ⟨v21, hv21, hf⟩ := g_s1 hf
    refine g_ki S (g_runV (rest := [.int v20, .int (if (v3 + v4) < (σ 1 0) then (v3 + v4) else (σ 1 0))]) X S (c_X3_setting l hN kd_s1 hv21 _) cvX3_setting mlX1_149 (kd_N kd_s1 (by decide) hN) (ceC_3 kd_s1 _) rfl rfl rfl hl.1 (Nat.le_of_ble_eq_true rfl) ⟨⟨rfl, rfl⟩, ⟨Nat.le_of_ble_eq_true rfl, Nat.le_of_ble_eq_true rfl⟩, Nat.le_of_ble_eq_true rfl, Nat.le_of_ble_eq_true rfl⟩ dX1_fitCaption_67) (fun H locs S => ?_)
    refine lv_isub hx hb dX1_fitCaption_70 ?_
    refine g_min X hl.1 mwX1_143 ⟨⟨by decide, Nat.le_of_ble_eq_true rfl⟩, Nat.le_of_ble_eq_true rfl, Nat.le_of_ble_eq_true rfl⟩ dX1_fitCaption_71 ?_
    refine lv_istore (lv' := [(5, .int (if (v20 - v21) < (if (v3 + v4) < (σ 1 0) then (v3 + v4) else (σ 1 0)) then (v20 - v21) else (if (v3 + v4) < (σ 1 0) then (v3 + v4) else (σ 1 0)))), (4, .int v2), (3, .ref (ad v1)), (0, .ref (ad 20)), (1, .int a0), (2, .int a1)]) hx hb dX1_fitCaption_74 hl (by decide) rfl (fun ls hl => ?_)
    cases hf
    exact J9 _ _ _ S (lv_sub hl [0, 1, 2, 3, 5] rfl)

noncomputable def f_X1_isMeant (σ : gSt) (a0 : Int32) (a1 : Int32) : Option (Int32) :=
  (g_k1 (if a0 = (-1 : Int32) then some (1 : Int32) else (if a0 = a1 then some (1 : Int32) else some (0 : Int32))) fun x1 => (g_k1 (gzb x1) fun v4 => some v4))
set_option maxRecDepth 100000 in
set_option maxHeartbeats 4000000 in
theorem c_X1_isMeant (l : Launch) {Γ : gG} {ad : Nat → Nat} {N : Nat} (hN : 202 ≤ N) {σ : gSt} {a0 : Int32} {a1 : Int32}  {r : Int32} (hf : f_X1_isMeant σ a0 a1 = some r) : gMi l celC Γ ad N yX1_isMeant cX1_isMeant 2 (some .boolean) (gR 1 0 0) [.int a0, .int a1] σ r σ := by
  intro sz
  refine gOf (Qc := fun sz => gQci celC Γ ad N r σ sz) RX1 (by decide) rfl (Nat.le_of_ble_eq_true rfl) (fun p e s m args below meth c H locs ls X S hl => ?_)
  have hl : lv_has ls 2 [(0, .int a0), (1, .int a1)] := hl
  have hx := X.1
  have hb := X.2.1
  unfold f_X1_isMeant at hf
  refine lv_iload_n hx hb dX1_isMeant_0 rfl (lv_at hl 0 rfl) ?_
  refine lv_iconst (v := (-1 : Int32)) hx hb dX1_isMeant_1 (by decide) ?_
  obtain ⟨x1, hr2, hf⟩ := g_s1 hf
  have J3 : ∀ (H : Heap) (locs : List Loc) (ls : Array Slot), gS celC Γ ad N σ s H locs → lv_has ls 2 [] → W p l e (gR 1 0 0) s m args below meth c H locs 0 0 (gQi celC Γ ad N r σ below args s) (F0 m 15 ls [.int x1]) := by
    intro H locs ls S hl
    obtain ⟨v4, hv4, hf⟩ := g_s1 hf
    obtain ⟨hnv4, rfl⟩ := gzb_some hv4
    cases hf
    exact g_reti X S hnv4 dX1_isMeant_15
  replace hf := hr2
  refine lv_icmp_eq (tgt := 10) hx hb dX1_isMeant_2 (by decide) (fun c5 => ?_) (fun c5 => ?_)
  · have hf := (if_pos c5).symm.trans hf
    refine lv_iconst (v := (1 : Int32)) hx hb dX1_isMeant_10 (by decide) ?_
    refine lv_goto (tgt := 15) hx hb dX1_isMeant_11 (by decide) ?_
    cases hf
    exact J3 _ _ _ S (lv_sub hl [] rfl)
  · have hf := (if_neg c5).symm.trans hf
    refine lv_iload_n hx hb dX1_isMeant_5 rfl (lv_at hl 0 rfl) ?_
    refine lv_iload_n hx hb dX1_isMeant_6 rfl (lv_at hl 1 rfl) ?_
    refine lv_icmp_ne (tgt := 14) hx hb dX1_isMeant_7 (by decide) (fun c6 => ?_) (fun c6 => ?_)
    · have hf := (if_neg c6).symm.trans hf
      refine lv_iconst (v := (0 : Int32)) hx hb dX1_isMeant_14 (by decide) ?_
      cases hf
      exact J3 _ _ _ S (lv_sub hl [] rfl)
    · have hf := (if_pos c6).symm.trans hf
      refine lv_iconst (v := (1 : Int32)) hx hb dX1_isMeant_10 (by decide) ?_
      refine lv_goto (tgt := 15) hx hb dX1_isMeant_11 (by decide) ?_
      cases hf
      exact J3 _ _ _ S (lv_sub hl [] rfl)

noncomputable def f_X1_retimeRefusal_l2 (σ : gSt) (a0 : Int32) (a1 : Nat) (i1 : Int32) (v5 : Nat) : Nat → Int32 → Int32 → Option (Int32)
  | 0, _, _ => none
  | n + 1, i6, i7 => (if (σ v5 5) ≤ i6 then some i7 else (g_k1 (f_X1_isMeant σ a0 i1) fun v10 => (if v10 = 0 then some i7 else (g_k1 (f_X8_first σ v5 i6) fun v12 => (g_k1 (f_X6_frameFor σ a1 v12) fun v13 => (g_k1 (f_X8_end σ v5 i6) fun v14 => (g_k1 (f_X6_frameFor σ a1 v14) fun v15 => (g_k1 (f_X3_spanRefusal σ 1 v13 v15) fun v16 => (g_k1 (if i7 = 0 then some v16 else (if v16 = 0 then some i7 else (if i7 ≤ v16 then some i7 else some v16))) fun x17 => (f_X1_retimeRefusal_l2 σ a0 a1 i1 v5 n (i6 + 1) x17))))))))))
set_option maxRecDepth 100000 in
set_option maxHeartbeats 4000000 in
theorem w_X1_retimeRefusal_l2 {l : Launch} {Γ : gG} {ad : Nat → Nat} {N : Nat} {p : Program} {e : Env} {s : State} {m : MethodId} {args : Array Value} {below : List Frame} {meth : Method} {c : Code} {Q : State → Prop} (hN : 202 ≤ N) (X : gX celC Γ ad N RX1 cX1_retimeRefusal 8 (some .int) p s m args meth c) {σ : gSt} {a0 : Int32} {a1 : Nat} {i1 : Int32} {v5 : Nat} (ha1 : gkd a1 = 6) (ha16 : a1 < N) (hkv5 : gkd v5 = 8) : ∀ (n : Nat) (i6 : Int32) (i7 : Int32) (r8 : Int32), f_X1_retimeRefusal_l2 σ a0 a1 i1 v5 n i6 i7 = some r8 → (∀ (H : Heap) (locs : List Loc) (ls : Array Slot), gS celC Γ ad N σ s H locs → lv_has ls 8 [(4, .int i1), (3, .int r8), (0, .ref (ad 20)), (1, .int a0), (2, .ref (ad a1))] → W p l e (gR 3 0 0) s m args below meth c H locs 0 0 (Q) (F0 m 99 ls [])) → ∀ (H : Heap) (locs : List Loc) (ls : Array Slot), gS celC Γ ad N σ s H locs → lv_has ls 8 [(6, .int i6), (5, .ref (ad v5)), (4, .int i1), (3, .int i7), (0, .ref (ad 20)), (1, .int a0), (2, .ref (ad a1))] → W p l e (gR 3 0 0) s m args below meth c H locs 0 0 (Q) (F0 m 25 ls []) := by
  have hx := X.1
  have hb := X.2.1
  intro n
  induction n with
  | zero =>
    intro i6 i7 r8 hf
    cases hf
  | succ n ih =>
    intro i6 i7 r8 hf J H locs ls S hl
    rw [f_X1_retimeRefusal_l2] at hf
    refine lv_iload hx hb dX1_retimeRefusal_25 (lv_at hl 0 rfl) ?_
    refine lv_aload hx hb dX1_retimeRefusal_27 (lv_at hl 1 rfl) ?_
    refine gfX1_78 X S hN hkv5 dX1_retimeRefusal_29 ?_
    refine lv_icmp_ge (tgt := 99) hx hb dX1_retimeRefusal_32 (by decide) (fun c9 => ?_) (fun c9 => ?_)
    · have hf := (if_pos c9).symm.trans hf
      cases hf
      exact J _ _ _ S (lv_sub hl [2, 3, 4, 5, 6] rfl)
    · have hf := (if_neg c9).symm.trans hf
      refine lv_iload_n hx hb dX1_retimeRefusal_35 rfl (lv_at hl 5 rfl) ?_
      refine lv_iload hx hb dX1_retimeRefusal_36 (lv_at hl 2 rfl) ?_
      obtain ⟨v10, hv10, hf⟩ := g_s1 hf
      refine g_ki S (g_runS (rest := []) X S (c_X1_isMeant l hN  hv10 _) csX1_isMeant mlX1_155 rfl rfl hl.1 (Nat.le_of_ble_eq_true rfl) ⟨⟨rfl, rfl⟩, ⟨Nat.le_of_ble_eq_true rfl, Nat.le_of_ble_eq_true rfl⟩, Nat.le_of_ble_eq_true rfl, Nat.le_of_ble_eq_true rfl⟩ dX1_retimeRefusal_38) (fun H locs S => ?_)
      refine lv_if_eq (tgt := 99) hx hb dX1_retimeRefusal_41 (by decide) (fun c11 => ?_) (fun c11 => ?_)
      · have hf := (if_pos c11).symm.trans hf
        cases hf
        exact J _ _ _ S (lv_sub hl [2, 3, 4, 5, 6] rfl)
      · have hf := (if_neg c11).symm.trans hf
        refine lv_aload_n hx hb dX1_retimeRefusal_44 rfl (lv_at hl 4 rfl) ?_
        refine gfX1_9 X S hN kd_s20 dX1_retimeRefusal_45 ?_
        refine lv_aload_n hx hb dX1_retimeRefusal_48 rfl (lv_at hl 6 rfl) ?_
        refine lv_aload hx hb dX1_retimeRefusal_49 (lv_at hl 1 rfl) ?_
        refine lv_iload hx hb dX1_retimeRefusal_51 (lv_at hl 0 rfl) ?_
        obtain ⟨v12, hv12, hf⟩ := g_s1 hf
        refine g_ki S (g_runV (rest := [.ref (ad a1), .ref (ad 1)]) X S (c_X8_first l hN hkv5 hv12 _) cvX8_first mlX1_82 (kd_N hkv5 (by decide) hN) (ceC_8 hkv5 _) rfl rfl rfl hl.1 (Nat.le_of_ble_eq_true rfl) ⟨⟨rfl, rfl⟩, ⟨Nat.le_of_ble_eq_true rfl, Nat.le_of_ble_eq_true rfl⟩, Nat.le_of_ble_eq_true rfl, Nat.le_of_ble_eq_true rfl⟩ dX1_retimeRefusal_53) (fun H locs S => ?_)
        obtain ⟨v13, hv13, hf⟩ := g_s1 hf
        refine g_ki S (g_runV (rest := [.ref (ad 1)]) X S (c_X6_frameFor l hN ha1 ha16 hv13 _) cvX6_frameFor mlX1_159 ha16 (ceC_6 ha1 _) rfl rfl rfl hl.1 (Nat.le_of_ble_eq_true rfl) ⟨⟨rfl, rfl⟩, ⟨Nat.le_of_ble_eq_true rfl, Nat.le_of_ble_eq_true rfl⟩, Nat.le_of_ble_eq_true rfl, Nat.le_of_ble_eq_true rfl⟩ dX1_retimeRefusal_56) (fun H locs S => ?_)
        refine lv_aload_n hx hb dX1_retimeRefusal_59 rfl (lv_at hl 6 rfl) ?_
        refine lv_aload hx hb dX1_retimeRefusal_60 (lv_at hl 1 rfl) ?_
        refine lv_iload hx hb dX1_retimeRefusal_62 (lv_at hl 0 rfl) ?_
        obtain ⟨v14, hv14, hf⟩ := g_s1 hf
        refine g_ki S (g_runV (rest := [.ref (ad a1), .int v13, .ref (ad 1)]) X S (c_X8_end l hN hkv5 hv14 _) cvX8_end mlX1_85 (kd_N hkv5 (by decide) hN) (ceC_8 hkv5 _) rfl rfl rfl hl.1 (Nat.le_of_ble_eq_true rfl) ⟨⟨rfl, rfl⟩, ⟨Nat.le_of_ble_eq_true rfl, Nat.le_of_ble_eq_true rfl⟩, Nat.le_of_ble_eq_true rfl, Nat.le_of_ble_eq_true rfl⟩ dX1_retimeRefusal_64) (fun H locs S => ?_)
        obtain ⟨v15, hv15, hf⟩ := g_s1 hf
        refine g_ki S (g_runV (rest := [.int v13, .ref (ad 1)]) X S (c_X6_frameFor l hN ha1 ha16 hv15 _) cvX6_frameFor mlX1_159 ha16 (ceC_6 ha1 _) rfl rfl rfl hl.1 (Nat.le_of_ble_eq_true rfl) ⟨⟨rfl, rfl⟩, ⟨Nat.le_of_ble_eq_true rfl, Nat.le_of_ble_eq_true rfl⟩, Nat.le_of_ble_eq_true rfl, Nat.le_of_ble_eq_true rfl⟩ dX1_retimeRefusal_67) (fun H locs S => ?_)
        obtain ⟨v16, hv16, hf⟩ := g_s1 hf
        refine g_ki S (g_runV (rest := []) X S (c_X3_spanRefusal l hN kd_s1 hv16 _) cvX3_spanRefusal mlX1_164 (kd_N kd_s1 (by decide) hN) (ceC_3 kd_s1 _) rfl rfl rfl hl.1 (Nat.le_of_ble_eq_true rfl) ⟨⟨rfl, rfl⟩, ⟨Nat.le_of_ble_eq_true rfl, Nat.le_of_ble_eq_true rfl⟩, Nat.le_of_ble_eq_true rfl, Nat.le_of_ble_eq_true rfl⟩ dX1_retimeRefusal_70) (fun H locs S => ?_)
        refine lv_istore (lv' := [(7, .int v16), (6, .int i6), (5, .ref (ad v5)), (4, .int i1), (3, .int i7), (0, .ref (ad 20)), (1, .int a0), (2, .ref (ad a1))]) hx hb dX1_retimeRefusal_73 hl (by decide) rfl (fun ls hl => ?_)
        refine lv_iload_n hx hb dX1_retimeRefusal_75 rfl (lv_at hl 4 rfl) ?_
        obtain ⟨x17, hr18, hf⟩ := g_s1 hf
        have J19 : ∀ (H : Heap) (locs : List Loc) (ls : Array Slot), gS celC Γ ad N σ s H locs → lv_has ls 8 [(6, .int i6), (5, .ref (ad v5)), (4, .int i1), (3, .int x17), (0, .ref (ad 20)), (1, .int a0), (2, .ref (ad a1))] → W p l e (gR 3 0 0) s m args below meth c H locs 0 0 (Q) (F0 m 93 ls []) := by
          intro H locs ls S hl
          refine lv_iinc (v := (i6 + 1)) (lv' := [(6, .int (i6 + 1)), (5, .ref (ad v5)), (4, .int i1), (3, .int x17), (0, .ref (ad 20)), (1, .int a0), (2, .ref (ad a1))]) hx hb dX1_retimeRefusal_93 hl (k := 0) rfl rfl (by decide) rfl (fun ls hl => ?_)
          refine lv_goto (tgt := 25) hx hb dX1_retimeRefusal_96 (by decide) ?_
          exact ih _ _ _  hf J _ _ _ S (lv_sub hl [0, 1, 2, 3, 4, 5, 6] rfl)
        replace hf := hr18
        refine lv_if_eq (tgt := 90) hx hb dX1_retimeRefusal_76 (by decide) (fun c20 => ?_) (fun c20 => ?_)
        · have hf := (if_pos c20).symm.trans hf
          refine lv_iload hx hb dX1_retimeRefusal_90 (lv_at hl 0 rfl) ?_
          refine lv_istore_n (lv' := [(3, .int v16), (7, .int v16), (6, .int i6), (5, .ref (ad v5)), (4, .int i1), (0, .ref (ad 20)), (1, .int a0), (2, .ref (ad a1))]) hx hb dX1_retimeRefusal_92 rfl hl (by decide) rfl (fun ls hl => ?_)
          cases hf
          exact J19 _ _ _ S (lv_sub hl [2, 3, 4, 0, 5, 6, 7] rfl)
        · have hf := (if_neg c20).symm.trans hf
          refine lv_iload hx hb dX1_retimeRefusal_79 (lv_at hl 0 rfl) ?_
          refine lv_if_eq (tgt := 93) hx hb dX1_retimeRefusal_81 (by decide) (fun c21 => ?_) (fun c21 => ?_)
          · have hf := (if_pos c21).symm.trans hf
            cases hf
            exact J19 _ _ _ S (lv_sub hl [1, 2, 3, 4, 5, 6, 7] rfl)
          · have hf := (if_neg c21).symm.trans hf
            refine lv_iload hx hb dX1_retimeRefusal_84 (lv_at hl 0 rfl) ?_
            refine lv_iload_n hx hb dX1_retimeRefusal_86 rfl (lv_at hl 4 rfl) ?_
            refine lv_icmp_ge (tgt := 93) hx hb dX1_retimeRefusal_87 (by decide) (fun c22 => ?_) (fun c22 => ?_)
            · have hf := (if_pos c22).symm.trans hf
              cases hf
              exact J19 _ _ _ S (lv_sub hl [1, 2, 3, 4, 5, 6, 7] rfl)
            · have hf := (if_neg c22).symm.trans hf
              refine lv_iload hx hb dX1_retimeRefusal_90 (lv_at hl 0 rfl) ?_
              refine lv_istore_n (lv' := [(3, .int v16), (7, .int v16), (6, .int i6), (5, .ref (ad v5)), (4, .int i1), (0, .ref (ad 20)), (1, .int a0), (2, .ref (ad a1))]) hx hb dX1_retimeRefusal_92 rfl hl (by decide) rfl (fun ls hl => ?_)
              cases hf
              exact J19 _ _ _ S (lv_sub hl [2, 3, 4, 0, 5, 6, 7] rfl)
noncomputable def f_X1_retimeRefusal_l1 (σ : gSt) (a0 : Int32) (a1 : Nat) : Nat → Int32 → Int32 → Option (Int32)
  | 0, _, _ => none
  | n + 1, i1, i2 => (if (2 : Int32) ≤ i1 then some i2 else (g_k1 (f_X3_trackOf σ 1 i1) fun v5 => (g_k1 (f_X1_retimeRefusal_l2 σ a0 a1 i1 v5 FU (0 : Int32) i2) fun r8 => (f_X1_retimeRefusal_l1 σ a0 a1 n (i1 + 1) r8))))
set_option maxRecDepth 100000 in
set_option maxHeartbeats 4000000 in
theorem w_X1_retimeRefusal_l1 {l : Launch} {Γ : gG} {ad : Nat → Nat} {N : Nat} {p : Program} {e : Env} {s : State} {m : MethodId} {args : Array Value} {below : List Frame} {meth : Method} {c : Code} {Q : State → Prop} (hN : 202 ≤ N) (X : gX celC Γ ad N RX1 cX1_retimeRefusal 8 (some .int) p s m args meth c) {σ : gSt} {a0 : Int32} {a1 : Nat} (ha1 : gkd a1 = 6) (ha16 : a1 < N) : ∀ (n : Nat) (i1 : Int32) (i2 : Int32) (r3 : Int32), f_X1_retimeRefusal_l1 σ a0 a1 n i1 i2 = some r3 → (∀ (H : Heap) (locs : List Loc) (ls : Array Slot), gS celC Γ ad N σ s H locs → lv_has ls 8 [(3, .int r3)] → W p l e (gR 3 0 0) s m args below meth c H locs 0 0 (Q) (F0 m 105 ls [])) → ∀ (H : Heap) (locs : List Loc) (ls : Array Slot), gS celC Γ ad N σ s H locs → lv_has ls 8 [(4, .int i1), (3, .int i2), (0, .ref (ad 20)), (1, .int a0), (2, .ref (ad a1))] → W p l e (gR 3 0 0) s m args below meth c H locs 0 0 (Q) (F0 m 5 ls []) := by
  have hx := X.1
  have hb := X.2.1
  intro n
  induction n with
  | zero =>
    intro i1 i2 r3 hf
    cases hf
  | succ n ih =>
    intro i1 i2 r3 hf J H locs ls S hl
    rw [f_X1_retimeRefusal_l1] at hf
    refine lv_iload hx hb dX1_retimeRefusal_5 (lv_at hl 0 rfl) ?_
    refine lv_iconst (v := (2 : Int32)) hx hb dX1_retimeRefusal_7 (by decide) ?_
    refine lv_icmp_ge (tgt := 105) hx hb dX1_retimeRefusal_8 (by decide) (fun c4 => ?_) (fun c4 => ?_)
    · have hf := (if_pos c4).symm.trans hf
      cases hf
      exact J _ _ _ S (lv_sub hl [1] rfl)
    · have hf := (if_neg c4).symm.trans hf
      refine lv_aload_n hx hb dX1_retimeRefusal_11 rfl (lv_at hl 2 rfl) ?_
      refine gfX1_9 X S hN kd_s20 dX1_retimeRefusal_12 ?_
      refine lv_iload hx hb dX1_retimeRefusal_15 (lv_at hl 0 rfl) ?_
      obtain ⟨v5, hv5, hf⟩ := g_s1 hf
      refine g_kr S (g_runV (rest := []) X S (c_X3_trackOf l hN kd_s1 hv5 _) cvX3_trackOf mlX1_29 (kd_N kd_s1 (by decide) hN) (ceC_3 kd_s1 _) rfl rfl rfl hl.1 (Nat.le_of_ble_eq_true rfl) ⟨⟨rfl, rfl⟩, ⟨Nat.le_of_ble_eq_true rfl, Nat.le_of_ble_eq_true rfl⟩, Nat.le_of_ble_eq_true rfl, Nat.le_of_ble_eq_true rfl⟩ dX1_retimeRefusal_17) (fun H locs S => ?_)
      have hkv5 : gkd v5 = 8 := kr_X3_trackOf kd_s1 hv5
      refine lv_astore (lv' := [(5, .ref (ad v5)), (4, .int i1), (3, .int i2), (0, .ref (ad 20)), (1, .int a0), (2, .ref (ad a1))]) hx hb dX1_retimeRefusal_20 hl (by decide) rfl (fun ls hl => ?_)
      refine lv_iconst (v := (0 : Int32)) hx hb dX1_retimeRefusal_22 (by decide) ?_
      refine lv_istore (lv' := [(6, .int (0 : Int32)), (5, .ref (ad v5)), (4, .int i1), (3, .int i2), (0, .ref (ad 20)), (1, .int a0), (2, .ref (ad a1))]) hx hb dX1_retimeRefusal_23 hl (by decide) rfl (fun ls hl => ?_)
      obtain ⟨r8, hr23, hf⟩ := g_s1 hf
      refine w_X1_retimeRefusal_l2 hN X ha1 ha16 hkv5 FU _ _ _  hr23 (fun H locs ls S hl => ?_) _ _ _ S (lv_sub hl [0, 1, 2, 3, 4, 5, 6] rfl)
      refine lv_iinc (v := (i1 + 1)) (lv' := [(4, .int (i1 + 1)), (3, .int r8), (0, .ref (ad 20)), (1, .int a0), (2, .ref (ad a1))]) hx hb dX1_retimeRefusal_99 hl (k := 0) rfl rfl (by decide) rfl (fun ls hl => ?_)
      refine lv_goto (tgt := 5) hx hb dX1_retimeRefusal_102 (by decide) ?_
      exact ih _ _ _  hf J _ _ _ S (lv_sub hl [0, 1, 2, 3, 4] rfl)
noncomputable def f_X1_retimeRefusal (σ : gSt) (a0 : Int32) (a1 : Nat) : Option (Int32) :=
  (g_k1 (f_X1_retimeRefusal_l1 σ a0 a1 FU (0 : Int32) (0 : Int32)) fun r3 => some r3)
set_option maxRecDepth 100000 in
set_option maxHeartbeats 4000000 in
theorem c_X1_retimeRefusal (l : Launch) {Γ : gG} {ad : Nat → Nat} {N : Nat} (hN : 202 ≤ N) {σ : gSt} {a0 : Int32} {a1 : Nat} (ha1 : gkd a1 = 6) (ha16 : a1 < N) {r : Int32} (hf : f_X1_retimeRefusal σ a0 a1 = some r) : gMi l celC Γ ad N yX1_retimeRefusal cX1_retimeRefusal 8 (some .int) (gR 3 0 0) [.ref (ad 20), .int a0, .ref (ad a1)] σ r σ := by
  intro sz
  refine gOf (Qc := fun sz => gQci celC Γ ad N r σ sz) RX1 (by decide) rfl (Nat.le_of_ble_eq_true rfl) (fun p e s m args below meth c H locs ls X S hl => ?_)
  have hl : lv_has ls 8 [(0, .ref (ad 20)), (1, .int a0), (2, .ref (ad a1))] := hl
  have hx := X.1
  have hb := X.2.1
  unfold f_X1_retimeRefusal at hf
  refine lv_iconst (v := (0 : Int32)) hx hb dX1_retimeRefusal_0 (by decide) ?_
  refine lv_istore_n (lv' := [(3, .int (0 : Int32)), (0, .ref (ad 20)), (1, .int a0), (2, .ref (ad a1))]) hx hb dX1_retimeRefusal_1 rfl hl (by decide) rfl (fun ls hl => ?_)
  refine lv_iconst (v := (0 : Int32)) hx hb dX1_retimeRefusal_2 (by decide) ?_
  refine lv_istore (lv' := [(4, .int (0 : Int32)), (3, .int (0 : Int32)), (0, .ref (ad 20)), (1, .int a0), (2, .ref (ad a1))]) hx hb dX1_retimeRefusal_3 hl (by decide) rfl (fun ls hl => ?_)
  obtain ⟨r3, hr24, hf⟩ := g_s1 hf
  refine w_X1_retimeRefusal_l1 hN X ha1 ha16 FU _ _ _  hr24 (fun H locs ls S hl => ?_) _ _ _ S (lv_sub hl [0, 1, 2, 3, 4] rfl)
  refine lv_iload_n hx hb dX1_retimeRefusal_105 rfl (lv_at hl 0 rfl) ?_
  cases hf
  exact g_reti X S rfl dX1_retimeRefusal_106

noncomputable def f_X1_retimeCaptions_l2 (a0 : Int32) (a1 : Nat) (i1 : Int32) (σ3 : gSt) (v7 : Nat) : Nat → Int32 → Int32 → gSt → Option (Int32 × gSt)
  | 0, _, _, _ => none
  | n + 1, i8, i9, σ10 => (if (σ10 v7 5) ≤ i8 then some (i9, σ10) else (g_k1 (f_X1_isMeant σ10 a0 i1) fun v14 => (if v14 = 0 then some (i9, σ10) else (g_k1 (f_X8_first σ10 v7 i8) fun v16 => (g_k1 (f_X6_frameFor σ10 a1 v16) fun v17 => (g_k1 (f_X8_end σ10 v7 i8) fun v18 => (g_k1 (f_X6_frameFor σ10 a1 v18) fun v19 => (g_k1 (f_X8_first σ10 v7 i8) fun v20 => (g_k1 (if v17 = v20 then (g_k1 (f_X8_end σ10 v7 i8) fun v26 => (if v19 = v26 then some i9 else some (i9 + 1))) else some (i9 + 1)) fun x21 => (g_k1 (f_X8_setFrames σ10 v7 i8 v17 v19) fun σ24 => (f_X1_retimeCaptions_l2 a0 a1 i1 σ3 v7 n (i8 + 1) x21 σ24)))))))))))
set_option maxRecDepth 100000 in
set_option maxHeartbeats 4000000 in
theorem w_X1_retimeCaptions_l2 {l : Launch} {Γ : gG} {ad : Nat → Nat} {N : Nat} {p : Program} {e : Env} {s : State} {m : MethodId} {args : Array Value} {below : List Frame} {meth : Method} {c : Code} {Q : State → Prop} (hN : 202 ≤ N) (X : gX celC Γ ad N RX1 cX1_retimeCaptions 9 (some .int) p s m args meth c) {a0 : Int32} {a1 : Nat} {i1 : Int32} {σ3 : gSt} {v7 : Nat} (ha1 : gkd a1 = 6) (ha16 : a1 < N) (hkv7 : gkd v7 = 8) : ∀ (n : Nat) (i8 : Int32) (i9 : Int32) (σ10 : gSt) (r11 : Int32) (σ12 : gSt), f_X1_retimeCaptions_l2 a0 a1 i1 σ3 v7 n i8 i9 σ10 = some (r11, σ12) → (∀ (H : Heap) (locs : List Loc) (ls : Array Slot), gS celC Γ ad N σ12 s H locs → lv_has ls 9 [(4, .int i1), (3, .int r11), (0, .ref (ad 20)), (1, .int a0), (2, .ref (ad a1))] → W p l e (gR 3 0 0) s m args below meth c H locs 0 0 (Q) (F0 m 114 ls [])) → ∀ (H : Heap) (locs : List Loc) (ls : Array Slot), gS celC Γ ad N σ10 s H locs → lv_has ls 9 [(6, .int i8), (5, .ref (ad v7)), (4, .int i1), (3, .int i9), (0, .ref (ad 20)), (1, .int a0), (2, .ref (ad a1))] → W p l e (gR 3 0 0) s m args below meth c H locs 0 0 (Q) (F0 m 25 ls []) := by
  have hx := X.1
  have hb := X.2.1
  intro n
  induction n with
  | zero =>
    intro i8 i9 σ10 r11 σ12 hf
    cases hf
  | succ n ih =>
    intro i8 i9 σ10 r11 σ12 hf J H locs ls S hl
    rw [f_X1_retimeCaptions_l2] at hf
    refine lv_iload hx hb dX1_retimeCaptions_25 (lv_at hl 0 rfl) ?_
    refine lv_aload hx hb dX1_retimeCaptions_27 (lv_at hl 1 rfl) ?_
    refine gfX1_78 X S hN hkv7 dX1_retimeCaptions_29 ?_
    refine lv_icmp_ge (tgt := 114) hx hb dX1_retimeCaptions_32 (by decide) (fun c13 => ?_) (fun c13 => ?_)
    · have hf := (if_pos c13).symm.trans hf
      cases hf
      exact J _ _ _ S (lv_sub hl [2, 3, 4, 5, 6] rfl)
    · have hf := (if_neg c13).symm.trans hf
      refine lv_iload_n hx hb dX1_retimeCaptions_35 rfl (lv_at hl 5 rfl) ?_
      refine lv_iload hx hb dX1_retimeCaptions_36 (lv_at hl 2 rfl) ?_
      obtain ⟨v14, hv14, hf⟩ := g_s1 hf
      refine g_ki S (g_runS (rest := []) X S (c_X1_isMeant l hN  hv14 _) csX1_isMeant mlX1_155 rfl rfl hl.1 (Nat.le_of_ble_eq_true rfl) ⟨⟨rfl, rfl⟩, ⟨Nat.le_of_ble_eq_true rfl, Nat.le_of_ble_eq_true rfl⟩, Nat.le_of_ble_eq_true rfl, Nat.le_of_ble_eq_true rfl⟩ dX1_retimeCaptions_38) (fun H locs S => ?_)
      refine lv_if_eq (tgt := 114) hx hb dX1_retimeCaptions_41 (by decide) (fun c15 => ?_) (fun c15 => ?_)
      · have hf := (if_pos c15).symm.trans hf
        cases hf
        exact J _ _ _ S (lv_sub hl [2, 3, 4, 5, 6] rfl)
      · have hf := (if_neg c15).symm.trans hf
        refine lv_aload_n hx hb dX1_retimeCaptions_44 rfl (lv_at hl 6 rfl) ?_
        refine lv_aload hx hb dX1_retimeCaptions_45 (lv_at hl 1 rfl) ?_
        refine lv_iload hx hb dX1_retimeCaptions_47 (lv_at hl 0 rfl) ?_
        obtain ⟨v16, hv16, hf⟩ := g_s1 hf
        refine g_ki S (g_runV (rest := [.ref (ad a1)]) X S (c_X8_first l hN hkv7 hv16 _) cvX8_first mlX1_82 (kd_N hkv7 (by decide) hN) (ceC_8 hkv7 _) rfl rfl rfl hl.1 (Nat.le_of_ble_eq_true rfl) ⟨⟨rfl, rfl⟩, ⟨Nat.le_of_ble_eq_true rfl, Nat.le_of_ble_eq_true rfl⟩, Nat.le_of_ble_eq_true rfl, Nat.le_of_ble_eq_true rfl⟩ dX1_retimeCaptions_49) (fun H locs S => ?_)
        obtain ⟨v17, hv17, hf⟩ := g_s1 hf
        refine g_ki S (g_runV (rest := []) X S (c_X6_frameFor l hN ha1 ha16 hv17 _) cvX6_frameFor mlX1_159 ha16 (ceC_6 ha1 _) rfl rfl rfl hl.1 (Nat.le_of_ble_eq_true rfl) ⟨⟨rfl, rfl⟩, ⟨Nat.le_of_ble_eq_true rfl, Nat.le_of_ble_eq_true rfl⟩, Nat.le_of_ble_eq_true rfl, Nat.le_of_ble_eq_true rfl⟩ dX1_retimeCaptions_52) (fun H locs S => ?_)
        refine lv_istore (lv' := [(7, .int v17), (6, .int i8), (5, .ref (ad v7)), (4, .int i1), (3, .int i9), (0, .ref (ad 20)), (1, .int a0), (2, .ref (ad a1))]) hx hb dX1_retimeCaptions_55 hl (by decide) rfl (fun ls hl => ?_)
        refine lv_aload_n hx hb dX1_retimeCaptions_57 rfl (lv_at hl 7 rfl) ?_
        refine lv_aload hx hb dX1_retimeCaptions_58 (lv_at hl 2 rfl) ?_
        refine lv_iload hx hb dX1_retimeCaptions_60 (lv_at hl 1 rfl) ?_
        obtain ⟨v18, hv18, hf⟩ := g_s1 hf
        refine g_ki S (g_runV (rest := [.ref (ad a1)]) X S (c_X8_end l hN hkv7 hv18 _) cvX8_end mlX1_85 (kd_N hkv7 (by decide) hN) (ceC_8 hkv7 _) rfl rfl rfl hl.1 (Nat.le_of_ble_eq_true rfl) ⟨⟨rfl, rfl⟩, ⟨Nat.le_of_ble_eq_true rfl, Nat.le_of_ble_eq_true rfl⟩, Nat.le_of_ble_eq_true rfl, Nat.le_of_ble_eq_true rfl⟩ dX1_retimeCaptions_62) (fun H locs S => ?_)
        obtain ⟨v19, hv19, hf⟩ := g_s1 hf
        refine g_ki S (g_runV (rest := []) X S (c_X6_frameFor l hN ha1 ha16 hv19 _) cvX6_frameFor mlX1_159 ha16 (ceC_6 ha1 _) rfl rfl rfl hl.1 (Nat.le_of_ble_eq_true rfl) ⟨⟨rfl, rfl⟩, ⟨Nat.le_of_ble_eq_true rfl, Nat.le_of_ble_eq_true rfl⟩, Nat.le_of_ble_eq_true rfl, Nat.le_of_ble_eq_true rfl⟩ dX1_retimeCaptions_65) (fun H locs S => ?_)
        refine lv_istore (lv' := [(8, .int v19), (7, .int v17), (6, .int i8), (5, .ref (ad v7)), (4, .int i1), (3, .int i9), (0, .ref (ad 20)), (1, .int a0), (2, .ref (ad a1))]) hx hb dX1_retimeCaptions_68 hl (by decide) rfl (fun ls hl => ?_)
        refine lv_iload hx hb dX1_retimeCaptions_70 (lv_at hl 1 rfl) ?_
        refine lv_aload hx hb dX1_retimeCaptions_72 (lv_at hl 3 rfl) ?_
        refine lv_iload hx hb dX1_retimeCaptions_74 (lv_at hl 2 rfl) ?_
        obtain ⟨v20, hv20, hf⟩ := g_s1 hf
        refine g_ki S (g_runV (rest := [.int v17]) X S (c_X8_first l hN hkv7 hv20 _) cvX8_first mlX1_82 (kd_N hkv7 (by decide) hN) (ceC_8 hkv7 _) rfl rfl rfl hl.1 (Nat.le_of_ble_eq_true rfl) ⟨⟨rfl, rfl⟩, ⟨Nat.le_of_ble_eq_true rfl, Nat.le_of_ble_eq_true rfl⟩, Nat.le_of_ble_eq_true rfl, Nat.le_of_ble_eq_true rfl⟩ dX1_retimeCaptions_76) (fun H locs S => ?_)
        obtain ⟨x21, hr22, hf⟩ := g_s1 hf
        have J23 : ∀ (H : Heap) (locs : List Loc) (ls : Array Slot), gS celC Γ ad N σ10 s H locs → lv_has ls 9 [(8, .int v19), (7, .int v17), (6, .int i8), (5, .ref (ad v7)), (4, .int i1), (3, .int x21), (0, .ref (ad 20)), (1, .int a0), (2, .ref (ad a1))] → W p l e (gR 3 0 0) s m args below meth c H locs 0 0 (Q) (F0 m 97 ls []) := by
          intro H locs ls S hl
          refine lv_aload hx hb dX1_retimeCaptions_97 (lv_at hl 3 rfl) ?_
          refine lv_iload hx hb dX1_retimeCaptions_99 (lv_at hl 2 rfl) ?_
          refine lv_iload hx hb dX1_retimeCaptions_101 (lv_at hl 1 rfl) ?_
          refine lv_iload hx hb dX1_retimeCaptions_103 (lv_at hl 0 rfl) ?_
          obtain ⟨σ24, hσ24, hf⟩ := g_s1 hf
          refine g_kv S (g_runV (rest := []) X S (c_X8_setFrames l hN hkv7 hσ24 _) cvX8_setFrames mlX1_88 (kd_N hkv7 (by decide) hN) (ceC_8 hkv7 _) rfl rfl rfl hl.1 (Nat.le_of_ble_eq_true rfl) ⟨⟨rfl, rfl⟩, ⟨Nat.le_of_ble_eq_true rfl, Nat.le_of_ble_eq_true rfl⟩, Nat.le_of_ble_eq_true rfl, Nat.le_of_ble_eq_true rfl⟩ dX1_retimeCaptions_105) (fun H locs S => ?_)
          refine lv_iinc (v := (i8 + 1)) (lv' := [(6, .int (i8 + 1)), (8, .int v19), (7, .int v17), (5, .ref (ad v7)), (4, .int i1), (3, .int x21), (0, .ref (ad 20)), (1, .int a0), (2, .ref (ad a1))]) hx hb dX1_retimeCaptions_108 hl (k := 2) rfl rfl (by decide) rfl (fun ls hl => ?_)
          refine lv_goto (tgt := 25) hx hb dX1_retimeCaptions_111 (by decide) ?_
          exact ih _ _ _ _ _  hf J _ _ _ S (lv_sub hl [0, 3, 4, 5, 6, 7, 8] rfl)
        replace hf := hr22
        refine lv_icmp_ne (tgt := 94) hx hb dX1_retimeCaptions_79 (by decide) (fun c25 => ?_) (fun c25 => ?_)
        · have hf := (if_neg c25).symm.trans hf
          refine lv_iinc (v := (i9 + 1)) (lv' := [(3, .int (i9 + 1)), (8, .int v19), (7, .int v17), (6, .int i8), (5, .ref (ad v7)), (4, .int i1), (0, .ref (ad 20)), (1, .int a0), (2, .ref (ad a1))]) hx hb dX1_retimeCaptions_94 hl (k := 5) rfl rfl (by decide) rfl (fun ls hl => ?_)
          cases hf
          exact J23 _ _ _ S (lv_sub hl [1, 2, 3, 4, 5, 0, 6, 7, 8] rfl)
        · have hf := (if_pos c25).symm.trans hf
          refine lv_iload hx hb dX1_retimeCaptions_82 (lv_at hl 0 rfl) ?_
          refine lv_aload hx hb dX1_retimeCaptions_84 (lv_at hl 3 rfl) ?_
          refine lv_iload hx hb dX1_retimeCaptions_86 (lv_at hl 2 rfl) ?_
          obtain ⟨v26, hv26, hf⟩ := g_s1 hf
          refine g_ki S (g_runV (rest := [.int v19]) X S (c_X8_end l hN hkv7 hv26 _) cvX8_end mlX1_85 (kd_N hkv7 (by decide) hN) (ceC_8 hkv7 _) rfl rfl rfl hl.1 (Nat.le_of_ble_eq_true rfl) ⟨⟨rfl, rfl⟩, ⟨Nat.le_of_ble_eq_true rfl, Nat.le_of_ble_eq_true rfl⟩, Nat.le_of_ble_eq_true rfl, Nat.le_of_ble_eq_true rfl⟩ dX1_retimeCaptions_88) (fun H locs S => ?_)
          refine lv_icmp_eq (tgt := 97) hx hb dX1_retimeCaptions_91 (by decide) (fun c27 => ?_) (fun c27 => ?_)
          · have hf := (if_pos c27).symm.trans hf
            cases hf
            exact J23 _ _ _ S (lv_sub hl [0, 1, 2, 3, 4, 5, 6, 7, 8] rfl)
          · have hf := (if_neg c27).symm.trans hf
            refine lv_iinc (v := (i9 + 1)) (lv' := [(3, .int (i9 + 1)), (8, .int v19), (7, .int v17), (6, .int i8), (5, .ref (ad v7)), (4, .int i1), (0, .ref (ad 20)), (1, .int a0), (2, .ref (ad a1))]) hx hb dX1_retimeCaptions_94 hl (k := 5) rfl rfl (by decide) rfl (fun ls hl => ?_)
            cases hf
            exact J23 _ _ _ S (lv_sub hl [1, 2, 3, 4, 5, 0, 6, 7, 8] rfl)
noncomputable def f_X1_retimeCaptions_l1 (σ : gSt) (a0 : Int32) (a1 : Nat) : Nat → Int32 → Int32 → gSt → Option (Int32 × gSt)
  | 0, _, _, _ => none
  | n + 1, i1, i2, σ3 => (if (2 : Int32) ≤ i1 then some (i2, σ3) else (g_k1 (f_X3_trackOf σ3 1 i1) fun v7 => (g_k2 (f_X1_retimeCaptions_l2 a0 a1 i1 σ3 v7 FU (0 : Int32) i2 σ3) fun r11 σ12 => (f_X1_retimeCaptions_l1 σ a0 a1 n (i1 + 1) r11 σ12))))
set_option maxRecDepth 100000 in
set_option maxHeartbeats 4000000 in
theorem w_X1_retimeCaptions_l1 {l : Launch} {Γ : gG} {ad : Nat → Nat} {N : Nat} {p : Program} {e : Env} {s : State} {m : MethodId} {args : Array Value} {below : List Frame} {meth : Method} {c : Code} {Q : State → Prop} (hN : 202 ≤ N) (X : gX celC Γ ad N RX1 cX1_retimeCaptions 9 (some .int) p s m args meth c) {σ : gSt} {a0 : Int32} {a1 : Nat} (ha1 : gkd a1 = 6) (ha16 : a1 < N) : ∀ (n : Nat) (i1 : Int32) (i2 : Int32) (σ3 : gSt) (r4 : Int32) (σ5 : gSt), f_X1_retimeCaptions_l1 σ a0 a1 n i1 i2 σ3 = some (r4, σ5) → (∀ (H : Heap) (locs : List Loc) (ls : Array Slot), gS celC Γ ad N σ5 s H locs → lv_has ls 9 [(3, .int r4)] → W p l e (gR 3 0 0) s m args below meth c H locs 0 0 (Q) (F0 m 120 ls [])) → ∀ (H : Heap) (locs : List Loc) (ls : Array Slot), gS celC Γ ad N σ3 s H locs → lv_has ls 9 [(4, .int i1), (3, .int i2), (0, .ref (ad 20)), (1, .int a0), (2, .ref (ad a1))] → W p l e (gR 3 0 0) s m args below meth c H locs 0 0 (Q) (F0 m 5 ls []) := by
  have hx := X.1
  have hb := X.2.1
  intro n
  induction n with
  | zero =>
    intro i1 i2 σ3 r4 σ5 hf
    cases hf
  | succ n ih =>
    intro i1 i2 σ3 r4 σ5 hf J H locs ls S hl
    rw [f_X1_retimeCaptions_l1] at hf
    refine lv_iload hx hb dX1_retimeCaptions_5 (lv_at hl 0 rfl) ?_
    refine lv_iconst (v := (2 : Int32)) hx hb dX1_retimeCaptions_7 (by decide) ?_
    refine lv_icmp_ge (tgt := 120) hx hb dX1_retimeCaptions_8 (by decide) (fun c6 => ?_) (fun c6 => ?_)
    · have hf := (if_pos c6).symm.trans hf
      cases hf
      exact J _ _ _ S (lv_sub hl [1] rfl)
    · have hf := (if_neg c6).symm.trans hf
      refine lv_aload_n hx hb dX1_retimeCaptions_11 rfl (lv_at hl 2 rfl) ?_
      refine gfX1_9 X S hN kd_s20 dX1_retimeCaptions_12 ?_
      refine lv_iload hx hb dX1_retimeCaptions_15 (lv_at hl 0 rfl) ?_
      obtain ⟨v7, hv7, hf⟩ := g_s1 hf
      refine g_kr S (g_runV (rest := []) X S (c_X3_trackOf l hN kd_s1 hv7 _) cvX3_trackOf mlX1_29 (kd_N kd_s1 (by decide) hN) (ceC_3 kd_s1 _) rfl rfl rfl hl.1 (Nat.le_of_ble_eq_true rfl) ⟨⟨rfl, rfl⟩, ⟨Nat.le_of_ble_eq_true rfl, Nat.le_of_ble_eq_true rfl⟩, Nat.le_of_ble_eq_true rfl, Nat.le_of_ble_eq_true rfl⟩ dX1_retimeCaptions_17) (fun H locs S => ?_)
      have hkv7 : gkd v7 = 8 := kr_X3_trackOf kd_s1 hv7
      refine lv_astore (lv' := [(5, .ref (ad v7)), (4, .int i1), (3, .int i2), (0, .ref (ad 20)), (1, .int a0), (2, .ref (ad a1))]) hx hb dX1_retimeCaptions_20 hl (by decide) rfl (fun ls hl => ?_)
      refine lv_iconst (v := (0 : Int32)) hx hb dX1_retimeCaptions_22 (by decide) ?_
      refine lv_istore (lv' := [(6, .int (0 : Int32)), (5, .ref (ad v7)), (4, .int i1), (3, .int i2), (0, .ref (ad 20)), (1, .int a0), (2, .ref (ad a1))]) hx hb dX1_retimeCaptions_23 hl (by decide) rfl (fun ls hl => ?_)
      obtain ⟨r11, σ12, hr28, hf⟩ := g_s2 hf
      refine w_X1_retimeCaptions_l2 hN X ha1 ha16 hkv7 FU _ _ _ _ _  hr28 (fun H locs ls S hl => ?_) _ _ _ S (lv_sub hl [0, 1, 2, 3, 4, 5, 6] rfl)
      refine lv_iinc (v := (i1 + 1)) (lv' := [(4, .int (i1 + 1)), (3, .int r11), (0, .ref (ad 20)), (1, .int a0), (2, .ref (ad a1))]) hx hb dX1_retimeCaptions_114 hl (k := 0) rfl rfl (by decide) rfl (fun ls hl => ?_)
      refine lv_goto (tgt := 5) hx hb dX1_retimeCaptions_117 (by decide) ?_
      exact ih _ _ _ _ _  hf J _ _ _ S (lv_sub hl [0, 1, 2, 3, 4] rfl)
noncomputable def f_X1_retimeCaptions (σ : gSt) (a0 : Int32) (a1 : Nat) : Option (Int32 × gSt) :=
  (g_k2 (f_X1_retimeCaptions_l1 σ a0 a1 FU (0 : Int32) (0 : Int32) σ) fun r4 σ5 => some (r4, σ5))
set_option maxRecDepth 100000 in
set_option maxHeartbeats 4000000 in
theorem c_X1_retimeCaptions (l : Launch) {Γ : gG} {ad : Nat → Nat} {N : Nat} (hN : 202 ≤ N) {σ : gSt} {a0 : Int32} {a1 : Nat} (ha1 : gkd a1 = 6) (ha16 : a1 < N) {r : Int32} {σ' : gSt} (hf : f_X1_retimeCaptions σ a0 a1 = some (r, σ')) : gMi l celC Γ ad N yX1_retimeCaptions cX1_retimeCaptions 9 (some .int) (gR 3 0 0) [.ref (ad 20), .int a0, .ref (ad a1)] σ r σ' := by
  intro sz
  refine gOf (Qc := fun sz => gQci celC Γ ad N r σ' sz) RX1 (by decide) rfl (Nat.le_of_ble_eq_true rfl) (fun p e s m args below meth c H locs ls X S hl => ?_)
  have hl : lv_has ls 9 [(0, .ref (ad 20)), (1, .int a0), (2, .ref (ad a1))] := hl
  have hx := X.1
  have hb := X.2.1
  unfold f_X1_retimeCaptions at hf
  refine lv_iconst (v := (0 : Int32)) hx hb dX1_retimeCaptions_0 (by decide) ?_
  refine lv_istore_n (lv' := [(3, .int (0 : Int32)), (0, .ref (ad 20)), (1, .int a0), (2, .ref (ad a1))]) hx hb dX1_retimeCaptions_1 rfl hl (by decide) rfl (fun ls hl => ?_)
  refine lv_iconst (v := (0 : Int32)) hx hb dX1_retimeCaptions_2 (by decide) ?_
  refine lv_istore (lv' := [(4, .int (0 : Int32)), (3, .int (0 : Int32)), (0, .ref (ad 20)), (1, .int a0), (2, .ref (ad a1))]) hx hb dX1_retimeCaptions_3 hl (by decide) rfl (fun ls hl => ?_)
  obtain ⟨r4, σ5, hr29, hf⟩ := g_s2 hf
  refine w_X1_retimeCaptions_l1 hN X ha1 ha16 FU _ _ _ _ _  hr29 (fun H locs ls S hl => ?_) _ _ _ S (lv_sub hl [0, 1, 2, 3, 4] rfl)
  refine lv_iload_n hx hb dX1_retimeCaptions_120 rfl (lv_at hl 0 rfl) ?_
  cases hf
  exact g_reti X S rfl dX1_retimeCaptions_121

