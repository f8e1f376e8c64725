noncomputable def f_X8_copyRow (σ : gSt) (k : Nat) (a0 : Int32) (a1 : Int32) : Option (gSt) :=
  (g_k1 (f_X8_isRow σ a0) fun v1 => (if v1 = 0 then some σ else (g_k1 (f_X8_isRow σ a1) fun v3 => (if v3 = 0 then some σ else (g_k1 (gald σ (k + 1) 16 a0) fun v5 => (g_k1 (gast σ (k + 1) 16 a1 v5) fun σ6 => (g_k1 (gald σ6 (k + 2) 16 a0) fun v7 => (g_k1 (gast σ6 (k + 2) 16 a1 v7) fun σ8 => (g_k1 (gald σ8 (k + 3) 16 a0) fun v9 => (g_k1 (gast σ8 (k + 3) 16 a1 v9) fun σ10 => (g_k1 (gald σ10 (k + 4) 16 a0) fun v11 => (g_k1 (gast σ10 (k + 4) 16 a1 v11) fun σ12 => (g_k1 (gcpy σ12 (k + 5) 384 (k + 5) 384 (a0 * (24 : Int32)) (a1 * (24 : Int32)) (24 : Int32)) fun σ13 => some σ13)))))))))))))
set_option maxRecDepth 100000 in
set_option maxHeartbeats 4000000 in
theorem c_X8_copyRow (l : Launch) {Γ : gG} {ad : Nat → Nat} {N : Nat} (hN : 202 ≤ N) {σ : gSt} {k : Nat} {a0 : Int32} {a1 : Int32} (hk : gkd k = 8) {σ' : gSt} (hf : f_X8_copyRow σ k a0 a1 = some σ') : gMv l celC Γ ad N yX8_copyRow cX8_copyRow 3 none (gR 2 0 0) [.ref (ad k), .int a0, .int a1] σ σ' := by
  intro sz
  refine gOf (Qc := fun sz => gQcv celC Γ ad N σ' sz) RX8 (by decide) rfl (Nat.le_of_ble_eq_true rfl) (fun p e s m args below meth c H locs ls X S hl => ?_)
  have hl : lv_has ls 3 [(0, .ref (ad k)), (1, .int a0), (2, .int a1)] := hl
  have hx := X.1
  have hb := X.2.1
  unfold f_X8_copyRow at hf
  refine lv_iload_n hx hb dX8_copyRow_0 rfl (lv_at hl 1 rfl) ?_
  obtain ⟨v1, hv1, hf⟩ := g_s1 hf
  refine g_ki S (g_runS (rest := []) X S (c_X8_isRow l hN  hv1 _) csX8_isRow mlX8_85 rfl rfl hl.1 (Nat.le_of_ble_eq_true rfl) ⟨⟨rfl, rfl⟩, ⟨Nat.le_of_ble_eq_true rfl, Nat.le_of_ble_eq_true rfl⟩, Nat.le_of_ble_eq_true rfl, Nat.le_of_ble_eq_true rfl⟩ dX8_copyRow_1) (fun H locs S => ?_)
  refine lv_if_eq (tgt := 14) hx hb dX8_copyRow_4 (by decide) (fun c2 => ?_) (fun c2 => ?_)
  · have hf := (if_pos c2).symm.trans hf
    cases hf
    exact g_retv X S dX8_copyRow_14
  · have hf := (if_neg c2).symm.trans hf
    refine lv_iload_n hx hb dX8_copyRow_7 rfl (lv_at hl 2 rfl) ?_
    obtain ⟨v3, hv3, hf⟩ := g_s1 hf
    refine g_ki S (g_runS (rest := []) X S (c_X8_isRow l hN  hv3 _) csX8_isRow mlX8_85 rfl rfl hl.1 (Nat.le_of_ble_eq_true rfl) ⟨⟨rfl, rfl⟩, ⟨Nat.le_of_ble_eq_true rfl, Nat.le_of_ble_eq_true rfl⟩, Nat.le_of_ble_eq_true rfl, Nat.le_of_ble_eq_true rfl⟩ dX8_copyRow_8) (fun H locs S => ?_)
    refine lv_if_ne (tgt := 15) hx hb dX8_copyRow_11 (by decide) (fun c4 => ?_) (fun c4 => ?_)
    · have hf := (if_neg c4).symm.trans hf
      refine lv_aload_n hx hb dX8_copyRow_15 rfl (lv_at hl 0 rfl) ?_
      refine gfX8_9 X S hN hk dX8_copyRow_16 ?_
      refine lv_iload_n hx hb dX8_copyRow_19 rfl (lv_at hl 2 rfl) ?_
      refine lv_aload_n hx hb dX8_copyRow_20 rfl (lv_at hl 0 rfl) ?_
      refine gfX8_9 X S hN hk dX8_copyRow_21 ?_
      refine lv_iload_n hx hb dX8_copyRow_24 rfl (lv_at hl 1 rfl) ?_
      obtain ⟨v5, hv5, hf⟩ := g_s1 hf
      refine g_iald X S (kd_N (kd_8_1 hk) (by decide) hN) (ceC_116 (kd_8_1 hk)) hv5 dX8_copyRow_25 ?_
      obtain ⟨σ6, hσ6, hf⟩ := g_s1 hf
      refine g_iast X S (kd_N (kd_8_1 hk) (by decide) hN) (ceC_116 (kd_8_1 hk)) hσ6 dX8_copyRow_26 (fun H locs S => ?_)
      refine lv_aload_n hx hb dX8_copyRow_27 rfl (lv_at hl 0 rfl) ?_
      refine gfX8_15 X S hN hk dX8_copyRow_28 ?_
      refine lv_iload_n hx hb dX8_copyRow_31 rfl (lv_at hl 2 rfl) ?_
      refine lv_aload_n hx hb dX8_copyRow_32 rfl (lv_at hl 0 rfl) ?_
      refine gfX8_15 X S hN hk dX8_copyRow_33 ?_
      refine lv_iload_n hx hb dX8_copyRow_36 rfl (lv_at hl 1 rfl) ?_
      obtain ⟨v7, hv7, hf⟩ := g_s1 hf
      refine g_iald X S (kd_N (kd_8_2 hk) (by decide) hN) (ceC_116 (kd_8_2 hk)) hv7 dX8_copyRow_37 ?_
      obtain ⟨σ8, hσ8, hf⟩ := g_s1 hf
      refine g_iast X S (kd_N (kd_8_2 hk) (by decide) hN) (ceC_116 (kd_8_2 hk)) hσ8 dX8_copyRow_38 (fun H locs S => ?_)
      refine lv_aload_n hx hb dX8_copyRow_39 rfl (lv_at hl 0 rfl) ?_
      refine gfX8_18 X S hN hk dX8_copyRow_40 ?_
      refine lv_iload_n hx hb dX8_copyRow_43 rfl (lv_at hl 2 rfl) ?_
      refine lv_aload_n hx hb dX8_copyRow_44 rfl (lv_at hl 0 rfl) ?_
      refine gfX8_18 X S hN hk dX8_copyRow_45 ?_
      refine lv_iload_n hx hb dX8_copyRow_48 rfl (lv_at hl 1 rfl) ?_
      obtain ⟨v9, hv9, hf⟩ := g_s1 hf
      refine g_iald X S (kd_N (kd_8_3 hk) (by decide) hN) (ceC_116 (kd_8_3 hk)) hv9 dX8_copyRow_49 ?_
      obtain ⟨σ10, hσ10, hf⟩ := g_s1 hf
      refine g_iast X S (kd_N (kd_8_3 hk) (by decide) hN) (ceC_116 (kd_8_3 hk)) hσ10 dX8_copyRow_50 (fun H locs S => ?_)
      refine lv_aload_n hx hb dX8_copyRow_51 rfl (lv_at hl 0 rfl) ?_
      refine gfX8_21 X S hN hk dX8_copyRow_52 ?_
      refine lv_iload_n hx hb dX8_copyRow_55 rfl (lv_at hl 2 rfl) ?_
      refine lv_aload_n hx hb dX8_copyRow_56 rfl (lv_at hl 0 rfl) ?_
      refine gfX8_21 X S hN hk dX8_copyRow_57 ?_
      refine lv_iload_n hx hb dX8_copyRow_60 rfl (lv_at hl 1 rfl) ?_
      obtain ⟨v11, hv11, hf⟩ := g_s1 hf
      refine g_iald X S (kd_N (kd_8_4 hk) (by decide) hN) (ceC_116 (kd_8_4 hk)) hv11 dX8_copyRow_61 ?_
      obtain ⟨σ12, hσ12, hf⟩ := g_s1 hf
      refine g_iast X S (kd_N (kd_8_4 hk) (by decide) hN) (ceC_116 (kd_8_4 hk)) hσ12 dX8_copyRow_62 (fun H locs S => ?_)
      refine lv_aload_n hx hb dX8_copyRow_63 rfl (lv_at hl 0 rfl) ?_
      refine gfX8_24 X S hN hk dX8_copyRow_64 ?_
      refine lv_iload_n hx hb dX8_copyRow_67 rfl (lv_at hl 1 rfl) ?_
      refine lv_bipush (v := (24 : Int32)) hx hb dX8_copyRow_68 (by decide) ?_
      refine lv_imul hx hb dX8_copyRow_70 ?_
      refine lv_aload_n hx hb dX8_copyRow_71 rfl (lv_at hl 0 rfl) ?_
      refine gfX8_24 X S hN hk dX8_copyRow_72 ?_
      refine lv_iload_n hx hb dX8_copyRow_75 rfl (lv_at hl 2 rfl) ?_
      refine lv_bipush (v := (24 : Int32)) hx hb dX8_copyRow_76 (by decide) ?_
      refine lv_imul hx hb dX8_copyRow_78 ?_
      refine lv_bipush (v := (24 : Int32)) hx hb dX8_copyRow_79 (by decide) ?_
      obtain ⟨σ13, hσ13, hf⟩ := g_s1 hf
      refine g_copy X S hl.1 mlX8_31 wac_n wac_s wac_i (kd_N (kd_8_5 hk) (by decide) hN) (kd_N (kd_8_5 hk) (by decide) hN) (ceC_484 (kd_8_5 hk)) (ceC_484 (kd_8_5 hk)) hσ13 (by decide) (Nat.le_of_ble_eq_true rfl) dX8_copyRow_81 (fun H locs S => ?_)
      cases hf
      exact g_retv X S dX8_copyRow_84
    · have hf := (if_pos c4).symm.trans hf
      cases hf
      exact g_retv X S dX8_copyRow_14

noncomputable def f_X8_closeRow_l1 (σ : gSt) (k : Nat) : Nat → Int32 → gSt → Option (gSt)
  | 0, _, _ => none
  | n + 1, i3, σ4 => (if (σ4 k 5) ≤ i3 then some σ4 else (g_k1 (f_X8_copyRow σ4 k i3 (i3 - (1 : Int32))) fun σ7 => (f_X8_closeRow_l1 σ k n (i3 + 1) σ7)))
set_option maxRecDepth 100000 in
set_option maxHeartbeats 4000000 in
theorem w_X8_closeRow_l1 {l : Launch} {Γ : gG} {ad : Nat → Nat} {N : Nat} {p : Program} {e : Env} {s : State} {m : MethodId} {args : Array Value} {below : List Frame} {meth : Method} {c : Code} {Q : State → Prop} (hN : 202 ≤ N) (X : gX celC Γ ad N RX8 cX8_closeRow 3 none p s m args meth c) {σ : gSt} {k : Nat} (hk : gkd k = 8) : ∀ (n : Nat) (i3 : Int32) (σ4 : gSt) (σ5 : gSt), f_X8_closeRow_l1 σ k n i3 σ4 = some σ5 → (∀ (H : Heap) (locs : List Loc) (ls : Array Slot), gS celC Γ ad N σ5 s H locs → lv_has ls 3 [(0, .ref (ad k))] → W p l e (gR 3 0 0) s m args below meth c H locs 0 0 (Q) (F0 m 35 ls [])) → ∀ (H : Heap) (locs : List Loc) (ls : Array Slot), gS celC Γ ad N σ4 s H locs → lv_has ls 3 [(2, .int i3), (0, .ref (ad k))] → W p l e (gR 3 0 0) s m args below meth c H locs 0 0 (Q) (F0 m 13 ls []) := by
  have hx := X.1
  have hb := X.2.1
  intro n
  induction n with
  | zero =>
    intro i3 σ4 σ5 hf
    cases hf
  | succ n ih =>
    intro i3 σ4 σ5 hf J H locs ls S hl
    rw [f_X8_closeRow_l1] at hf
    refine lv_iload_n hx hb dX8_closeRow_13 rfl (lv_at hl 0 rfl) ?_
    refine lv_aload_n hx hb dX8_closeRow_14 rfl (lv_at hl 1 rfl) ?_
    refine gfX8_27 X S hN hk dX8_closeRow_15 ?_
    refine lv_icmp_ge (tgt := 35) hx hb dX8_closeRow_18 (by decide) (fun c6 => ?_) (fun c6 => ?_)
    · have hf := (if_pos c6).symm.trans hf
      cases hf
      exact J _ _ _ S (lv_sub hl [1] rfl)
    · have hf := (if_neg c6).symm.trans hf
      refine lv_aload_n hx hb dX8_closeRow_21 rfl (lv_at hl 1 rfl) ?_
      refine lv_iload_n hx hb dX8_closeRow_22 rfl (lv_at hl 0 rfl) ?_
      refine lv_iload_n hx hb dX8_closeRow_23 rfl (lv_at hl 0 rfl) ?_
      refine lv_iconst (v := (1 : Int32)) hx hb dX8_closeRow_24 (by decide) ?_
      refine lv_isub hx hb dX8_closeRow_25 ?_
      obtain ⟨σ7, hσ7, hf⟩ := g_s1 hf
      refine g_kv S (g_runV (rest := []) X S (c_X8_copyRow l hN hk hσ7 _) cvX8_copyRow mlX8_88 (kd_N hk (by decide) hN) (ceC_8 hk _) rfl rfl rfl hl.1 (Nat.le_of_ble_eq_true rfl) ⟨⟨rfl, rfl⟩, ⟨Nat.le_of_ble_eq_true rfl, Nat.le_of_ble_eq_true rfl⟩, Nat.le_of_ble_eq_true rfl, Nat.le_of_ble_eq_true rfl⟩ dX8_closeRow_26) (fun H locs S => ?_)
      refine lv_iinc (v := (i3 + 1)) (lv' := [(2, .int (i3 + 1)), (0, .ref (ad k))]) hx hb dX8_closeRow_29 hl (k := 0) rfl rfl (by decide) rfl (fun ls hl => ?_)
      refine lv_goto (tgt := 13) hx hb dX8_closeRow_32 (by decide) ?_
      exact ih _ _ _  hf J _ _ _ S (lv_sub hl [0, 1] rfl)
noncomputable def f_X8_closeRow (σ : gSt) (k : Nat) (a0 : Int32) : Option (gSt) :=
  (g_k1 (f_X8_has σ k a0) fun v1 => (if v1 = 0 then some σ else (g_k1 (f_X8_closeRow_l1 σ k FU (a0 + (1 : Int32)) σ) fun σ5 => (g_k1 (gset σ5 k 5 ((σ5 k 5) - (1 : Int32))) fun σ9 => some σ9))))
set_option maxRecDepth 100000 in
set_option maxHeartbeats 4000000 in
theorem c_X8_closeRow (l : Launch) {Γ : gG} {ad : Nat → Nat} {N : Nat} (hN : 202 ≤ N) {σ : gSt} {k : Nat} {a0 : Int32} (hk : gkd k = 8) {σ' : gSt} (hf : f_X8_closeRow σ k a0 = some σ') : gMv l celC Γ ad N yX8_closeRow cX8_closeRow 3 none (gR 3 0 0) [.ref (ad k), .int a0] σ σ' := by
  intro sz
  refine gOf (Qc := fun sz => gQcv celC Γ ad N σ' sz) RX8 (by decide) rfl (Nat.le_of_ble_eq_true rfl) (fun p e s m args below meth c H locs ls X S hl => ?_)
  have hl : lv_has ls 3 [(0, .ref (ad k)), (1, .int a0)] := hl
  have hx := X.1
  have hb := X.2.1
  unfold f_X8_closeRow at hf
  refine lv_aload_n hx hb dX8_closeRow_0 rfl (lv_at hl 0 rfl) ?_
  refine lv_iload_n hx hb dX8_closeRow_1 rfl (lv_at hl 1 rfl) ?_
  obtain ⟨v1, hv1, hf⟩ := g_s1 hf
  refine g_ki S (g_runV (rest := []) X S (c_X8_has l hN hk hv1 _) cvX8_has mlX8_37 (kd_N hk (by decide) hN) (ceC_8 hk _) rfl rfl rfl hl.1 (Nat.le_of_ble_eq_true rfl) ⟨⟨rfl, rfl⟩, ⟨Nat.le_of_ble_eq_true rfl, Nat.le_of_ble_eq_true rfl⟩, Nat.le_of_ble_eq_true rfl, Nat.le_of_ble_eq_true rfl⟩ dX8_closeRow_2) (fun H locs S => ?_)
  refine lv_if_ne (tgt := 9) hx hb dX8_closeRow_5 (by decide) (fun c2 => ?_) (fun c2 => ?_)
  · have hf := (if_neg c2).symm.trans hf
    refine lv_iload_n hx hb dX8_closeRow_9 rfl (lv_at hl 1 rfl) ?_
    refine lv_iconst (v := (1 : Int32)) hx hb dX8_closeRow_10 (by decide) ?_
    refine lv_iadd hx hb dX8_closeRow_11 ?_
    refine lv_istore_n (lv' := [(2, .int (a0 + (1 : Int32))), (0, .ref (ad k)), (1, .int a0)]) hx hb dX8_closeRow_12 rfl hl (by decide) rfl (fun ls hl => ?_)
    obtain ⟨σ5, hr8, hf⟩ := g_s1 hf
    refine w_X8_closeRow_l1 hN X hk FU _ _ _  hr8 (fun H locs ls S hl => ?_) _ _ _ S (lv_sub hl [0, 1] rfl)
    refine lv_aload_n hx hb dX8_closeRow_35 rfl (lv_at hl 0 rfl) ?_
    refine lv_dup hx hb dX8_closeRow_36 rfl ?_
    refine gfX8_27 X S hN hk dX8_closeRow_37 ?_
    refine lv_iconst (v := (1 : Int32)) hx hb dX8_closeRow_40 (by decide) ?_
    refine lv_isub hx hb dX8_closeRow_41 ?_
    obtain ⟨σ9, hσ9, hf⟩ := g_s1 hf
    refine pfX8_27 X S hN hk hσ9 dX8_closeRow_42 (fun H locs S => ?_)
    cases hf
    exact g_retv X S dX8_closeRow_45
  · have hf := (if_pos c2).symm.trans hf
    cases hf
    exact g_retv X S dX8_closeRow_8

noncomputable def f_X8_first (σ : gSt) (k : Nat) (a0 : Int32) : Option (Int32) :=
  (g_k1 (f_X8_has σ k a0) fun v1 => (g_k1 (if v1 = 0 then some (0 : Int32) else (g_k1 (gald σ (k + 1) 16 a0) fun v6 => some v6)) fun x2 => some x2))
set_option maxRecDepth 100000 in
set_option maxHeartbeats 4000000 in
theorem c_X8_first (l : Launch) {Γ : gG} {ad : Nat → Nat} {N : Nat} (hN : 202 ≤ N) {σ : gSt} {k : Nat} {a0 : Int32} (hk : gkd k = 8) {r : Int32} (hf : f_X8_first σ k a0 = some r) : gMi l celC Γ ad N yX8_first cX8_first 2 (some .int) (gR 2 0 0) [.ref (ad k), .int a0] σ r σ := by
  intro sz
  refine gOf (Qc := fun sz => gQci celC Γ ad N r σ sz) RX8 (by decide) rfl (Nat.le_of_ble_eq_true rfl) (fun p e s m args below meth c H locs ls X S hl => ?_)
  have hl : lv_has ls 2 [(0, .ref (ad k)), (1, .int a0)] := hl
  have hx := X.1
  have hb := X.2.1
  unfold f_X8_first at hf
  refine lv_aload_n hx hb dX8_first_0 rfl (lv_at hl 0 rfl) ?_
  refine lv_iload_n hx hb dX8_first_1 rfl (lv_at hl 1 rfl) ?_
  obtain ⟨v1, hv1, hf⟩ := g_s1 hf
  refine g_ki S (g_runV (rest := []) X S (c_X8_has l hN hk hv1 _) cvX8_has mlX8_37 (kd_N hk (by decide) hN) (ceC_8 hk _) rfl rfl rfl hl.1 (Nat.le_of_ble_eq_true rfl) ⟨⟨rfl, rfl⟩, ⟨Nat.le_of_ble_eq_true rfl, Nat.le_of_ble_eq_true rfl⟩, Nat.le_of_ble_eq_true rfl, Nat.le_of_ble_eq_true rfl⟩ dX8_first_2) (fun H locs S => ?_)
  obtain ⟨x2, hr3, hf⟩ := g_s1 hf
  have J4 : ∀ (H : Heap) (locs : List Loc) (ls : Array Slot), gS celC Γ ad N σ s H locs → lv_has ls 2 [] → W p l e (gR 2 0 0) s m args below meth c H locs 0 0 (gQi celC Γ ad N r σ below args s) (F0 m 18 ls [.int x2]) := by
    intro H locs ls S hl
    cases hf
    exact g_reti X S rfl dX8_first_18
  replace hf := hr3
  refine lv_if_eq (tgt := 17) hx hb dX8_first_5 (by decide) (fun c5 => ?_) (fun c5 => ?_)
  · have hf := (if_pos c5).symm.trans hf
    refine lv_iconst (v := (0 : Int32)) hx hb dX8_first_17 (by decide) ?_
    cases hf
    exact J4 _ _ _ S (lv_sub hl [] rfl)
  · have hf := (if_neg c5).symm.trans hf
    refine lv_aload_n hx hb dX8_first_8 rfl (lv_at hl 0 rfl) ?_
    refine gfX8_9 X S hN hk dX8_first_9 ?_
    refine lv_iload_n hx hb dX8_first_12 rfl (lv_at hl 1 rfl) ?_
    obtain ⟨v6, hv6, hf⟩ := g_s1 hf
    refine g_iald X S (kd_N (kd_8_1 hk) (by decide) hN) (ceC_116 (kd_8_1 hk)) hv6 dX8_first_13 ?_
    refine lv_goto (tgt := 18) hx hb dX8_first_14 (by decide) ?_
    cases hf
    exact J4 _ _ _ S (lv_sub hl [] rfl)

noncomputable def f_X8_setFrames (σ : gSt) (k : Nat) (a0 : Int32) (a1 : Int32) (a2 : Int32) : Option (gSt) :=
  (g_k1 (f_X8_has σ k a0) fun v1 => (g_k1 (if v1 = 0 then some σ else (g_k1 (gast σ (k + 1) 16 a0 a1) fun σ6 => (g_k1 (gast σ6 (k + 2) 16 a0 a2) fun σ7 => some σ7))) fun σ2 => some σ2))
set_option maxRecDepth 100000 in
set_option maxHeartbeats 4000000 in
theorem c_X8_setFrames (l : Launch) {Γ : gG} {ad : Nat → Nat} {N : Nat} (hN : 202 ≤ N) {σ : gSt} {k : Nat} {a0 : Int32} {a1 : Int32} {a2 : Int32} (hk : gkd k = 8) {σ' : gSt} (hf : f_X8_setFrames σ k a0 a1 a2 = some σ') : gMv l celC Γ ad N yX8_setFrames cX8_setFrames 4 none (gR 2 0 0) [.ref (ad k), .int a0, .int a1, .int a2] σ σ' := by
  intro sz
  refine gOf (Qc := fun sz => gQcv celC Γ ad N σ' sz) RX8 (by decide) rfl (Nat.le_of_ble_eq_true rfl) (fun p e s m args below meth c H locs ls X S hl => ?_)
  have hl : lv_has ls 4 [(0, .ref (ad k)), (1, .int a0), (2, .int a1), (3, .int a2)] := hl
  have hx := X.1
  have hb := X.2.1
  unfold f_X8_setFrames at hf
  refine lv_aload_n hx hb dX8_setFrames_0 rfl (lv_at hl 0 rfl) ?_
  refine lv_iload_n hx hb dX8_setFrames_1 rfl (lv_at hl 1 rfl) ?_
  obtain ⟨v1, hv1, hf⟩ := g_s1 hf
  refine g_ki S (g_runV (rest := []) X S (c_X8_has l hN hk hv1 _) cvX8_has mlX8_37 (kd_N hk (by decide) hN) (ceC_8 hk _) rfl rfl rfl hl.1 (Nat.le_of_ble_eq_true rfl) ⟨⟨rfl, rfl⟩, ⟨Nat.le_of_ble_eq_true rfl, Nat.le_of_ble_eq_true rfl⟩, Nat.le_of_ble_eq_true rfl, Nat.le_of_ble_eq_true rfl⟩ dX8_setFrames_2) (fun H locs S => ?_)
  obtain ⟨σ2, hr3, hf⟩ := g_s1 hf
  have J4 : ∀ (H : Heap) (locs : List Loc) (ls : Array Slot), gS celC Γ ad N σ2 s H locs → lv_has ls 4 [] → W p l e (gR 2 0 0) s m args below meth c H locs 0 0 (gQv celC Γ ad N σ' below args s) (F0 m 22 ls []) := by
    intro H locs ls S hl
    cases hf
    exact g_retv X S dX8_setFrames_22
  replace hf := hr3
  refine lv_if_eq (tgt := 22) hx hb dX8_setFrames_5 (by decide) (fun c5 => ?_) (fun c5 => ?_)
  · have hf := (if_pos c5).symm.trans hf
    cases hf
    exact J4 _ _ _ S (lv_sub hl [] rfl)
  · have hf := (if_neg c5).symm.trans hf
    refine lv_aload_n hx hb dX8_setFrames_8 rfl (lv_at hl 0 rfl) ?_
    refine gfX8_9 X S hN hk dX8_setFrames_9 ?_
    refine lv_iload_n hx hb dX8_setFrames_12 rfl (lv_at hl 1 rfl) ?_
    refine lv_iload_n hx hb dX8_setFrames_13 rfl (lv_at hl 2 rfl) ?_
    obtain ⟨σ6, hσ6, hf⟩ := g_s1 hf
    refine g_iast X S (kd_N (kd_8_1 hk) (by decide) hN) (ceC_116 (kd_8_1 hk)) hσ6 dX8_setFrames_14 (fun H locs S => ?_)
    refine lv_aload_n hx hb dX8_setFrames_15 rfl (lv_at hl 0 rfl) ?_
    refine gfX8_15 X S hN hk dX8_setFrames_16 ?_
    refine lv_iload_n hx hb dX8_setFrames_19 rfl (lv_at hl 1 rfl) ?_
    refine lv_iload_n hx hb dX8_setFrames_20 rfl (lv_at hl 3 rfl) ?_
    obtain ⟨σ7, hσ7, hf⟩ := g_s1 hf
    refine g_iast X S (kd_N (kd_8_2 hk) (by decide) hN) (ceC_116 (kd_8_2 hk)) hσ7 dX8_setFrames_21 (fun H locs S => ?_)
    cases hf
    exact J4 _ _ _ S (lv_sub hl [] rfl)

noncomputable def f_X7_signAt (σ : gSt) (k : Nat) (a0 : Int32) : Option (Int32) :=
  (g_k1 (if a0 < 0 then some (-1 : Int32) else (if (σ k 1) ≤ a0 then some (-1 : Int32) else (if (60 : Int32) ≤ a0 then some (-1 : Int32) else (g_k1 (gald σ (k + 1) 60 a0) fun v7 => some v7)))) fun x1 => some x1)
set_option maxRecDepth 100000 in
set_option maxHeartbeats 4000000 in
theorem c_X7_signAt (l : Launch) {Γ : gG} {ad : Nat → Nat} {N : Nat} (hN : 202 ≤ N) {σ : gSt} {k : Nat} {a0 : Int32} (hk : gkd k = 7) {r : Int32} (hf : f_X7_signAt σ k a0 = some r) : gMi l celC Γ ad N yX7_signAt cX7_signAt 2 (some .int) (gR 1 0 0) [.ref (ad k), .int a0] σ r σ := by
  intro sz
  refine gOf (Qc := fun sz => gQci celC Γ ad N r σ sz) RX7 (by decide) rfl (Nat.le_of_ble_eq_true rfl) (fun p e s m args below meth c H locs ls X S hl => ?_)
  have hl : lv_has ls 2 [(0, .ref (ad k)), (1, .int a0)] := hl
  have hx := X.1
  have hb := X.2.1
  unfold f_X7_signAt at hf
  refine lv_iload_n hx hb dX7_signAt_0 rfl (lv_at hl 1 rfl) ?_
  obtain ⟨x1, hr2, hf⟩ := g_s1 hf
  have J3 : ∀ (H : Heap) (locs : List Loc) (ls : Array Slot), gS celC Γ ad N σ s H locs → lv_has ls 2 [] → W p l e (gR 1 0 0) s m args below meth c H locs 0 0 (gQi celC Γ ad N r σ below args s) (F0 m 31 ls [.int x1]) := by
    intro H locs ls S hl
    cases hf
    exact g_reti X S rfl dX7_signAt_31
  replace hf := hr2
  refine lv_if_lt (tgt := 30) hx hb dX7_signAt_1 (by decide) (fun c4 => ?_) (fun c4 => ?_)
  · have hf := (if_pos c4).symm.trans hf
    refine lv_iconst (v := (-1 : Int32)) hx hb dX7_signAt_30 (by decide) ?_
    cases hf
    exact J3 _ _ _ S (lv_sub hl [] rfl)
  · have hf := (if_neg c4).symm.trans hf
    refine lv_iload_n hx hb dX7_signAt_4 rfl (lv_at hl 1 rfl) ?_
    refine lv_aload_n hx hb dX7_signAt_5 rfl (lv_at hl 0 rfl) ?_
    refine gfX7_15 X S hN hk dX7_signAt_6 ?_
    refine lv_icmp_ge (tgt := 30) hx hb dX7_signAt_9 (by decide) (fun c5 => ?_) (fun c5 => ?_)
    · have hf := (if_pos c5).symm.trans hf
      refine lv_iconst (v := (-1 : Int32)) hx hb dX7_signAt_30 (by decide) ?_
      cases hf
      exact J3 _ _ _ S (lv_sub hl [] rfl)
    · have hf := (if_neg c5).symm.trans hf
      refine lv_iload_n hx hb dX7_signAt_12 rfl (lv_at hl 1 rfl) ?_
      refine lv_aload_n hx hb dX7_signAt_13 rfl (lv_at hl 0 rfl) ?_
      refine gfX7_9 X S hN hk dX7_signAt_14 ?_
      refine g_alen (v := (60 : Int32)) X S (kd_N (kd_7_1 hk) (by decide) hN) (ceC_160 (kd_7_1 hk)) (by decide) dX7_signAt_17 ?_
      refine lv_icmp_ge (tgt := 30) hx hb dX7_signAt_18 (by decide) (fun c6 => ?_) (fun c6 => ?_)
      · have hf := (if_pos c6).symm.trans hf
        refine lv_iconst (v := (-1 : Int32)) hx hb dX7_signAt_30 (by decide) ?_
        cases hf
        exact J3 _ _ _ S (lv_sub hl [] rfl)
      · have hf := (if_neg c6).symm.trans hf
        refine lv_aload_n hx hb dX7_signAt_21 rfl (lv_at hl 0 rfl) ?_
        refine gfX7_9 X S hN hk dX7_signAt_22 ?_
        refine lv_iload_n hx hb dX7_signAt_25 rfl (lv_at hl 1 rfl) ?_
        obtain ⟨v7, hv7, hf⟩ := g_s1 hf
        refine g_iald X S (kd_N (kd_7_1 hk) (by decide) hN) (ceC_160 (kd_7_1 hk)) hv7 dX7_signAt_26 ?_
        refine lv_goto (tgt := 31) hx hb dX7_signAt_27 (by decide) ?_
        cases hf
        exact J3 _ _ _ S (lv_sub hl [] rfl)

noncomputable def f_X8_setText_l1 (k : Nat) (a0 : Int32) (a1 : Nat) (σ4 : gSt) : Nat → Int32 → gSt → Option (gSt)
  | 0, _, _ => none
  | n + 1, i5, σ6 => (g_k1 (gald σ6 (k + 4) 16 a0) fun v8 => (if v8 ≤ i5 then some σ6 else (if (24 : Int32) ≤ i5 then some σ6 else (g_k1 (f_X7_signAt σ6 a1 i5) fun v11 => (g_k1 (gast σ6 (k + 5) 384 ((a0 * (24 : Int32)) + i5) v11) fun σ12 => (f_X8_setText_l1 k a0 a1 σ4 n (i5 + 1) σ12))))))
set_option maxRecDepth 100000 in
set_option maxHeartbeats 4000000 in
theorem w_X8_setText_l1 {l : Launch} {Γ : gG} {ad : Nat → Nat} {N : Nat} {p : Program} {e : Env} {s : State} {m : MethodId} {args : Array Value} {below : List Frame} {meth : Method} {c : Code} {Q : State → Prop} (hN : 202 ≤ N) (X : gX celC Γ ad N RX8 cX8_setText 4 none p s m args meth c) {k : Nat} {a0 : Int32} {a1 : Nat} {σ4 : gSt} (hk : gkd k = 8) (ha1 : gkd a1 = 7) : ∀ (n : Nat) (i5 : Int32) (σ6 : gSt) (σ7 : gSt), f_X8_setText_l1 k a0 a1 σ4 n i5 σ6 = some σ7 → (∀ (H : Heap) (locs : List Loc) (ls : Array Slot), gS celC Γ ad N σ7 s H locs → lv_has ls 4 [] → W p l e (gR 2 0 0) s m args below meth c H locs 0 0 (Q) (F0 m 64 ls [])) → ∀ (H : Heap) (locs : List Loc) (ls : Array Slot), gS celC Γ ad N σ6 s H locs → lv_has ls 4 [(3, .int i5), (0, .ref (ad k)), (1, .int a0), (2, .ref (ad a1))] → W p l e (gR 2 0 0) s m args below meth c H locs 0 0 (Q) (F0 m 26 ls []) := by
  have hx := X.1
  have hb := X.2.1
  intro n
  induction n with
  | zero =>
    intro i5 σ6 σ7 hf
    cases hf
  | succ n ih =>
    intro i5 σ6 σ7 hf J H locs ls S hl
    rw [f_X8_setText_l1] at hf
    refine lv_iload_n hx hb dX8_setText_26 rfl (lv_at hl 0 rfl) ?_
    refine lv_aload_n hx hb dX8_setText_27 rfl (lv_at hl 1 rfl) ?_
    refine gfX8_21 X S hN hk dX8_setText_28 ?_
    refine lv_iload_n hx hb dX8_setText_31 rfl (lv_at hl 2 rfl) ?_
    obtain ⟨v8, hv8, hf⟩ := g_s1 hf
    refine g_iald X S (kd_N (kd_8_4 hk) (by decide) hN) (ceC_116 (kd_8_4 hk)) hv8 dX8_setText_32 ?_
    refine lv_icmp_ge (tgt := 64) hx hb dX8_setText_33 (by decide) (fun c9 => ?_) (fun c9 => ?_)
    · have hf := (if_pos c9).symm.trans hf
      cases hf
      exact J _ _ _ S (lv_sub hl [] rfl)
    · have hf := (if_neg c9).symm.trans hf
      refine lv_iload_n hx hb dX8_setText_36 rfl (lv_at hl 0 rfl) ?_
      refine lv_bipush (v := (24 : Int32)) hx hb dX8_setText_37 (by decide) ?_
      refine lv_icmp_ge (tgt := 64) hx hb dX8_setText_39 (by decide) (fun c10 => ?_) (fun c10 => ?_)
      · have hf := (if_pos c10).symm.trans hf
        cases hf
        exact J _ _ _ S (lv_sub hl [] rfl)
      · have hf := (if_neg c10).symm.trans hf
        refine lv_aload_n hx hb dX8_setText_42 rfl (lv_at hl 1 rfl) ?_
        refine gfX8_24 X S hN hk dX8_setText_43 ?_
        refine lv_iload_n hx hb dX8_setText_46 rfl (lv_at hl 2 rfl) ?_
        refine lv_bipush (v := (24 : Int32)) hx hb dX8_setText_47 (by decide) ?_
        refine lv_imul hx hb dX8_setText_49 ?_
        refine lv_iload_n hx hb dX8_setText_50 rfl (lv_at hl 0 rfl) ?_
        refine lv_iadd hx hb dX8_setText_51 ?_
        refine lv_aload_n hx hb dX8_setText_52 rfl (lv_at hl 3 rfl) ?_
        refine lv_iload_n hx hb dX8_setText_53 rfl (lv_at hl 0 rfl) ?_
        obtain ⟨v11, hv11, hf⟩ := g_s1 hf
        refine g_ki S (g_runV (rest := [.int ((a0 * (24 : Int32)) + i5), .ref (ad (k + 5))]) X S (c_X7_signAt l hN ha1 hv11 _) cvX7_signAt mlX8_83 (kd_N ha1 (by decide) hN) (ceC_7 ha1 _) rfl rfl rfl hl.1 (Nat.le_of_ble_eq_true rfl) ⟨⟨rfl, rfl⟩, ⟨Nat.le_of_ble_eq_true rfl, Nat.le_of_ble_eq_true rfl⟩, Nat.le_of_ble_eq_true rfl, Nat.le_of_ble_eq_true rfl⟩ dX8_setText_54) (fun H locs S => ?_)
        obtain ⟨σ12, hσ12, hf⟩ := g_s1 hf
        refine g_iast X S (kd_N (kd_8_5 hk) (by decide) hN) (ceC_484 (kd_8_5 hk)) hσ12 dX8_setText_57 (fun H locs S => ?_)
        refine lv_iinc (v := (i5 + 1)) (lv' := [(3, .int (i5 + 1)), (0, .ref (ad k)), (1, .int a0), (2, .ref (ad a1))]) hx hb dX8_setText_58 hl (k := 0) rfl rfl (by decide) rfl (fun ls hl => ?_)
        refine lv_goto (tgt := 26) hx hb dX8_setText_61 (by decide) ?_
        exact ih _ _ _  hf J _ _ _ S (lv_sub hl [0, 1, 2, 3] rfl)
noncomputable def f_X8_setText (σ : gSt) (k : Nat) (a0 : Int32) (a1 : Nat) : Option (gSt) :=
  (g_k1 (f_X8_has σ k a0) fun v1 => (if v1 = 0 then some σ else (g_k1 (gast σ (k + 4) 16 a0 (if (24 : Int32) < (σ a1 1) then (24 : Int32) else (σ a1 1))) fun σ4 => (g_k1 (f_X8_setText_l1 k a0 a1 σ4 FU (0 : Int32) σ4) fun σ7 => some σ7))))
set_option maxRecDepth 100000 in
set_option maxHeartbeats 4000000 in
theorem c_X8_setText (l : Launch) {Γ : gG} {ad : Nat → Nat} {N : Nat} (hN : 202 ≤ N) {σ : gSt} {k : Nat} {a0 : Int32} {a1 : Nat} (hk : gkd k = 8) (ha1 : gkd a1 = 7) {σ' : gSt} (hf : f_X8_setText σ k a0 a1 = some σ') : gMv l celC Γ ad N yX8_setText cX8_setText 4 none (gR 2 0 0) [.ref (ad k), .int a0, .ref (ad a1)] σ σ' := by
  intro sz
  refine gOf (Qc := fun sz => gQcv celC Γ ad N σ' sz) RX8 (by decide) rfl (Nat.le_of_ble_eq_true rfl) (fun p e s m args below meth c H locs ls X S hl => ?_)
  have hl : lv_has ls 4 [(0, .ref (ad k)), (1, .int a0), (2, .ref (ad a1))] := hl
  have hx := X.1
  have hb := X.2.1
  unfold f_X8_setText at hf
  refine lv_aload_n hx hb dX8_setText_0 rfl (lv_at hl 0 rfl) ?_
  refine lv_iload_n hx hb dX8_setText_1 rfl (lv_at hl 1 rfl) ?_
  obtain ⟨v1, hv1, hf⟩ := g_s1 hf
  refine g_ki S (g_runV (rest := []) X S (c_X8_has l hN hk hv1 _) cvX8_has mlX8_37 (kd_N hk (by decide) hN) (ceC_8 hk _) rfl rfl rfl hl.1 (Nat.le_of_ble_eq_true rfl) ⟨⟨rfl, rfl⟩, ⟨Nat.le_of_ble_eq_true rfl, Nat.le_of_ble_eq_true rfl⟩, Nat.le_of_ble_eq_true rfl, Nat.le_of_ble_eq_true rfl⟩ dX8_setText_2) (fun H locs S => ?_)
  refine lv_if_ne (tgt := 9) hx hb dX8_setText_5 (by decide) (fun c2 => ?_) (fun c2 => ?_)
  · have hf := (if_neg c2).symm.trans hf
    refine lv_aload_n hx hb dX8_setText_9 rfl (lv_at hl 0 rfl) ?_
    refine gfX8_21 X S hN hk dX8_setText_10 ?_
    refine lv_iload_n hx hb dX8_setText_13 rfl (lv_at hl 1 rfl) ?_
    refine lv_aload_n hx hb dX8_setText_14 rfl (lv_at hl 2 rfl) ?_
    refine gfX8_81 X S hN ha1 dX8_setText_15 ?_
    refine lv_bipush (v := (24 : Int32)) hx hb dX8_setText_18 (by decide) ?_
    refine g_min X hl.1 mwX8_64 ⟨⟨by decide, Nat.le_of_ble_eq_true rfl⟩, Nat.le_of_ble_eq_true rfl, Nat.le_of_ble_eq_true rfl⟩ dX8_setText_20 ?_
    obtain ⟨σ4, hσ4, hf⟩ := g_s1 hf
    refine g_iast X S (kd_N (kd_8_4 hk) (by decide) hN) (ceC_116 (kd_8_4 hk)) hσ4 dX8_setText_23 (fun H locs S => ?_)
    refine lv_iconst (v := (0 : Int32)) hx hb dX8_setText_24 (by decide) ?_
    refine lv_istore_n (lv' := [(3, .int (0 : Int32)), (0, .ref (ad k)), (1, .int a0), (2, .ref (ad a1))]) hx hb dX8_setText_25 rfl hl (by decide) rfl (fun ls hl => ?_)
    obtain ⟨σ7, hr13, hf⟩ := g_s1 hf
    refine w_X8_setText_l1 hN X hk ha1 FU _ _ _  hr13 (fun H locs ls S hl => ?_) _ _ _ S (lv_sub hl [0, 1, 2, 3] rfl)
    cases hf
    exact g_retv X S dX8_setText_64
  · have hf := (if_pos c2).symm.trans hf
    cases hf
    exact g_retv X S dX8_setText_8

noncomputable def f_X8_insertCaption_l1 (σ : gSt) (k : Nat) (a0 : Int32) (a1 : Int32) (a2 : Int32) (a3 : Nat) : Nat → Int32 → Option (Int32)
  | 0, _ => none
  | n + 1, i1 => (if (σ k 5) ≤ i1 then some i1 else (g_k1 (f_X8_first σ k i1) fun v4 => (if a1 ≤ v4 then some i1 else (f_X8_insertCaption_l1 σ k a0 a1 a2 a3 n (i1 + 1)))))
set_option maxRecDepth 100000 in
set_option maxHeartbeats 4000000 in
theorem w_X8_insertCaption_l1 {l : Launch} {Γ : gG} {ad : Nat → Nat} {N : Nat} {p : Program} {e : Env} {s : State} {m : MethodId} {args : Array Value} {below : List Frame} {meth : Method} {c : Code} {Q : State → Prop} (hN : 202 ≤ N) (X : gX celC Γ ad N RX8 cX8_insertCaption 7 (some .int) p s m args meth c) {σ : gSt} {k : Nat} {a0 : Int32} {a1 : Int32} {a2 : Int32} {a3 : Nat} (hk : gkd k = 8) (ha3 : gkd a3 = 7) : ∀ (n : Nat) (i1 : Int32) (r2 : Int32), f_X8_insertCaption_l1 σ k a0 a1 a2 a3 n i1 = some r2 → (∀ (H : Heap) (locs : List Loc) (ls : Array Slot), gS celC Γ ad N σ s H locs → lv_has ls 7 [(5, .int r2), (0, .ref (ad k)), (1, .int a0), (2, .int a1), (3, .int a2), (4, .ref (ad a3))] → W p l e (gR 3 0 0) s m args below meth c H locs 0 0 (Q) (F0 m 28 ls [])) → ∀ (H : Heap) (locs : List Loc) (ls : Array Slot), gS celC Γ ad N σ s H locs → lv_has ls 7 [(5, .int i1), (0, .ref (ad k)), (1, .int a0), (2, .int a1), (3, .int a2), (4, .ref (ad a3))] → W p l e (gR 3 0 0) s m args below meth c H locs 0 0 (Q) (F0 m 3 ls []) := by
  have hx := X.1
  have hb := X.2.1
  intro n
  induction n with
  | zero =>
    intro i1 r2 hf
    cases hf
  | succ n ih =>
    intro i1 r2 hf J H locs ls S hl
    rw [f_X8_insertCaption_l1] at hf
    refine lv_iload hx hb dX8_insertCaption_3 (lv_at hl 0 rfl) ?_
    refine lv_aload_n hx hb dX8_insertCaption_5 rfl (lv_at hl 1 rfl) ?_
    refine gfX8_27 X S hN hk dX8_insertCaption_6 ?_
    refine lv_icmp_ge (tgt := 28) hx hb dX8_insertCaption_9 (by decide) (fun c3 => ?_) (fun c3 => ?_)
    · have hf := (if_pos c3).symm.trans hf
      cases hf
      exact J _ _ _ S (lv_sub hl [0, 1, 2, 3, 4, 5] rfl)
    · have hf := (if_neg c3).symm.trans hf
      refine lv_aload_n hx hb dX8_insertCaption_12 rfl (lv_at hl 1 rfl) ?_
      refine lv_iload hx hb dX8_insertCaption_13 (lv_at hl 0 rfl) ?_
      obtain ⟨v4, hv4, hf⟩ := g_s1 hf
      refine g_ki S (g_runV (rest := []) X S (c_X8_first l hN hk hv4 _) cvX8_first mlX8_45 (kd_N hk (by decide) hN) (ceC_8 hk _) rfl rfl rfl hl.1 (Nat.le_of_ble_eq_true rfl) ⟨⟨rfl, rfl⟩, ⟨Nat.le_of_ble_eq_true rfl, Nat.le_of_ble_eq_true rfl⟩, Nat.le_of_ble_eq_true rfl, Nat.le_of_ble_eq_true rfl⟩ dX8_insertCaption_15) (fun H locs S => ?_)
      refine lv_iload_n hx hb dX8_insertCaption_18 rfl (lv_at hl 3 rfl) ?_
      refine lv_icmp_ge (tgt := 28) hx hb dX8_insertCaption_19 (by decide) (fun c5 => ?_) (fun c5 => ?_)
      · have hf := (if_pos c5).symm.trans hf
        cases hf
        exact J _ _ _ S (lv_sub hl [0, 1, 2, 3, 4, 5] rfl)
      · have hf := (if_neg c5).symm.trans hf
        refine lv_iinc (v := (i1 + 1)) (lv' := [(5, .int (i1 + 1)), (0, .ref (ad k)), (1, .int a0), (2, .int a1), (3, .int a2), (4, .ref (ad a3))]) hx hb dX8_insertCaption_22 hl (k := 0) rfl rfl (by decide) rfl (fun ls hl => ?_)
        refine lv_goto (tgt := 3) hx hb dX8_insertCaption_25 (by decide) ?_
        exact ih _ _  hf J _ _ _ S (lv_sub hl [0, 1, 2, 3, 4, 5] rfl)
noncomputable def f_X8_insertCaption_l2 (σ : gSt) (k : Nat) (a0 : Int32) (a1 : Int32) (a2 : Int32) (a3 : Nat) (r2 : Int32) : Nat → Int32 → gSt → Option (gSt)
  | 0, _, _ => none
  | n + 1, i11, σ12 => (if i11 ≤ r2 then some σ12 else (g_k1 (f_X8_copyRow σ12 k (i11 - (1 : Int32)) i11) fun σ15 => (f_X8_insertCaption_l2 σ k a0 a1 a2 a3 r2 n (i11 + (-1)) σ15)))
set_option maxRecDepth 100000 in
set_option maxHeartbeats 4000000 in
theorem w_X8_insertCaption_l2 {l : Launch} {Γ : gG} {ad : Nat → Nat} {N : Nat} {p : Program} {e : Env} {s : State} {m : MethodId} {args : Array Value} {below : List Frame} {meth : Method} {c : Code} {Q : State → Prop} (hN : 202 ≤ N) (X : gX celC Γ ad N RX8 cX8_insertCaption 7 (some .int) p s m args meth c) {σ : gSt} {k : Nat} {a0 : Int32} {a1 : Int32} {a2 : Int32} {a3 : Nat} {r2 : Int32} (hk : gkd k = 8) (ha3 : gkd a3 = 7) : ∀ (n : Nat) (i11 : Int32) (σ12 : gSt) (σ13 : gSt), f_X8_insertCaption_l2 σ k a0 a1 a2 a3 r2 n i11 σ12 = some σ13 → (∀ (H : Heap) (locs : List Loc) (ls : Array Slot), gS celC Γ ad N σ13 s H locs → lv_has ls 7 [(5, .int r2), (0, .ref (ad k)), (1, .int a0), (2, .int a1), (3, .int a2), (4, .ref (ad a3))] → W p l e (gR 3 0 0) s m args below meth c H locs 0 0 (Q) (F0 m 77 ls [])) → ∀ (H : Heap) (locs : List Loc) (ls : Array Slot), gS celC Γ ad N σ12 s H locs → lv_has ls 7 [(6, .int i11), (5, .int r2), (0, .ref (ad k)), (1, .int a0), (2, .int a1), (3, .int a2), (4, .ref (ad a3))] → W p l e (gR 3 0 0) s m args below meth c H locs 0 0 (Q) (F0 m 54 ls []) := by
  have hx := X.1
  have hb := X.2.1
  intro n
  induction n with
  | zero =>
    intro i11 σ12 σ13 hf
    cases hf
  | succ n ih =>
    intro i11 σ12 σ13 hf J H locs ls S hl
    rw [f_X8_insertCaption_l2] at hf
    refine lv_iload hx hb dX8_insertCaption_54 (lv_at hl 0 rfl) ?_
    refine lv_iload hx hb dX8_insertCaption_56 (lv_at hl 1 rfl) ?_
    refine lv_icmp_le (tgt := 77) hx hb dX8_insertCaption_58 (by decide) (fun c14 => ?_) (fun c14 => ?_)
    · have hf := (if_pos c14).symm.trans hf
      cases hf
      exact J _ _ _ S (lv_sub hl [1, 2, 3, 4, 5, 6] rfl)
    · have hf := (if_neg c14).symm.trans hf
      refine lv_aload_n hx hb dX8_insertCaption_61 rfl (lv_at hl 2 rfl) ?_
      refine lv_iload hx hb dX8_insertCaption_62 (lv_at hl 0 rfl) ?_
      refine lv_iconst (v := (1 : Int32)) hx hb dX8_insertCaption_64 (by decide) ?_
      refine lv_isub hx hb dX8_insertCaption_65 ?_
      refine lv_iload hx hb dX8_insertCaption_66 (lv_at hl 0 rfl) ?_
      obtain ⟨σ15, hσ15, hf⟩ := g_s1 hf
      refine g_kv S (g_runV (rest := []) X S (c_X8_copyRow l hN hk hσ15 _) cvX8_copyRow mlX8_88 (kd_N hk (by decide) hN) (ceC_8 hk _) rfl rfl rfl hl.1 (Nat.le_of_ble_eq_true rfl) ⟨⟨rfl, rfl⟩, ⟨Nat.le_of_ble_eq_true rfl, Nat.le_of_ble_eq_true rfl⟩, Nat.le_of_ble_eq_true rfl, Nat.le_of_ble_eq_true rfl⟩ dX8_insertCaption_68) (fun H locs S => ?_)
      refine lv_iinc (v := (i11 + (-1))) (lv' := [(6, .int (i11 + (-1))), (5, .int r2), (0, .ref (ad k)), (1, .int a0), (2, .int a1), (3, .int a2), (4, .ref (ad a3))]) hx hb dX8_insertCaption_71 hl (k := 0) rfl rfl (by decide) rfl (fun ls hl => ?_)
      refine lv_goto (tgt := 54) hx hb dX8_insertCaption_74 (by decide) ?_
      exact ih _ _ _  hf J _ _ _ S (lv_sub hl [0, 1, 2, 3, 4, 5, 6] rfl)
noncomputable def f_X8_insertCaption (σ : gSt) (k : Nat) (a0 : Int32) (a1 : Int32) (a2 : Int32) (a3 : Nat) : Option (Int32 × gSt) :=
  (g_k1 (f_X8_insertCaption_l1 σ k a0 a1 a2 a3 FU (0 : Int32)) fun r2 => (g_k1 (f_X8_isRow σ r2) fun v7 => (if v7 = 0 then some ((-1 : Int32), σ) else (g_k1 (f_X8_isRow σ (σ k 5)) fun v9 => (if v9 = 0 then some ((-1 : Int32), σ) else (g_k1 (f_X8_insertCaption_l2 σ k a0 a1 a2 a3 r2 FU (σ k 5) σ) fun σ13 => (g_k1 (gset σ13 k 5 ((σ13 k 5) + (1 : Int32))) fun σ17 => (g_k1 (gast σ17 (k + 3) 16 r2 a0) fun σ18 => (g_k1 (f_X8_setFrames σ18 k r2 a1 a2) fun σ19 => (g_k1 (f_X8_setText σ19 k r2 a3) fun σ20 => some (r2, σ20)))))))))))
set_option maxRecDepth 100000 in
set_option maxHeartbeats 4000000 in
theorem c_X8_insertCaption (l : Launch) {Γ : gG} {ad : Nat → Nat} {N : Nat} (hN : 202 ≤ N) {σ : gSt} {k : Nat} {a0 : Int32} {a1 : Int32} {a2 : Int32} {a3 : Nat} (hk : gkd k = 8) (ha3 : gkd a3 = 7) {r : Int32} {σ' : gSt} (hf : f_X8_insertCaption σ k a0 a1 a2 a3 = some (r, σ')) : gMi l celC Γ ad N yX8_insertCaption cX8_insertCaption 7 (some .int) (gR 3 0 0) [.ref (ad k), .int a0, .int a1, .int a2, .ref (ad a3)] σ r σ' := by
  intro sz
  refine gOf (Qc := fun sz => gQci celC Γ ad N r σ' sz) RX8 (by decide) rfl (Nat.le_of_ble_eq_true rfl) (fun p e s m args below meth c H locs ls X S hl => ?_)
  have hl : lv_has ls 7 [(0, .ref (ad k)), (1, .int a0), (2, .int a1), (3, .int a2), (4, .ref (ad a3))] := hl
  have hx := X.1
  have hb := X.2.1
  unfold f_X8_insertCaption at hf
  refine lv_iconst (v := (0 : Int32)) hx hb dX8_insertCaption_0 (by decide) ?_
  refine lv_istore (lv' := [(5, .int (0 : Int32)), (0, .ref (ad k)), (1, .int a0), (2, .int a1), (3, .int a2), (4, .ref (ad a3))]) hx hb dX8_insertCaption_1 hl (by decide) rfl (fun ls hl => ?_)
  obtain ⟨r2, hr6, hf⟩ := g_s1 hf
  refine w_X8_insertCaption_l1 hN X hk ha3 FU _ _  hr6 (fun H locs ls S hl => ?_) _ _ _ S (lv_sub hl [0, 1, 2, 3, 4, 5] rfl)
  refine lv_iload hx hb dX8_insertCaption_28 (lv_at hl 0 rfl) ?_
  obtain ⟨v7, hv7, hf⟩ := g_s1 hf
  refine g_ki S (g_runS (rest := []) X S (c_X8_isRow l hN  hv7 _) csX8_isRow mlX8_85 rfl rfl hl.1 (Nat.le_of_ble_eq_true rfl) ⟨⟨rfl, rfl⟩, ⟨Nat.le_of_ble_eq_true rfl, Nat.le_of_ble_eq_true rfl⟩, Nat.le_of_ble_eq_true rfl, Nat.le_of_ble_eq_true rfl⟩ dX8_insertCaption_30) (fun H locs S => ?_)
  refine lv_if_eq (tgt := 46) hx hb dX8_insertCaption_33 (by decide) (fun c8 => ?_) (fun c8 => ?_)
  · have hf := (if_pos c8).symm.trans hf
    refine lv_iconst (v := (-1 : Int32)) hx hb dX8_insertCaption_46 (by decide) ?_
    cases hf
    exact g_reti X S rfl dX8_insertCaption_47
  · have hf := (if_neg c8).symm.trans hf
    refine lv_aload_n hx hb dX8_insertCaption_36 rfl (lv_at hl 1 rfl) ?_
    refine gfX8_27 X S hN hk dX8_insertCaption_37 ?_
    obtain ⟨v9, hv9, hf⟩ := g_s1 hf
    refine g_ki S (g_runS (rest := []) X S (c_X8_isRow l hN  hv9 _) csX8_isRow mlX8_85 rfl rfl hl.1 (Nat.le_of_ble_eq_true rfl) ⟨⟨rfl, rfl⟩, ⟨Nat.le_of_ble_eq_true rfl, Nat.le_of_ble_eq_true rfl⟩, Nat.le_of_ble_eq_true rfl, Nat.le_of_ble_eq_true rfl⟩ dX8_insertCaption_40) (fun H locs S => ?_)
    refine lv_if_ne (tgt := 48) hx hb dX8_insertCaption_43 (by decide) (fun c10 => ?_) (fun c10 => ?_)
    · have hf := (if_neg c10).symm.trans hf
      refine lv_aload_n hx hb dX8_insertCaption_48 rfl (lv_at hl 1 rfl) ?_
      refine gfX8_27 X S hN hk dX8_insertCaption_49 ?_
      refine lv_istore (lv' := [(6, .int (σ k 5)), (5, .int r2), (0, .ref (ad k)), (1, .int a0), (2, .int a1), (3, .int a2), (4, .ref (ad a3))]) hx hb dX8_insertCaption_52 hl (by decide) rfl (fun ls hl => ?_)
      obtain ⟨σ13, hr16, hf⟩ := g_s1 hf
      refine w_X8_insertCaption_l2 hN X hk ha3 FU _ _ _  hr16 (fun H locs ls S hl => ?_) _ _ _ S (lv_sub hl [0, 1, 2, 3, 4, 5, 6] rfl)
      refine lv_aload_n hx hb dX8_insertCaption_77 rfl (lv_at hl 1 rfl) ?_
      refine lv_dup hx hb dX8_insertCaption_78 rfl ?_
      refine gfX8_27 X S hN hk dX8_insertCaption_79 ?_
      refine lv_iconst (v := (1 : Int32)) hx hb dX8_insertCaption_82 (by decide) ?_
      refine lv_iadd hx hb dX8_insertCaption_83 ?_
      obtain ⟨σ17, hσ17, hf⟩ := g_s1 hf
      refine pfX8_27 X S hN hk hσ17 dX8_insertCaption_84 (fun H locs S => ?_)
      refine lv_aload_n hx hb dX8_insertCaption_87 rfl (lv_at hl 1 rfl) ?_
      refine gfX8_18 X S hN hk dX8_insertCaption_88 ?_
      refine lv_iload hx hb dX8_insertCaption_91 (lv_at hl 0 rfl) ?_
      refine lv_iload_n hx hb dX8_insertCaption_93 rfl (lv_at hl 2 rfl) ?_
      obtain ⟨σ18, hσ18, hf⟩ := g_s1 hf
      refine g_iast X S (kd_N (kd_8_3 hk) (by decide) hN) (ceC_116 (kd_8_3 hk)) hσ18 dX8_insertCaption_94 (fun H locs S => ?_)
      refine lv_aload_n hx hb dX8_insertCaption_95 rfl (lv_at hl 1 rfl) ?_
      refine lv_iload hx hb dX8_insertCaption_96 (lv_at hl 0 rfl) ?_
      refine lv_iload_n hx hb dX8_insertCaption_98 rfl (lv_at hl 3 rfl) ?_
      refine lv_iload_n hx hb dX8_insertCaption_99 rfl (lv_at hl 4 rfl) ?_
      obtain ⟨σ19, hσ19, hf⟩ := g_s1 hf
      refine g_kv S (g_runV (rest := []) X S (c_X8_setFrames l hN hk hσ19 _) cvX8_setFrames mlX8_92 (kd_N hk (by decide) hN) (ceC_8 hk _) rfl rfl rfl hl.1 (Nat.le_of_ble_eq_true rfl) ⟨⟨rfl, rfl⟩, ⟨Nat.le_of_ble_eq_true rfl, Nat.le_of_ble_eq_true rfl⟩, Nat.le_of_ble_eq_true rfl, Nat.le_of_ble_eq_true rfl⟩ dX8_insertCaption_100) (fun H locs S => ?_)
      refine lv_aload_n hx hb dX8_insertCaption_103 rfl (lv_at hl 1 rfl) ?_
      refine lv_iload hx hb dX8_insertCaption_104 (lv_at hl 0 rfl) ?_
      refine lv_aload hx hb dX8_insertCaption_106 (lv_at hl 5 rfl) ?_
      obtain ⟨σ20, hσ20, hf⟩ := g_s1 hf
      refine g_kv S (g_runV (rest := []) X S (c_X8_setText l hN hk ha3 hσ20 _) cvX8_setText mlX8_96 (kd_N hk (by decide) hN) (ceC_8 hk _) rfl rfl rfl hl.1 (Nat.le_of_ble_eq_true rfl) ⟨⟨rfl, rfl⟩, ⟨Nat.le_of_ble_eq_true rfl, Nat.le_of_ble_eq_true rfl⟩, Nat.le_of_ble_eq_true rfl, Nat.le_of_ble_eq_true rfl⟩ dX8_insertCaption_108) (fun H locs S => ?_)
      refine lv_iload hx hb dX8_insertCaption_111 (lv_at hl 0 rfl) ?_
      cases hf
      exact g_reti X S rfl dX8_insertCaption_113
    · have hf := (if_pos c10).symm.trans hf
      refine lv_iconst (v := (-1 : Int32)) hx hb dX8_insertCaption_46 (by decide) ?_
      cases hf
      exact g_reti X S rfl dX8_insertCaption_47

noncomputable def f_X9_isWordSign (σ : gSt) (a0 : Int32) : Option (Int32) :=
  (g_k1 (if a0 = (95 : Int32) then some (1 : Int32) else (if a0 = (124 : Int32) then some (1 : Int32) else (if a0 < (97 : Int32) then some (0 : Int32) else (if (122 : Int32) < a0 then some (0 : Int32) else some (1 : Int32))))) fun x1 => (g_k1 (gzb x1) fun v4 => some v4))
set_option maxRecDepth 100000 in
set_option maxHeartbeats 4000000 in
theorem c_X9_isWordSign (l : Launch) {Γ : gG} {ad : Nat → Nat} {N : Nat} (hN : 202 ≤ N) {σ : gSt} {a0 : Int32}  {r : Int32} (hf : f_X9_isWordSign σ a0 = some r) : gMi l celC Γ ad N yX9_isWordSign cX9_isWordSign 1 (some .boolean) (gR 1 0 0) [.int a0] σ r σ := by
  intro sz
  refine gOf (Qc := fun sz => gQci celC Γ ad N r σ sz) RX9 (by decide) rfl (Nat.le_of_ble_eq_true rfl) (fun p e s m args below meth c H locs ls X S hl => ?_)
  have hl : lv_has ls 1 [(0, .int a0)] := hl
  have hx := X.1
  have hb := X.2.1
  unfold f_X9_isWordSign at hf
  refine lv_iload_n hx hb dX9_isWordSign_0 rfl (lv_at hl 0 rfl) ?_
  refine lv_bipush (v := (95 : Int32)) hx hb dX9_isWordSign_1 (by decide) ?_
  obtain ⟨x1, hr2, hf⟩ := g_s1 hf
  have J3 : ∀ (H : Heap) (locs : List Loc) (ls : Array Slot), gS celC Γ ad N σ s H locs → lv_has ls 1 [] → W p l e (gR 1 0 0) s m args below meth c H locs 0 0 (gQi celC Γ ad N r σ below args s) (F0 m 29 ls [.int x1]) := by
    intro H locs ls S hl
    obtain ⟨v4, hv4, hf⟩ := g_s1 hf
    obtain ⟨hnv4, rfl⟩ := gzb_some hv4
    cases hf
    exact g_reti X S hnv4 dX9_isWordSign_29
  replace hf := hr2
  refine lv_icmp_eq (tgt := 24) hx hb dX9_isWordSign_3 (by decide) (fun c5 => ?_) (fun c5 => ?_)
  · have hf := (if_pos c5).symm.trans hf
    refine lv_iconst (v := (1 : Int32)) hx hb dX9_isWordSign_24 (by decide) ?_
    refine lv_goto (tgt := 29) hx hb dX9_isWordSign_25 (by decide) ?_
    cases hf
    exact J3 _ _ _ S (lv_sub hl [] rfl)
  · have hf := (if_neg c5).symm.trans hf
    refine lv_iload_n hx hb dX9_isWordSign_6 rfl (lv_at hl 0 rfl) ?_
    refine lv_bipush (v := (124 : Int32)) hx hb dX9_isWordSign_7 (by decide) ?_
    refine lv_icmp_eq (tgt := 24) hx hb dX9_isWordSign_9 (by decide) (fun c6 => ?_) (fun c6 => ?_)
    · have hf := (if_pos c6).symm.trans hf
      refine lv_iconst (v := (1 : Int32)) hx hb dX9_isWordSign_24 (by decide) ?_
      refine lv_goto (tgt := 29) hx hb dX9_isWordSign_25 (by decide) ?_
      cases hf
      exact J3 _ _ _ S (lv_sub hl [] rfl)
    · have hf := (if_neg c6).symm.trans hf
      refine lv_iload_n hx hb dX9_isWordSign_12 rfl (lv_at hl 0 rfl) ?_
      refine lv_bipush (v := (97 : Int32)) hx hb dX9_isWordSign_13 (by decide) ?_
      refine lv_icmp_lt (tgt := 28) hx hb dX9_isWordSign_15 (by decide) (fun c7 => ?_) (fun c7 => ?_)
      · have hf := (if_pos c7).symm.trans hf
        refine lv_iconst (v := (0 : Int32)) hx hb dX9_isWordSign_28 (by decide) ?_
        cases hf
        exact J3 _ _ _ S (lv_sub hl [] rfl)
      · have hf := (if_neg c7).symm.trans hf
        refine lv_iload_n hx hb dX9_isWordSign_18 rfl (lv_at hl 0 rfl) ?_
        refine lv_bipush (v := (122 : Int32)) hx hb dX9_isWordSign_19 (by decide) ?_
        refine lv_icmp_gt (tgt := 28) hx hb dX9_isWordSign_21 (by decide) (fun c8 => ?_) (fun c8 => ?_)
        · have hf := (if_pos c8).symm.trans hf
          refine lv_iconst (v := (0 : Int32)) hx hb dX9_isWordSign_28 (by decide) ?_
          cases hf
          exact J3 _ _ _ S (lv_sub hl [] rfl)
        · have hf := (if_neg c8).symm.trans hf
          refine lv_iconst (v := (1 : Int32)) hx hb dX9_isWordSign_24 (by decide) ?_
          refine lv_goto (tgt := 29) hx hb dX9_isWordSign_25 (by decide) ?_
          cases hf
          exact J3 _ _ _ S (lv_sub hl [] rfl)

noncomputable def f_X7_isValid_l1 (σ : gSt) (k : Nat) : Nat → Int32 → Int32 → Option (Int32)
  | 0, _, _ => none
  | n + 1, i3, i4 => (if (σ k 1) ≤ i3 then (g_k1 (if (1 : Int32) < i4 then some (0 : Int32) else (g_k1 (f_X7_signAt σ k (0 : Int32)) fun v11 => (if v11 = (124 : Int32) then some (0 : Int32) else (g_k1 (f_X7_signAt σ k ((σ k 1) - (1 : Int32))) fun v13 => (if v13 = (124 : Int32) then some (0 : Int32) else some (1 : Int32)))))) fun x6 => (g_k1 (gzb x6) fun v9 => some v9)) else (g_k1 (f_X7_signAt σ k i3) fun v15 => (g_k1 (f_X9_isWordSign σ v15) fun v16 => (if v16 = 0 then some (0 : Int32) else (g_k1 (if v15 = (124 : Int32) then some (i4 + 1) else some i4) fun x18 => (f_X7_isValid_l1 σ k n (i3 + 1) x18))))))
set_option maxRecDepth 100000 in
set_option maxHeartbeats 4000000 in
theorem w_X7_isValid_l1 {l : Launch} {Γ : gG} {ad : Nat → Nat} {N : Nat} {p : Program} {e : Env} {s : State} {m : MethodId} {args : Array Value} {below : List Frame} {meth : Method} {c : Code} (hN : 202 ≤ N) (X : gX celC Γ ad N RX7 cX7_isValid 4 (some .boolean) p s m args meth c) {σ : gSt} {k : Nat} (hk : gkd k = 7) : ∀ (n : Nat) (i3 : Int32) (i4 : Int32) (r : Int32), f_X7_isValid_l1 σ k n i3 i4 = some r → ∀ (H : Heap) (locs : List Loc) (ls : Array Slot), gS celC Γ ad N σ s H locs → lv_has ls 4 [(2, .int i3), (1, .int i4), (0, .ref (ad k))] → W p l e (gR 2 0 0) s m args below meth c H locs 0 0 (gQi celC Γ ad N r σ below args s) (F0 m 23 ls []) := by
  have hx := X.1
  have hb := X.2.1
  intro n
  induction n with
  | zero =>
    intro i3 i4 r hf
    cases hf
  | succ n ih =>
    intro i3 i4 r hf H locs ls S hl
    rw [f_X7_isValid_l1] at hf
    refine lv_iload_n hx hb dX7_isValid_23 rfl (lv_at hl 0 rfl) ?_
    refine lv_aload_n hx hb dX7_isValid_24 rfl (lv_at hl 2 rfl) ?_
    refine gfX7_15 X S hN hk dX7_isValid_25 ?_
    refine lv_icmp_ge (tgt := 61) hx hb dX7_isValid_28 (by decide) (fun c5 => ?_) (fun c5 => ?_)
    · have hf := (if_pos c5).symm.trans hf
      refine lv_iload_n hx hb dX7_isValid_61 rfl (lv_at hl 1 rfl) ?_
      refine lv_iconst (v := (1 : Int32)) hx hb dX7_isValid_62 (by decide) ?_
      obtain ⟨x6, hr7, hf⟩ := g_s1 hf
      have J8 : ∀ (H : Heap) (locs : List Loc) (ls : Array Slot), gS celC Γ ad N σ s H locs → lv_has ls 4 [] → W p l e (gR 2 0 0) s m args below meth c H locs 0 0 (gQi celC Γ ad N r σ below args s) (F0 m 96 ls [.int x6]) := by
        intro H locs ls S hl
        obtain ⟨v9, hv9, hf⟩ := g_s1 hf
        obtain ⟨hnv9, rfl⟩ := gzb_some hv9
        cases hf
        exact g_reti X S hnv9 dX7_isValid_96
      replace hf := hr7
      refine lv_icmp_gt (tgt := 95) hx hb dX7_isValid_63 (by decide) (fun c10 => ?_) (fun c10 => ?_)
      · have hf := (if_pos c10).symm.trans hf
        refine lv_iconst (v := (0 : Int32)) hx hb dX7_isValid_95 (by decide) ?_
        cases hf
        exact J8 _ _ _ S (lv_sub hl [] rfl)
      · have hf := (if_neg c10).symm.trans hf
        refine lv_aload_n hx hb dX7_isValid_66 rfl (lv_at hl 2 rfl) ?_
        refine lv_iconst (v := (0 : Int32)) hx hb dX7_isValid_67 (by decide) ?_
        obtain ⟨v11, hv11, hf⟩ := g_s1 hf
        refine g_ki S (g_runV (rest := []) X S (c_X7_signAt l hN hk hv11 _) cvX7_signAt mlX7_19 (kd_N hk (by decide) hN) (ceC_7 hk _) rfl rfl rfl hl.1 (Nat.le_of_ble_eq_true rfl) ⟨⟨rfl, rfl⟩, ⟨Nat.le_of_ble_eq_true rfl, Nat.le_of_ble_eq_true rfl⟩, Nat.le_of_ble_eq_true rfl, Nat.le_of_ble_eq_true rfl⟩ dX7_isValid_68) (fun H locs S => ?_)
        refine lv_bipush (v := (124 : Int32)) hx hb dX7_isValid_71 (by decide) ?_
        refine lv_icmp_eq (tgt := 95) hx hb dX7_isValid_73 (by decide) (fun c12 => ?_) (fun c12 => ?_)
        · have hf := (if_pos c12).symm.trans hf
          refine lv_iconst (v := (0 : Int32)) hx hb dX7_isValid_95 (by decide) ?_
          cases hf
          exact J8 _ _ _ S (lv_sub hl [] rfl)
        · have hf := (if_neg c12).symm.trans hf
          refine lv_aload_n hx hb dX7_isValid_76 rfl (lv_at hl 2 rfl) ?_
          refine lv_aload_n hx hb dX7_isValid_77 rfl (lv_at hl 2 rfl) ?_
          refine gfX7_15 X S hN hk dX7_isValid_78 ?_
          refine lv_iconst (v := (1 : Int32)) hx hb dX7_isValid_81 (by decide) ?_
          refine lv_isub hx hb dX7_isValid_82 ?_
          obtain ⟨v13, hv13, hf⟩ := g_s1 hf
          refine g_ki S (g_runV (rest := []) X S (c_X7_signAt l hN hk hv13 _) cvX7_signAt mlX7_19 (kd_N hk (by decide) hN) (ceC_7 hk _) rfl rfl rfl hl.1 (Nat.le_of_ble_eq_true rfl) ⟨⟨rfl, rfl⟩, ⟨Nat.le_of_ble_eq_true rfl, Nat.le_of_ble_eq_true rfl⟩, Nat.le_of_ble_eq_true rfl, Nat.le_of_ble_eq_true rfl⟩ dX7_isValid_83) (fun H locs S => ?_)
          refine lv_bipush (v := (124 : Int32)) hx hb dX7_isValid_86 (by decide) ?_
          refine lv_icmp_eq (tgt := 95) hx hb dX7_isValid_88 (by decide) (fun c14 => ?_) (fun c14 => ?_)
          · have hf := (if_pos c14).symm.trans hf
            refine lv_iconst (v := (0 : Int32)) hx hb dX7_isValid_95 (by decide) ?_
            cases hf
            exact J8 _ _ _ S (lv_sub hl [] rfl)
          · have hf := (if_neg c14).symm.trans hf
            refine lv_iconst (v := (1 : Int32)) hx hb dX7_isValid_91 (by decide) ?_
            refine lv_goto (tgt := 96) hx hb dX7_isValid_92 (by decide) ?_
            cases hf
            exact J8 _ _ _ S (lv_sub hl [] rfl)
    · have hf := (if_neg c5).symm.trans hf
      refine lv_aload_n hx hb dX7_isValid_31 rfl (lv_at hl 2 rfl) ?_
      refine lv_iload_n hx hb dX7_isValid_32 rfl (lv_at hl 0 rfl) ?_
      obtain ⟨v15, hv15, hf⟩ := g_s1 hf
      refine g_ki S (g_runV (rest := []) X S (c_X7_signAt l hN hk hv15 _) cvX7_signAt mlX7_19 (kd_N hk (by decide) hN) (ceC_7 hk _) rfl rfl rfl hl.1 (Nat.le_of_ble_eq_true rfl) ⟨⟨rfl, rfl⟩, ⟨Nat.le_of_ble_eq_true rfl, Nat.le_of_ble_eq_true rfl⟩, Nat.le_of_ble_eq_true rfl, Nat.le_of_ble_eq_true rfl⟩ dX7_isValid_33) (fun H locs S => ?_)
      refine lv_istore_n (lv' := [(3, .int v15), (2, .int i3), (1, .int i4), (0, .ref (ad k))]) hx hb dX7_isValid_36 rfl hl (by decide) rfl (fun ls hl => ?_)
      refine lv_iload_n hx hb dX7_isValid_37 rfl (lv_at hl 0 rfl) ?_
      obtain ⟨v16, hv16, hf⟩ := g_s1 hf
      refine g_ki S (g_runN (rest := []) X S (c_X9_isWordSign l hN  hv16 _) csX9_isWordSign mnX7_27 rfl rfl hl.1 (Nat.le_of_ble_eq_true rfl) ⟨⟨rfl, rfl⟩, ⟨Nat.le_of_ble_eq_true rfl, Nat.le_of_ble_eq_true rfl⟩, Nat.le_of_ble_eq_true rfl, Nat.le_of_ble_eq_true rfl⟩ dX7_isValid_38) (fun H locs S => ?_)
      refine lv_if_ne (tgt := 46) hx hb dX7_isValid_41 (by decide) (fun c17 => ?_) (fun c17 => ?_)
      · have hf := (if_neg c17).symm.trans hf
        refine lv_iload_n hx hb dX7_isValid_46 rfl (lv_at hl 0 rfl) ?_
        refine lv_bipush (v := (124 : Int32)) hx hb dX7_isValid_47 (by decide) ?_
        obtain ⟨x18, hr19, hf⟩ := g_s1 hf
        have J20 : ∀ (H : Heap) (locs : List Loc) (ls : Array Slot), gS celC Γ ad N σ s H locs → lv_has ls 4 [(2, .int i3), (1, .int x18), (0, .ref (ad k))] → W p l e (gR 2 0 0) s m args below meth c H locs 0 0 (gQi celC Γ ad N r σ below args s) (F0 m 55 ls []) := by
          intro H locs ls S hl
          refine lv_iinc (v := (i3 + 1)) (lv' := [(2, .int (i3 + 1)), (1, .int x18), (0, .ref (ad k))]) hx hb dX7_isValid_55 hl (k := 0) rfl rfl (by decide) rfl (fun ls hl => ?_)
          refine lv_goto (tgt := 23) hx hb dX7_isValid_58 (by decide) ?_
          exact ih _ _ _  hf _ _ _ S (lv_sub hl [0, 1, 2] rfl)
        replace hf := hr19
        refine lv_icmp_ne (tgt := 55) hx hb dX7_isValid_49 (by decide) (fun c21 => ?_) (fun c21 => ?_)
        · have hf := (if_neg c21).symm.trans hf
          cases hf
          exact J20 _ _ _ S (lv_sub hl [1, 2, 3] rfl)
        · have hf := (if_pos c21).symm.trans hf
          refine lv_iinc (v := (i4 + 1)) (lv' := [(1, .int (i4 + 1)), (3, .int v15), (2, .int i3), (0, .ref (ad k))]) hx hb dX7_isValid_52 hl (k := 2) rfl rfl (by decide) rfl (fun ls hl => ?_)
          cases hf
          exact J20 _ _ _ S (lv_sub hl [2, 0, 3] rfl)
      · have hf := (if_pos c17).symm.trans hf
        refine lv_iconst (v := (0 : Int32)) hx hb dX7_isValid_44 (by decide) ?_
        cases hf
        exact g_reti X S (by decide +kernel) dX7_isValid_45
noncomputable def f_X7_isValid (σ : gSt) (k : Nat) : Option (Int32) :=
  (if (σ k 1) < (1 : Int32) then some (0 : Int32) else (if (σ k 1) ≤ (24 : Int32) then (f_X7_isValid_l1 σ k FU (0 : Int32) (0 : Int32)) else some (0 : Int32)))
set_option maxRecDepth 100000 in
set_option maxHeartbeats 4000000 in
theorem c_X7_isValid (l : Launch) {Γ : gG} {ad : Nat → Nat} {N : Nat} (hN : 202 ≤ N) {σ : gSt} {k : Nat} (hk : gkd k = 7) {r : Int32} (hf : f_X7_isValid σ k = some r) : gMi l celC Γ ad N yX7_isValid cX7_isValid 4 (some .boolean) (gR 2 0 0) [.ref (ad k)] σ r σ := by
  intro sz
  refine gOf (Qc := fun sz => gQci celC Γ ad N r σ sz) RX7 (by decide) rfl (Nat.le_of_ble_eq_true rfl) (fun p e s m args below meth c H locs ls X S hl => ?_)
  have hl : lv_has ls 4 [(0, .ref (ad k))] := hl
  have hx := X.1
  have hb := X.2.1
  unfold f_X7_isValid at hf
  refine lv_aload_n hx hb dX7_isValid_0 rfl (lv_at hl 0 rfl) ?_
  refine gfX7_15 X S hN hk dX7_isValid_1 ?_
  refine lv_iconst (v := (1 : Int32)) hx hb dX7_isValid_4 (by decide) ?_
  refine lv_icmp_lt (tgt := 17) hx hb dX7_isValid_5 (by decide) (fun c1 => ?_) (fun c1 => ?_)
  · have hf := (if_pos c1).symm.trans hf
    refine lv_iconst (v := (0 : Int32)) hx hb dX7_isValid_17 (by decide) ?_
    cases hf
    exact g_reti X S (by decide +kernel) dX7_isValid_18
  · have hf := (if_neg c1).symm.trans hf
    refine lv_aload_n hx hb dX7_isValid_8 rfl (lv_at hl 0 rfl) ?_
    refine gfX7_15 X S hN hk dX7_isValid_9 ?_
    refine lv_bipush (v := (24 : Int32)) hx hb dX7_isValid_12 (by decide) ?_
    refine lv_icmp_le (tgt := 19) hx hb dX7_isValid_14 (by decide) (fun c2 => ?_) (fun c2 => ?_)
    · have hf := (if_pos c2).symm.trans hf
      refine lv_iconst (v := (0 : Int32)) hx hb dX7_isValid_19 (by decide) ?_
      refine lv_istore_n (lv' := [(1, .int (0 : Int32)), (0, .ref (ad k))]) hx hb dX7_isValid_20 rfl hl (by decide) rfl (fun ls hl => ?_)
      refine lv_iconst (v := (0 : Int32)) hx hb dX7_isValid_21 (by decide) ?_
      refine lv_istore_n (lv' := [(2, .int (0 : Int32)), (1, .int (0 : Int32)), (0, .ref (ad k))]) hx hb dX7_isValid_22 rfl hl (by decide) rfl (fun ls hl => ?_)
      exact w_X7_isValid_l1 hN X hk FU _ _ _  hf _ _ _ S (lv_sub hl [0, 1, 2] rfl)
    · have hf := (if_neg c2).symm.trans hf
      refine lv_iconst (v := (0 : Int32)) hx hb dX7_isValid_17 (by decide) ?_
      cases hf
      exact g_reti X S (by decide +kernel) dX7_isValid_18

noncomputable def f_X8_loadBetween_l1 (σ : gSt) (k : Nat) (a0 : Int32) (a2 : Int32) : Nat → Int32 → Int32 → Option (Int32)
  | 0, _, _ => none
  | n + 1, i1, i2 => (if a2 ≤ i1 then some i2 else (g_k1 (f_X8_signAt σ k a0 i1) fun v5 => (g_k1 (if v5 = (124 : Int32) then some i2 else some (i2 + 1)) fun x6 => (f_X8_loadBetween_l1 σ k a0 a2 n (i1 + 1) x6))))
set_option maxRecDepth 100000 in
set_option maxHeartbeats 4000000 in
theorem w_X8_loadBetween_l1 {l : Launch} {Γ : gG} {ad : Nat → Nat} {N : Nat} {p : Program} {e : Env} {s : State} {m : MethodId} {args : Array Value} {below : List Frame} {meth : Method} {c : Code} {Q : State → Prop} (hN : 202 ≤ N) (X : gX celC Γ ad N RX8 cX8_loadBetween 6 (some .int) p s m args meth c) {σ : gSt} {k : Nat} {a0 : Int32} {a2 : Int32} (hk : gkd k = 8) : ∀ (n : Nat) (i1 : Int32) (i2 : Int32) (r3 : Int32), f_X8_loadBetween_l1 σ k a0 a2 n i1 i2 = some r3 → (∀ (H : Heap) (locs : List Loc) (ls : Array Slot), gS celC Γ ad N σ s H locs → lv_has ls 6 [(4, .int r3)] → W p l e (gR 3 0 0) s m args below meth c H locs 0 0 (Q) (F0 m 33 ls [])) → ∀ (H : Heap) (locs : List Loc) (ls : Array Slot), gS celC Γ ad N σ s H locs → lv_has ls 6 [(5, .int i1), (4, .int i2), (0, .ref (ad k)), (1, .int a0), (3, .int a2)] → W p l e (gR 3 0 0) s m args below meth c H locs 0 0 (Q) (F0 m 6 ls []) := by
  have hx := X.1
  have hb := X.2.1
  intro n
  induction n with
  | zero =>
    intro i1 i2 r3 hf
    cases hf
  | succ n ih =>
    intro i1 i2 r3 hf J H locs ls S hl
    rw [f_X8_loadBetween_l1] at hf
    refine lv_iload hx hb dX8_loadBetween_6 (lv_at hl 0 rfl) ?_
    refine lv_iload_n hx hb dX8_loadBetween_8 rfl (lv_at hl 4 rfl) ?_
    refine lv_icmp_ge (tgt := 33) hx hb dX8_loadBetween_9 (by decide) (fun c4 => ?_) (fun c4 => ?_)
    · have hf := (if_pos c4).symm.trans hf
      cases hf
      exact J _ _ _ S (lv_sub hl [1] rfl)
    · have hf := (if_neg c4).symm.trans hf
      refine lv_aload_n hx hb dX8_loadBetween_12 rfl (lv_at hl 2 rfl) ?_
      refine lv_iload_n hx hb dX8_loadBetween_13 rfl (lv_at hl 3 rfl) ?_
      refine lv_iload hx hb dX8_loadBetween_14 (lv_at hl 0 rfl) ?_
      obtain ⟨v5, hv5, hf⟩ := g_s1 hf
      refine g_ki S (g_runV (rest := []) X S (c_X8_signAt l hN hk hv5 _) cvX8_signAt mlX8_55 (kd_N hk (by decide) hN) (ceC_8 hk _) rfl rfl rfl hl.1 (Nat.le_of_ble_eq_true rfl) ⟨⟨rfl, rfl⟩, ⟨Nat.le_of_ble_eq_true rfl, Nat.le_of_ble_eq_true rfl⟩, Nat.le_of_ble_eq_true rfl, Nat.le_of_ble_eq_true rfl⟩ dX8_loadBetween_16) (fun H locs S => ?_)
      refine lv_bipush (v := (124 : Int32)) hx hb dX8_loadBetween_19 (by decide) ?_
      obtain ⟨x6, hr7, hf⟩ := g_s1 hf
      have J8 : ∀ (H : Heap) (locs : List Loc) (ls : Array Slot), gS celC Γ ad N σ s H locs → lv_has ls 6 [(5, .int i1), (4, .int x6), (0, .ref (ad k)), (1, .int a0), (3, .int a2)] → W p l e (gR 3 0 0) s m args below meth c H locs 0 0 (Q) (F0 m 27 ls []) := by
        intro H locs ls S hl
        refine lv_iinc (v := (i1 + 1)) (lv' := [(5, .int (i1 + 1)), (4, .int x6), (0, .ref (ad k)), (1, .int a0), (3, .int a2)]) hx hb dX8_loadBetween_27 hl (k := 0) rfl rfl (by decide) rfl (fun ls hl => ?_)
        refine lv_goto (tgt := 6) hx hb dX8_loadBetween_30 (by decide) ?_
        exact ih _ _ _  hf J _ _ _ S (lv_sub hl [0, 1, 2, 3, 4] rfl)
      replace hf := hr7
      refine lv_icmp_eq (tgt := 27) hx hb dX8_loadBetween_21 (by decide) (fun c9 => ?_) (fun c9 => ?_)
      · have hf := (if_pos c9).symm.trans hf
        cases hf
        exact J8 _ _ _ S (lv_sub hl [0, 1, 2, 3, 4] rfl)
      · have hf := (if_neg c9).symm.trans hf
        refine lv_iinc (v := (i2 + 1)) (lv' := [(4, .int (i2 + 1)), (5, .int i1), (0, .ref (ad k)), (1, .int a0), (3, .int a2)]) hx hb dX8_loadBetween_24 hl (k := 1) rfl rfl (by decide) rfl (fun ls hl => ?_)
        cases hf
        exact J8 _ _ _ S (lv_sub hl [1, 0, 2, 3, 4] rfl)
noncomputable def f_X8_loadBetween (σ : gSt) (k : Nat) (a0 : Int32) (a1 : Int32) (a2 : Int32) : Option (Int32) :=
  (g_k1 (f_X8_loadBetween_l1 σ k a0 a2 FU a1 (0 : Int32)) fun r3 => some r3)
set_option maxRecDepth 100000 in
set_option maxHeartbeats 4000000 in
theorem c_X8_loadBetween (l : Launch) {Γ : gG} {ad : Nat → Nat} {N : Nat} (hN : 202 ≤ N) {σ : gSt} {k : Nat} {a0 : Int32} {a1 : Int32} {a2 : Int32} (hk : gkd k = 8) {r : Int32} (hf : f_X8_loadBetween σ k a0 a1 a2 = some r) : gMi l celC Γ ad N yX8_loadBetween cX8_loadBetween 6 (some .int) (gR 3 0 0) [.ref (ad k), .int a0, .int a1, .int a2] σ r σ := by
  intro sz
  refine gOf (Qc := fun sz => gQci celC Γ ad N r σ sz) RX8 (by decide) rfl (Nat.le_of_ble_eq_true rfl) (fun p e s m args below meth c H locs ls X S hl => ?_)
  have hl : lv_has ls 6 [(0, .ref (ad k)), (1, .int a0), (2, .int a1), (3, .int a2)] := hl
  have hx := X.1
  have hb := X.2.1
  unfold f_X8_loadBetween at hf
  refine lv_iconst (v := (0 : Int32)) hx hb dX8_loadBetween_0 (by decide) ?_
  refine lv_istore (lv' := [(4, .int (0 : Int32)), (0, .ref (ad k)), (1, .int a0), (2, .int a1), (3, .int a2)]) hx hb dX8_loadBetween_1 hl (by decide) rfl (fun ls hl => ?_)
  refine lv_iload_n hx hb dX8_loadBetween_3 rfl (lv_at hl 3 rfl) ?_
  refine lv_istore (lv' := [(5, .int a1), (4, .int (0 : Int32)), (0, .ref (ad k)), (1, .int a0), (2, .int a1), (3, .int a2)]) hx hb dX8_loadBetween_4 hl (by decide) rfl (fun ls hl => ?_)
  obtain ⟨r3, hr10, hf⟩ := g_s1 hf
  refine w_X8_loadBetween_l1 hN X hk FU _ _ _  hr10 (fun H locs ls S hl => ?_) _ _ _ S (lv_sub hl [0, 1, 2, 3, 5] rfl)
  refine lv_iload hx hb dX8_loadBetween_33 (lv_at hl 0 rfl) ?_
  cases hf
  exact g_reti X S rfl dX8_loadBetween_35

noncomputable def f_X8_end (σ : gSt) (k : Nat) (a0 : Int32) : Option (Int32) :=
  (g_k1 (f_X8_has σ k a0) fun v1 => (g_k1 (if v1 = 0 then some (0 : Int32) else (g_k1 (gald σ (k + 2) 16 a0) fun v6 => some v6)) fun x2 => some x2))
set_option maxRecDepth 100000 in
set_option maxHeartbeats 4000000 in
theorem c_X8_end (l : Launch) {Γ : gG} {ad : Nat → Nat} {N : Nat} (hN : 202 ≤ N) {σ : gSt} {k : Nat} {a0 : Int32} (hk : gkd k = 8) {r : Int32} (hf : f_X8_end σ k a0 = some r) : gMi l celC Γ ad N yX8_end cX8_end 2 (some .int) (gR 2 0 0) [.ref (ad k), .int a0] σ r σ := by
  intro sz
  refine gOf (Qc := fun sz => gQci celC Γ ad N r σ sz) RX8 (by decide) rfl (Nat.le_of_ble_eq_true rfl) (fun p e s m args below meth c H locs ls X S hl => ?_)
  have hl : lv_has ls 2 [(0, .ref (ad k)), (1, .int a0)] := hl
  have hx := X.1
  have hb := X.2.1
  unfold f_X8_end at hf
  refine lv_aload_n hx hb dX8_end_0 rfl (lv_at hl 0 rfl) ?_
  refine lv_iload_n hx hb dX8_end_1 rfl (lv_at hl 1 rfl) ?_
  obtain ⟨v1, hv1, hf⟩ := g_s1 hf
  refine g_ki S (g_runV (rest := []) X S (c_X8_has l hN hk hv1 _) cvX8_has mlX8_37 (kd_N hk (by decide) hN) (ceC_8 hk _) rfl rfl rfl hl.1 (Nat.le_of_ble_eq_true rfl) ⟨⟨rfl, rfl⟩, ⟨Nat.le_of_ble_eq_true rfl, Nat.le_of_ble_eq_true rfl⟩, Nat.le_of_ble_eq_true rfl, Nat.le_of_ble_eq_true rfl⟩ dX8_end_2) (fun H locs S => ?_)
  obtain ⟨x2, hr3, hf⟩ := g_s1 hf
  have J4 : ∀ (H : Heap) (locs : List Loc) (ls : Array Slot), gS celC Γ ad N σ s H locs → lv_has ls 2 [] → W p l e (gR 2 0 0) s m args below meth c H locs 0 0 (gQi celC Γ ad N r σ below args s) (F0 m 18 ls [.int x2]) := by
    intro H locs ls S hl
    cases hf
    exact g_reti X S rfl dX8_end_18
  replace hf := hr3
  refine lv_if_eq (tgt := 17) hx hb dX8_end_5 (by decide) (fun c5 => ?_) (fun c5 => ?_)
  · have hf := (if_pos c5).symm.trans hf
    refine lv_iconst (v := (0 : Int32)) hx hb dX8_end_17 (by decide) ?_
    cases hf
    exact J4 _ _ _ S (lv_sub hl [] rfl)
  · have hf := (if_neg c5).symm.trans hf
    refine lv_aload_n hx hb dX8_end_8 rfl (lv_at hl 0 rfl) ?_
    refine gfX8_15 X S hN hk dX8_end_9 ?_
    refine lv_iload_n hx hb dX8_end_12 rfl (lv_at hl 1 rfl) ?_
    obtain ⟨v6, hv6, hf⟩ := g_s1 hf
    refine g_iald X S (kd_N (kd_8_2 hk) (by decide) hN) (ceC_116 (kd_8_2 hk)) hv6 dX8_end_13 ?_
    refine lv_goto (tgt := 18) hx hb dX8_end_14 (by decide) ?_
    cases hf
    exact J4 _ _ _ S (lv_sub hl [] rfl)

noncomputable def f_X8_frames (σ : gSt) (k : Nat) (a0 : Int32) : Option (Int32) :=
  (g_k1 (f_X8_end σ k a0) fun v1 => (g_k1 (f_X8_first σ k a0) fun v2 => some (v1 - v2)))
set_option maxRecDepth 100000 in
set_option maxHeartbeats 4000000 in
theorem c_X8_frames (l : Launch) {Γ : gG} {ad : Nat → Nat} {N : Nat} (hN : 202 ≤ N) {σ : gSt} {k : Nat} {a0 : Int32} (hk : gkd k = 8) {r : Int32} (hf : f_X8_frames σ k a0 = some r) : gMi l celC Γ ad N yX8_frames cX8_frames 2 (some .int) (gR 3 0 0) [.ref (ad k), .int a0] σ r σ := by
  intro sz
  refine gOf (Qc := fun sz => gQci celC Γ ad N r σ sz) RX8 (by decide) rfl (Nat.le_of_ble_eq_true rfl) (fun p e s m args below meth c H locs ls X S hl => ?_)
  have hl : lv_has ls 2 [(0, .ref (ad k)), (1, .int a0)] := hl
  have hx := X.1
  have hb := X.2.1
  unfold f_X8_frames at hf
  refine lv_aload_n hx hb dX8_frames_0 rfl (lv_at hl 0 rfl) ?_
  refine lv_iload_n hx hb dX8_frames_1 rfl (lv_at hl 1 rfl) ?_
  obtain ⟨v1, hv1, hf⟩ := g_s1 hf
  refine g_ki S (g_runV (rest := []) X S (c_X8_end l hN hk hv1 _) cvX8_end mlX8_41 (kd_N hk (by decide) hN) (ceC_8 hk _) rfl rfl rfl hl.1 (Nat.le_of_ble_eq_true rfl) ⟨⟨rfl, rfl⟩, ⟨Nat.le_of_ble_eq_true rfl, Nat.le_of_ble_eq_true rfl⟩, Nat.le_of_ble_eq_true rfl, Nat.le_of_ble_eq_true rfl⟩ dX8_frames_2) (fun H locs S => ?_)
  refine lv_aload_n hx hb dX8_frames_5 rfl (lv_at hl 0 rfl) ?_
  refine lv_iload_n hx hb dX8_frames_6 rfl (lv_at hl 1 rfl) ?_
  obtain ⟨v2, hv2, hf⟩ := g_s1 hf
  refine g_ki S (g_runV (rest := [.int v1]) X S (c_X8_first l hN hk hv2 _) cvX8_first mlX8_45 (kd_N hk (by decide) hN) (ceC_8 hk _) rfl rfl rfl hl.1 (Nat.le_of_ble_eq_true rfl) ⟨⟨rfl, rfl⟩, ⟨Nat.le_of_ble_eq_true rfl, Nat.le_of_ble_eq_true rfl⟩, Nat.le_of_ble_eq_true rfl, Nat.le_of_ble_eq_true rfl⟩ dX8_frames_7) (fun H locs S => ?_)
  refine lv_isub hx hb dX8_frames_10 ?_
  cases hf
  exact g_reti X S rfl dX8_frames_11

noncomputable def f_X8_load (σ : gSt) (k : Nat) (a0 : Int32) : Option (Int32) :=
  (g_k1 (f_X8_size σ k a0) fun v1 => (g_k1 (f_X8_loadBetween σ k a0 (0 : Int32) v1) fun v2 => some v2))
set_option maxRecDepth 100000 in
set_option maxHeartbeats 4000000 in
theorem c_X8_load (l : Launch) {Γ : gG} {ad : Nat → Nat} {N : Nat} (hN : 202 ≤ N) {σ : gSt} {k : Nat} {a0 : Int32} (hk : gkd k = 8) {r : Int32} (hf : f_X8_load σ k a0 = some r) : gMi l celC Γ ad N yX8_load cX8_load 2 (some .int) (gR 4 0 0) [.ref (ad k), .int a0] σ r σ := by
  intro sz
  refine gOf (Qc := fun sz => gQci celC Γ ad N r σ sz) RX8 (by decide) rfl (Nat.le_of_ble_eq_true rfl) (fun p e s m args below meth c H locs ls X S hl => ?_)
  have hl : lv_has ls 2 [(0, .ref (ad k)), (1, .int a0)] := hl
  have hx := X.1
  have hb := X.2.1
  unfold f_X8_load at hf
  refine lv_aload_n hx hb dX8_load_0 rfl (lv_at hl 0 rfl) ?_
  refine lv_iload_n hx hb dX8_load_1 rfl (lv_at hl 1 rfl) ?_
  refine lv_iconst (v := (0 : Int32)) hx hb dX8_load_2 (by decide) ?_
  refine lv_aload_n hx hb dX8_load_3 rfl (lv_at hl 0 rfl) ?_
  refine lv_iload_n hx hb dX8_load_4 rfl (lv_at hl 1 rfl) ?_
  obtain ⟨v1, hv1, hf⟩ := g_s1 hf
  refine g_ki S (g_runV (rest := [.int (0 : Int32), .int a0, .ref (ad k)]) X S (c_X8_size l hN hk hv1 _) cvX8_size mlX8_48 (kd_N hk (by decide) hN) (ceC_8 hk _) rfl rfl rfl hl.1 (Nat.le_of_ble_eq_true rfl) ⟨⟨rfl, rfl⟩, ⟨Nat.le_of_ble_eq_true rfl, Nat.le_of_ble_eq_true rfl⟩, Nat.le_of_ble_eq_true rfl, Nat.le_of_ble_eq_true rfl⟩ dX8_load_5) (fun H locs S => ?_)
  obtain ⟨v2, hv2, hf⟩ := g_s1 hf
  refine g_ki S (g_runV (rest := []) X S (c_X8_loadBetween l hN hk hv2 _) cvX8_loadBetween mlX8_51 (kd_N hk (by decide) hN) (ceC_8 hk _) rfl rfl rfl hl.1 (Nat.le_of_ble_eq_true rfl) ⟨⟨rfl, rfl⟩, ⟨Nat.le_of_ble_eq_true rfl, Nat.le_of_ble_eq_true rfl⟩, Nat.le_of_ble_eq_true rfl, Nat.le_of_ble_eq_true rfl⟩ dX8_load_8) (fun H locs S => ?_)
  cases hf
  exact g_reti X S rfl dX8_load_11

noncomputable def f_X9_isSetting (σ : gSt) (a0 : Int32) : Option (Int32) :=
  (g_k1 (if a0 < 0 then some (0 : Int32) else (if (6 : Int32) ≤ a0 then some (0 : Int32) else some (1 : Int32))) fun x1 => (g_k1 (gzb x1) fun v4 => some v4))
set_option maxRecDepth 100000 in
set_option maxHeartbeats 4000000 in
theorem c_X9_isSetting (l : Launch) {Γ : gG} {ad : Nat → Nat} {N : Nat} (hN : 202 ≤ N) {σ : gSt} {a0 : Int32}  {r : Int32} (hf : f_X9_isSetting σ a0 = some r) : gMi l celC Γ ad N yX9_isSetting cX9_isSetting 1 (some .boolean) (gR 1 0 0) [.int a0] σ r σ := by
  intro sz
  refine gOf (Qc := fun sz => gQci celC Γ ad N r σ sz) RX9 (by decide) rfl (Nat.le_of_ble_eq_true rfl) (fun p e s m args below meth c H locs ls X S hl => ?_)
  have hl : lv_has ls 1 [(0, .int a0)] := hl
  have hx := X.1
  have hb := X.2.1
  unfold f_X9_isSetting at hf
  refine lv_iload_n hx hb dX9_isSetting_0 rfl (lv_at hl 0 rfl) ?_
  obtain ⟨x1, hr2, hf⟩ := g_s1 hf
  have J3 : ∀ (H : Heap) (locs : List Loc) (ls : Array Slot), gS celC Γ ad N σ s H locs → lv_has ls 1 [] → W p l e (gR 1 0 0) s m args below meth c H locs 0 0 (gQi celC Γ ad N r σ below args s) (F0 m 15 ls [.int x1]) := by
    intro H locs ls S hl
    obtain ⟨v4, hv4, hf⟩ := g_s1 hf
    obtain ⟨hnv4, rfl⟩ := gzb_some hv4
    cases hf
    exact g_reti X S hnv4 dX9_isSetting_15
  replace hf := hr2
  refine lv_if_lt (tgt := 14) hx hb dX9_isSetting_1 (by decide) (fun c5 => ?_) (fun c5 => ?_)
  · have hf := (if_pos c5).symm.trans hf
    refine lv_iconst (v := (0 : Int32)) hx hb dX9_isSetting_14 (by decide) ?_
    cases hf
    exact J3 _ _ _ S (lv_sub hl [] rfl)
  · have hf := (if_neg c5).symm.trans hf
    refine lv_iload_n hx hb dX9_isSetting_4 rfl (lv_at hl 0 rfl) ?_
    refine lv_bipush (v := (6 : Int32)) hx hb dX9_isSetting_5 (by decide) ?_
    refine lv_icmp_ge (tgt := 14) hx hb dX9_isSetting_7 (by decide) (fun c6 => ?_) (fun c6 => ?_)
    · have hf := (if_pos c6).symm.trans hf
      refine lv_iconst (v := (0 : Int32)) hx hb dX9_isSetting_14 (by decide) ?_
      cases hf
      exact J3 _ _ _ S (lv_sub hl [] rfl)
    · have hf := (if_neg c6).symm.trans hf
      refine lv_iconst (v := (1 : Int32)) hx hb dX9_isSetting_10 (by decide) ?_
      refine lv_goto (tgt := 15) hx hb dX9_isSetting_11 (by decide) ?_
      cases hf
      exact J3 _ _ _ S (lv_sub hl [] rfl)

noncomputable def f_X8_shared (σ : gSt) (k : Nat) (a0 : Int32) (a1 : Int32) (a2 : Int32) : Option (Int32) :=
  (g_k1 (f_X8_has σ k a0) fun v1 => (if v1 = 0 then some (0 : Int32) else (g_k1 (gald σ (k + 2) 16 a0) fun v3 => (g_k1 (gald σ (k + 1) 16 a0) fun v5 => some (if (0 : Int32) < ((if v3 < a2 then v3 else a2) - (if a1 < v5 then v5 else a1)) then ((if v3 < a2 then v3 else a2) - (if a1 < v5 then v5 else a1)) else (0 : Int32))))))
set_option maxRecDepth 100000 in
set_option maxHeartbeats 4000000 in
theorem c_X8_shared (l : Launch) {Γ : gG} {ad : Nat → Nat} {N : Nat} (hN : 202 ≤ N) {σ : gSt} {k : Nat} {a0 : Int32} {a1 : Int32} {a2 : Int32} (hk : gkd k = 8) {r : Int32} (hf : f_X8_shared σ k a0 a1 a2 = some r) : gMi l celC Γ ad N yX8_shared cX8_shared 4 (some .int) (gR 2 0 0) [.ref (ad k), .int a0, .int a1, .int a2] σ r σ := by
  intro sz
  refine gOf (Qc := fun sz => gQci celC Γ ad N r σ sz) RX8 (by decide) rfl (Nat.le_of_ble_eq_true rfl) (fun p e s m args below meth c H locs ls X S hl => ?_)
  have hl : lv_has ls 4 [(0, .ref (ad k)), (1, .int a0), (2, .int a1), (3, .int a2)] := hl
  have hx := X.1
  have hb := X.2.1
  unfold f_X8_shared at hf
  refine lv_aload_n hx hb dX8_shared_0 rfl (lv_at hl 0 rfl) ?_
  refine lv_iload_n hx hb dX8_shared_1 rfl (lv_at hl 1 rfl) ?_
  obtain ⟨v1, hv1, hf⟩ := g_s1 hf
  refine g_ki S (g_runV (rest := []) X S (c_X8_has l hN hk hv1 _) cvX8_has mlX8_37 (kd_N hk (by decide) hN) (ceC_8 hk _) rfl rfl rfl hl.1 (Nat.le_of_ble_eq_true rfl) ⟨⟨rfl, rfl⟩, ⟨Nat.le_of_ble_eq_true rfl, Nat.le_of_ble_eq_true rfl⟩, Nat.le_of_ble_eq_true rfl, Nat.le_of_ble_eq_true rfl⟩ dX8_shared_2) (fun H locs S => ?_)
  refine lv_if_ne (tgt := 10) hx hb dX8_shared_5 (by decide) (fun c2 => ?_) (fun c2 => ?_)
  · have hf := (if_neg c2).symm.trans hf
    refine lv_iconst (v := (0 : Int32)) hx hb dX8_shared_10 (by decide) ?_
    refine lv_iload_n hx hb dX8_shared_11 rfl (lv_at hl 3 rfl) ?_
    refine lv_aload_n hx hb dX8_shared_12 rfl (lv_at hl 0 rfl) ?_
    refine gfX8_15 X S hN hk dX8_shared_13 ?_
    refine lv_iload_n hx hb dX8_shared_16 rfl (lv_at hl 1 rfl) ?_
    obtain ⟨v3, hv3, hf⟩ := g_s1 hf
    refine g_iald X S (kd_N (kd_8_2 hk) (by decide) hN) (ceC_116 (kd_8_2 hk)) hv3 dX8_shared_17 ?_
    refine g_min X hl.1 mwX8_64 ⟨⟨by decide, Nat.le_of_ble_eq_true rfl⟩, Nat.le_of_ble_eq_true rfl, Nat.le_of_ble_eq_true rfl⟩ dX8_shared_18 ?_
    refine lv_iload_n hx hb dX8_shared_21 rfl (lv_at hl 2 rfl) ?_
    refine lv_aload_n hx hb dX8_shared_22 rfl (lv_at hl 0 rfl) ?_
    refine gfX8_9 X S hN hk dX8_shared_23 ?_
    refine lv_iload_n hx hb dX8_shared_26 rfl (lv_at hl 1 rfl) ?_
    obtain ⟨v5, hv5, hf⟩ := g_s1 hf
    refine g_iald X S (kd_N (kd_8_1 hk) (by decide) hN) (ceC_116 (kd_8_1 hk)) hv5 dX8_shared_27 ?_
    refine g_max X hl.1 mwX8_59 ⟨⟨by decide, Nat.le_of_ble_eq_true rfl⟩, Nat.le_of_ble_eq_true rfl, Nat.le_of_ble_eq_true rfl⟩ dX8_shared_28 ?_
    refine lv_isub hx hb dX8_shared_31 ?_
    refine g_max X hl.1 mwX8_59 ⟨⟨by decide, Nat.le_of_ble_eq_true rfl⟩, Nat.le_of_ble_eq_true rfl, Nat.le_of_ble_eq_true rfl⟩ dX8_shared_32 ?_
    cases hf
    exact g_reti X S rfl dX8_shared_35
  · have hf := (if_pos c2).symm.trans hf
    refine lv_iconst (v := (0 : Int32)) hx hb dX8_shared_8 (by decide) ?_
    cases hf
    exact g_reti X S rfl dX8_shared_9

noncomputable def f_X8_sharesWithOthers_l1 (σ : gSt) (k : Nat) (a0 : Int32) (a1 : Int32) (a2 : Int32) : Nat → Int32 → Option (Int32)
  | 0, _ => none
  | n + 1, i1 => (if (σ k 5) ≤ i1 then some (0 : Int32) else (if i1 = a0 then (f_X8_sharesWithOthers_l1 σ k a0 a1 a2 n (i1 + 1)) else (g_k1 (f_X8_shared σ k i1 a1 a2) fun v4 => (if v4 ≤ 0 then (f_X8_sharesWithOthers_l1 σ k a0 a1 a2 n (i1 + 1)) else some (1 : Int32)))))
set_option maxRecDepth 100000 in
set_option maxHeartbeats 4000000 in
theorem w_X8_sharesWithOthers_l1 {l : Launch} {Γ : gG} {ad : Nat → Nat} {N : Nat} {p : Program} {e : Env} {s : State} {m : MethodId} {args : Array Value} {below : List Frame} {meth : Method} {c : Code} (hN : 202 ≤ N) (X : gX celC Γ ad N RX8 cX8_sharesWithOthers 5 (some .boolean) p s m args meth c) {σ : gSt} {k : Nat} {a0 : Int32} {a1 : Int32} {a2 : Int32} (hk : gkd k = 8) : ∀ (n : Nat) (i1 : Int32) (r : Int32), f_X8_sharesWithOthers_l1 σ k a0 a1 a2 n i1 = some r → ∀ (H : Heap) (locs : List Loc) (ls : Array Slot), gS celC Γ ad N σ s H locs → lv_has ls 5 [(4, .int i1), (0, .ref (ad k)), (1, .int a0), (2, .int a1), (3, .int a2)] → W p l e (gR 3 0 0) s m args below meth c H locs 0 0 (gQi celC Γ ad N r σ below args s) (F0 m 3 ls []) := by
  have hx := X.1
  have hb := X.2.1
  intro n
  induction n with
  | zero =>
    intro i1 r hf
    cases hf
  | succ n ih =>
    intro i1 r hf H locs ls S hl
    rw [f_X8_sharesWithOthers_l1] at hf
    refine lv_iload hx hb dX8_sharesWithOthers_3 (lv_at hl 0 rfl) ?_
    refine lv_aload_n hx hb dX8_sharesWithOthers_5 rfl (lv_at hl 1 rfl) ?_
    refine gfX8_27 X S hN hk dX8_sharesWithOthers_6 ?_
    refine lv_icmp_ge (tgt := 37) hx hb dX8_sharesWithOthers_9 (by decide) (fun c2 => ?_) (fun c2 => ?_)
    · have hf := (if_pos c2).symm.trans hf
      refine lv_iconst (v := (0 : Int32)) hx hb dX8_sharesWithOthers_37 (by decide) ?_
      cases hf
      exact g_reti X S (by decide +kernel) dX8_sharesWithOthers_38
    · have hf := (if_neg c2).symm.trans hf
      refine lv_iload hx hb dX8_sharesWithOthers_12 (lv_at hl 0 rfl) ?_
      refine lv_iload_n hx hb dX8_sharesWithOthers_14 rfl (lv_at hl 2 rfl) ?_
      refine lv_icmp_eq (tgt := 31) hx hb dX8_sharesWithOthers_15 (by decide) (fun c3 => ?_) (fun c3 => ?_)
      · have hf := (if_pos c3).symm.trans hf
        refine lv_iinc (v := (i1 + 1)) (lv' := [(4, .int (i1 + 1)), (0, .ref (ad k)), (1, .int a0), (2, .int a1), (3, .int a2)]) hx hb dX8_sharesWithOthers_31 hl (k := 0) rfl rfl (by decide) rfl (fun ls hl => ?_)
        refine lv_goto (tgt := 3) hx hb dX8_sharesWithOthers_34 (by decide) ?_
        exact ih _ _  hf _ _ _ S (lv_sub hl [0, 1, 2, 3, 4] rfl)
      · have hf := (if_neg c3).symm.trans hf
        refine lv_aload_n hx hb dX8_sharesWithOthers_18 rfl (lv_at hl 1 rfl) ?_
        refine lv_iload hx hb dX8_sharesWithOthers_19 (lv_at hl 0 rfl) ?_
        refine lv_iload_n hx hb dX8_sharesWithOthers_21 rfl (lv_at hl 3 rfl) ?_
        refine lv_iload_n hx hb dX8_sharesWithOthers_22 rfl (lv_at hl 4 rfl) ?_
        obtain ⟨v4, hv4, hf⟩ := g_s1 hf
        refine g_ki S (g_runV (rest := []) X S (c_X8_shared l hN hk hv4 _) cvX8_shared mlX8_67 (kd_N hk (by decide) hN) (ceC_8 hk _) rfl rfl rfl hl.1 (Nat.le_of_ble_eq_true rfl) ⟨⟨rfl, rfl⟩, ⟨Nat.le_of_ble_eq_true rfl, Nat.le_of_ble_eq_true rfl⟩, Nat.le_of_ble_eq_true rfl, Nat.le_of_ble_eq_true rfl⟩ dX8_sharesWithOthers_23) (fun H locs S => ?_)
        refine lv_if_le (tgt := 31) hx hb dX8_sharesWithOthers_26 (by decide) (fun c5 => ?_) (fun c5 => ?_)
        · have hf := (if_pos c5).symm.trans hf
          refine lv_iinc (v := (i1 + 1)) (lv' := [(4, .int (i1 + 1)), (0, .ref (ad k)), (1, .int a0), (2, .int a1), (3, .int a2)]) hx hb dX8_sharesWithOthers_31 hl (k := 0) rfl rfl (by decide) rfl (fun ls hl => ?_)
          refine lv_goto (tgt := 3) hx hb dX8_sharesWithOthers_34 (by decide) ?_
          exact ih _ _  hf _ _ _ S (lv_sub hl [0, 1, 2, 3, 4] rfl)
        · have hf := (if_neg c5).symm.trans hf
          refine lv_iconst (v := (1 : Int32)) hx hb dX8_sharesWithOthers_29 (by decide) ?_
          cases hf
          exact g_reti X S (by decide +kernel) dX8_sharesWithOthers_30
noncomputable def f_X8_sharesWithOthers (σ : gSt) (k : Nat) (a0 : Int32) (a1 : Int32) (a2 : Int32) : Option (Int32) :=
  (f_X8_sharesWithOthers_l1 σ k a0 a1 a2 FU (0 : Int32))
set_option maxRecDepth 100000 in
set_option maxHeartbeats 4000000 in
theorem c_X8_sharesWithOthers (l : Launch) {Γ : gG} {ad : Nat → Nat} {N : Nat} (hN : 202 ≤ N) {σ : gSt} {k : Nat} {a0 : Int32} {a1 : Int32} {a2 : Int32} (hk : gkd k = 8) {r : Int32} (hf : f_X8_sharesWithOthers σ k a0 a1 a2 = some r) : gMi l celC Γ ad N yX8_sharesWithOthers cX8_sharesWithOthers 5 (some .boolean) (gR 3 0 0) [.ref (ad k), .int a0, .int a1, .int a2] σ r σ := by
  intro sz
  refine gOf (Qc := fun sz => gQci celC Γ ad N r σ sz) RX8 (by decide) rfl (Nat.le_of_ble_eq_true rfl) (fun p e s m args below meth c H locs ls X S hl => ?_)
  have hl : lv_has ls 5 [(0, .ref (ad k)), (1, .int a0), (2, .int a1), (3, .int a2)] := hl
  have hx := X.1
  have hb := X.2.1
  unfold f_X8_sharesWithOthers at hf
  refine lv_iconst (v := (0 : Int32)) hx hb dX8_sharesWithOthers_0 (by decide) ?_
  refine lv_istore (lv' := [(4, .int (0 : Int32)), (0, .ref (ad k)), (1, .int a0), (2, .int a1), (3, .int a2)]) hx hb dX8_sharesWithOthers_1 hl (by decide) rfl (fun ls hl => ?_)
  exact w_X8_sharesWithOthers_l1 hN X hk FU _ _  hf _ _ _ S (lv_sub hl [0, 1, 2, 3, 4] rfl)

