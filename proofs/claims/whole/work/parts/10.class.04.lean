noncomputable def f_X2_captionsOverCuts_l1 (σ : gSt) (a0 : Int32) : Nat → Int32 → Int32 → Option (Int32)
  | 0, _, _ => none
  | n + 1, i1, i2 => (g_k1 (f_X3_trackOf σ 1 a0) fun v4 => (if (σ v4 5) ≤ i1 then some i2 else (g_k1 (f_X2_cutsWithin σ a0 i1) fun v6 => (g_k1 (if v6 ≤ 0 then some i2 else some (i2 + 1)) fun x7 => (f_X2_captionsOverCuts_l1 σ a0 n (i1 + 1) x7)))))
set_option maxRecDepth 100000 in
set_option maxHeartbeats 4000000 in
theorem w_X2_captionsOverCuts_l1 {l : Launch} {Γ : gG} {ad : Nat → Nat} {N : Nat} {p : Program} {e : Env} {s : State} {m : MethodId} {args : Array Value} {below : List Frame} {meth : Method} {c : Code} {Q : State → Prop} (hN : 202 ≤ N) (X : gX celC Γ ad N RX2 cX2_captionsOverCuts 4 (some .int) p s m args meth c) {σ : gSt} {a0 : Int32}  : ∀ (n : Nat) (i1 : Int32) (i2 : Int32) (r3 : Int32), f_X2_captionsOverCuts_l1 σ a0 n i1 i2 = some r3 → (∀ (H : Heap) (locs : List Loc) (ls : Array Slot), gS celC Γ ad N σ s H locs → lv_has ls 4 [(2, .int r3)] → W p l e (gR 4 0 0) s m args below meth c H locs 0 0 (Q) (F0 m 37 ls [])) → ∀ (H : Heap) (locs : List Loc) (ls : Array Slot), gS celC Γ ad N σ s H locs → lv_has ls 4 [(3, .int i1), (2, .int i2), (0, .ref (ad 17)), (1, .int a0)] → W p l e (gR 4 0 0) s m args below meth c H locs 0 0 (Q) (F0 m 4 ls []) := by
  have hx := X.1
  have hb := X.2.1
  intro n
  induction n with
  | zero =>
    intro i1 i2 r3 hf
    cases hf
  | succ n ih =>
    intro i1 i2 r3 hf J H locs ls S hl
    rw [f_X2_captionsOverCuts_l1] at hf
    refine lv_iload_n hx hb dX2_captionsOverCuts_4 rfl (lv_at hl 0 rfl) ?_
    refine lv_aload_n hx hb dX2_captionsOverCuts_5 rfl (lv_at hl 2 rfl) ?_
    refine gfX2_9 X S hN kd_s17 dX2_captionsOverCuts_6 ?_
    refine lv_iload_n hx hb dX2_captionsOverCuts_9 rfl (lv_at hl 3 rfl) ?_
    obtain ⟨v4, hv4, hf⟩ := g_s1 hf
    refine g_kr S (g_runV (rest := [.int i1]) X S (c_X3_trackOf l hN kd_s1 hv4 _) cvX3_trackOf mlX2_22 (kd_N kd_s1 (by decide) hN) (ceC_3 kd_s1 _) rfl rfl rfl hl.1 (Nat.le_of_ble_eq_true rfl) ⟨⟨rfl, rfl⟩, ⟨Nat.le_of_ble_eq_true rfl, Nat.le_of_ble_eq_true rfl⟩, Nat.le_of_ble_eq_true rfl, Nat.le_of_ble_eq_true rfl⟩ dX2_captionsOverCuts_10) (fun H locs S => ?_)
    have hkv4 : gkd v4 = 8 := kr_X3_trackOf kd_s1 hv4
    refine gfX2_47 X S hN hkv4 dX2_captionsOverCuts_13 ?_
    refine lv_icmp_ge (tgt := 37) hx hb dX2_captionsOverCuts_16 (by decide) (fun c5 => ?_) (fun c5 => ?_)
    · have hf := (if_pos c5).symm.trans hf
      cases hf
      exact J _ _ _ S (lv_sub hl [1] rfl)
    · have hf := (if_neg c5).symm.trans hf
      refine lv_aload_n hx hb dX2_captionsOverCuts_19 rfl (lv_at hl 2 rfl) ?_
      refine lv_iload_n hx hb dX2_captionsOverCuts_20 rfl (lv_at hl 3 rfl) ?_
      refine lv_iload_n hx hb dX2_captionsOverCuts_21 rfl (lv_at hl 0 rfl) ?_
      obtain ⟨v6, hv6, hf⟩ := g_s1 hf
      refine g_ki S (g_runV (rest := []) X S (c_X2_cutsWithin l hN  hv6 _) cvX2_cutsWithin mlX2_102 (kd_N kd_s17 (by decide) hN) (ceC_2 kd_s17 _) rfl rfl rfl hl.1 (Nat.le_of_ble_eq_true rfl) ⟨⟨rfl, rfl⟩, ⟨Nat.le_of_ble_eq_true rfl, Nat.le_of_ble_eq_true rfl⟩, Nat.le_of_ble_eq_true rfl, Nat.le_of_ble_eq_true rfl⟩ dX2_captionsOverCuts_22) (fun H locs S => ?_)
      obtain ⟨x7, hr8, hf⟩ := g_s1 hf
      have J9 : ∀ (H : Heap) (locs : List Loc) (ls : Array Slot), gS celC Γ ad N σ s H locs → lv_has ls 4 [(3, .int i1), (2, .int x7), (0, .ref (ad 17)), (1, .int a0)] → W p l e (gR 4 0 0) s m args below meth c H locs 0 0 (Q) (F0 m 31 ls []) := by
        intro H locs ls S hl
        refine lv_iinc (v := (i1 + 1)) (lv' := [(3, .int (i1 + 1)), (2, .int x7), (0, .ref (ad 17)), (1, .int a0)]) hx hb dX2_captionsOverCuts_31 hl (k := 0) rfl rfl (by decide) rfl (fun ls hl => ?_)
        refine lv_goto (tgt := 4) hx hb dX2_captionsOverCuts_34 (by decide) ?_
        exact ih _ _ _  hf J _ _ _ S (lv_sub hl [0, 1, 2, 3] rfl)
      replace hf := hr8
      refine lv_if_le (tgt := 31) hx hb dX2_captionsOverCuts_25 (by decide) (fun c10 => ?_) (fun c10 => ?_)
      · have hf := (if_pos c10).symm.trans hf
        cases hf
        exact J9 _ _ _ S (lv_sub hl [0, 1, 2, 3] rfl)
      · have hf := (if_neg c10).symm.trans hf
        refine lv_iinc (v := (i2 + 1)) (lv' := [(2, .int (i2 + 1)), (3, .int i1), (0, .ref (ad 17)), (1, .int a0)]) hx hb dX2_captionsOverCuts_28 hl (k := 1) rfl rfl (by decide) rfl (fun ls hl => ?_)
        cases hf
        exact J9 _ _ _ S (lv_sub hl [1, 0, 2, 3] rfl)
noncomputable def f_X2_captionsOverCuts (σ : gSt) (a0 : Int32) : Option (Int32) :=
  (g_k1 (f_X2_captionsOverCuts_l1 σ a0 FU (0 : Int32) (0 : Int32)) fun r3 => some r3)
set_option maxRecDepth 100000 in
set_option maxHeartbeats 4000000 in
theorem c_X2_captionsOverCuts (l : Launch) {Γ : gG} {ad : Nat → Nat} {N : Nat} (hN : 202 ≤ N) {σ : gSt} {a0 : Int32}  {r : Int32} (hf : f_X2_captionsOverCuts σ a0 = some r) : gMi l celC Γ ad N yX2_captionsOverCuts cX2_captionsOverCuts 4 (some .int) (gR 4 0 0) [.ref (ad 17), .int a0] σ r σ := by
  intro sz
  refine gOf (Qc := fun sz => gQci celC Γ ad N r σ sz) RX2 (by decide) rfl (Nat.le_of_ble_eq_true rfl) (fun p e s m args below meth c H locs ls X S hl => ?_)
  have hl : lv_has ls 4 [(0, .ref (ad 17)), (1, .int a0)] := hl
  have hx := X.1
  have hb := X.2.1
  unfold f_X2_captionsOverCuts at hf
  refine lv_iconst (v := (0 : Int32)) hx hb dX2_captionsOverCuts_0 (by decide) ?_
  refine lv_istore_n (lv' := [(2, .int (0 : Int32)), (0, .ref (ad 17)), (1, .int a0)]) hx hb dX2_captionsOverCuts_1 rfl hl (by decide) rfl (fun ls hl => ?_)
  refine lv_iconst (v := (0 : Int32)) hx hb dX2_captionsOverCuts_2 (by decide) ?_
  refine lv_istore_n (lv' := [(3, .int (0 : Int32)), (2, .int (0 : Int32)), (0, .ref (ad 17)), (1, .int a0)]) hx hb dX2_captionsOverCuts_3 rfl hl (by decide) rfl (fun ls hl => ?_)
  obtain ⟨r3, hr11, hf⟩ := g_s1 hf
  refine w_X2_captionsOverCuts_l1 hN X  FU _ _ _  hr11 (fun H locs ls S hl => ?_) _ _ _ S (lv_sub hl [0, 1, 2, 3] rfl)
  refine lv_iload_n hx hb dX2_captionsOverCuts_37 rfl (lv_at hl 0 rfl) ?_
  cases hf
  exact g_reti X S rfl dX2_captionsOverCuts_38

noncomputable def f_X2_mergeRefusal (σ : gSt) (a0 : Int32) (a1 : Int32) : Option (Int32 × gSt) :=
  (g_k1 (f_X3_trackOf σ 1 a0) fun v1 => (g_k1 (f_X8_has σ v1 (a1 + (1 : Int32))) fun v2 => (if v2 = 0 then some ((5 : Int32), σ) else (g_k1 (f_X8_kind σ v1 a1) fun v4 => (g_k1 (f_X8_kind σ v1 (a1 + (1 : Int32))) fun v5 => (if v4 = v5 then (g_k1 (f_X8_gapBefore σ v1 (a1 + (1 : Int32))) fun v7 => (g_k1 (f_X3_setting σ 1 (3 : Int32)) fun v8 => (if v7 ≤ v8 then (g_k2 (f_X2_joinWithNext σ a0 a1) fun v10 σ11 => (g_k1 (f_X7_isValid σ11 v10) fun v12 => (g_k1 (if v12 = 0 then some (4 : Int32) else some (0 : Int32)) fun x13 => some (x13, σ11)))) else some ((7 : Int32), σ)))) else some ((6 : Int32), σ)))))))
set_option maxRecDepth 100000 in
set_option maxHeartbeats 4000000 in
theorem c_X2_mergeRefusal (l : Launch) {Γ : gG} {ad : Nat → Nat} {N : Nat} (hN : 202 ≤ N) {σ : gSt} {a0 : Int32} {a1 : Int32}  {r : Int32} {σ' : gSt} (hf : f_X2_mergeRefusal σ a0 a1 = some (r, σ')) : gMi l celC Γ ad N yX2_mergeRefusal cX2_mergeRefusal 4 (some .int) (gR 5 0 0) [.ref (ad 17), .int a0, .int a1] σ r σ' := by
  intro sz
  refine gOf (Qc := fun sz => gQci celC Γ ad N r σ' sz) RX2 (by decide) rfl (Nat.le_of_ble_eq_true rfl) (fun p e s m args below meth c H locs ls X S hl => ?_)
  have hl : lv_has ls 4 [(0, .ref (ad 17)), (1, .int a0), (2, .int a1)] := hl
  have hx := X.1
  have hb := X.2.1
  unfold f_X2_mergeRefusal at hf
  refine lv_aload_n hx hb dX2_mergeRefusal_0 rfl (lv_at hl 0 rfl) ?_
  refine gfX2_9 X S hN kd_s17 dX2_mergeRefusal_1 ?_
  refine lv_iload_n hx hb dX2_mergeRefusal_4 rfl (lv_at hl 1 rfl) ?_
  obtain ⟨v1, hv1, hf⟩ := g_s1 hf
  refine g_kr S (g_runV (rest := []) X S (c_X3_trackOf l hN kd_s1 hv1 _) cvX3_trackOf mlX2_22 (kd_N kd_s1 (by decide) hN) (ceC_3 kd_s1 _) rfl rfl rfl hl.1 (Nat.le_of_ble_eq_true rfl) ⟨⟨rfl, rfl⟩, ⟨Nat.le_of_ble_eq_true rfl, Nat.le_of_ble_eq_true rfl⟩, Nat.le_of_ble_eq_true rfl, Nat.le_of_ble_eq_true rfl⟩ dX2_mergeRefusal_5) (fun H locs S => ?_)
  have hkv1 : gkd v1 = 8 := kr_X3_trackOf kd_s1 hv1
  refine lv_astore_n (lv' := [(3, .ref (ad v1)), (0, .ref (ad 17)), (1, .int a0), (2, .int a1)]) hx hb dX2_mergeRefusal_8 rfl hl (by decide) rfl (fun ls hl => ?_)
  refine lv_aload_n hx hb dX2_mergeRefusal_9 rfl (lv_at hl 0 rfl) ?_
  refine lv_iload_n hx hb dX2_mergeRefusal_10 rfl (lv_at hl 3 rfl) ?_
  refine lv_iconst (v := (1 : Int32)) hx hb dX2_mergeRefusal_11 (by decide) ?_
  refine lv_iadd hx hb dX2_mergeRefusal_12 ?_
  obtain ⟨v2, hv2, hf⟩ := g_s1 hf
  refine g_ki S (g_runV (rest := []) X S (c_X8_has l hN hkv1 hv2 _) cvX8_has mlX2_108 (kd_N hkv1 (by decide) hN) (ceC_8 hkv1 _) rfl rfl rfl hl.1 (Nat.le_of_ble_eq_true rfl) ⟨⟨rfl, rfl⟩, ⟨Nat.le_of_ble_eq_true rfl, Nat.le_of_ble_eq_true rfl⟩, Nat.le_of_ble_eq_true rfl, Nat.le_of_ble_eq_true rfl⟩ dX2_mergeRefusal_13) (fun H locs S => ?_)
  refine lv_if_ne (tgt := 21) hx hb dX2_mergeRefusal_16 (by decide) (fun c3 => ?_) (fun c3 => ?_)
  · have hf := (if_neg c3).symm.trans hf
    refine lv_aload_n hx hb dX2_mergeRefusal_21 rfl (lv_at hl 0 rfl) ?_
    refine lv_iload_n hx hb dX2_mergeRefusal_22 rfl (lv_at hl 3 rfl) ?_
    obtain ⟨v4, hv4, hf⟩ := g_s1 hf
    refine g_ki S (g_runV (rest := []) X S (c_X8_kind l hN hkv1 hv4 _) cvX8_kind mlX2_28 (kd_N hkv1 (by decide) hN) (ceC_8 hkv1 _) rfl rfl rfl hl.1 (Nat.le_of_ble_eq_true rfl) ⟨⟨rfl, rfl⟩, ⟨Nat.le_of_ble_eq_true rfl, Nat.le_of_ble_eq_true rfl⟩, Nat.le_of_ble_eq_true rfl, Nat.le_of_ble_eq_true rfl⟩ dX2_mergeRefusal_23) (fun H locs S => ?_)
    refine lv_aload_n hx hb dX2_mergeRefusal_26 rfl (lv_at hl 0 rfl) ?_
    refine lv_iload_n hx hb dX2_mergeRefusal_27 rfl (lv_at hl 3 rfl) ?_
    refine lv_iconst (v := (1 : Int32)) hx hb dX2_mergeRefusal_28 (by decide) ?_
    refine lv_iadd hx hb dX2_mergeRefusal_29 ?_
    obtain ⟨v5, hv5, hf⟩ := g_s1 hf
    refine g_ki S (g_runV (rest := [.int v4]) X S (c_X8_kind l hN hkv1 hv5 _) cvX8_kind mlX2_28 (kd_N hkv1 (by decide) hN) (ceC_8 hkv1 _) rfl rfl rfl hl.1 (Nat.le_of_ble_eq_true rfl) ⟨⟨rfl, rfl⟩, ⟨Nat.le_of_ble_eq_true rfl, Nat.le_of_ble_eq_true rfl⟩, Nat.le_of_ble_eq_true rfl, Nat.le_of_ble_eq_true rfl⟩ dX2_mergeRefusal_30) (fun H locs S => ?_)
    refine lv_icmp_eq (tgt := 39) hx hb dX2_mergeRefusal_33 (by decide) (fun c6 => ?_) (fun c6 => ?_)
    · have hf := (if_pos c6).symm.trans hf
      refine lv_aload_n hx hb dX2_mergeRefusal_39 rfl (lv_at hl 0 rfl) ?_
      refine lv_iload_n hx hb dX2_mergeRefusal_40 rfl (lv_at hl 3 rfl) ?_
      refine lv_iconst (v := (1 : Int32)) hx hb dX2_mergeRefusal_41 (by decide) ?_
      refine lv_iadd hx hb dX2_mergeRefusal_42 ?_
      obtain ⟨v7, hv7, hf⟩ := g_s1 hf
      refine g_ki S (g_runV (rest := []) X S (c_X8_gapBefore l hN hkv1 hv7 _) cvX8_gapBefore mlX2_67 (kd_N hkv1 (by decide) hN) (ceC_8 hkv1 _) rfl rfl rfl hl.1 (Nat.le_of_ble_eq_true rfl) ⟨⟨rfl, rfl⟩, ⟨Nat.le_of_ble_eq_true rfl, Nat.le_of_ble_eq_true rfl⟩, Nat.le_of_ble_eq_true rfl, Nat.le_of_ble_eq_true rfl⟩ dX2_mergeRefusal_43) (fun H locs S => ?_)
      refine lv_aload_n hx hb dX2_mergeRefusal_46 rfl (lv_at hl 1 rfl) ?_
      refine gfX2_9 X S hN kd_s17 dX2_mergeRefusal_47 ?_
      refine lv_iconst (v := (3 : Int32)) hx hb dX2_mergeRefusal_50 (by decide) ?_
      obtain ⟨v8, hv8, hf⟩ := g_s1 hf
      refine g_ki S (g_runV (rest := [.int v7]) X S (c_X3_setting l hN kd_s1 hv8 _) cvX3_setting mlX2_37 (kd_N kd_s1 (by decide) hN) (ceC_3 kd_s1 _) rfl rfl rfl hl.1 (Nat.le_of_ble_eq_true rfl) ⟨⟨rfl, rfl⟩, ⟨Nat.le_of_ble_eq_true rfl, Nat.le_of_ble_eq_true rfl⟩, Nat.le_of_ble_eq_true rfl, Nat.le_of_ble_eq_true rfl⟩ dX2_mergeRefusal_51) (fun H locs S => ?_)
      refine lv_icmp_le (tgt := 60) hx hb dX2_mergeRefusal_54 (by decide) (fun c9 => ?_) (fun c9 => ?_)
      · have hf := (if_pos c9).symm.trans hf
        refine lv_aload_n hx hb dX2_mergeRefusal_60 rfl (lv_at hl 1 rfl) ?_
        refine lv_iload_n hx hb dX2_mergeRefusal_61 rfl (lv_at hl 2 rfl) ?_
        refine lv_iload_n hx hb dX2_mergeRefusal_62 rfl (lv_at hl 3 rfl) ?_
        obtain ⟨v10, σ11, hv10, hf⟩ := g_s2 hf
        refine g_kr S (g_runV (rest := []) X S (c_X2_joinWithNext l hN  hv10 _) cvX2_joinWithNext mlX2_111 (kd_N kd_s17 (by decide) hN) (ceC_2 kd_s17 _) rfl rfl rfl hl.1 (Nat.le_of_ble_eq_true rfl) ⟨⟨rfl, rfl⟩, ⟨Nat.le_of_ble_eq_true rfl, Nat.le_of_ble_eq_true rfl⟩, Nat.le_of_ble_eq_true rfl, Nat.le_of_ble_eq_true rfl⟩ dX2_mergeRefusal_63) (fun H locs S => ?_)
        have hkv10 : gkd v10 = 7 := kr_X2_joinWithNext  hv10
        obtain ⟨v12, hv12, hf⟩ := g_s1 hf
        refine g_ki S (g_runV (rest := []) X S (c_X7_isValid l hN hkv10 hv12 _) cvX7_isValid mlX2_115 (kd_N hkv10 (by decide) hN) (ceC_7 hkv10 _) rfl rfl rfl hl.1 (Nat.le_of_ble_eq_true rfl) ⟨⟨rfl, rfl⟩, ⟨Nat.le_of_ble_eq_true rfl, Nat.le_of_ble_eq_true rfl⟩, Nat.le_of_ble_eq_true rfl, Nat.le_of_ble_eq_true rfl⟩ dX2_mergeRefusal_66) (fun H locs S => ?_)
        obtain ⟨x13, hr14, hf⟩ := g_s1 hf
        have J15 : ∀ (H : Heap) (locs : List Loc) (ls : Array Slot), gS celC Γ ad N σ11 s H locs → lv_has ls 4 [] → W p l e (gR 5 0 0) s m args below meth c H locs 0 0 (gQi celC Γ ad N r σ' below args s) (F0 m 77 ls [.int x13]) := by
          intro H locs ls S hl
          cases hf
          exact g_reti X S rfl dX2_mergeRefusal_77
        replace hf := hr14
        refine lv_if_eq (tgt := 76) hx hb dX2_mergeRefusal_69 (by decide) (fun c16 => ?_) (fun c16 => ?_)
        · have hf := (if_pos c16).symm.trans hf
          refine lv_iconst (v := (4 : Int32)) hx hb dX2_mergeRefusal_76 (by decide) ?_
          cases hf
          exact J15 _ _ _ S (lv_sub hl [] rfl)
        · have hf := (if_neg c16).symm.trans hf
          refine lv_iconst (v := (0 : Int32)) hx hb dX2_mergeRefusal_72 (by decide) ?_
          refine lv_goto (tgt := 77) hx hb dX2_mergeRefusal_73 (by decide) ?_
          cases hf
          exact J15 _ _ _ S (lv_sub hl [] rfl)
      · have hf := (if_neg c9).symm.trans hf
        refine lv_bipush (v := (7 : Int32)) hx hb dX2_mergeRefusal_57 (by decide) ?_
        cases hf
        exact g_reti X S rfl dX2_mergeRefusal_59
    · have hf := (if_neg c6).symm.trans hf
      refine lv_bipush (v := (6 : Int32)) hx hb dX2_mergeRefusal_36 (by decide) ?_
      cases hf
      exact g_reti X S rfl dX2_mergeRefusal_38
  · have hf := (if_pos c3).symm.trans hf
    refine lv_iconst (v := (5 : Int32)) hx hb dX2_mergeRefusal_19 (by decide) ?_
    cases hf
    exact g_reti X S rfl dX2_mergeRefusal_20

noncomputable def f_X2_captionsToMerge_l1 (σ : gSt) (a0 : Int32) : Nat → Int32 → Int32 → gSt → Option (Int32 × gSt)
  | 0, _, _, _ => none
  | n + 1, i1, i2, σ3 => (g_k1 (f_X3_trackOf σ3 1 a0) fun v6 => (if (σ3 v6 5) ≤ i1 then some (i2, σ3) else (g_k2 (f_X2_mergeRefusal σ3 a0 i1) fun v8 σ9 => (g_k1 (if v8 = 0 then some (i2 + 1) else some i2) fun x10 => (f_X2_captionsToMerge_l1 σ a0 n (i1 + 1) x10 σ9)))))
set_option maxRecDepth 100000 in
set_option maxHeartbeats 4000000 in
theorem w_X2_captionsToMerge_l1 {l : Launch} {Γ : gG} {ad : Nat → Nat} {N : Nat} {p : Program} {e : Env} {s : State} {m : MethodId} {args : Array Value} {below : List Frame} {meth : Method} {c : Code} {Q : State → Prop} (hN : 202 ≤ N) (X : gX celC Γ ad N RX2 cX2_captionsToMerge 4 (some .int) p s m args meth c) {σ : gSt} {a0 : Int32}  : ∀ (n : Nat) (i1 : Int32) (i2 : Int32) (σ3 : gSt) (r4 : Int32) (σ5 : gSt), f_X2_captionsToMerge_l1 σ a0 n i1 i2 σ3 = some (r4, σ5) → (∀ (H : Heap) (locs : List Loc) (ls : Array Slot), gS celC Γ ad N σ5 s H locs → lv_has ls 4 [(2, .int r4)] → W p l e (gR 6 0 0) s m args below meth c H locs 0 0 (Q) (F0 m 37 ls [])) → ∀ (H : Heap) (locs : List Loc) (ls : Array Slot), gS celC Γ ad N σ3 s H locs → lv_has ls 4 [(3, .int i1), (2, .int i2), (0, .ref (ad 17)), (1, .int a0)] → W p l e (gR 6 0 0) s m args below meth c H locs 0 0 (Q) (F0 m 4 ls []) := by
  have hx := X.1
  have hb := X.2.1
  intro n
  induction n with
  | zero =>
    intro i1 i2 σ3 r4 σ5 hf
    cases hf
  | succ n ih =>
    intro i1 i2 σ3 r4 σ5 hf J H locs ls S hl
    rw [f_X2_captionsToMerge_l1] at hf
    refine lv_iload_n hx hb dX2_captionsToMerge_4 rfl (lv_at hl 0 rfl) ?_
    refine lv_aload_n hx hb dX2_captionsToMerge_5 rfl (lv_at hl 2 rfl) ?_
    refine gfX2_9 X S hN kd_s17 dX2_captionsToMerge_6 ?_
    refine lv_iload_n hx hb dX2_captionsToMerge_9 rfl (lv_at hl 3 rfl) ?_
    obtain ⟨v6, hv6, hf⟩ := g_s1 hf
    refine g_kr S (g_runV (rest := [.int i1]) X S (c_X3_trackOf l hN kd_s1 hv6 _) cvX3_trackOf mlX2_22 (kd_N kd_s1 (by decide) hN) (ceC_3 kd_s1 _) rfl rfl rfl hl.1 (Nat.le_of_ble_eq_true rfl) ⟨⟨rfl, rfl⟩, ⟨Nat.le_of_ble_eq_true rfl, Nat.le_of_ble_eq_true rfl⟩, Nat.le_of_ble_eq_true rfl, Nat.le_of_ble_eq_true rfl⟩ dX2_captionsToMerge_10) (fun H locs S => ?_)
    have hkv6 : gkd v6 = 8 := kr_X3_trackOf kd_s1 hv6
    refine gfX2_47 X S hN hkv6 dX2_captionsToMerge_13 ?_
    refine lv_icmp_ge (tgt := 37) hx hb dX2_captionsToMerge_16 (by decide) (fun c7 => ?_) (fun c7 => ?_)
    · have hf := (if_pos c7).symm.trans hf
      cases hf
      exact J _ _ _ S (lv_sub hl [1] rfl)
    · have hf := (if_neg c7).symm.trans hf
      refine lv_aload_n hx hb dX2_captionsToMerge_19 rfl (lv_at hl 2 rfl) ?_
      refine lv_iload_n hx hb dX2_captionsToMerge_20 rfl (lv_at hl 3 rfl) ?_
      refine lv_iload_n hx hb dX2_captionsToMerge_21 rfl (lv_at hl 0 rfl) ?_
      obtain ⟨v8, σ9, hv8, hf⟩ := g_s2 hf
      refine g_ki S (g_runV (rest := []) X S (c_X2_mergeRefusal l hN  hv8 _) cvX2_mergeRefusal mlX2_105 (kd_N kd_s17 (by decide) hN) (ceC_2 kd_s17 _) rfl rfl rfl hl.1 (Nat.le_of_ble_eq_true rfl) ⟨⟨rfl, rfl⟩, ⟨Nat.le_of_ble_eq_true rfl, Nat.le_of_ble_eq_true rfl⟩, Nat.le_of_ble_eq_true rfl, Nat.le_of_ble_eq_true rfl⟩ dX2_captionsToMerge_22) (fun H locs S => ?_)
      obtain ⟨x10, hr11, hf⟩ := g_s1 hf
      have J12 : ∀ (H : Heap) (locs : List Loc) (ls : Array Slot), gS celC Γ ad N σ9 s H locs → lv_has ls 4 [(3, .int i1), (2, .int x10), (0, .ref (ad 17)), (1, .int a0)] → W p l e (gR 6 0 0) s m args below meth c H locs 0 0 (Q) (F0 m 31 ls []) := by
        intro H locs ls S hl
        refine lv_iinc (v := (i1 + 1)) (lv' := [(3, .int (i1 + 1)), (2, .int x10), (0, .ref (ad 17)), (1, .int a0)]) hx hb dX2_captionsToMerge_31 hl (k := 0) rfl rfl (by decide) rfl (fun ls hl => ?_)
        refine lv_goto (tgt := 4) hx hb dX2_captionsToMerge_34 (by decide) ?_
        exact ih _ _ _ _ _  hf J _ _ _ S (lv_sub hl [0, 1, 2, 3] rfl)
      replace hf := hr11
      refine lv_if_ne (tgt := 31) hx hb dX2_captionsToMerge_25 (by decide) (fun c13 => ?_) (fun c13 => ?_)
      · have hf := (if_neg c13).symm.trans hf
        cases hf
        exact J12 _ _ _ S (lv_sub hl [0, 1, 2, 3] rfl)
      · have hf := (if_pos c13).symm.trans hf
        refine lv_iinc (v := (i2 + 1)) (lv' := [(2, .int (i2 + 1)), (3, .int i1), (0, .ref (ad 17)), (1, .int a0)]) hx hb dX2_captionsToMerge_28 hl (k := 1) rfl rfl (by decide) rfl (fun ls hl => ?_)
        cases hf
        exact J12 _ _ _ S (lv_sub hl [1, 0, 2, 3] rfl)
noncomputable def f_X2_captionsToMerge (σ : gSt) (a0 : Int32) : Option (Int32 × gSt) :=
  (g_k2 (f_X2_captionsToMerge_l1 σ a0 FU (0 : Int32) (0 : Int32) σ) fun r4 σ5 => some (r4, σ5))
set_option maxRecDepth 100000 in
set_option maxHeartbeats 4000000 in
theorem c_X2_captionsToMerge (l : Launch) {Γ : gG} {ad : Nat → Nat} {N : Nat} (hN : 202 ≤ N) {σ : gSt} {a0 : Int32}  {r : Int32} {σ' : gSt} (hf : f_X2_captionsToMerge σ a0 = some (r, σ')) : gMi l celC Γ ad N yX2_captionsToMerge cX2_captionsToMerge 4 (some .int) (gR 6 0 0) [.ref (ad 17), .int a0] σ r σ' := by
  intro sz
  refine gOf (Qc := fun sz => gQci celC Γ ad N r σ' sz) RX2 (by decide) rfl (Nat.le_of_ble_eq_true rfl) (fun p e s m args below meth c H locs ls X S hl => ?_)
  have hl : lv_has ls 4 [(0, .ref (ad 17)), (1, .int a0)] := hl
  have hx := X.1
  have hb := X.2.1
  unfold f_X2_captionsToMerge at hf
  refine lv_iconst (v := (0 : Int32)) hx hb dX2_captionsToMerge_0 (by decide) ?_
  refine lv_istore_n (lv' := [(2, .int (0 : Int32)), (0, .ref (ad 17)), (1, .int a0)]) hx hb dX2_captionsToMerge_1 rfl hl (by decide) rfl (fun ls hl => ?_)
  refine lv_iconst (v := (0 : Int32)) hx hb dX2_captionsToMerge_2 (by decide) ?_
  refine lv_istore_n (lv' := [(3, .int (0 : Int32)), (2, .int (0 : Int32)), (0, .ref (ad 17)), (1, .int a0)]) hx hb dX2_captionsToMerge_3 rfl hl (by decide) rfl (fun ls hl => ?_)
  obtain ⟨r4, σ5, hr14, hf⟩ := g_s2 hf
  refine w_X2_captionsToMerge_l1 hN X  FU _ _ _ _ _  hr14 (fun H locs ls S hl => ?_) _ _ _ S (lv_sub hl [0, 1, 2, 3] rfl)
  refine lv_iload_n hx hb dX2_captionsToMerge_37 rfl (lv_at hl 0 rfl) ?_
  cases hf
  exact g_reti X S rfl dX2_captionsToMerge_38

noncomputable def f_X2_framesOfBoth_l2 (σ : gSt) (v1 : Nat) (v2 : Nat) (i3 : Int32) : Nat → Int32 → Int32 → Option (Int32)
  | 0, _, _ => none
  | n + 1, i7, i8 => (if (σ v2 5) ≤ i7 then some i8 else (g_k1 (f_X8_first σ v1 i3) fun v11 => (g_k1 (f_X8_end σ v1 i3) fun v12 => (g_k1 (f_X8_shared σ v2 i7 v11 v12) fun v13 => (f_X2_framesOfBoth_l2 σ v1 v2 i3 n (i7 + 1) (i8 + v13))))))
set_option maxRecDepth 100000 in
set_option maxHeartbeats 4000000 in
theorem w_X2_framesOfBoth_l2 {l : Launch} {Γ : gG} {ad : Nat → Nat} {N : Nat} {p : Program} {e : Env} {s : State} {m : MethodId} {args : Array Value} {below : List Frame} {meth : Method} {c : Code} {Q : State → Prop} (hN : 202 ≤ N) (X : gX celC Γ ad N RX2 cX2_framesOfBoth 6 (some .int) p s m args meth c) {σ : gSt} {v1 : Nat} {v2 : Nat} {i3 : Int32} (hkv1 : gkd v1 = 8) (hkv2 : gkd v2 = 8) : ∀ (n : Nat) (i7 : Int32) (i8 : Int32) (r9 : Int32), f_X2_framesOfBoth_l2 σ v1 v2 i3 n i7 i8 = some r9 → (∀ (H : Heap) (locs : List Loc) (ls : Array Slot), gS celC Γ ad N σ s H locs → lv_has ls 6 [(4, .int i3), (3, .int r9), (2, .ref (ad v2)), (1, .ref (ad v1))] → W p l e (gR 3 0 0) s m args below meth c H locs 0 0 (Q) (F0 m 71 ls [])) → ∀ (H : Heap) (locs : List Loc) (ls : Array Slot), gS celC Γ ad N σ s H locs → lv_has ls 6 [(5, .int i7), (4, .int i3), (3, .int i8), (2, .ref (ad v2)), (1, .ref (ad v1))] → W p l e (gR 3 0 0) s m args below meth c H locs 0 0 (Q) (F0 m 35 ls []) := by
  have hx := X.1
  have hb := X.2.1
  intro n
  induction n with
  | zero =>
    intro i7 i8 r9 hf
    cases hf
  | succ n ih =>
    intro i7 i8 r9 hf J H locs ls S hl
    rw [f_X2_framesOfBoth_l2] at hf
    refine lv_iload hx hb dX2_framesOfBoth_35 (lv_at hl 0 rfl) ?_
    refine lv_aload_n hx hb dX2_framesOfBoth_37 rfl (lv_at hl 3 rfl) ?_
    refine gfX2_47 X S hN hkv2 dX2_framesOfBoth_38 ?_
    refine lv_icmp_ge (tgt := 71) hx hb dX2_framesOfBoth_41 (by decide) (fun c10 => ?_) (fun c10 => ?_)
    · have hf := (if_pos c10).symm.trans hf
      cases hf
      exact J _ _ _ S (lv_sub hl [1, 2, 3, 4] rfl)
    · have hf := (if_neg c10).symm.trans hf
      refine lv_iload_n hx hb dX2_framesOfBoth_44 rfl (lv_at hl 2 rfl) ?_
      refine lv_aload_n hx hb dX2_framesOfBoth_45 rfl (lv_at hl 3 rfl) ?_
      refine lv_iload hx hb dX2_framesOfBoth_46 (lv_at hl 0 rfl) ?_
      refine lv_aload_n hx hb dX2_framesOfBoth_48 rfl (lv_at hl 4 rfl) ?_
      refine lv_iload hx hb dX2_framesOfBoth_49 (lv_at hl 1 rfl) ?_
      obtain ⟨v11, hv11, hf⟩ := g_s1 hf
      refine g_ki S (g_runV (rest := [.int i7, .ref (ad v2), .int i8]) X S (c_X8_first l hN hkv1 hv11 _) cvX8_first mlX2_51 (kd_N hkv1 (by decide) hN) (ceC_8 hkv1 _) rfl rfl rfl hl.1 (Nat.le_of_ble_eq_true rfl) ⟨⟨rfl, rfl⟩, ⟨Nat.le_of_ble_eq_true rfl, Nat.le_of_ble_eq_true rfl⟩, Nat.le_of_ble_eq_true rfl, Nat.le_of_ble_eq_true rfl⟩ dX2_framesOfBoth_51) (fun H locs S => ?_)
      refine lv_aload_n hx hb dX2_framesOfBoth_54 rfl (lv_at hl 4 rfl) ?_
      refine lv_iload hx hb dX2_framesOfBoth_55 (lv_at hl 1 rfl) ?_
      obtain ⟨v12, hv12, hf⟩ := g_s1 hf
      refine g_ki S (g_runV (rest := [.int v11, .int i7, .ref (ad v2), .int i8]) X S (c_X8_end l hN hkv1 hv12 _) cvX8_end mlX2_54 (kd_N hkv1 (by decide) hN) (ceC_8 hkv1 _) rfl rfl rfl hl.1 (Nat.le_of_ble_eq_true rfl) ⟨⟨rfl, rfl⟩, ⟨Nat.le_of_ble_eq_true rfl, Nat.le_of_ble_eq_true rfl⟩, Nat.le_of_ble_eq_true rfl, Nat.le_of_ble_eq_true rfl⟩ dX2_framesOfBoth_57) (fun H locs S => ?_)
      obtain ⟨v13, hv13, hf⟩ := g_s1 hf
      refine g_ki S (g_runV (rest := [.int i8]) X S (c_X8_shared l hN hkv2 hv13 _) cvX8_shared mlX2_57 (kd_N hkv2 (by decide) hN) (ceC_8 hkv2 _) rfl rfl rfl hl.1 (Nat.le_of_ble_eq_true rfl) ⟨⟨rfl, rfl⟩, ⟨Nat.le_of_ble_eq_true rfl, Nat.le_of_ble_eq_true rfl⟩, Nat.le_of_ble_eq_true rfl, Nat.le_of_ble_eq_true rfl⟩ dX2_framesOfBoth_60) (fun H locs S => ?_)
      refine lv_iadd hx hb dX2_framesOfBoth_63 ?_
      refine lv_istore_n (lv' := [(3, .int (i8 + v13)), (5, .int i7), (4, .int i3), (2, .ref (ad v2)), (1, .ref (ad v1))]) hx hb dX2_framesOfBoth_64 rfl hl (by decide) rfl (fun ls hl => ?_)
      refine lv_iinc (v := (i7 + 1)) (lv' := [(5, .int (i7 + 1)), (3, .int (i8 + v13)), (4, .int i3), (2, .ref (ad v2)), (1, .ref (ad v1))]) hx hb dX2_framesOfBoth_65 hl (k := 1) rfl rfl (by decide) rfl (fun ls hl => ?_)
      refine lv_goto (tgt := 35) hx hb dX2_framesOfBoth_68 (by decide) ?_
      exact ih _ _ _  hf J _ _ _ S (lv_sub hl [0, 2, 1, 3, 4] rfl)
noncomputable def f_X2_framesOfBoth_l1 (σ : gSt) (v1 : Nat) (v2 : Nat) : Nat → Int32 → Int32 → Option (Int32)
  | 0, _, _ => none
  | n + 1, i3, i4 => (if (σ v1 5) ≤ i3 then some i4 else (g_k1 (f_X2_framesOfBoth_l2 σ v1 v2 i3 FU (0 : Int32) i4) fun r9 => (f_X2_framesOfBoth_l1 σ v1 v2 n (i3 + 1) r9)))
set_option maxRecDepth 100000 in
set_option maxHeartbeats 4000000 in
theorem w_X2_framesOfBoth_l1 {l : Launch} {Γ : gG} {ad : Nat → Nat} {N : Nat} {p : Program} {e : Env} {s : State} {m : MethodId} {args : Array Value} {below : List Frame} {meth : Method} {c : Code} {Q : State → Prop} (hN : 202 ≤ N) (X : gX celC Γ ad N RX2 cX2_framesOfBoth 6 (some .int) p s m args meth c) {σ : gSt} {v1 : Nat} {v2 : Nat} (hkv1 : gkd v1 = 8) (hkv2 : gkd v2 = 8) : ∀ (n : Nat) (i3 : Int32) (i4 : Int32) (r5 : Int32), f_X2_framesOfBoth_l1 σ v1 v2 n i3 i4 = some r5 → (∀ (H : Heap) (locs : List Loc) (ls : Array Slot), gS celC Γ ad N σ s H locs → lv_has ls 6 [(3, .int r5)] → W p l e (gR 3 0 0) s m args below meth c H locs 0 0 (Q) (F0 m 77 ls [])) → ∀ (H : Heap) (locs : List Loc) (ls : Array Slot), gS celC Γ ad N σ s H locs → lv_has ls 6 [(4, .int i3), (3, .int i4), (2, .ref (ad v2)), (1, .ref (ad v1))] → W p l e (gR 3 0 0) s m args below meth c H locs 0 0 (Q) (F0 m 23 ls []) := by
  have hx := X.1
  have hb := X.2.1
  intro n
  induction n with
  | zero =>
    intro i3 i4 r5 hf
    cases hf
  | succ n ih =>
    intro i3 i4 r5 hf J H locs ls S hl
    rw [f_X2_framesOfBoth_l1] at hf
    refine lv_iload hx hb dX2_framesOfBoth_23 (lv_at hl 0 rfl) ?_
    refine lv_aload_n hx hb dX2_framesOfBoth_25 rfl (lv_at hl 3 rfl) ?_
    refine gfX2_47 X S hN hkv1 dX2_framesOfBoth_26 ?_
    refine lv_icmp_ge (tgt := 77) hx hb dX2_framesOfBoth_29 (by decide) (fun c6 => ?_) (fun c6 => ?_)
    · have hf := (if_pos c6).symm.trans hf
      cases hf
      exact J _ _ _ S (lv_sub hl [1] rfl)
    · have hf := (if_neg c6).symm.trans hf
      refine lv_iconst (v := (0 : Int32)) hx hb dX2_framesOfBoth_32 (by decide) ?_
      refine lv_istore (lv' := [(5, .int (0 : Int32)), (4, .int i3), (3, .int i4), (2, .ref (ad v2)), (1, .ref (ad v1))]) hx hb dX2_framesOfBoth_33 hl (by decide) rfl (fun ls hl => ?_)
      obtain ⟨r9, hr14, hf⟩ := g_s1 hf
      refine w_X2_framesOfBoth_l2 hN X hkv1 hkv2 FU _ _ _  hr14 (fun H locs ls S hl => ?_) _ _ _ S (lv_sub hl [0, 1, 2, 3, 4] rfl)
      refine lv_iinc (v := (i3 + 1)) (lv' := [(4, .int (i3 + 1)), (3, .int r9), (2, .ref (ad v2)), (1, .ref (ad v1))]) hx hb dX2_framesOfBoth_71 hl (k := 0) rfl rfl (by decide) rfl (fun ls hl => ?_)
      refine lv_goto (tgt := 23) hx hb dX2_framesOfBoth_74 (by decide) ?_
      exact ih _ _ _  hf J _ _ _ S (lv_sub hl [0, 1, 2, 3] rfl)
noncomputable def f_X2_framesOfBoth (σ : gSt)  : Option (Int32) :=
  (g_k1 (f_X3_trackOf σ 1 (0 : Int32)) fun v1 => (g_k1 (f_X3_trackBeside σ 1 (0 : Int32)) fun v2 => (g_k1 (f_X2_framesOfBoth_l1 σ v1 v2 FU (0 : Int32) (0 : Int32)) fun r5 => some r5)))
set_option maxRecDepth 100000 in
set_option maxHeartbeats 4000000 in
theorem c_X2_framesOfBoth (l : Launch) {Γ : gG} {ad : Nat → Nat} {N : Nat} (hN : 202 ≤ N) {σ : gSt}   {r : Int32} (hf : f_X2_framesOfBoth σ  = some r) : gMi l celC Γ ad N yX2_framesOfBoth cX2_framesOfBoth 6 (some .int) (gR 3 0 0) [.ref (ad 17)] σ r σ := by
  intro sz
  refine gOf (Qc := fun sz => gQci celC Γ ad N r σ sz) RX2 (by decide) rfl (Nat.le_of_ble_eq_true rfl) (fun p e s m args below meth c H locs ls X S hl => ?_)
  have hl : lv_has ls 6 [(0, .ref (ad 17))] := hl
  have hx := X.1
  have hb := X.2.1
  unfold f_X2_framesOfBoth at hf
  refine lv_aload_n hx hb dX2_framesOfBoth_0 rfl (lv_at hl 0 rfl) ?_
  refine gfX2_9 X S hN kd_s17 dX2_framesOfBoth_1 ?_
  refine lv_iconst (v := (0 : Int32)) hx hb dX2_framesOfBoth_4 (by decide) ?_
  obtain ⟨v1, hv1, hf⟩ := g_s1 hf
  refine g_kr S (g_runV (rest := []) X S (c_X3_trackOf l hN kd_s1 hv1 _) cvX3_trackOf mlX2_22 (kd_N kd_s1 (by decide) hN) (ceC_3 kd_s1 _) rfl rfl rfl hl.1 (Nat.le_of_ble_eq_true rfl) ⟨⟨rfl, rfl⟩, ⟨Nat.le_of_ble_eq_true rfl, Nat.le_of_ble_eq_true rfl⟩, Nat.le_of_ble_eq_true rfl, Nat.le_of_ble_eq_true rfl⟩ dX2_framesOfBoth_5) (fun H locs S => ?_)
  have hkv1 : gkd v1 = 8 := kr_X3_trackOf kd_s1 hv1
  refine lv_astore_n (lv' := [(1, .ref (ad v1)), (0, .ref (ad 17))]) hx hb dX2_framesOfBoth_8 rfl hl (by decide) rfl (fun ls hl => ?_)
  refine lv_aload_n hx hb dX2_framesOfBoth_9 rfl (lv_at hl 1 rfl) ?_
  refine gfX2_9 X S hN kd_s17 dX2_framesOfBoth_10 ?_
  refine lv_iconst (v := (0 : Int32)) hx hb dX2_framesOfBoth_13 (by decide) ?_
  obtain ⟨v2, hv2, hf⟩ := g_s1 hf
  refine g_kr S (g_runV (rest := []) X S (c_X3_trackBeside l hN kd_s1 hv2 _) cvX3_trackBeside mlX2_44 (kd_N kd_s1 (by decide) hN) (ceC_3 kd_s1 _) rfl rfl rfl hl.1 (Nat.le_of_ble_eq_true rfl) ⟨⟨rfl, rfl⟩, ⟨Nat.le_of_ble_eq_true rfl, Nat.le_of_ble_eq_true rfl⟩, Nat.le_of_ble_eq_true rfl, Nat.le_of_ble_eq_true rfl⟩ dX2_framesOfBoth_14) (fun H locs S => ?_)
  have hkv2 : gkd v2 = 8 := kr_X3_trackBeside kd_s1 hv2
  refine lv_astore_n (lv' := [(2, .ref (ad v2)), (1, .ref (ad v1)), (0, .ref (ad 17))]) hx hb dX2_framesOfBoth_17 rfl hl (by decide) rfl (fun ls hl => ?_)
  refine lv_iconst (v := (0 : Int32)) hx hb dX2_framesOfBoth_18 (by decide) ?_
  refine lv_istore_n (lv' := [(3, .int (0 : Int32)), (2, .ref (ad v2)), (1, .ref (ad v1)), (0, .ref (ad 17))]) hx hb dX2_framesOfBoth_19 rfl hl (by decide) rfl (fun ls hl => ?_)
  refine lv_iconst (v := (0 : Int32)) hx hb dX2_framesOfBoth_20 (by decide) ?_
  refine lv_istore (lv' := [(4, .int (0 : Int32)), (3, .int (0 : Int32)), (2, .ref (ad v2)), (1, .ref (ad v1)), (0, .ref (ad 17))]) hx hb dX2_framesOfBoth_21 hl (by decide) rfl (fun ls hl => ?_)
  obtain ⟨r5, hr15, hf⟩ := g_s1 hf
  refine w_X2_framesOfBoth_l1 hN X hkv1 hkv2 FU _ _ _  hr15 (fun H locs ls S hl => ?_) _ _ _ S (lv_sub hl [0, 1, 2, 3] rfl)
  refine lv_iload_n hx hb dX2_framesOfBoth_77 rfl (lv_at hl 0 rfl) ?_
  cases hf
  exact g_reti X S rfl dX2_framesOfBoth_78

noncomputable def f_X3_copyFrom (σ : gSt) (k : Nat) (a0 : Nat) : Option (gSt) :=
  (g_k1 (gset σ k 0 (σ a0 0)) fun σ1 => (g_k1 (gcpy σ1 (a0 + 1) 6 (k + 1) 6 (0 : Int32) (0 : Int32) (6 : Int32)) fun σ2 => (g_k1 (f_X0_copyFrom σ2 (k + 2) (a0 + 2)) fun σ3 => (g_k1 (f_X8_copyFrom σ3 (k + 4) (a0 + 4)) fun σ4 => (g_k1 (f_X8_copyFrom σ4 (k + 10) (a0 + 10)) fun σ5 => some σ5)))))
set_option maxRecDepth 100000 in
set_option maxHeartbeats 4000000 in
theorem c_X3_copyFrom (l : Launch) {Γ : gG} {ad : Nat → Nat} {N : Nat} (hN : 202 ≤ N) {σ : gSt} {k : Nat} {a0 : Nat} (hk : gkd k = 3) (ha0 : gkd a0 = 3) {σ' : gSt} (hf : f_X3_copyFrom σ k a0 = some σ') : gMv l celC Γ ad N yX3_copyFrom cX3_copyFrom 2 none (gR 3 0 0) [.ref (ad k), .ref (ad a0)] σ σ' := by
  intro sz
  refine gOf (Qc := fun sz => gQcv celC Γ ad N σ' sz) RX3 (by decide) rfl (Nat.le_of_ble_eq_true rfl) (fun p e s m args below meth c H locs ls X S hl => ?_)
  have hl : lv_has ls 2 [(0, .ref (ad k)), (1, .ref (ad a0))] := hl
  have hx := X.1
  have hb := X.2.1
  unfold f_X3_copyFrom at hf
  refine lv_aload_n hx hb dX3_copyFrom_0 rfl (lv_at hl 0 rfl) ?_
  refine lv_aload_n hx hb dX3_copyFrom_1 rfl (lv_at hl 1 rfl) ?_
  refine gfX3_9 X S hN ha0 dX3_copyFrom_2 ?_
  obtain ⟨σ1, hσ1, hf⟩ := g_s1 hf
  refine pfX3_9 X S hN hk hσ1 dX3_copyFrom_5 (fun H locs S => ?_)
  refine lv_aload_n hx hb dX3_copyFrom_8 rfl (lv_at hl 1 rfl) ?_
  refine gfX3_15 X S hN ha0 dX3_copyFrom_9 ?_
  refine lv_iconst (v := (0 : Int32)) hx hb dX3_copyFrom_12 (by decide) ?_
  refine lv_aload_n hx hb dX3_copyFrom_13 rfl (lv_at hl 0 rfl) ?_
  refine gfX3_15 X S hN hk dX3_copyFrom_14 ?_
  refine lv_iconst (v := (0 : Int32)) hx hb dX3_copyFrom_17 (by decide) ?_
  refine lv_bipush (v := (6 : Int32)) hx hb dX3_copyFrom_18 (by decide) ?_
  obtain ⟨σ2, hσ2, hf⟩ := g_s1 hf
  refine g_copy X S hl.1 mlX3_22 wac_n wac_s wac_i (kd_N (kd_3_1 ha0) (by decide) hN) (kd_N (kd_3_1 hk) (by decide) hN) (ceC_106 (kd_3_1 ha0)) (ceC_106 (kd_3_1 hk)) hσ2 (by decide) (Nat.le_of_ble_eq_true rfl) dX3_copyFrom_20 (fun H locs S => ?_)
  refine lv_aload_n hx hb dX3_copyFrom_23 rfl (lv_at hl 0 rfl) ?_
  refine gfX3_31 X S hN hk dX3_copyFrom_24 ?_
  refine lv_aload_n hx hb dX3_copyFrom_27 rfl (lv_at hl 1 rfl) ?_
  refine gfX3_31 X S hN ha0 dX3_copyFrom_28 ?_
  obtain ⟨σ3, hσ3, hf⟩ := g_s1 hf
  refine g_kv S (g_runV (rest := []) X S (c_X0_copyFrom l hN (kd_3_2 hk) (kd_3_2 ha0) hσ3 _) cvX0_copyFrom mlX3_45 (kd_N (kd_3_2 hk) (by decide) hN) (ceC_0 (kd_3_2 hk) _) rfl rfl rfl hl.1 (Nat.le_of_ble_eq_true rfl) ⟨⟨rfl, rfl⟩, ⟨Nat.le_of_ble_eq_true rfl, Nat.le_of_ble_eq_true rfl⟩, Nat.le_of_ble_eq_true rfl, Nat.le_of_ble_eq_true rfl⟩ dX3_copyFrom_31) (fun H locs S => ?_)
  refine lv_aload_n hx hb dX3_copyFrom_34 rfl (lv_at hl 0 rfl) ?_
  refine gfX3_38 X S hN hk dX3_copyFrom_35 ?_
  refine lv_aload_n hx hb dX3_copyFrom_38 rfl (lv_at hl 1 rfl) ?_
  refine gfX3_38 X S hN ha0 dX3_copyFrom_39 ?_
  obtain ⟨σ4, hσ4, hf⟩ := g_s1 hf
  refine g_kv S (g_runV (rest := []) X S (c_X8_copyFrom l hN (kd_3_4 hk) (kd_3_4 ha0) hσ4 _) cvX8_copyFrom mlX3_49 (kd_N (kd_3_4 hk) (by decide) hN) (ceC_8 (kd_3_4 hk) _) rfl rfl rfl hl.1 (Nat.le_of_ble_eq_true rfl) ⟨⟨rfl, rfl⟩, ⟨Nat.le_of_ble_eq_true rfl, Nat.le_of_ble_eq_true rfl⟩, Nat.le_of_ble_eq_true rfl, Nat.le_of_ble_eq_true rfl⟩ dX3_copyFrom_42) (fun H locs S => ?_)
  refine lv_aload_n hx hb dX3_copyFrom_45 rfl (lv_at hl 0 rfl) ?_
  refine gfX3_42 X S hN hk dX3_copyFrom_46 ?_
  refine lv_aload_n hx hb dX3_copyFrom_49 rfl (lv_at hl 1 rfl) ?_
  refine gfX3_42 X S hN ha0 dX3_copyFrom_50 ?_
  obtain ⟨σ5, hσ5, hf⟩ := g_s1 hf
  refine g_kv S (g_runV (rest := []) X S (c_X8_copyFrom l hN (kd_3_10 hk) (kd_3_10 ha0) hσ5 _) cvX8_copyFrom mlX3_49 (kd_N (kd_3_10 hk) (by decide) hN) (ceC_8 (kd_3_10 hk) _) rfl rfl rfl hl.1 (Nat.le_of_ble_eq_true rfl) ⟨⟨rfl, rfl⟩, ⟨Nat.le_of_ble_eq_true rfl, Nat.le_of_ble_eq_true rfl⟩, Nat.le_of_ble_eq_true rfl, Nat.le_of_ble_eq_true rfl⟩ dX3_copyFrom_53) (fun H locs S => ?_)
  cases hf
  exact g_retv X S dX3_copyFrom_56

noncomputable def f_X3_captionCount (σ : gSt) (k : Nat) : Option (Int32) :=
  some ((σ (k + 4) 5) + (σ (k + 10) 5))
set_option maxRecDepth 100000 in
set_option maxHeartbeats 4000000 in
theorem c_X3_captionCount (l : Launch) {Γ : gG} {ad : Nat → Nat} {N : Nat} (hN : 202 ≤ N) {σ : gSt} {k : Nat} (hk : gkd k = 3) {r : Int32} (hf : f_X3_captionCount σ k = some r) : gMi l celC Γ ad N yX3_captionCount cX3_captionCount 1 (some .int) (gR 1 0 0) [.ref (ad k)] σ r σ := by
  intro sz
  refine gOf (Qc := fun sz => gQci celC Γ ad N r σ sz) RX3 (by decide) rfl (Nat.le_of_ble_eq_true rfl) (fun p e s m args below meth c H locs ls X S hl => ?_)
  have hl : lv_has ls 1 [(0, .ref (ad k))] := hl
  have hx := X.1
  have hb := X.2.1
  unfold f_X3_captionCount at hf
  refine lv_aload_n hx hb dX3_captionCount_0 rfl (lv_at hl 0 rfl) ?_
  refine gfX3_38 X S hN hk dX3_captionCount_1 ?_
  refine gfX3_52 X S hN (kd_3_4 hk) dX3_captionCount_4 ?_
  refine lv_aload_n hx hb dX3_captionCount_7 rfl (lv_at hl 0 rfl) ?_
  refine gfX3_42 X S hN hk dX3_captionCount_8 ?_
  refine gfX3_52 X S hN (kd_3_10 hk) dX3_captionCount_11 ?_
  refine lv_iadd hx hb dX3_captionCount_14 ?_
  cases hf
  exact g_reti X S rfl dX3_captionCount_15

noncomputable def f_X3_changeSetting (σ : gSt) (k : Nat) (a0 : Int32) (a1 : Int32) : Option (Int32 × gSt) :=
  (g_k1 (f_X3_setting σ k a0) fun v1 => (g_k1 (f_X9_isSetting σ a0) fun v2 => (g_k1 (if v2 = 0 then some σ else (g_k1 (gast σ (k + 1) 6 a0 a1) fun σ7 => some σ7)) fun σ3 => some (v1, σ3))))
set_option maxRecDepth 100000 in
set_option maxHeartbeats 4000000 in
theorem c_X3_changeSetting (l : Launch) {Γ : gG} {ad : Nat → Nat} {N : Nat} (hN : 202 ≤ N) {σ : gSt} {k : Nat} {a0 : Int32} {a1 : Int32} (hk : gkd k = 3) {r : Int32} {σ' : gSt} (hf : f_X3_changeSetting σ k a0 a1 = some (r, σ')) : gMi l celC Γ ad N yX3_changeSetting cX3_changeSetting 4 (some .int) (gR 3 0 0) [.ref (ad k), .int a0, .int a1] σ r σ' := by
  intro sz
  refine gOf (Qc := fun sz => gQci celC Γ ad N r σ' sz) RX3 (by decide) rfl (Nat.le_of_ble_eq_true rfl) (fun p e s m args below meth c H locs ls X S hl => ?_)
  have hl : lv_has ls 4 [(0, .ref (ad k)), (1, .int a0), (2, .int a1)] := hl
  have hx := X.1
  have hb := X.2.1
  unfold f_X3_changeSetting at hf
  refine lv_aload_n hx hb dX3_changeSetting_0 rfl (lv_at hl 0 rfl) ?_
  refine lv_iload_n hx hb dX3_changeSetting_1 rfl (lv_at hl 1 rfl) ?_
  obtain ⟨v1, hv1, hf⟩ := g_s1 hf
  refine g_ki S (g_runV (rest := []) X S (c_X3_setting l hN hk hv1 _) cvX3_setting mlX3_59 (kd_N hk (by decide) hN) (ceC_3 hk _) rfl rfl rfl hl.1 (Nat.le_of_ble_eq_true rfl) ⟨⟨rfl, rfl⟩, ⟨Nat.le_of_ble_eq_true rfl, Nat.le_of_ble_eq_true rfl⟩, Nat.le_of_ble_eq_true rfl, Nat.le_of_ble_eq_true rfl⟩ dX3_changeSetting_2) (fun H locs S => ?_)
  refine lv_istore_n (lv' := [(3, .int v1), (0, .ref (ad k)), (1, .int a0), (2, .int a1)]) hx hb dX3_changeSetting_5 rfl hl (by decide) rfl (fun ls hl => ?_)
  refine lv_iload_n hx hb dX3_changeSetting_6 rfl (lv_at hl 2 rfl) ?_
  obtain ⟨v2, hv2, hf⟩ := g_s1 hf
  refine g_ki S (g_runN (rest := []) X S (c_X9_isSetting l hN  hv2 _) csX9_isSetting mnX3_55 rfl rfl hl.1 (Nat.le_of_ble_eq_true rfl) ⟨⟨rfl, rfl⟩, ⟨Nat.le_of_ble_eq_true rfl, Nat.le_of_ble_eq_true rfl⟩, Nat.le_of_ble_eq_true rfl, Nat.le_of_ble_eq_true rfl⟩ dX3_changeSetting_7) (fun H locs S => ?_)
  obtain ⟨σ3, hr4, hf⟩ := g_s1 hf
  have J5 : ∀ (H : Heap) (locs : List Loc) (ls : Array Slot), gS celC Γ ad N σ3 s H locs → lv_has ls 4 [(3, .int v1)] → W p l e (gR 3 0 0) s m args below meth c H locs 0 0 (gQi celC Γ ad N r σ' below args s) (F0 m 20 ls []) := by
    intro H locs ls S hl
    refine lv_iload_n hx hb dX3_changeSetting_20 rfl (lv_at hl 0 rfl) ?_
    cases hf
    exact g_reti X S rfl dX3_changeSetting_21
  replace hf := hr4
  refine lv_if_eq (tgt := 20) hx hb dX3_changeSetting_10 (by decide) (fun c6 => ?_) (fun c6 => ?_)
  · have hf := (if_pos c6).symm.trans hf
    cases hf
    exact J5 _ _ _ S (lv_sub hl [0] rfl)
  · have hf := (if_neg c6).symm.trans hf
    refine lv_aload_n hx hb dX3_changeSetting_13 rfl (lv_at hl 1 rfl) ?_
    refine gfX3_15 X S hN hk dX3_changeSetting_14 ?_
    refine lv_iload_n hx hb dX3_changeSetting_17 rfl (lv_at hl 2 rfl) ?_
    refine lv_iload_n hx hb dX3_changeSetting_18 rfl (lv_at hl 3 rfl) ?_
    obtain ⟨σ7, hσ7, hf⟩ := g_s1 hf
    refine g_iast X S (kd_N (kd_3_1 hk) (by decide) hN) (ceC_106 (kd_3_1 hk)) hσ7 dX3_changeSetting_19 (fun H locs S => ?_)
    cases hf
    exact J5 _ _ _ S (lv_sub hl [0] rfl)

noncomputable def f_X3_hasFrame (σ : gSt) (k : Nat) (a0 : Int32) : Option (Int32) :=
  (g_k1 (if a0 < 0 then some (0 : Int32) else (if (σ k 0) ≤ a0 then some (0 : Int32) else some (1 : Int32))) fun x1 => (g_k1 (gzb x1) fun v4 => some v4))
set_option maxRecDepth 100000 in
set_option maxHeartbeats 4000000 in
theorem c_X3_hasFrame (l : Launch) {Γ : gG} {ad : Nat → Nat} {N : Nat} (hN : 202 ≤ N) {σ : gSt} {k : Nat} {a0 : Int32} (hk : gkd k = 3) {r : Int32} (hf : f_X3_hasFrame σ k a0 = some r) : gMi l celC Γ ad N yX3_hasFrame cX3_hasFrame 2 (some .boolean) (gR 1 0 0) [.ref (ad k), .int a0] σ r σ := by
  intro sz
  refine gOf (Qc := fun sz => gQci celC Γ ad N r σ sz) RX3 (by decide) rfl (Nat.le_of_ble_eq_true rfl) (fun p e s m args below meth c H locs ls X S hl => ?_)
  have hl : lv_has ls 2 [(0, .ref (ad k)), (1, .int a0)] := hl
  have hx := X.1
  have hb := X.2.1
  unfold f_X3_hasFrame at hf
  refine lv_iload_n hx hb dX3_hasFrame_0 rfl (lv_at hl 1 rfl) ?_
  obtain ⟨x1, hr2, hf⟩ := g_s1 hf
  have J3 : ∀ (H : Heap) (locs : List Loc) (ls : Array Slot), gS celC Γ ad N σ s H locs → lv_has ls 2 [] → W p l e (gR 1 0 0) s m args below meth c H locs 0 0 (gQi celC Γ ad N r σ below args s) (F0 m 17 ls [.int x1]) := by
    intro H locs ls S hl
    obtain ⟨v4, hv4, hf⟩ := g_s1 hf
    obtain ⟨hnv4, rfl⟩ := gzb_some hv4
    cases hf
    exact g_reti X S hnv4 dX3_hasFrame_17
  replace hf := hr2
  refine lv_if_lt (tgt := 16) hx hb dX3_hasFrame_1 (by decide) (fun c5 => ?_) (fun c5 => ?_)
  · have hf := (if_pos c5).symm.trans hf
    refine lv_iconst (v := (0 : Int32)) hx hb dX3_hasFrame_16 (by decide) ?_
    cases hf
    exact J3 _ _ _ S (lv_sub hl [] rfl)
  · have hf := (if_neg c5).symm.trans hf
    refine lv_iload_n hx hb dX3_hasFrame_4 rfl (lv_at hl 1 rfl) ?_
    refine lv_aload_n hx hb dX3_hasFrame_5 rfl (lv_at hl 0 rfl) ?_
    refine gfX3_9 X S hN hk dX3_hasFrame_6 ?_
    refine lv_icmp_ge (tgt := 16) hx hb dX3_hasFrame_9 (by decide) (fun c6 => ?_) (fun c6 => ?_)
    · have hf := (if_pos c6).symm.trans hf
      refine lv_iconst (v := (0 : Int32)) hx hb dX3_hasFrame_16 (by decide) ?_
      cases hf
      exact J3 _ _ _ S (lv_sub hl [] rfl)
    · have hf := (if_neg c6).symm.trans hf
      refine lv_iconst (v := (1 : Int32)) hx hb dX3_hasFrame_12 (by decide) ?_
      refine lv_goto (tgt := 17) hx hb dX3_hasFrame_13 (by decide) ?_
      cases hf
      exact J3 _ _ _ S (lv_sub hl [] rfl)

noncomputable def f_X3_lengthRefusal_l1 (σ : gSt) (k : Nat) (a0 : Int32) : Nat → Int32 → Option (Int32)
  | 0, _ => none
  | n + 1, i1 => (if (2 : Int32) ≤ i1 then (g_k1 (f_X0_at σ (k + 2) ((σ (k + 2) 1) - (1 : Int32))) fun v3 => (g_k1 (if v3 < a0 then some (0 : Int32) else some (1 : Int32)) fun x4 => some x4)) else (g_k1 (f_X3_trackOf σ k i1) fun v8 => (g_k1 (f_X8_end σ v8 ((σ v8 5) - (1 : Int32))) fun v9 => (if v9 ≤ a0 then (f_X3_lengthRefusal_l1 σ k a0 n (i1 + 1)) else some (1 : Int32)))))
set_option maxRecDepth 100000 in
set_option maxHeartbeats 4000000 in
theorem w_X3_lengthRefusal_l1 {l : Launch} {Γ : gG} {ad : Nat → Nat} {N : Nat} {p : Program} {e : Env} {s : State} {m : MethodId} {args : Array Value} {below : List Frame} {meth : Method} {c : Code} (hN : 202 ≤ N) (X : gX celC Γ ad N RX3 cX3_lengthRefusal 4 (some .int) p s m args meth c) {σ : gSt} {k : Nat} {a0 : Int32} (hk : gkd k = 3) : ∀ (n : Nat) (i1 : Int32) (r : Int32), f_X3_lengthRefusal_l1 σ k a0 n i1 = some r → ∀ (H : Heap) (locs : List Loc) (ls : Array Slot), gS celC Γ ad N σ s H locs → lv_has ls 4 [(2, .int i1), (0, .ref (ad k)), (1, .int a0)] → W p l e (gR 3 0 0) s m args below meth c H locs 0 0 (gQi celC Γ ad N r σ below args s) (F0 m 2 ls []) := by
  have hx := X.1
  have hb := X.2.1
  intro n
  induction n with
  | zero =>
    intro i1 r hf
    cases hf
  | succ n ih =>
    intro i1 r hf H locs ls S hl
    rw [f_X3_lengthRefusal_l1] at hf
    refine lv_iload_n hx hb dX3_lengthRefusal_2 rfl (lv_at hl 0 rfl) ?_
    refine lv_iconst (v := (2 : Int32)) hx hb dX3_lengthRefusal_3 (by decide) ?_
    refine lv_icmp_ge (tgt := 35) hx hb dX3_lengthRefusal_4 (by decide) (fun c2 => ?_) (fun c2 => ?_)
    · have hf := (if_pos c2).symm.trans hf
      refine lv_aload_n hx hb dX3_lengthRefusal_35 rfl (lv_at hl 1 rfl) ?_
      refine gfX3_31 X S hN hk dX3_lengthRefusal_36 ?_
      refine lv_aload_n hx hb dX3_lengthRefusal_39 rfl (lv_at hl 1 rfl) ?_
      refine gfX3_31 X S hN hk dX3_lengthRefusal_40 ?_
      refine gfX3_77 X S hN (kd_3_2 hk) dX3_lengthRefusal_43 ?_
      refine lv_iconst (v := (1 : Int32)) hx hb dX3_lengthRefusal_46 (by decide) ?_
      refine lv_isub hx hb dX3_lengthRefusal_47 ?_
      obtain ⟨v3, hv3, hf⟩ := g_s1 hf
      refine g_ki S (g_runV (rest := []) X S (c_X0_at l hN (kd_3_2 hk) hv3 _) cvX0_at mlX3_78 (kd_N (kd_3_2 hk) (by decide) hN) (ceC_0 (kd_3_2 hk) _) rfl rfl rfl hl.1 (Nat.le_of_ble_eq_true rfl) ⟨⟨rfl, rfl⟩, ⟨Nat.le_of_ble_eq_true rfl, Nat.le_of_ble_eq_true rfl⟩, Nat.le_of_ble_eq_true rfl, Nat.le_of_ble_eq_true rfl⟩ dX3_lengthRefusal_48) (fun H locs S => ?_)
      refine lv_iload_n hx hb dX3_lengthRefusal_51 rfl (lv_at hl 2 rfl) ?_
      obtain ⟨x4, hr5, hf⟩ := g_s1 hf
      have J6 : ∀ (H : Heap) (locs : List Loc) (ls : Array Slot), gS celC Γ ad N σ s H locs → lv_has ls 4 [] → W p l e (gR 3 0 0) s m args below meth c H locs 0 0 (gQi celC Γ ad N r σ below args s) (F0 m 60 ls [.int x4]) := by
        intro H locs ls S hl
        cases hf
        exact g_reti X S rfl dX3_lengthRefusal_60
      replace hf := hr5
      refine lv_icmp_lt (tgt := 59) hx hb dX3_lengthRefusal_52 (by decide) (fun c7 => ?_) (fun c7 => ?_)
      · have hf := (if_pos c7).symm.trans hf
        refine lv_iconst (v := (0 : Int32)) hx hb dX3_lengthRefusal_59 (by decide) ?_
        cases hf
        exact J6 _ _ _ S (lv_sub hl [] rfl)
      · have hf := (if_neg c7).symm.trans hf
        refine lv_iconst (v := (1 : Int32)) hx hb dX3_lengthRefusal_55 (by decide) ?_
        refine lv_goto (tgt := 60) hx hb dX3_lengthRefusal_56 (by decide) ?_
        cases hf
        exact J6 _ _ _ S (lv_sub hl [] rfl)
    · have hf := (if_neg c2).symm.trans hf
      refine lv_aload_n hx hb dX3_lengthRefusal_7 rfl (lv_at hl 1 rfl) ?_
      refine lv_iload_n hx hb dX3_lengthRefusal_8 rfl (lv_at hl 0 rfl) ?_
      obtain ⟨v8, hv8, hf⟩ := g_s1 hf
      refine g_kr S (g_runV (rest := []) X S (c_X3_trackOf l hN hk hv8 _) cvX3_trackOf mlX3_70 (kd_N hk (by decide) hN) (ceC_3 hk _) rfl rfl rfl hl.1 (Nat.le_of_ble_eq_true rfl) ⟨⟨rfl, rfl⟩, ⟨Nat.le_of_ble_eq_true rfl, Nat.le_of_ble_eq_true rfl⟩, Nat.le_of_ble_eq_true rfl, Nat.le_of_ble_eq_true rfl⟩ dX3_lengthRefusal_9) (fun H locs S => ?_)
      have hkv8 : gkd v8 = 8 := kr_X3_trackOf hk hv8
      refine lv_astore_n (lv' := [(3, .ref (ad v8)), (2, .int i1), (0, .ref (ad k)), (1, .int a0)]) hx hb dX3_lengthRefusal_12 rfl hl (by decide) rfl (fun ls hl => ?_)
      refine lv_aload_n hx hb dX3_lengthRefusal_13 rfl (lv_at hl 0 rfl) ?_
      refine lv_aload_n hx hb dX3_lengthRefusal_14 rfl (lv_at hl 0 rfl) ?_
      refine gfX3_52 X S hN hkv8 dX3_lengthRefusal_15 ?_
      refine lv_iconst (v := (1 : Int32)) hx hb dX3_lengthRefusal_18 (by decide) ?_
      refine lv_isub hx hb dX3_lengthRefusal_19 ?_
      obtain ⟨v9, hv9, hf⟩ := g_s1 hf
      refine g_ki S (g_runV (rest := []) X S (c_X8_end l hN hkv8 hv9 _) cvX8_end mlX3_74 (kd_N hkv8 (by decide) hN) (ceC_8 hkv8 _) rfl rfl rfl hl.1 (Nat.le_of_ble_eq_true rfl) ⟨⟨rfl, rfl⟩, ⟨Nat.le_of_ble_eq_true rfl, Nat.le_of_ble_eq_true rfl⟩, Nat.le_of_ble_eq_true rfl, Nat.le_of_ble_eq_true rfl⟩ dX3_lengthRefusal_20) (fun H locs S => ?_)
      refine lv_iload_n hx hb dX3_lengthRefusal_23 rfl (lv_at hl 3 rfl) ?_
      refine lv_icmp_le (tgt := 29) hx hb dX3_lengthRefusal_24 (by decide) (fun c10 => ?_) (fun c10 => ?_)
      · have hf := (if_pos c10).symm.trans hf
        refine lv_iinc (v := (i1 + 1)) (lv' := [(2, .int (i1 + 1)), (3, .ref (ad v8)), (0, .ref (ad k)), (1, .int a0)]) hx hb dX3_lengthRefusal_29 hl (k := 1) rfl rfl (by decide) rfl (fun ls hl => ?_)
        refine lv_goto (tgt := 2) hx hb dX3_lengthRefusal_32 (by decide) ?_
        exact ih _ _  hf _ _ _ S (lv_sub hl [0, 2, 3] rfl)
      · have hf := (if_neg c10).symm.trans hf
        refine lv_iconst (v := (1 : Int32)) hx hb dX3_lengthRefusal_27 (by decide) ?_
        cases hf
        exact g_reti X S rfl dX3_lengthRefusal_28
noncomputable def f_X3_lengthRefusal (σ : gSt) (k : Nat) (a0 : Int32) : Option (Int32) :=
  (f_X3_lengthRefusal_l1 σ k a0 FU (0 : Int32))
set_option maxRecDepth 100000 in
set_option maxHeartbeats 4000000 in
theorem c_X3_lengthRefusal (l : Launch) {Γ : gG} {ad : Nat → Nat} {N : Nat} (hN : 202 ≤ N) {σ : gSt} {k : Nat} {a0 : Int32} (hk : gkd k = 3) {r : Int32} (hf : f_X3_lengthRefusal σ k a0 = some r) : gMi l celC Γ ad N yX3_lengthRefusal cX3_lengthRefusal 4 (some .int) (gR 3 0 0) [.ref (ad k), .int a0] σ r σ := by
  intro sz
  refine gOf (Qc := fun sz => gQci celC Γ ad N r σ sz) RX3 (by decide) rfl (Nat.le_of_ble_eq_true rfl) (fun p e s m args below meth c H locs ls X S hl => ?_)
  have hl : lv_has ls 4 [(0, .ref (ad k)), (1, .int a0)] := hl
  have hx := X.1
  have hb := X.2.1
  unfold f_X3_lengthRefusal at hf
  refine lv_iconst (v := (0 : Int32)) hx hb dX3_lengthRefusal_0 (by decide) ?_
  refine lv_istore_n (lv' := [(2, .int (0 : Int32)), (0, .ref (ad k)), (1, .int a0)]) hx hb dX3_lengthRefusal_1 rfl hl (by decide) rfl (fun ls hl => ?_)
  exact w_X3_lengthRefusal_l1 hN X hk FU _ _  hf _ _ _ S (lv_sub hl [0, 1, 2] rfl)

noncomputable def f_X3_addRefusal (σ : gSt) (k : Nat) (a0 : Int32) (a1 : Int32) (a2 : Int32) (a3 : Nat) : Option (Int32) :=
  (g_k1 (f_X3_placeRefusal σ k a0 (-1 : Int32) a1 a2) fun v1 => (if v1 = 0 then (g_k1 (f_X7_isValid σ a3) fun v3 => (if v3 = 0 then some (4 : Int32) else (g_k1 (f_X3_trackOf σ k a0) fun v5 => (g_k1 (if (σ v5 5) < (16 : Int32) then some (0 : Int32) else some (8 : Int32)) fun x6 => some x6)))) else some v1))
set_option maxRecDepth 100000 in
set_option maxHeartbeats 4000000 in
theorem c_X3_addRefusal (l : Launch) {Γ : gG} {ad : Nat → Nat} {N : Nat} (hN : 202 ≤ N) {σ : gSt} {k : Nat} {a0 : Int32} {a1 : Int32} {a2 : Int32} {a3 : Nat} (hk : gkd k = 3) (ha3 : gkd a3 = 7) {r : Int32} (hf : f_X3_addRefusal σ k a0 a1 a2 a3 = some r) : gMi l celC Γ ad N yX3_addRefusal cX3_addRefusal 6 (some .int) (gR 5 0 0) [.ref (ad k), .int a0, .int a1, .int a2, .ref (ad a3)] σ r σ := by
  intro sz
  refine gOf (Qc := fun sz => gQci celC Γ ad N r σ sz) RX3 (by decide) rfl (Nat.le_of_ble_eq_true rfl) (fun p e s m args below meth c H locs ls X S hl => ?_)
  have hl : lv_has ls 6 [(0, .ref (ad k)), (1, .int a0), (2, .int a1), (3, .int a2), (4, .ref (ad a3))] := hl
  have hx := X.1
  have hb := X.2.1
  unfold f_X3_addRefusal at hf
  refine lv_aload_n hx hb dX3_addRefusal_0 rfl (lv_at hl 0 rfl) ?_
  refine lv_iload_n hx hb dX3_addRefusal_1 rfl (lv_at hl 1 rfl) ?_
  refine lv_iconst (v := (-1 : Int32)) hx hb dX3_addRefusal_2 (by decide) ?_
  refine lv_iload_n hx hb dX3_addRefusal_3 rfl (lv_at hl 2 rfl) ?_
  refine lv_iload_n hx hb dX3_addRefusal_4 rfl (lv_at hl 3 rfl) ?_
  obtain ⟨v1, hv1, hf⟩ := g_s1 hf
  refine g_ki S (g_runV (rest := []) X S (c_X3_placeRefusal l hN hk hv1 _) cvX3_placeRefusal mlX3_88 (kd_N hk (by decide) hN) (ceC_3 hk _) rfl rfl rfl hl.1 (Nat.le_of_ble_eq_true rfl) ⟨⟨rfl, rfl⟩, ⟨Nat.le_of_ble_eq_true rfl, Nat.le_of_ble_eq_true rfl⟩, Nat.le_of_ble_eq_true rfl, Nat.le_of_ble_eq_true rfl⟩ dX3_addRefusal_5) (fun H locs S => ?_)
  refine lv_istore (lv' := [(5, .int v1), (0, .ref (ad k)), (1, .int a0), (2, .int a1), (3, .int a2), (4, .ref (ad a3))]) hx hb dX3_addRefusal_8 hl (by decide) rfl (fun ls hl => ?_)
  refine lv_iload hx hb dX3_addRefusal_10 (lv_at hl 0 rfl) ?_
  refine lv_if_eq (tgt := 18) hx hb dX3_addRefusal_12 (by decide) (fun c2 => ?_) (fun c2 => ?_)
  · have hf := (if_pos c2).symm.trans hf
    refine lv_aload hx hb dX3_addRefusal_18 (lv_at hl 5 rfl) ?_
    obtain ⟨v3, hv3, hf⟩ := g_s1 hf
    refine g_ki S (g_runV (rest := []) X S (c_X7_isValid l hN ha3 hv3 _) cvX7_isValid mlX3_92 (kd_N ha3 (by decide) hN) (ceC_7 ha3 _) rfl rfl rfl hl.1 (Nat.le_of_ble_eq_true rfl) ⟨⟨rfl, rfl⟩, ⟨Nat.le_of_ble_eq_true rfl, Nat.le_of_ble_eq_true rfl⟩, Nat.le_of_ble_eq_true rfl, Nat.le_of_ble_eq_true rfl⟩ dX3_addRefusal_20) (fun H locs S => ?_)
    refine lv_if_ne (tgt := 28) hx hb dX3_addRefusal_23 (by decide) (fun c4 => ?_) (fun c4 => ?_)
    · have hf := (if_neg c4).symm.trans hf
      refine lv_aload_n hx hb dX3_addRefusal_28 rfl (lv_at hl 1 rfl) ?_
      refine lv_iload_n hx hb dX3_addRefusal_29 rfl (lv_at hl 2 rfl) ?_
      obtain ⟨v5, hv5, hf⟩ := g_s1 hf
      refine g_kr S (g_runV (rest := []) X S (c_X3_trackOf l hN hk hv5 _) cvX3_trackOf mlX3_70 (kd_N hk (by decide) hN) (ceC_3 hk _) rfl rfl rfl hl.1 (Nat.le_of_ble_eq_true rfl) ⟨⟨rfl, rfl⟩, ⟨Nat.le_of_ble_eq_true rfl, Nat.le_of_ble_eq_true rfl⟩, Nat.le_of_ble_eq_true rfl, Nat.le_of_ble_eq_true rfl⟩ dX3_addRefusal_30) (fun H locs S => ?_)
      have hkv5 : gkd v5 = 8 := kr_X3_trackOf hk hv5
      refine gfX3_52 X S hN hkv5 dX3_addRefusal_33 ?_
      refine lv_bipush (v := (16 : Int32)) hx hb dX3_addRefusal_36 (by decide) ?_
      obtain ⟨x6, hr7, hf⟩ := g_s1 hf
      have J8 : ∀ (H : Heap) (locs : List Loc) (ls : Array Slot), gS celC Γ ad N σ s H locs → lv_has ls 6 [] → W p l e (gR 5 0 0) s m args below meth c H locs 0 0 (gQi celC Γ ad N r σ below args s) (F0 m 47 ls [.int x6]) := by
        intro H locs ls S hl
        cases hf
        exact g_reti X S rfl dX3_addRefusal_47
      replace hf := hr7
      refine lv_icmp_lt (tgt := 46) hx hb dX3_addRefusal_38 (by decide) (fun c9 => ?_) (fun c9 => ?_)
      · have hf := (if_pos c9).symm.trans hf
        refine lv_iconst (v := (0 : Int32)) hx hb dX3_addRefusal_46 (by decide) ?_
        cases hf
        exact J8 _ _ _ S (lv_sub hl [] rfl)
      · have hf := (if_neg c9).symm.trans hf
        refine lv_bipush (v := (8 : Int32)) hx hb dX3_addRefusal_41 (by decide) ?_
        refine lv_goto (tgt := 47) hx hb dX3_addRefusal_43 (by decide) ?_
        cases hf
        exact J8 _ _ _ S (lv_sub hl [] rfl)
    · have hf := (if_pos c4).symm.trans hf
      refine lv_iconst (v := (4 : Int32)) hx hb dX3_addRefusal_26 (by decide) ?_
      cases hf
      exact g_reti X S rfl dX3_addRefusal_27
  · have hf := (if_neg c2).symm.trans hf
    refine lv_iload hx hb dX3_addRefusal_15 (lv_at hl 0 rfl) ?_
    cases hf
    exact g_reti X S rfl dX3_addRefusal_17

noncomputable def f_X4_rowAt (σ : gSt) (a0 : Int32) : Option (Option Nat) :=
  (g_k1 (if a0 < 0 then some none else (if (9 : Int32) ≤ a0 then some none else (g_k1 (gidx a0 9) fun v6 => some (some (gFx v6))))) fun x1 => some x1)
set_option maxRecDepth 100000 in
set_option maxHeartbeats 4000000 in
theorem c_X4_rowAt (l : Launch) {Γ : gG} {ad : Nat → Nat} {N : Nat} (hN : 202 ≤ N) {σ : gSt} {a0 : Int32}  {r : Option Nat} (hf : f_X4_rowAt σ a0 = some r) : gMr l celC Γ ad N yX4_rowAt cX4_rowAt 2 (some (.object "SubtitleDesk$Film")) (gR 1 0 0) [.ref (ad 25), .int a0] σ r σ := by
  intro sz
  refine gOf (Qc := fun sz => gQcr celC Γ ad N r σ sz) RX4 (by decide) rfl (Nat.le_of_ble_eq_true rfl) (fun p e s m args below meth c H locs ls X S hl => ?_)
  have hl : lv_has ls 2 [(0, .ref (ad 25)), (1, .int a0)] := hl
  have hx := X.1
  have hb := X.2.1
  unfold f_X4_rowAt at hf
  refine lv_iload_n hx hb dX4_rowAt_0 rfl (lv_at hl 1 rfl) ?_
  obtain ⟨x1, hr2, hf⟩ := g_s1 hf
  have J3 : ∀ (H : Heap) (locs : List Loc) (ls : Array Slot), gS celC Γ ad N σ s H locs → lv_has ls 2 [] → W p l e (gR 1 0 0) s m args below meth c H locs 0 0 (gQr celC Γ ad N r σ below args s) (F0 m 23 ls [(va_re ad x1)]) := by
    intro H locs ls S hl
    cases hf
    exact g_retq X S dX4_rowAt_23
  replace hf := hr2
  refine lv_if_lt (tgt := 22) hx hb dX4_rowAt_1 (by decide) (fun c4 => ?_) (fun c4 => ?_)
  · have hf := (if_pos c4).symm.trans hf
    refine lv_null hx hb dX4_rowAt_22 ?_
    cases hf
    exact J3 _ _ _ S (lv_sub hl [] rfl)
  · have hf := (if_neg c4).symm.trans hf
    refine lv_iload_n hx hb dX4_rowAt_4 rfl (lv_at hl 1 rfl) ?_
    refine lv_aload_n hx hb dX4_rowAt_5 rfl (lv_at hl 0 rfl) ?_
    refine gfX4_11 X S hN kd_s25 dX4_rowAt_6 ?_
    refine g_alenq X S hN dX4_rowAt_9 ?_
    refine lv_icmp_ge (tgt := 22) hx hb dX4_rowAt_10 (by decide) (fun c5 => ?_) (fun c5 => ?_)
    · have hf := (if_pos c5).symm.trans hf
      refine lv_null hx hb dX4_rowAt_22 ?_
      cases hf
      exact J3 _ _ _ S (lv_sub hl [] rfl)
    · have hf := (if_neg c5).symm.trans hf
      refine lv_aload_n hx hb dX4_rowAt_13 rfl (lv_at hl 0 rfl) ?_
      refine gfX4_11 X S hN kd_s25 dX4_rowAt_14 ?_
      refine lv_iload_n hx hb dX4_rowAt_17 rfl (lv_at hl 1 rfl) ?_
      obtain ⟨v6, hv6, hf⟩ := g_s1 hf
      obtain ⟨hkv6, hqv6⟩ := gidx_some hv6
      refine g_aald X S hN hv6 dX4_rowAt_18 ?_
      refine lv_goto (tgt := 23) hx hb dX4_rowAt_19 (by decide) ?_
      cases hf
      exact J3 _ _ _ S (lv_sub hl [] rfl)
theorem kr_X4_rowAt {σ : gSt} {a0 : Int32} {w : Nat} (h : f_X4_rowAt σ a0 = some (some w)) : gkd w = 3 := by
  unfold f_X4_rowAt at h
  obtain ⟨x, hx, h⟩ := g_s1 h
  cases h
  split at hx
  · cases hx
  · split at hx
    · cases hx
    · obtain ⟨v, hv, hx⟩ := g_s1 hx
      cases hx
      exact kd_fx (gidx_some hv).1

theorem g_eln {α β : Type} {a : Option β} {f : α → Option β} {r : β} (h : (none : Option α).elim a f = some r) : a = some r := h
theorem g_els {α β : Type} {a : Option β} {f : α → Option β} {r : β} {w : α} (h : (some w).elim a f = some r) : f w = some r := h
noncomputable def f_X4_prepare (σ : gSt) (a0 : Nat) : Option (gSt) :=
  (g_k1 (f_X4_rowAt σ (σ 25 2)) fun v1 => v1.elim (some σ) (fun w2 => (g_k1 (f_X3_copyFrom σ w2 a0) fun σ3 => some σ3)))
set_option maxRecDepth 100000 in
set_option maxHeartbeats 4000000 in
theorem c_X4_prepare (l : Launch) {Γ : gG} {ad : Nat → Nat} {N : Nat} (hN : 202 ≤ N) {σ : gSt} {a0 : Nat} (ha0 : gkd a0 = 3) {σ' : gSt} (hf : f_X4_prepare σ a0 = some σ') : gMv l celC Γ ad N yX4_prepare cX4_prepare 3 none (gR 4 0 0) [.ref (ad 25), .ref (ad a0)] σ σ' := by
  intro sz
  refine gOf (Qc := fun sz => gQcv celC Γ ad N σ' sz) RX4 (by decide) rfl (Nat.le_of_ble_eq_true rfl) (fun p e s m args below meth c H locs ls X S hl => ?_)
  have hl : lv_has ls 3 [(0, .ref (ad 25)), (1, .ref (ad a0))] := hl
  have hx := X.1
  have hb := X.2.1
  unfold f_X4_prepare at hf
  refine lv_aload_n hx hb dX4_prepare_0 rfl (lv_at hl 0 rfl) ?_
  refine lv_aload_n hx hb dX4_prepare_1 rfl (lv_at hl 0 rfl) ?_
  refine gfX4_22 X S hN kd_s25 dX4_prepare_2 ?_
  obtain ⟨v1, hv1, hf⟩ := g_s1 hf
  refine g_kr S (g_runV (rest := []) X S (c_X4_rowAt l hN  hv1 _) cvX4_rowAt mlX4_32 (kd_N kd_s25 (by decide) hN) (ceC_4 kd_s25 _) rfl rfl rfl hl.1 (Nat.le_of_ble_eq_true rfl) ⟨⟨rfl, rfl⟩, ⟨Nat.le_of_ble_eq_true rfl, Nat.le_of_ble_eq_true rfl⟩, Nat.le_of_ble_eq_true rfl, Nat.le_of_ble_eq_true rfl⟩ dX4_prepare_5) (fun H locs S => ?_)
  rcases v1 with _ | w2
  · refine W.eq (g2 := F0 m 8 ls [.null]) rfl ?_
    replace hf := g_eln hf
    refine lv_astore_nN (lv' := [(2, .null), (0, .ref (ad 25)), (1, .ref (ad a0))]) hx hb dX4_prepare_8 rfl hl (by decide) rfl (fun ls hl => ?_)
    refine lv_aload_nN hx hb dX4_prepare_9 rfl (lv_at hl 0 rfl) ?_
    refine lv_ifnullN (tgt := 18) hx hb dX4_prepare_10 (by decide) ?_
    cases hf
    exact g_retv X S dX4_prepare_18
  · refine W.eq (g2 := F0 m 8 ls [.ref (ad w2)]) rfl ?_
    replace hf := g_els hf
    have hkw2 : gkd w2 = 3 := kr_X4_rowAt hv1
    refine lv_astore_n (lv' := [(2, .ref (ad w2)), (0, .ref (ad 25)), (1, .ref (ad a0))]) hx hb dX4_prepare_8 rfl hl (by decide) rfl (fun ls hl => ?_)
    refine lv_aload_n hx hb dX4_prepare_9 rfl (lv_at hl 0 rfl) ?_
    refine lv_ifnull hx hb dX4_prepare_10 ?_
    refine lv_aload_n hx hb dX4_prepare_13 rfl (lv_at hl 0 rfl) ?_
    refine lv_aload_n hx hb dX4_prepare_14 rfl (lv_at hl 2 rfl) ?_
    obtain ⟨σ3, hσ3, hf⟩ := g_s1 hf
    refine g_kv S (g_runV (rest := []) X S (c_X3_copyFrom l hN hkw2 ha0 hσ3 _) cvX3_copyFrom mlX4_36 (kd_N hkw2 (by decide) hN) (ceC_3 hkw2 _) rfl rfl rfl hl.1 (Nat.le_of_ble_eq_true rfl) ⟨⟨rfl, rfl⟩, ⟨Nat.le_of_ble_eq_true rfl, Nat.le_of_ble_eq_true rfl⟩, Nat.le_of_ble_eq_true rfl, Nat.le_of_ble_eq_true rfl⟩ dX4_prepare_15) (fun H locs S => ?_)
    cases hf
    exact g_retv X S dX4_prepare_18

noncomputable def f_X4_commit (σ : gSt)  : Option (gSt) :=
  (g_k1 (if (8 : Int32) ≤ (σ 25 2) then some (0 : Int32) else some ((σ 25 2) + (1 : Int32))) fun x1 => (g_k1 (gset σ 25 2 x1) fun σ4 => (g_k1 (gset σ4 25 1 (if (8 : Int32) < ((σ4 25 1) + (1 : Int32)) then (8 : Int32) else ((σ4 25 1) + (1 : Int32)))) fun σ6 => some σ6)))
set_option maxRecDepth 100000 in
set_option maxHeartbeats 4000000 in
theorem c_X4_commit (l : Launch) {Γ : gG} {ad : Nat → Nat} {N : Nat} (hN : 202 ≤ N) {σ : gSt}   {σ' : gSt} (hf : f_X4_commit σ  = some σ') : gMv l celC Γ ad N yX4_commit cX4_commit 1 none (gR 2 0 0) [.ref (ad 25)] σ σ' := by
  intro sz
  refine gOf (Qc := fun sz => gQcv celC Γ ad N σ' sz) RX4 (by decide) rfl (Nat.le_of_ble_eq_true rfl) (fun p e s m args below meth c H locs ls X S hl => ?_)
  have hl : lv_has ls 1 [(0, .ref (ad 25))] := hl
  have hx := X.1
  have hb := X.2.1
  unfold f_X4_commit at hf
  refine lv_aload_n hx hb dX4_commit_0 rfl (lv_at hl 0 rfl) ?_
  refine lv_aload_n hx hb dX4_commit_1 rfl (lv_at hl 0 rfl) ?_
  refine gfX4_22 X S hN kd_s25 dX4_commit_2 ?_
  refine lv_bipush (v := (8 : Int32)) hx hb dX4_commit_5 (by decide) ?_
  obtain ⟨x1, hr2, hf⟩ := g_s1 hf
  have J3 : ∀ (H : Heap) (locs : List Loc) (ls : Array Slot), gS celC Γ ad N σ s H locs → lv_has ls 1 [(0, .ref (ad 25))] → W p l e (gR 2 0 0) s m args below meth c H locs 0 0 (gQv celC Γ ad N σ' below args s) (F0 m 20 ls [.int x1, .ref (ad 25)]) := by
    intro H locs ls S hl
    obtain ⟨σ4, hσ4, hf⟩ := g_s1 hf
    refine pfX4_22 X S hN kd_s25 hσ4 dX4_commit_20 (fun H locs S => ?_)
    refine lv_aload_n hx hb dX4_commit_23 rfl (lv_at hl 0 rfl) ?_
    refine lv_aload_n hx hb dX4_commit_24 rfl (lv_at hl 0 rfl) ?_
    refine gfX4_18 X S hN kd_s25 dX4_commit_25 ?_
    refine lv_iconst (v := (1 : Int32)) hx hb dX4_commit_28 (by decide) ?_
    refine lv_iadd hx hb dX4_commit_29 ?_
    refine lv_bipush (v := (8 : Int32)) hx hb dX4_commit_30 (by decide) ?_
    refine g_min X hl.1 mwX4_39 ⟨⟨by decide, Nat.le_of_ble_eq_true rfl⟩, Nat.le_of_ble_eq_true rfl, Nat.le_of_ble_eq_true rfl⟩ dX4_commit_32 ?_
    obtain ⟨σ6, hσ6, hf⟩ := g_s1 hf
    refine pfX4_18 X S hN kd_s25 hσ6 dX4_commit_35 (fun H locs S => ?_)
    cases hf
    exact g_retv X S dX4_commit_38
  replace hf := hr2
  refine lv_icmp_ge (tgt := 19) hx hb dX4_commit_7 (by decide) (fun c7 => ?_) (fun c7 => ?_)
  · have hf := (if_pos c7).symm.trans hf
    refine lv_iconst (v := (0 : Int32)) hx hb dX4_commit_19 (by decide) ?_
    cases hf
    exact J3 _ _ _ S (lv_sub hl [0] rfl)
  · have hf := (if_neg c7).symm.trans hf
    refine lv_aload_n hx hb dX4_commit_10 rfl (lv_at hl 0 rfl) ?_
    refine gfX4_22 X S hN kd_s25 dX4_commit_11 ?_
    refine lv_iconst (v := (1 : Int32)) hx hb dX4_commit_14 (by decide) ?_
    refine lv_iadd hx hb dX4_commit_15 ?_
    refine lv_goto (tgt := 20) hx hb dX4_commit_16 (by decide) ?_
    cases hf
    exact J3 _ _ _ S (lv_sub hl [0] rfl)

noncomputable def f_X4_keep (σ : gSt) (a0 : Nat) : Option (gSt) :=
  (g_k1 (f_X4_prepare σ a0) fun σ1 => (g_k1 (f_X4_commit σ1 ) fun σ2 => some σ2))
set_option maxRecDepth 100000 in
set_option maxHeartbeats 4000000 in
theorem c_X4_keep (l : Launch) {Γ : gG} {ad : Nat → Nat} {N : Nat} (hN : 202 ≤ N) {σ : gSt} {a0 : Nat} (ha0 : gkd a0 = 3) {σ' : gSt} (hf : f_X4_keep σ a0 = some σ') : gMv l celC Γ ad N yX4_keep cX4_keep 2 none (gR 5 0 0) [.ref (ad 25), .ref (ad a0)] σ σ' := by
  intro sz
  refine gOf (Qc := fun sz => gQcv celC Γ ad N σ' sz) RX4 (by decide) rfl (Nat.le_of_ble_eq_true rfl) (fun p e s m args below meth c H locs ls X S hl => ?_)
  have hl : lv_has ls 2 [(0, .ref (ad 25)), (1, .ref (ad a0))] := hl
  have hx := X.1
  have hb := X.2.1
  unfold f_X4_keep at hf
  refine lv_aload_n hx hb dX4_keep_0 rfl (lv_at hl 0 rfl) ?_
  refine lv_aload_n hx hb dX4_keep_1 rfl (lv_at hl 1 rfl) ?_
  obtain ⟨σ1, hσ1, hf⟩ := g_s1 hf
  refine g_kv S (g_runV (rest := []) X S (c_X4_prepare l hN ha0 hσ1 _) cvX4_prepare mlX4_25 (kd_N kd_s25 (by decide) hN) (ceC_4 kd_s25 _) rfl rfl rfl hl.1 (Nat.le_of_ble_eq_true rfl) ⟨⟨rfl, rfl⟩, ⟨Nat.le_of_ble_eq_true rfl, Nat.le_of_ble_eq_true rfl⟩, Nat.le_of_ble_eq_true rfl, Nat.le_of_ble_eq_true rfl⟩ dX4_keep_2) (fun H locs S => ?_)
  refine lv_aload_n hx hb dX4_keep_5 rfl (lv_at hl 0 rfl) ?_
  obtain ⟨σ2, hσ2, hf⟩ := g_s1 hf
  refine g_kv S (g_runV (rest := []) X S (c_X4_commit l hN  hσ2 _) cvX4_commit mlX4_29 (kd_N kd_s25 (by decide) hN) (ceC_4 kd_s25 _) rfl rfl rfl hl.1 (Nat.le_of_ble_eq_true rfl) ⟨⟨rfl, rfl⟩, ⟨Nat.le_of_ble_eq_true rfl, Nat.le_of_ble_eq_true rfl⟩, Nat.le_of_ble_eq_true rfl, Nat.le_of_ble_eq_true rfl⟩ dX4_keep_6) (fun H locs S => ?_)
  cases hf
  exact g_retv X S dX4_keep_9

noncomputable def f_X4_takeBackInto (σ : gSt) (a0 : Nat) : Option (gSt) :=
  (g_k1 (f_X4_rowAt σ (σ 25 2)) fun v1 => v1.elim (some σ) (fun w2 => (g_k1 (f_X3_copyFrom σ a0 w2) fun σ3 => some σ3)))
set_option maxRecDepth 100000 in
set_option maxHeartbeats 4000000 in
theorem c_X4_takeBackInto (l : Launch) {Γ : gG} {ad : Nat → Nat} {N : Nat} (hN : 202 ≤ N) {σ : gSt} {a0 : Nat} (ha0 : gkd a0 = 3) {σ' : gSt} (hf : f_X4_takeBackInto σ a0 = some σ') : gMv l celC Γ ad N yX4_takeBackInto cX4_takeBackInto 3 none (gR 4 0 0) [.ref (ad 25), .ref (ad a0)] σ σ' := by
  intro sz
  refine gOf (Qc := fun sz => gQcv celC Γ ad N σ' sz) RX4 (by decide) rfl (Nat.le_of_ble_eq_true rfl) (fun p e s m args below meth c H locs ls X S hl => ?_)
  have hl : lv_has ls 3 [(0, .ref (ad 25)), (1, .ref (ad a0))] := hl
  have hx := X.1
  have hb := X.2.1
  unfold f_X4_takeBackInto at hf
  refine lv_aload_n hx hb dX4_takeBackInto_0 rfl (lv_at hl 0 rfl) ?_
  refine lv_aload_n hx hb dX4_takeBackInto_1 rfl (lv_at hl 0 rfl) ?_
  refine gfX4_22 X S hN kd_s25 dX4_takeBackInto_2 ?_
  obtain ⟨v1, hv1, hf⟩ := g_s1 hf
  refine g_kr S (g_runV (rest := []) X S (c_X4_rowAt l hN  hv1 _) cvX4_rowAt mlX4_32 (kd_N kd_s25 (by decide) hN) (ceC_4 kd_s25 _) rfl rfl rfl hl.1 (Nat.le_of_ble_eq_true rfl) ⟨⟨rfl, rfl⟩, ⟨Nat.le_of_ble_eq_true rfl, Nat.le_of_ble_eq_true rfl⟩, Nat.le_of_ble_eq_true rfl, Nat.le_of_ble_eq_true rfl⟩ dX4_takeBackInto_5) (fun H locs S => ?_)
  rcases v1 with _ | w2
  · refine W.eq (g2 := F0 m 8 ls [.null]) rfl ?_
    replace hf := g_eln hf
    refine lv_astore_nN (lv' := [(2, .null), (0, .ref (ad 25)), (1, .ref (ad a0))]) hx hb dX4_takeBackInto_8 rfl hl (by decide) rfl (fun ls hl => ?_)
    refine lv_aload_nN hx hb dX4_takeBackInto_9 rfl (lv_at hl 0 rfl) ?_
    refine lv_ifnullN (tgt := 18) hx hb dX4_takeBackInto_10 (by decide) ?_
    cases hf
    exact g_retv X S dX4_takeBackInto_18
  · refine W.eq (g2 := F0 m 8 ls [.ref (ad w2)]) rfl ?_
    replace hf := g_els hf
    have hkw2 : gkd w2 = 3 := kr_X4_rowAt hv1
    refine lv_astore_n (lv' := [(2, .ref (ad w2)), (0, .ref (ad 25)), (1, .ref (ad a0))]) hx hb dX4_takeBackInto_8 rfl hl (by decide) rfl (fun ls hl => ?_)
    refine lv_aload_n hx hb dX4_takeBackInto_9 rfl (lv_at hl 0 rfl) ?_
    refine lv_ifnull hx hb dX4_takeBackInto_10 ?_
    refine lv_aload_n hx hb dX4_takeBackInto_13 rfl (lv_at hl 2 rfl) ?_
    refine lv_aload_n hx hb dX4_takeBackInto_14 rfl (lv_at hl 0 rfl) ?_
    obtain ⟨σ3, hσ3, hf⟩ := g_s1 hf
    refine g_kv S (g_runV (rest := []) X S (c_X3_copyFrom l hN ha0 hkw2 hσ3 _) cvX3_copyFrom mlX4_36 (kd_N ha0 (by decide) hN) (ceC_3 ha0 _) rfl rfl rfl hl.1 (Nat.le_of_ble_eq_true rfl) ⟨⟨rfl, rfl⟩, ⟨Nat.le_of_ble_eq_true rfl, Nat.le_of_ble_eq_true rfl⟩, Nat.le_of_ble_eq_true rfl, Nat.le_of_ble_eq_true rfl⟩ dX4_takeBackInto_15) (fun H locs S => ?_)
    cases hf
    exact g_retv X S dX4_takeBackInto_18

noncomputable def f_X4_undoInto (σ : gSt) (a0 : Nat) : Option (gSt) :=
  (if 0 < (σ 25 1) then (g_k1 (if (σ 25 2) ≤ 0 then some (8 : Int32) else some ((σ 25 2) - (1 : Int32))) fun x2 => (g_k1 (gset σ 25 2 x2) fun σ5 => (g_k1 (gset σ5 25 1 ((σ5 25 1) - (1 : Int32))) fun σ6 => (g_k1 (f_X4_takeBackInto σ6 a0) fun σ7 => some σ7)))) else some σ)
set_option maxRecDepth 100000 in
set_option maxHeartbeats 4000000 in
theorem c_X4_undoInto (l : Launch) {Γ : gG} {ad : Nat → Nat} {N : Nat} (hN : 202 ≤ N) {σ : gSt} {a0 : Nat} (ha0 : gkd a0 = 3) {σ' : gSt} (hf : f_X4_undoInto σ a0 = some σ') : gMv l celC Γ ad N yX4_undoInto cX4_undoInto 2 none (gR 5 0 0) [.ref (ad 25), .ref (ad a0)] σ σ' := by
  intro sz
  refine gOf (Qc := fun sz => gQcv celC Γ ad N σ' sz) RX4 (by decide) rfl (Nat.le_of_ble_eq_true rfl) (fun p e s m args below meth c H locs ls X S hl => ?_)
  have hl : lv_has ls 2 [(0, .ref (ad 25)), (1, .ref (ad a0))] := hl
  have hx := X.1
  have hb := X.2.1
  unfold f_X4_undoInto at hf
  refine lv_aload_n hx hb dX4_undoInto_0 rfl (lv_at hl 0 rfl) ?_
  refine gfX4_18 X S hN kd_s25 dX4_undoInto_1 ?_
  refine lv_if_gt (tgt := 8) hx hb dX4_undoInto_4 (by decide) (fun c1 => ?_) (fun c1 => ?_)
  · have hf := (if_pos c1).symm.trans hf
    refine lv_aload_n hx hb dX4_undoInto_8 rfl (lv_at hl 0 rfl) ?_
    refine lv_aload_n hx hb dX4_undoInto_9 rfl (lv_at hl 0 rfl) ?_
    refine gfX4_22 X S hN kd_s25 dX4_undoInto_10 ?_
    obtain ⟨x2, hr3, hf⟩ := g_s1 hf
    have J4 : ∀ (H : Heap) (locs : List Loc) (ls : Array Slot), gS celC Γ ad N σ s H locs → lv_has ls 2 [(0, .ref (ad 25)), (1, .ref (ad a0))] → W p l e (gR 5 0 0) s m args below meth c H locs 0 0 (gQv celC Γ ad N σ' below args s) (F0 m 27 ls [.int x2, .ref (ad 25)]) := by
      intro H locs ls S hl
      obtain ⟨σ5, hσ5, hf⟩ := g_s1 hf
      refine pfX4_22 X S hN kd_s25 hσ5 dX4_undoInto_27 (fun H locs S => ?_)
      refine lv_aload_n hx hb dX4_undoInto_30 rfl (lv_at hl 0 rfl) ?_
      refine lv_dup hx hb dX4_undoInto_31 rfl ?_
      refine gfX4_18 X S hN kd_s25 dX4_undoInto_32 ?_
      refine lv_iconst (v := (1 : Int32)) hx hb dX4_undoInto_35 (by decide) ?_
      refine lv_isub hx hb dX4_undoInto_36 ?_
      obtain ⟨σ6, hσ6, hf⟩ := g_s1 hf
      refine pfX4_18 X S hN kd_s25 hσ6 dX4_undoInto_37 (fun H locs S => ?_)
      refine lv_aload_n hx hb dX4_undoInto_40 rfl (lv_at hl 0 rfl) ?_
      refine lv_aload_n hx hb dX4_undoInto_41 rfl (lv_at hl 1 rfl) ?_
      obtain ⟨σ7, hσ7, hf⟩ := g_s1 hf
      refine g_kv S (g_runV (rest := []) X S (c_X4_takeBackInto l hN ha0 hσ7 _) cvX4_takeBackInto mlX4_45 (kd_N kd_s25 (by decide) hN) (ceC_4 kd_s25 _) rfl rfl rfl hl.1 (Nat.le_of_ble_eq_true rfl) ⟨⟨rfl, rfl⟩, ⟨Nat.le_of_ble_eq_true rfl, Nat.le_of_ble_eq_true rfl⟩, Nat.le_of_ble_eq_true rfl, Nat.le_of_ble_eq_true rfl⟩ dX4_undoInto_42) (fun H locs S => ?_)
      cases hf
      exact g_retv X S dX4_undoInto_45
    replace hf := hr3
    refine lv_if_le (tgt := 25) hx hb dX4_undoInto_13 (by decide) (fun c8 => ?_) (fun c8 => ?_)
    · have hf := (if_pos c8).symm.trans hf
      refine lv_bipush (v := (8 : Int32)) hx hb dX4_undoInto_25 (by decide) ?_
      cases hf
      exact J4 _ _ _ S (lv_sub hl [0, 1] rfl)
    · have hf := (if_neg c8).symm.trans hf
      refine lv_aload_n hx hb dX4_undoInto_16 rfl (lv_at hl 0 rfl) ?_
      refine gfX4_22 X S hN kd_s25 dX4_undoInto_17 ?_
      refine lv_iconst (v := (1 : Int32)) hx hb dX4_undoInto_20 (by decide) ?_
      refine lv_isub hx hb dX4_undoInto_21 ?_
      refine lv_goto (tgt := 27) hx hb dX4_undoInto_22 (by decide) ?_
      cases hf
      exact J4 _ _ _ S (lv_sub hl [0, 1] rfl)
  · have hf := (if_neg c1).symm.trans hf
    cases hf
    exact g_retv X S dX4_undoInto_7

noncomputable def f_X4_forgetAll (σ : gSt)  : Option (gSt) :=
  (g_k1 (gset σ 25 1 (0 : Int32)) fun σ1 => some σ1)
set_option maxRecDepth 100000 in
set_option maxHeartbeats 4000000 in
theorem c_X4_forgetAll (l : Launch) {Γ : gG} {ad : Nat → Nat} {N : Nat} (hN : 202 ≤ N) {σ : gSt}   {σ' : gSt} (hf : f_X4_forgetAll σ  = some σ') : gMv l celC Γ ad N yX4_forgetAll cX4_forgetAll 1 none (gR 1 0 0) [.ref (ad 25)] σ σ' := by
  intro sz
  refine gOf (Qc := fun sz => gQcv celC Γ ad N σ' sz) RX4 (by decide) rfl (Nat.le_of_ble_eq_true rfl) (fun p e s m args below meth c H locs ls X S hl => ?_)
  have hl : lv_has ls 1 [(0, .ref (ad 25))] := hl
  have hx := X.1
  have hb := X.2.1
  unfold f_X4_forgetAll at hf
  refine lv_aload_n hx hb dX4_forgetAll_0 rfl (lv_at hl 0 rfl) ?_
  refine lv_iconst (v := (0 : Int32)) hx hb dX4_forgetAll_1 (by decide) ?_
  obtain ⟨σ1, hσ1, hf⟩ := g_s1 hf
  refine pfX4_18 X S hN kd_s25 hσ1 dX4_forgetAll_2 (fun H locs S => ?_)
  cases hf
  exact g_retv X S dX4_forgetAll_5

noncomputable def f_X9_saveSnapshot (σ : gSt)  : Option (Int32 × gSt) :=
  (g_k1 (f_X3_copyFrom σ 171 1) fun σ1 => (g_k1 (gset σ1 0 5 (1 : Int32)) fun σ2 => (g_k1 (f_X3_captionCount σ2 1) fun v3 => some (v3, σ2))))
set_option maxRecDepth 100000 in
set_option maxHeartbeats 4000000 in
theorem c_X9_saveSnapshot (l : Launch) {Γ : gG} {ad : Nat → Nat} {N : Nat} (hN : 202 ≤ N) {σ : gSt}   {r : Int32} {σ' : gSt} (hf : f_X9_saveSnapshot σ  = some (r, σ')) : gMi l celC Γ ad N yX9_saveSnapshot cX9_saveSnapshot 1 (some .int) (gR 4 0 0) [.ref (ad 0)] σ r σ' := by
  intro sz
  refine gOf (Qc := fun sz => gQci celC Γ ad N r σ' sz) RX9 (by decide) rfl (Nat.le_of_ble_eq_true rfl) (fun p e s m args below meth c H locs ls X S hl => ?_)
  have hl : lv_has ls 1 [(0, .ref (ad 0))] := hl
  have hx := X.1
  have hb := X.2.1
  unfold f_X9_saveSnapshot at hf
  refine lv_aload_n hx hb dX9_saveSnapshot_0 rfl (lv_at hl 0 rfl) ?_
  refine gfX9_41 X S hN kd_s0 dX9_saveSnapshot_1 ?_
  refine lv_aload_n hx hb dX9_saveSnapshot_4 rfl (lv_at hl 0 rfl) ?_
  refine gfX9_10 X S hN kd_s0 dX9_saveSnapshot_5 ?_
  obtain ⟨σ1, hσ1, hf⟩ := g_s1 hf
  refine g_kv S (g_runV (rest := []) X S (c_X3_copyFrom l hN kd_s171 kd_s1 hσ1 _) cvX3_copyFrom mlX9_348 (kd_N kd_s171 (by decide) hN) (ceC_3 kd_s171 _) rfl rfl rfl hl.1 (Nat.le_of_ble_eq_true rfl) ⟨⟨rfl, rfl⟩, ⟨Nat.le_of_ble_eq_true rfl, Nat.le_of_ble_eq_true rfl⟩, Nat.le_of_ble_eq_true rfl, Nat.le_of_ble_eq_true rfl⟩ dX9_saveSnapshot_8) (fun H locs S => ?_)
  refine lv_aload_n hx hb dX9_saveSnapshot_11 rfl (lv_at hl 0 rfl) ?_
  refine lv_iconst (v := (1 : Int32)) hx hb dX9_saveSnapshot_12 (by decide) ?_
  obtain ⟨σ2, hσ2, hf⟩ := g_s1 hf
  refine pfX9_44 X S hN kd_s0 (by decide +kernel) hσ2 dX9_saveSnapshot_13 (fun H locs S => ?_)
  refine lv_aload_n hx hb dX9_saveSnapshot_16 rfl (lv_at hl 0 rfl) ?_
  refine gfX9_10 X S hN kd_s0 dX9_saveSnapshot_17 ?_
  obtain ⟨v3, hv3, hf⟩ := g_s1 hf
  refine g_ki S (g_runV (rest := []) X S (c_X3_captionCount l hN kd_s1 hv3 _) cvX3_captionCount mlX9_351 (kd_N kd_s1 (by decide) hN) (ceC_3 kd_s1 _) rfl rfl rfl hl.1 (Nat.le_of_ble_eq_true rfl) ⟨⟨rfl, rfl⟩, ⟨Nat.le_of_ble_eq_true rfl, Nat.le_of_ble_eq_true rfl⟩, Nat.le_of_ble_eq_true rfl, Nat.le_of_ble_eq_true rfl⟩ dX9_saveSnapshot_20) (fun H locs S => ?_)
  cases hf
  exact g_reti X S rfl dX9_saveSnapshot_23

noncomputable def f_X1_placeCaption (σ : gSt) (a0 : Int32) (a1 : Int32) (a2 : Int32) (a3 : Int32) : Option (Int32 × gSt) :=
  (g_k1 (f_X3_trackOf σ 1 a0) fun v1 => (g_k1 (f_X8_kind σ v1 a1) fun v2 => (g_k1 (f_X7_clear σ 21) fun σ3 => (g_k1 (f_X8_size σ3 v1 a1) fun v4 => (g_k1 (f_X8_appendTextTo σ3 v1 21 a1 (0 : Int32) v4) fun σ5 => (g_k1 (f_X8_closeRow σ5 v1 a1) fun σ6 => (g_k2 (f_X8_insertCaption σ6 v1 v2 a2 a3 21) fun v7 σ8 => some (v7, σ8))))))))
set_option maxRecDepth 100000 in
set_option maxHeartbeats 4000000 in
theorem c_X1_placeCaption (l : Launch) {Γ : gG} {ad : Nat → Nat} {N : Nat} (hN : 202 ≤ N) {σ : gSt} {a0 : Int32} {a1 : Int32} {a2 : Int32} {a3 : Int32}  {r : Int32} {σ' : gSt} (hf : f_X1_placeCaption σ a0 a1 a2 a3 = some (r, σ')) : gMi l celC Γ ad N yX1_placeCaption cX1_placeCaption 7 (some .int) (gR 4 0 0) [.ref (ad 20), .int a0, .int a1, .int a2, .int a3] σ r σ' := by
  intro sz
  refine gOf (Qc := fun sz => gQci celC Γ ad N r σ' sz) RX1 (by decide) rfl (Nat.le_of_ble_eq_true rfl) (fun p e s m args below meth c H locs ls X S hl => ?_)
  have hl : lv_has ls 7 [(0, .ref (ad 20)), (1, .int a0), (2, .int a1), (3, .int a2), (4, .int a3)] := hl
  have hx := X.1
  have hb := X.2.1
  unfold f_X1_placeCaption at hf
  refine lv_aload_n hx hb dX1_placeCaption_0 rfl (lv_at hl 0 rfl) ?_
  refine gfX1_9 X S hN kd_s20 dX1_placeCaption_1 ?_
  refine lv_iload_n hx hb dX1_placeCaption_4 rfl (lv_at hl 1 rfl) ?_
  obtain ⟨v1, hv1, hf⟩ := g_s1 hf
  refine g_kr S (g_runV (rest := []) X S (c_X3_trackOf l hN kd_s1 hv1 _) cvX3_trackOf mlX1_29 (kd_N kd_s1 (by decide) hN) (ceC_3 kd_s1 _) rfl rfl rfl hl.1 (Nat.le_of_ble_eq_true rfl) ⟨⟨rfl, rfl⟩, ⟨Nat.le_of_ble_eq_true rfl, Nat.le_of_ble_eq_true rfl⟩, Nat.le_of_ble_eq_true rfl, Nat.le_of_ble_eq_true rfl⟩ dX1_placeCaption_5) (fun H locs S => ?_)
  have hkv1 : gkd v1 = 8 := kr_X3_trackOf kd_s1 hv1
  refine lv_astore (lv' := [(5, .ref (ad v1)), (0, .ref (ad 20)), (1, .int a0), (2, .int a1), (3, .int a2), (4, .int a3)]) hx hb dX1_placeCaption_8 hl (by decide) rfl (fun ls hl => ?_)
  refine lv_aload hx hb dX1_placeCaption_10 (lv_at hl 0 rfl) ?_
  refine lv_iload_n hx hb dX1_placeCaption_12 rfl (lv_at hl 3 rfl) ?_
  obtain ⟨v2, hv2, hf⟩ := g_s1 hf
  refine g_ki S (g_runV (rest := []) X S (c_X8_kind l hN hkv1 hv2 _) cvX8_kind mlX1_35 (kd_N hkv1 (by decide) hN) (ceC_8 hkv1 _) rfl rfl rfl hl.1 (Nat.le_of_ble_eq_true rfl) ⟨⟨rfl, rfl⟩, ⟨Nat.le_of_ble_eq_true rfl, Nat.le_of_ble_eq_true rfl⟩, Nat.le_of_ble_eq_true rfl, Nat.le_of_ble_eq_true rfl⟩ dX1_placeCaption_13) (fun H locs S => ?_)
  refine lv_istore (lv' := [(6, .int v2), (5, .ref (ad v1)), (0, .ref (ad 20)), (1, .int a0), (2, .int a1), (3, .int a2), (4, .int a3)]) hx hb dX1_placeCaption_16 hl (by decide) rfl (fun ls hl => ?_)
  refine lv_aload_n hx hb dX1_placeCaption_18 rfl (lv_at hl 2 rfl) ?_
  refine gfX1_22 X S hN kd_s20 dX1_placeCaption_19 ?_
  obtain ⟨σ3, hσ3, hf⟩ := g_s1 hf
  refine g_kv S (g_runV (rest := []) X S (c_X7_clear l hN kd_s21 hσ3 _) cvX7_clear mlX1_41 (kd_N kd_s21 (by decide) hN) (ceC_7 kd_s21 _) rfl rfl rfl hl.1 (Nat.le_of_ble_eq_true rfl) ⟨⟨rfl, rfl⟩, ⟨Nat.le_of_ble_eq_true rfl, Nat.le_of_ble_eq_true rfl⟩, Nat.le_of_ble_eq_true rfl, Nat.le_of_ble_eq_true rfl⟩ dX1_placeCaption_22) (fun H locs S => ?_)
  refine lv_aload hx hb dX1_placeCaption_25 (lv_at hl 1 rfl) ?_
  refine lv_aload_n hx hb dX1_placeCaption_27 rfl (lv_at hl 2 rfl) ?_
  refine gfX1_22 X S hN kd_s20 dX1_placeCaption_28 ?_
  refine lv_iload_n hx hb dX1_placeCaption_31 rfl (lv_at hl 4 rfl) ?_
  refine lv_iconst (v := (0 : Int32)) hx hb dX1_placeCaption_32 (by decide) ?_
  refine lv_aload hx hb dX1_placeCaption_33 (lv_at hl 1 rfl) ?_
  refine lv_iload_n hx hb dX1_placeCaption_35 rfl (lv_at hl 4 rfl) ?_
  obtain ⟨v4, hv4, hf⟩ := g_s1 hf
  refine g_ki S (g_runV (rest := [.int (0 : Int32), .int a1, .ref (ad 21), .ref (ad v1)]) X S (c_X8_size l hN hkv1 hv4 _) cvX8_size mlX1_44 (kd_N hkv1 (by decide) hN) (ceC_8 hkv1 _) rfl rfl rfl hl.1 (Nat.le_of_ble_eq_true rfl) ⟨⟨rfl, rfl⟩, ⟨Nat.le_of_ble_eq_true rfl, Nat.le_of_ble_eq_true rfl⟩, Nat.le_of_ble_eq_true rfl, Nat.le_of_ble_eq_true rfl⟩ dX1_placeCaption_36) (fun H locs S => ?_)
  obtain ⟨σ5, hσ5, hf⟩ := g_s1 hf
  refine g_kv S (g_runV (rest := []) X S (c_X8_appendTextTo l hN hkv1 kd_s21 hσ5 _) cvX8_appendTextTo mlX1_47 (kd_N hkv1 (by decide) hN) (ceC_8 hkv1 _) rfl rfl rfl hl.1 (Nat.le_of_ble_eq_true rfl) ⟨⟨rfl, rfl⟩, ⟨Nat.le_of_ble_eq_true rfl, Nat.le_of_ble_eq_true rfl⟩, Nat.le_of_ble_eq_true rfl, Nat.le_of_ble_eq_true rfl⟩ dX1_placeCaption_39) (fun H locs S => ?_)
  refine lv_aload hx hb dX1_placeCaption_42 (lv_at hl 1 rfl) ?_
  refine lv_iload_n hx hb dX1_placeCaption_44 rfl (lv_at hl 4 rfl) ?_
  obtain ⟨σ6, hσ6, hf⟩ := g_s1 hf
  refine g_kv S (g_runV (rest := []) X S (c_X8_closeRow l hN hkv1 hσ6 _) cvX8_closeRow mlX1_51 (kd_N hkv1 (by decide) hN) (ceC_8 hkv1 _) rfl rfl rfl hl.1 (Nat.le_of_ble_eq_true rfl) ⟨⟨rfl, rfl⟩, ⟨Nat.le_of_ble_eq_true rfl, Nat.le_of_ble_eq_true rfl⟩, Nat.le_of_ble_eq_true rfl, Nat.le_of_ble_eq_true rfl⟩ dX1_placeCaption_45) (fun H locs S => ?_)
  refine lv_aload hx hb dX1_placeCaption_48 (lv_at hl 1 rfl) ?_
  refine lv_iload hx hb dX1_placeCaption_50 (lv_at hl 0 rfl) ?_
  refine lv_iload_n hx hb dX1_placeCaption_52 rfl (lv_at hl 5 rfl) ?_
  refine lv_iload hx hb dX1_placeCaption_53 (lv_at hl 6 rfl) ?_
  refine lv_aload_n hx hb dX1_placeCaption_55 rfl (lv_at hl 2 rfl) ?_
  refine gfX1_22 X S hN kd_s20 dX1_placeCaption_56 ?_
  obtain ⟨v7, σ8, hv7, hf⟩ := g_s2 hf
  refine g_ki S (g_runV (rest := []) X S (c_X8_insertCaption l hN hkv1 kd_s21 hv7 _) cvX8_insertCaption mlX1_55 (kd_N hkv1 (by decide) hN) (ceC_8 hkv1 _) rfl rfl rfl hl.1 (Nat.le_of_ble_eq_true rfl) ⟨⟨rfl, rfl⟩, ⟨Nat.le_of_ble_eq_true rfl, Nat.le_of_ble_eq_true rfl⟩, Nat.le_of_ble_eq_true rfl, Nat.le_of_ble_eq_true rfl⟩ dX1_placeCaption_59) (fun H locs S => ?_)
  cases hf
  exact g_reti X S rfl dX1_placeCaption_62

