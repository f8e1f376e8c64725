noncomputable def f_X5_readText_l1 (σ3 : gSt) : Nat → Int32 → gSt → Option (Int32 × gSt)
  | 0, _, _ => none
  | n + 1, i4, σ5 => (if (30 : Int32) ≤ i4 then some ((0 : Int32), σ5) else (g_k2 (f_X5_readItem σ5 i4) fun v7 σ8 => (if v7 = 0 then some ((0 : Int32), σ8) else (g_k1 (gset σ8 191 7 ((σ8 191 7) + (1 : Int32))) fun σ10 => (if gkd ((σ10 191 9).toNatClampNeg) = 7 then (if (σ10 191 8) < (σ10 ((σ10 191 9).toNatClampNeg) 1) then (g_k2 (f_X5_takeSign σ10 (59 : Int32)) fun v13 σ14 => (if v13 = 0 then some ((0 : Int32), σ14) else (f_X5_readText_l1 σ3 n (i4 + 1) σ14))) else some ((1 : Int32), σ10)) else none)))))
set_option maxRecDepth 100000 in
set_option maxHeartbeats 4000000 in
theorem w_X5_readText_l1 {l : Launch} {Γ : gG} {ad : Nat → Nat} {N : Nat} {p : Program} {e : Env} {s : State} {m : MethodId} {args : Array Value} {below : List Frame} {meth : Method} {c : Code} (hN : 202 ≤ N) (X : gX celC Γ ad N RX5 cX5_readText 3 (some .boolean) p s m args meth c) {σ3 : gSt}  : ∀ (n : Nat) (i4 : Int32) (σ5 : gSt) (r : Int32) (σ' : gSt), f_X5_readText_l1 σ3 n i4 σ5 = some (r, σ') → ∀ (H : Heap) (locs : List Loc) (ls : Array Slot), gS celC Γ ad N σ5 s H locs → lv_has ls 3 [(2, .int i4), (0, .ref (ad 191))] → W p l e (gR 5 0 0) s m args below meth c H locs 0 0 (gQi celC Γ ad N r σ' below args s) (F0 m 17 ls []) := by
  have hx := X.1
  have hb := X.2.1
  intro n
  induction n with
  | zero =>
    intro i4 σ5 r σ' hf
    cases hf
  | succ n ih =>
    intro i4 σ5 r σ' hf H locs ls S hl
    rw [f_X5_readText_l1] at hf
    refine lv_iload_n hx hb dX5_readText_17 rfl (lv_at hl 0 rfl) ?_
    refine lv_bipush (v := (30 : Int32)) hx hb dX5_readText_18 (by decide) ?_
    refine lv_icmp_ge (tgt := 76) hx hb dX5_readText_20 (by decide) (fun c6 => ?_) (fun c6 => ?_)
    · have hf := (if_pos c6).symm.trans hf
      refine lv_iconst (v := (0 : Int32)) hx hb dX5_readText_76 (by decide) ?_
      cases hf
      exact g_reti X S (by decide +kernel) dX5_readText_77
    · have hf := (if_neg c6).symm.trans hf
      refine lv_aload_n hx hb dX5_readText_23 rfl (lv_at hl 1 rfl) ?_
      refine lv_iload_n hx hb dX5_readText_24 rfl (lv_at hl 0 rfl) ?_
      obtain ⟨v7, σ8, hv7, hf⟩ := g_s2 hf
      refine g_ki S (g_runV (rest := []) X S (c_X5_readItem l hN  hv7 _) cvX5_readItem mlX5_51 (kd_N kd_s191 (by decide) hN) (ceC_5 kd_s191 _) rfl rfl rfl hl.1 (Nat.le_of_ble_eq_true rfl) ⟨⟨rfl, rfl⟩, ⟨Nat.le_of_ble_eq_true rfl, Nat.le_of_ble_eq_true rfl⟩, Nat.le_of_ble_eq_true rfl, Nat.le_of_ble_eq_true rfl⟩ dX5_readText_25) (fun H locs S => ?_)
      refine lv_if_ne (tgt := 33) hx hb dX5_readText_28 (by decide) (fun c9 => ?_) (fun c9 => ?_)
      · have hf := (if_neg c9).symm.trans hf
        refine lv_aload_n hx hb dX5_readText_33 rfl (lv_at hl 1 rfl) ?_
        refine lv_dup hx hb dX5_readText_34 rfl ?_
        refine gfX5_33 X S hN kd_s191 dX5_readText_35 ?_
        refine lv_iconst (v := (1 : Int32)) hx hb dX5_readText_38 (by decide) ?_
        refine lv_iadd hx hb dX5_readText_39 ?_
        obtain ⟨σ10, hσ10, hf⟩ := g_s1 hf
        refine pfX5_33 X S hN kd_s191 hσ10 dX5_readText_40 (fun H locs S => ?_)
        refine lv_aload_n hx hb dX5_readText_43 rfl (lv_at hl 1 rfl) ?_
        refine gfX5_37 X S hN kd_s191 dX5_readText_44 ?_
        refine lv_aload_n hx hb dX5_readText_47 rfl (lv_at hl 1 rfl) ?_
        refine gfX5_43 X S hN kd_s191 dX5_readText_48 ?_
        obtain ⟨hk11, hf⟩ := g_if hf
        refine gfX5_54 X S hN hk11 dX5_readText_51 ?_
        refine lv_icmp_lt (tgt := 59) hx hb dX5_readText_54 (by decide) (fun c12 => ?_) (fun c12 => ?_)
        · have hf := (if_pos c12).symm.trans hf
          refine lv_aload_n hx hb dX5_readText_59 rfl (lv_at hl 1 rfl) ?_
          refine lv_bipush (v := (59 : Int32)) hx hb dX5_readText_60 (by decide) ?_
          obtain ⟨v13, σ14, hv13, hf⟩ := g_s2 hf
          refine g_ki S (g_runV (rest := []) X S (c_X5_takeSign l hN  hv13 _) cvX5_takeSign mlX5_57 (kd_N kd_s191 (by decide) hN) (ceC_5 kd_s191 _) rfl rfl rfl hl.1 (Nat.le_of_ble_eq_true rfl) ⟨⟨rfl, rfl⟩, ⟨Nat.le_of_ble_eq_true rfl, Nat.le_of_ble_eq_true rfl⟩, Nat.le_of_ble_eq_true rfl, Nat.le_of_ble_eq_true rfl⟩ dX5_readText_62) (fun H locs S => ?_)
          refine lv_if_ne (tgt := 70) hx hb dX5_readText_65 (by decide) (fun c15 => ?_) (fun c15 => ?_)
          · have hf := (if_neg c15).symm.trans hf
            refine lv_iinc (v := (i4 + 1)) (lv' := [(2, .int (i4 + 1)), (0, .ref (ad 191))]) hx hb dX5_readText_70 hl (k := 0) rfl rfl (by decide) rfl (fun ls hl => ?_)
            refine lv_goto (tgt := 17) hx hb dX5_readText_73 (by decide) ?_
            exact ih _ _ _ _  hf _ _ _ S (lv_sub hl [0, 1] rfl)
          · have hf := (if_pos c15).symm.trans hf
            refine lv_iconst (v := (0 : Int32)) hx hb dX5_readText_68 (by decide) ?_
            cases hf
            exact g_reti X S (by decide +kernel) dX5_readText_69
        · have hf := (if_neg c12).symm.trans hf
          refine lv_iconst (v := (1 : Int32)) hx hb dX5_readText_57 (by decide) ?_
          cases hf
          exact g_reti X S (by decide +kernel) dX5_readText_58
      · have hf := (if_pos c9).symm.trans hf
        refine lv_iconst (v := (0 : Int32)) hx hb dX5_readText_31 (by decide) ?_
        cases hf
        exact g_reti X S (by decide +kernel) dX5_readText_32
noncomputable def f_X5_readText (σ : gSt) (a0 : Nat) : Option (Int32 × gSt) :=
  (g_k1 (gset σ 191 9 (nI a0)) fun σ1 => (g_k1 (gset σ1 191 8 (0 : Int32)) fun σ2 => (g_k1 (gset σ2 191 7 (0 : Int32)) fun σ3 => (f_X5_readText_l1 σ3 FU (0 : Int32) σ3))))
set_option maxRecDepth 100000 in
set_option maxHeartbeats 4000000 in
theorem c_X5_readText (l : Launch) {Γ : gG} {ad : Nat → Nat} {N : Nat} (hN : 202 ≤ N) {σ : gSt} {a0 : Nat} (ha0 : gkd a0 = 7) {r : Int32} {σ' : gSt} (hf : f_X5_readText σ a0 = some (r, σ')) : gMi l celC Γ ad N yX5_readText cX5_readText 3 (some .boolean) (gR 5 0 0) [.ref (ad 191), .ref (ad a0)] σ r σ' := by
  intro sz
  refine gOf (Qc := fun sz => gQci celC Γ ad N r σ' sz) RX5 (by decide) rfl (Nat.le_of_ble_eq_true rfl) (fun p e s m args below meth c H locs ls X S hl => ?_)
  have hl : lv_has ls 3 [(0, .ref (ad 191)), (1, .ref (ad a0))] := hl
  have hx := X.1
  have hb := X.2.1
  unfold f_X5_readText at hf
  refine lv_aload_n hx hb dX5_readText_0 rfl (lv_at hl 0 rfl) ?_
  refine lv_aload_n hx hb dX5_readText_1 rfl (lv_at hl 1 rfl) ?_
  obtain ⟨σ1, hσ1, hf⟩ := g_s1 hf
  refine pfX5_text X S hN ha0 hσ1 dX5_readText_2 (fun H locs S => ?_)
  refine lv_aload_n hx hb dX5_readText_5 rfl (lv_at hl 0 rfl) ?_
  refine lv_iconst (v := (0 : Int32)) hx hb dX5_readText_6 (by decide) ?_
  obtain ⟨σ2, hσ2, hf⟩ := g_s1 hf
  refine pfX5_37 X S hN kd_s191 hσ2 dX5_readText_7 (fun H locs S => ?_)
  refine lv_aload_n hx hb dX5_readText_10 rfl (lv_at hl 0 rfl) ?_
  refine lv_iconst (v := (0 : Int32)) hx hb dX5_readText_11 (by decide) ?_
  obtain ⟨σ3, hσ3, hf⟩ := g_s1 hf
  refine pfX5_33 X S hN kd_s191 hσ3 dX5_readText_12 (fun H locs S => ?_)
  refine lv_iconst (v := (0 : Int32)) hx hb dX5_readText_15 (by decide) ?_
  refine lv_istore_n (lv' := [(2, .int (0 : Int32)), (0, .ref (ad 191)), (1, .ref (ad a0))]) hx hb dX5_readText_16 rfl hl (by decide) rfl (fun ls hl => ?_)
  exact w_X5_readText_l1 hN X  FU _ _ _ _  hf _ _ _ S (lv_sub hl [0, 1] rfl)

noncomputable def f_X9_carryOutItem (σ : gSt) (a0 : Int32) : Option (Int32 × gSt) :=
  (g_k1 (f_X5_what σ a0) fun v1 => (if v1 = 0 then (g_k1 (f_X7_clear σ 189) fun σ3 => (g_k1 (f_X5_wordsFrom σ3 a0) fun v4 => (g_k1 (f_X5_wordsTo σ3 a0) fun v5 => (g_k1 (f_X7_appendPart σ3 189 187 v4 v5) fun σ6 => (g_k1 (f_X5_trackOfItem σ6 a0) fun v7 => (g_k1 (f_X5_first σ6 a0) fun v8 => (g_k1 (f_X5_end σ6 a0) fun v9 => (g_k1 (f_X3_addRefusal σ6 1 v7 v8 v9 189) fun v10 => (g_k1 (if v10 = 0 then (g_k1 (f_X5_trackOfItem σ6 a0) fun v15 => (g_k1 (f_X3_trackOf σ6 1 v15) fun v16 => (g_k1 (f_X5_kind σ6 a0) fun v17 => (g_k1 (f_X5_first σ6 a0) fun v18 => (g_k1 (f_X5_end σ6 a0) fun v19 => (g_k2 (f_X8_insertCaption σ6 v16 v17 v18 v19 189) fun v20 σ21 => some σ21)))))) else some σ6) fun σ11 => some (v10, σ11)))))))))) else (g_k1 (f_X5_first σ a0) fun v22 => (g_k1 (f_X5_what σ a0) fun v23 => (g_k1 (if v23 = (1 : Int32) then some (1 : Int32) else some (0 : Int32)) fun x24 => (g_k2 (f_X1_carryOutCut σ v22 x24) fun v27 σ28 => some (v27, σ28)))))))
set_option maxRecDepth 100000 in
set_option maxHeartbeats 4000000 in
theorem c_X9_carryOutItem (l : Launch) {Γ : gG} {ad : Nat → Nat} {N : Nat} (hN : 202 ≤ N) {σ : gSt} {a0 : Int32}  {r : Int32} {σ' : gSt} (hf : f_X9_carryOutItem σ a0 = some (r, σ')) : gMi l celC Γ ad N yX9_carryOutItem cX9_carryOutItem 4 (some .int) (gR 6 0 0) [.ref (ad 0), .int a0] σ r σ' := by
  intro sz
  refine gOf (Qc := fun sz => gQci celC Γ ad N r σ' sz) RX9 (by decide) rfl (Nat.le_of_ble_eq_true rfl) (fun p e s m args below meth c H locs ls X S hl => ?_)
  have hl : lv_has ls 4 [(0, .ref (ad 0)), (1, .int a0)] := hl
  have hx := X.1
  have hb := X.2.1
  unfold f_X9_carryOutItem at hf
  refine lv_aload_n hx hb dX9_carryOutItem_0 rfl (lv_at hl 0 rfl) ?_
  refine gfX9_61 X S hN kd_s0 dX9_carryOutItem_1 ?_
  refine lv_iload_n hx hb dX9_carryOutItem_4 rfl (lv_at hl 1 rfl) ?_
  obtain ⟨v1, hv1, hf⟩ := g_s1 hf
  refine g_ki S (g_runV (rest := []) X S (c_X5_what l hN  hv1 _) cvX5_what mlX9_386 (kd_N kd_s191 (by decide) hN) (ceC_5 kd_s191 _) rfl rfl rfl hl.1 (Nat.le_of_ble_eq_true rfl) ⟨⟨rfl, rfl⟩, ⟨Nat.le_of_ble_eq_true rfl, Nat.le_of_ble_eq_true rfl⟩, Nat.le_of_ble_eq_true rfl, Nat.le_of_ble_eq_true rfl⟩ dX9_carryOutItem_5) (fun H locs S => ?_)
  refine lv_if_eq (tgt := 44) hx hb dX9_carryOutItem_8 (by decide) (fun c2 => ?_) (fun c2 => ?_)
  · have hf := (if_pos c2).symm.trans hf
    refine lv_aload_n hx hb dX9_carryOutItem_44 rfl (lv_at hl 0 rfl) ?_
    refine gfX9_55 X S hN kd_s0 dX9_carryOutItem_45 ?_
    obtain ⟨σ3, hσ3, hf⟩ := g_s1 hf
    refine g_kv S (g_runV (rest := []) X S (c_X7_clear l hN kd_s189 hσ3 _) cvX7_clear mlX9_177 (kd_N kd_s189 (by decide) hN) (ceC_7 kd_s189 _) rfl rfl rfl hl.1 (Nat.le_of_ble_eq_true rfl) ⟨⟨rfl, rfl⟩, ⟨Nat.le_of_ble_eq_true rfl, Nat.le_of_ble_eq_true rfl⟩, Nat.le_of_ble_eq_true rfl, Nat.le_of_ble_eq_true rfl⟩ dX9_carryOutItem_48) (fun H locs S => ?_)
    refine lv_aload_n hx hb dX9_carryOutItem_51 rfl (lv_at hl 0 rfl) ?_
    refine gfX9_55 X S hN kd_s0 dX9_carryOutItem_52 ?_
    refine lv_aload_n hx hb dX9_carryOutItem_55 rfl (lv_at hl 0 rfl) ?_
    refine gfX9_51 X S hN kd_s0 dX9_carryOutItem_56 ?_
    refine lv_aload_n hx hb dX9_carryOutItem_59 rfl (lv_at hl 0 rfl) ?_
    refine gfX9_61 X S hN kd_s0 dX9_carryOutItem_60 ?_
    refine lv_iload_n hx hb dX9_carryOutItem_63 rfl (lv_at hl 1 rfl) ?_
    obtain ⟨v4, hv4, hf⟩ := g_s1 hf
    refine g_ki S (g_runV (rest := [.ref (ad 187), .ref (ad 189)]) X S (c_X5_wordsFrom l hN  hv4 _) cvX5_wordsFrom mlX9_394 (kd_N kd_s191 (by decide) hN) (ceC_5 kd_s191 _) rfl rfl rfl hl.1 (Nat.le_of_ble_eq_true rfl) ⟨⟨rfl, rfl⟩, ⟨Nat.le_of_ble_eq_true rfl, Nat.le_of_ble_eq_true rfl⟩, Nat.le_of_ble_eq_true rfl, Nat.le_of_ble_eq_true rfl⟩ dX9_carryOutItem_64) (fun H locs S => ?_)
    refine lv_aload_n hx hb dX9_carryOutItem_67 rfl (lv_at hl 0 rfl) ?_
    refine gfX9_61 X S hN kd_s0 dX9_carryOutItem_68 ?_
    refine lv_iload_n hx hb dX9_carryOutItem_71 rfl (lv_at hl 1 rfl) ?_
    obtain ⟨v5, hv5, hf⟩ := g_s1 hf
    refine g_ki S (g_runV (rest := [.int v4, .ref (ad 187), .ref (ad 189)]) X S (c_X5_wordsTo l hN  hv5 _) cvX5_wordsTo mlX9_397 (kd_N kd_s191 (by decide) hN) (ceC_5 kd_s191 _) rfl rfl rfl hl.1 (Nat.le_of_ble_eq_true rfl) ⟨⟨rfl, rfl⟩, ⟨Nat.le_of_ble_eq_true rfl, Nat.le_of_ble_eq_true rfl⟩, Nat.le_of_ble_eq_true rfl, Nat.le_of_ble_eq_true rfl⟩ dX9_carryOutItem_72) (fun H locs S => ?_)
    obtain ⟨σ6, hσ6, hf⟩ := g_s1 hf
    refine g_kv S (g_runV (rest := []) X S (c_X7_appendPart l hN kd_s189 kd_s187 hσ6 _) cvX7_appendPart mlX9_180 (kd_N kd_s189 (by decide) hN) (ceC_7 kd_s189 _) rfl rfl rfl hl.1 (Nat.le_of_ble_eq_true rfl) ⟨⟨rfl, rfl⟩, ⟨Nat.le_of_ble_eq_true rfl, Nat.le_of_ble_eq_true rfl⟩, Nat.le_of_ble_eq_true rfl, Nat.le_of_ble_eq_true rfl⟩ dX9_carryOutItem_75) (fun H locs S => ?_)
    refine lv_aload_n hx hb dX9_carryOutItem_78 rfl (lv_at hl 0 rfl) ?_
    refine gfX9_10 X S hN kd_s0 dX9_carryOutItem_79 ?_
    refine lv_aload_n hx hb dX9_carryOutItem_82 rfl (lv_at hl 0 rfl) ?_
    refine gfX9_61 X S hN kd_s0 dX9_carryOutItem_83 ?_
    refine lv_iload_n hx hb dX9_carryOutItem_86 rfl (lv_at hl 1 rfl) ?_
    obtain ⟨v7, hv7, hf⟩ := g_s1 hf
    refine g_ki S (g_runV (rest := [.ref (ad 1)]) X S (c_X5_trackOfItem l hN  hv7 _) cvX5_trackOfItem mlX9_400 (kd_N kd_s191 (by decide) hN) (ceC_5 kd_s191 _) rfl rfl rfl hl.1 (Nat.le_of_ble_eq_true rfl) ⟨⟨rfl, rfl⟩, ⟨Nat.le_of_ble_eq_true rfl, Nat.le_of_ble_eq_true rfl⟩, Nat.le_of_ble_eq_true rfl, Nat.le_of_ble_eq_true rfl⟩ dX9_carryOutItem_87) (fun H locs S => ?_)
    refine lv_aload_n hx hb dX9_carryOutItem_90 rfl (lv_at hl 0 rfl) ?_
    refine gfX9_61 X S hN kd_s0 dX9_carryOutItem_91 ?_
    refine lv_iload_n hx hb dX9_carryOutItem_94 rfl (lv_at hl 1 rfl) ?_
    obtain ⟨v8, hv8, hf⟩ := g_s1 hf
    refine g_ki S (g_runV (rest := [.int v7, .ref (ad 1)]) X S (c_X5_first l hN  hv8 _) cvX5_first mlX9_389 (kd_N kd_s191 (by decide) hN) (ceC_5 kd_s191 _) rfl rfl rfl hl.1 (Nat.le_of_ble_eq_true rfl) ⟨⟨rfl, rfl⟩, ⟨Nat.le_of_ble_eq_true rfl, Nat.le_of_ble_eq_true rfl⟩, Nat.le_of_ble_eq_true rfl, Nat.le_of_ble_eq_true rfl⟩ dX9_carryOutItem_95) (fun H locs S => ?_)
    refine lv_aload_n hx hb dX9_carryOutItem_98 rfl (lv_at hl 0 rfl) ?_
    refine gfX9_61 X S hN kd_s0 dX9_carryOutItem_99 ?_
    refine lv_iload_n hx hb dX9_carryOutItem_102 rfl (lv_at hl 1 rfl) ?_
    obtain ⟨v9, hv9, hf⟩ := g_s1 hf
    refine g_ki S (g_runV (rest := [.int v8, .int v7, .ref (ad 1)]) X S (c_X5_end l hN  hv9 _) cvX5_end mlX9_403 (kd_N kd_s191 (by decide) hN) (ceC_5 kd_s191 _) rfl rfl rfl hl.1 (Nat.le_of_ble_eq_true rfl) ⟨⟨rfl, rfl⟩, ⟨Nat.le_of_ble_eq_true rfl, Nat.le_of_ble_eq_true rfl⟩, Nat.le_of_ble_eq_true rfl, Nat.le_of_ble_eq_true rfl⟩ dX9_carryOutItem_103) (fun H locs S => ?_)
    refine lv_aload_n hx hb dX9_carryOutItem_106 rfl (lv_at hl 0 rfl) ?_
    refine gfX9_55 X S hN kd_s0 dX9_carryOutItem_107 ?_
    obtain ⟨v10, hv10, hf⟩ := g_s1 hf
    refine g_ki S (g_runV (rest := []) X S (c_X3_addRefusal l hN kd_s1 kd_s189 hv10 _) cvX3_addRefusal mlX9_189 (kd_N kd_s1 (by decide) hN) (ceC_3 kd_s1 _) rfl rfl rfl hl.1 (Nat.le_of_ble_eq_true rfl) ⟨⟨rfl, rfl⟩, ⟨Nat.le_of_ble_eq_true rfl, Nat.le_of_ble_eq_true rfl⟩, Nat.le_of_ble_eq_true rfl, Nat.le_of_ble_eq_true rfl⟩ dX9_carryOutItem_110) (fun H locs S => ?_)
    refine lv_istore_n (lv' := [(2, .int v10), (0, .ref (ad 0)), (1, .int a0)]) hx hb dX9_carryOutItem_113 rfl hl (by decide) rfl (fun ls hl => ?_)
    refine lv_iload_n hx hb dX9_carryOutItem_114 rfl (lv_at hl 0 rfl) ?_
    obtain ⟨σ11, hr12, hf⟩ := g_s1 hf
    have J13 : ∀ (H : Heap) (locs : List Loc) (ls : Array Slot), gS celC Γ ad N σ11 s H locs → lv_has ls 4 [(2, .int v10)] → W p l e (gR 6 0 0) s m args below meth c H locs 0 0 (gQi celC Γ ad N r σ' below args s) (F0 m 167 ls []) := by
      intro H locs ls S hl
      refine lv_iload_n hx hb dX9_carryOutItem_167 rfl (lv_at hl 0 rfl) ?_
      cases hf
      exact g_reti X S rfl dX9_carryOutItem_168
    replace hf := hr12
    refine lv_if_ne (tgt := 167) hx hb dX9_carryOutItem_115 (by decide) (fun c14 => ?_) (fun c14 => ?_)
    · have hf := (if_neg c14).symm.trans hf
      cases hf
      exact J13 _ _ _ S (lv_sub hl [0] rfl)
    · have hf := (if_pos c14).symm.trans hf
      refine lv_aload_n hx hb dX9_carryOutItem_118 rfl (lv_at hl 1 rfl) ?_
      refine gfX9_10 X S hN kd_s0 dX9_carryOutItem_119 ?_
      refine lv_aload_n hx hb dX9_carryOutItem_122 rfl (lv_at hl 1 rfl) ?_
      refine gfX9_61 X S hN kd_s0 dX9_carryOutItem_123 ?_
      refine lv_iload_n hx hb dX9_carryOutItem_126 rfl (lv_at hl 2 rfl) ?_
      obtain ⟨v15, hv15, hf⟩ := g_s1 hf
      refine g_ki S (g_runV (rest := [.ref (ad 1)]) X S (c_X5_trackOfItem l hN  hv15 _) cvX5_trackOfItem mlX9_400 (kd_N kd_s191 (by decide) hN) (ceC_5 kd_s191 _) rfl rfl rfl hl.1 (Nat.le_of_ble_eq_true rfl) ⟨⟨rfl, rfl⟩, ⟨Nat.le_of_ble_eq_true rfl, Nat.le_of_ble_eq_true rfl⟩, Nat.le_of_ble_eq_true rfl, Nat.le_of_ble_eq_true rfl⟩ dX9_carryOutItem_127) (fun H locs S => ?_)
      obtain ⟨v16, hv16, hf⟩ := g_s1 hf
      refine g_kr S (g_runV (rest := []) X S (c_X3_trackOf l hN kd_s1 hv16 _) cvX3_trackOf mlX9_138 (kd_N kd_s1 (by decide) hN) (ceC_3 kd_s1 _) rfl rfl rfl hl.1 (Nat.le_of_ble_eq_true rfl) ⟨⟨rfl, rfl⟩, ⟨Nat.le_of_ble_eq_true rfl, Nat.le_of_ble_eq_true rfl⟩, Nat.le_of_ble_eq_true rfl, Nat.le_of_ble_eq_true rfl⟩ dX9_carryOutItem_130) (fun H locs S => ?_)
      have hkv16 : gkd v16 = 8 := kr_X3_trackOf kd_s1 hv16
      refine lv_astore_n (lv' := [(3, .ref (ad v16)), (2, .int v10), (0, .ref (ad 0)), (1, .int a0)]) hx hb dX9_carryOutItem_133 rfl hl (by decide) rfl (fun ls hl => ?_)
      refine lv_aload_n hx hb dX9_carryOutItem_134 rfl (lv_at hl 0 rfl) ?_
      refine lv_aload_n hx hb dX9_carryOutItem_135 rfl (lv_at hl 2 rfl) ?_
      refine gfX9_61 X S hN kd_s0 dX9_carryOutItem_136 ?_
      refine lv_iload_n hx hb dX9_carryOutItem_139 rfl (lv_at hl 3 rfl) ?_
      obtain ⟨v17, hv17, hf⟩ := g_s1 hf
      refine g_ki S (g_runV (rest := [.ref (ad v16)]) X S (c_X5_kind l hN  hv17 _) cvX5_kind mlX9_404 (kd_N kd_s191 (by decide) hN) (ceC_5 kd_s191 _) rfl rfl rfl hl.1 (Nat.le_of_ble_eq_true rfl) ⟨⟨rfl, rfl⟩, ⟨Nat.le_of_ble_eq_true rfl, Nat.le_of_ble_eq_true rfl⟩, Nat.le_of_ble_eq_true rfl, Nat.le_of_ble_eq_true rfl⟩ dX9_carryOutItem_140) (fun H locs S => ?_)
      refine lv_aload_n hx hb dX9_carryOutItem_143 rfl (lv_at hl 2 rfl) ?_
      refine gfX9_61 X S hN kd_s0 dX9_carryOutItem_144 ?_
      refine lv_iload_n hx hb dX9_carryOutItem_147 rfl (lv_at hl 3 rfl) ?_
      obtain ⟨v18, hv18, hf⟩ := g_s1 hf
      refine g_ki S (g_runV (rest := [.int v17, .ref (ad v16)]) X S (c_X5_first l hN  hv18 _) cvX5_first mlX9_389 (kd_N kd_s191 (by decide) hN) (ceC_5 kd_s191 _) rfl rfl rfl hl.1 (Nat.le_of_ble_eq_true rfl) ⟨⟨rfl, rfl⟩, ⟨Nat.le_of_ble_eq_true rfl, Nat.le_of_ble_eq_true rfl⟩, Nat.le_of_ble_eq_true rfl, Nat.le_of_ble_eq_true rfl⟩ dX9_carryOutItem_148) (fun H locs S => ?_)
      refine lv_aload_n hx hb dX9_carryOutItem_151 rfl (lv_at hl 2 rfl) ?_
      refine gfX9_61 X S hN kd_s0 dX9_carryOutItem_152 ?_
      refine lv_iload_n hx hb dX9_carryOutItem_155 rfl (lv_at hl 3 rfl) ?_
      obtain ⟨v19, hv19, hf⟩ := g_s1 hf
      refine g_ki S (g_runV (rest := [.int v18, .int v17, .ref (ad v16)]) X S (c_X5_end l hN  hv19 _) cvX5_end mlX9_403 (kd_N kd_s191 (by decide) hN) (ceC_5 kd_s191 _) rfl rfl rfl hl.1 (Nat.le_of_ble_eq_true rfl) ⟨⟨rfl, rfl⟩, ⟨Nat.le_of_ble_eq_true rfl, Nat.le_of_ble_eq_true rfl⟩, Nat.le_of_ble_eq_true rfl, Nat.le_of_ble_eq_true rfl⟩ dX9_carryOutItem_156) (fun H locs S => ?_)
      refine lv_aload_n hx hb dX9_carryOutItem_159 rfl (lv_at hl 2 rfl) ?_
      refine gfX9_55 X S hN kd_s0 dX9_carryOutItem_160 ?_
      obtain ⟨v20, σ21, hv20, hf⟩ := g_s2 hf
      refine g_ki S (g_runV (rest := []) X S (c_X8_insertCaption l hN hkv16 kd_s189 hv20 _) cvX8_insertCaption mlX9_193 (kd_N hkv16 (by decide) hN) (ceC_8 hkv16 _) rfl rfl rfl hl.1 (Nat.le_of_ble_eq_true rfl) ⟨⟨rfl, rfl⟩, ⟨Nat.le_of_ble_eq_true rfl, Nat.le_of_ble_eq_true rfl⟩, Nat.le_of_ble_eq_true rfl, Nat.le_of_ble_eq_true rfl⟩ dX9_carryOutItem_163) (fun H locs S => ?_)
      refine lv_pop hx hb dX9_carryOutItem_166 rfl ?_
      cases hf
      exact J13 _ _ _ S (lv_sub hl [1] rfl)
  · have hf := (if_neg c2).symm.trans hf
    refine lv_aload_n hx hb dX9_carryOutItem_11 rfl (lv_at hl 0 rfl) ?_
    refine gfX9_30 X S hN kd_s0 dX9_carryOutItem_12 ?_
    refine lv_aload_n hx hb dX9_carryOutItem_15 rfl (lv_at hl 0 rfl) ?_
    refine gfX9_61 X S hN kd_s0 dX9_carryOutItem_16 ?_
    refine lv_iload_n hx hb dX9_carryOutItem_19 rfl (lv_at hl 1 rfl) ?_
    obtain ⟨v22, hv22, hf⟩ := g_s1 hf
    refine g_ki S (g_runV (rest := [.ref (ad 20)]) X S (c_X5_first l hN  hv22 _) cvX5_first mlX9_389 (kd_N kd_s191 (by decide) hN) (ceC_5 kd_s191 _) rfl rfl rfl hl.1 (Nat.le_of_ble_eq_true rfl) ⟨⟨rfl, rfl⟩, ⟨Nat.le_of_ble_eq_true rfl, Nat.le_of_ble_eq_true rfl⟩, Nat.le_of_ble_eq_true rfl, Nat.le_of_ble_eq_true rfl⟩ dX9_carryOutItem_20) (fun H locs S => ?_)
    refine lv_aload_n hx hb dX9_carryOutItem_23 rfl (lv_at hl 0 rfl) ?_
    refine gfX9_61 X S hN kd_s0 dX9_carryOutItem_24 ?_
    refine lv_iload_n hx hb dX9_carryOutItem_27 rfl (lv_at hl 1 rfl) ?_
    obtain ⟨v23, hv23, hf⟩ := g_s1 hf
    refine g_ki S (g_runV (rest := [.int v22, .ref (ad 20)]) X S (c_X5_what l hN  hv23 _) cvX5_what mlX9_386 (kd_N kd_s191 (by decide) hN) (ceC_5 kd_s191 _) rfl rfl rfl hl.1 (Nat.le_of_ble_eq_true rfl) ⟨⟨rfl, rfl⟩, ⟨Nat.le_of_ble_eq_true rfl, Nat.le_of_ble_eq_true rfl⟩, Nat.le_of_ble_eq_true rfl, Nat.le_of_ble_eq_true rfl⟩ dX9_carryOutItem_28) (fun H locs S => ?_)
    refine lv_iconst (v := (1 : Int32)) hx hb dX9_carryOutItem_31 (by decide) ?_
    obtain ⟨x24, hr25, hf⟩ := g_s1 hf
    have J26 : ∀ (H : Heap) (locs : List Loc) (ls : Array Slot), gS celC Γ ad N σ s H locs → lv_has ls 4 [] → W p l e (gR 6 0 0) s m args below meth c H locs 0 0 (gQi celC Γ ad N r σ' below args s) (F0 m 40 ls [.int x24, .int v22, .ref (ad 20)]) := by
      intro H locs ls S hl
      obtain ⟨v27, σ28, hv27, hf⟩ := g_s2 hf
      refine g_ki S (g_runV (rest := []) X S (c_X1_carryOutCut l hN  hv27 _) cvX1_carryOutCut mlX9_390 (kd_N kd_s20 (by decide) hN) (ceC_1 kd_s20 _) rfl rfl rfl hl.1 (Nat.le_of_ble_eq_true rfl) ⟨⟨rfl, rfl⟩, ⟨Nat.le_of_ble_eq_true rfl, Nat.le_of_ble_eq_true rfl⟩, Nat.le_of_ble_eq_true rfl, Nat.le_of_ble_eq_true rfl⟩ dX9_carryOutItem_40) (fun H locs S => ?_)
      cases hf
      exact g_reti X S rfl dX9_carryOutItem_43
    replace hf := hr25
    refine lv_icmp_ne (tgt := 39) hx hb dX9_carryOutItem_32 (by decide) (fun c29 => ?_) (fun c29 => ?_)
    · have hf := (if_neg c29).symm.trans hf
      refine lv_iconst (v := (0 : Int32)) hx hb dX9_carryOutItem_39 (by decide) ?_
      cases hf
      exact J26 _ _ _ S (lv_sub hl [] rfl)
    · have hf := (if_pos c29).symm.trans hf
      refine lv_iconst (v := (1 : Int32)) hx hb dX9_carryOutItem_35 (by decide) ?_
      refine lv_goto (tgt := 40) hx hb dX9_carryOutItem_36 (by decide) ?_
      cases hf
      exact J26 _ _ _ S (lv_sub hl [] rfl)

noncomputable def f_X9_carryOutItems_l1 (σ1 : gSt) : Nat → Int32 → gSt → Option (Int32 × gSt)
  | 0, _, _ => none
  | n + 1, i2, σ3 => (if (σ3 191 7) ≤ i2 then (g_k1 (f_X4_commit σ3 ) fun σ5 => some ((1 : Int32), σ5)) else (g_k2 (f_X9_carryOutItem σ3 i2) fun v6 σ7 => (if v6 = 0 then (f_X9_carryOutItems_l1 σ1 n (i2 + 1) σ7) else (g_k1 (f_X4_takeBackInto σ7 1) fun σ9 => (g_k1 (f_X9_keepRefusal σ9 v6 i2) fun σ10 => some ((0 : Int32), σ10))))))
set_option maxRecDepth 100000 in
set_option maxHeartbeats 4000000 in
theorem w_X9_carryOutItems_l1 {l : Launch} {Γ : gG} {ad : Nat → Nat} {N : Nat} {p : Program} {e : Env} {s : State} {m : MethodId} {args : Array Value} {below : List Frame} {meth : Method} {c : Code} (hN : 202 ≤ N) (X : gX celC Γ ad N RX9 cX9_carryOutItems 3 (some .boolean) p s m args meth c) {σ1 : gSt}  : ∀ (n : Nat) (i2 : Int32) (σ3 : gSt) (r : Int32) (σ' : gSt), f_X9_carryOutItems_l1 σ1 n i2 σ3 = some (r, σ') → ∀ (H : Heap) (locs : List Loc) (ls : Array Slot), gS celC Γ ad N σ3 s H locs → lv_has ls 3 [(1, .int i2), (0, .ref (ad 0))] → W p l e (gR 7 0 0) s m args below meth c H locs 0 0 (gQi celC Γ ad N r σ' below args s) (F0 m 13 ls []) := by
  have hx := X.1
  have hb := X.2.1
  intro n
  induction n with
  | zero =>
    intro i2 σ3 r σ' hf
    cases hf
  | succ n ih =>
    intro i2 σ3 r σ' hf H locs ls S hl
    rw [f_X9_carryOutItems_l1] at hf
    refine lv_iload_n hx hb dX9_carryOutItems_13 rfl (lv_at hl 0 rfl) ?_
    refine lv_aload_n hx hb dX9_carryOutItems_14 rfl (lv_at hl 1 rfl) ?_
    refine gfX9_61 X S hN kd_s0 dX9_carryOutItems_15 ?_
    refine gfX9_338 X S hN kd_s191 dX9_carryOutItems_18 ?_
    refine lv_icmp_ge (tgt := 59) hx hb dX9_carryOutItems_21 (by decide) (fun c4 => ?_) (fun c4 => ?_)
    · have hf := (if_pos c4).symm.trans hf
      refine lv_aload_n hx hb dX9_carryOutItems_59 rfl (lv_at hl 1 rfl) ?_
      refine gfX9_37 X S hN kd_s0 dX9_carryOutItems_60 ?_
      obtain ⟨σ5, hσ5, hf⟩ := g_s1 hf
      refine g_kv S (g_runV (rest := []) X S (c_X4_commit l hN  hσ5 _) cvX4_commit mlX9_383 (kd_N kd_s25 (by decide) hN) (ceC_4 kd_s25 _) rfl rfl rfl hl.1 (Nat.le_of_ble_eq_true rfl) ⟨⟨rfl, rfl⟩, ⟨Nat.le_of_ble_eq_true rfl, Nat.le_of_ble_eq_true rfl⟩, Nat.le_of_ble_eq_true rfl, Nat.le_of_ble_eq_true rfl⟩ dX9_carryOutItems_63) (fun H locs S => ?_)
      refine lv_iconst (v := (1 : Int32)) hx hb dX9_carryOutItems_66 (by decide) ?_
      cases hf
      exact g_reti X S (by decide +kernel) dX9_carryOutItems_67
    · have hf := (if_neg c4).symm.trans hf
      refine lv_aload_n hx hb dX9_carryOutItems_24 rfl (lv_at hl 1 rfl) ?_
      refine lv_iload_n hx hb dX9_carryOutItems_25 rfl (lv_at hl 0 rfl) ?_
      obtain ⟨v6, σ7, hv6, hf⟩ := g_s2 hf
      refine g_ki S (g_runV (rest := []) X S (c_X9_carryOutItem l hN  hv6 _) cvX9_carryOutItem mlX9_377 (kd_N kd_s0 (by decide) hN) (ceC_9 kd_s0 _) rfl rfl rfl hl.1 (Nat.le_of_ble_eq_true rfl) ⟨⟨rfl, rfl⟩, ⟨Nat.le_of_ble_eq_true rfl, Nat.le_of_ble_eq_true rfl⟩, Nat.le_of_ble_eq_true rfl, Nat.le_of_ble_eq_true rfl⟩ dX9_carryOutItems_26) (fun H locs S => ?_)
      refine lv_istore_n (lv' := [(2, .int v6), (1, .int i2), (0, .ref (ad 0))]) hx hb dX9_carryOutItems_29 rfl hl (by decide) rfl (fun ls hl => ?_)
      refine lv_iload_n hx hb dX9_carryOutItems_30 rfl (lv_at hl 0 rfl) ?_
      refine lv_if_eq (tgt := 53) hx hb dX9_carryOutItems_31 (by decide) (fun c8 => ?_) (fun c8 => ?_)
      · have hf := (if_pos c8).symm.trans hf
        refine lv_iinc (v := (i2 + 1)) (lv' := [(1, .int (i2 + 1)), (2, .int v6), (0, .ref (ad 0))]) hx hb dX9_carryOutItems_53 hl (k := 1) rfl rfl (by decide) rfl (fun ls hl => ?_)
        refine lv_goto (tgt := 13) hx hb dX9_carryOutItems_56 (by decide) ?_
        exact ih _ _ _ _  hf _ _ _ S (lv_sub hl [0, 2] rfl)
      · have hf := (if_neg c8).symm.trans hf
        refine lv_aload_n hx hb dX9_carryOutItems_34 rfl (lv_at hl 2 rfl) ?_
        refine gfX9_37 X S hN kd_s0 dX9_carryOutItems_35 ?_
        refine lv_aload_n hx hb dX9_carryOutItems_38 rfl (lv_at hl 2 rfl) ?_
        refine gfX9_10 X S hN kd_s0 dX9_carryOutItems_39 ?_
        obtain ⟨σ9, hσ9, hf⟩ := g_s1 hf
        refine g_kv S (g_runV (rest := []) X S (c_X4_takeBackInto l hN kd_s1 hσ9 _) cvX4_takeBackInto mlX9_380 (kd_N kd_s25 (by decide) hN) (ceC_4 kd_s25 _) rfl rfl rfl hl.1 (Nat.le_of_ble_eq_true rfl) ⟨⟨rfl, rfl⟩, ⟨Nat.le_of_ble_eq_true rfl, Nat.le_of_ble_eq_true rfl⟩, Nat.le_of_ble_eq_true rfl, Nat.le_of_ble_eq_true rfl⟩ dX9_carryOutItems_42) (fun H locs S => ?_)
        refine lv_aload_n hx hb dX9_carryOutItems_45 rfl (lv_at hl 2 rfl) ?_
        refine lv_iload_n hx hb dX9_carryOutItems_46 rfl (lv_at hl 0 rfl) ?_
        refine lv_iload_n hx hb dX9_carryOutItems_47 rfl (lv_at hl 1 rfl) ?_
        obtain ⟨σ10, hσ10, hf⟩ := g_s1 hf
        refine g_kv S (g_runV (rest := []) X S (c_X9_keepRefusal l hN  hσ10 _) cvX9_keepRefusal mlX9_369 (kd_N kd_s0 (by decide) hN) (ceC_9 kd_s0 _) rfl rfl rfl hl.1 (Nat.le_of_ble_eq_true rfl) ⟨⟨rfl, rfl⟩, ⟨Nat.le_of_ble_eq_true rfl, Nat.le_of_ble_eq_true rfl⟩, Nat.le_of_ble_eq_true rfl, Nat.le_of_ble_eq_true rfl⟩ dX9_carryOutItems_48) (fun H locs S => ?_)
        refine lv_iconst (v := (0 : Int32)) hx hb dX9_carryOutItems_51 (by decide) ?_
        cases hf
        exact g_reti X S (by decide +kernel) dX9_carryOutItems_52
noncomputable def f_X9_carryOutItems (σ : gSt)  : Option (Int32 × gSt) :=
  (g_k1 (f_X4_prepare σ 1) fun σ1 => (f_X9_carryOutItems_l1 σ1 FU (0 : Int32) σ1))
set_option maxRecDepth 100000 in
set_option maxHeartbeats 4000000 in
theorem c_X9_carryOutItems (l : Launch) {Γ : gG} {ad : Nat → Nat} {N : Nat} (hN : 202 ≤ N) {σ : gSt}   {r : Int32} {σ' : gSt} (hf : f_X9_carryOutItems σ  = some (r, σ')) : gMi l celC Γ ad N yX9_carryOutItems cX9_carryOutItems 3 (some .boolean) (gR 7 0 0) [.ref (ad 0)] σ r σ' := by
  intro sz
  refine gOf (Qc := fun sz => gQci celC Γ ad N r σ' sz) RX9 (by decide) rfl (Nat.le_of_ble_eq_true rfl) (fun p e s m args below meth c H locs ls X S hl => ?_)
  have hl : lv_has ls 3 [(0, .ref (ad 0))] := hl
  have hx := X.1
  have hb := X.2.1
  unfold f_X9_carryOutItems at hf
  refine lv_aload_n hx hb dX9_carryOutItems_0 rfl (lv_at hl 0 rfl) ?_
  refine gfX9_37 X S hN kd_s0 dX9_carryOutItems_1 ?_
  refine lv_aload_n hx hb dX9_carryOutItems_4 rfl (lv_at hl 0 rfl) ?_
  refine gfX9_10 X S hN kd_s0 dX9_carryOutItems_5 ?_
  obtain ⟨σ1, hσ1, hf⟩ := g_s1 hf
  refine g_kv S (g_runV (rest := []) X S (c_X4_prepare l hN kd_s1 hσ1 _) cvX4_prepare mlX9_374 (kd_N kd_s25 (by decide) hN) (ceC_4 kd_s25 _) rfl rfl rfl hl.1 (Nat.le_of_ble_eq_true rfl) ⟨⟨rfl, rfl⟩, ⟨Nat.le_of_ble_eq_true rfl, Nat.le_of_ble_eq_true rfl⟩, Nat.le_of_ble_eq_true rfl, Nat.le_of_ble_eq_true rfl⟩ dX9_carryOutItems_8) (fun H locs S => ?_)
  refine lv_iconst (v := (0 : Int32)) hx hb dX9_carryOutItems_11 (by decide) ?_
  refine lv_istore_n (lv' := [(1, .int (0 : Int32)), (0, .ref (ad 0))]) hx hb dX9_carryOutItems_12 rfl hl (by decide) rfl (fun ls hl => ?_)
  exact w_X9_carryOutItems_l1 hN X  FU _ _ _ _  hf _ _ _ S (lv_sub hl [0, 1] rfl)

theorem ex_1 : gExW 1 75 79 := ⟨gq 351 (by decide +kernel) rfl, gq 75 (by decide +kernel) rfl, by decide +kernel, by decide +kernel, by decide, by decide⟩
theorem ex_2 : gExW 2 333 337 := ⟨gq 451 (by decide +kernel) rfl, gq 76 (by decide +kernel) rfl, by decide +kernel, by decide +kernel, by decide, by decide⟩
theorem ex_3 : gExW 3 110 114 := ⟨gq 550 (by decide +kernel) rfl, gq 78 (by decide +kernel) rfl, by decide +kernel, by decide +kernel, by decide, by decide⟩
theorem ex_4 : gExW 4 124 128 := ⟨gq 575 (by decide +kernel) rfl, gq 81 (by decide +kernel) rfl, by decide +kernel, by decide +kernel, by decide, by decide⟩
theorem st_77 : (RX9, 77, "the length is out of range") ∈ gStr := by decide +kernel
theorem st_100 : (RX9, 100, "what or the number is out of range") ∈ gStr := by decide +kernel
theorem st_112 : (RX9, 112, "no such frame for a cut") ∈ gStr := by decide +kernel
theorem st_126 : (RX9, 126, "there are as many cuts as there can be") ∈ gStr := by decide +kernel
theorem st_159 : (RX9, 159, "what is out of range") ∈ gStr := by decide +kernel
theorem st_167 : (RX9, 167, "no such frame") ∈ gStr := by decide +kernel
theorem st_175 : (RX9, 175, "the input is full") ∈ gStr := by decide +kernel
theorem st_187 : (RX9, 187, "no such kind") ∈ gStr := by decide +kernel
theorem st_212 : (RX9, 212, "no such character") ∈ gStr := by decide +kernel
theorem st_296 : (RX9, 296, "no caption is shown") ∈ gStr := by decide +kernel
theorem st_313 : (RX9, 313, "the track has no captions") ∈ gStr := by decide +kernel
theorem st_331 : (RX9, 331, "the input is no text of items") ∈ gStr := by decide +kernel
theorem st_335 : (RX9, 335, "an item is refused") ∈ gStr := by decide +kernel
theorem st_339 : (RX9, 339, "no fault position was kept") ∈ gStr := by decide +kernel
theorem st_341 : (RX9, 341, "nothing was refused") ∈ gStr := by decide +kernel
theorem st_343 : (RX9, 343, "there is no change to undo") ∈ gStr := by decide +kernel
theorem st_354 : (RX9, 354, "there is no snapshot") ∈ gStr := by decide +kernel
theorem st_362 : (RX9, 362, "no such track") ∈ gStr := by decide +kernel
theorem st_367 : (RX9, 367, "no such caption") ∈ gStr := by decide +kernel
theorem st_372 : (RX9, 372, "the edit is refused") ∈ gStr := by decide +kernel
noncomputable def f_X9_passOrRefuse (σ : gSt) (a0 : Int32) : Option (Nat × gSt) :=
  (if a0 = 0 then some (0, σ) else (g_k1 (f_X9_keepRefusal σ a0 (0 : Int32)) fun σ2 => some (2, σ2)))
set_option maxRecDepth 100000 in
set_option maxHeartbeats 4000000 in
theorem c_X9_passOrRefuse (l : Launch) (hl0 : l.stackTraces = false) {Γ : gG} {ad : Nat → Nat} {N : Nat} (hN : 202 ≤ N) {σ : gSt} {a0 : Int32}  {x : Nat} {σ' : gSt} (hf : f_X9_passOrRefuse σ a0 = some (x, σ')) : gMxv l Γ ad N yX9_passOrRefuse cX9_passOrRefuse 2 none (gR 8 1 6) [.ref (ad 0), .int a0] σ x σ' 1 6 := by
  intro sz
  refine gOfX (Qc := fun sz => gQcxv Γ ad N x σ' sz) (XC := fun sz => gXc Γ ad N x σ' sz) RX9 (by decide) rfl (Nat.le_of_ble_eq_true rfl) (fun p e s m args below meth c H locs ls X hT S hl => ?_)
  have hl : lv_has ls 2 [(0, .ref (ad 0)), (1, .int a0)] := hl
  have hx := X.1
  have hb := X.2.1
  unfold f_X9_passOrRefuse at hf
  refine lv_iload_n hx hb dX9_passOrRefuse_0 rfl (lv_at hl 1 rfl) ?_
  refine lv_if_eq (tgt := 21) hx hb dX9_passOrRefuse_1 (by decide) (fun c1 => ?_) (fun c1 => ?_)
  · have hf := (if_pos c1).symm.trans hf
    cases hf
    exact g_xretv X S dX9_passOrRefuse_21 (by decide) (by decide)
  · have hf := (if_neg c1).symm.trans hf
    refine lv_aload_n hx hb dX9_passOrRefuse_4 rfl (lv_at hl 0 rfl) ?_
    refine lv_iload_n hx hb dX9_passOrRefuse_5 rfl (lv_at hl 1 rfl) ?_
    refine lv_iconst (v := (0 : Int32)) hx hb dX9_passOrRefuse_6 (by decide) ?_
    obtain ⟨σ2, hσ2, hf⟩ := g_s1 hf
    refine g_kv S (g_runV (rest := []) X S (c_X9_keepRefusal l hN  hσ2 _) cvX9_keepRefusal mlX9_369 (kd_N kd_s0 (by decide) hN) (ceC_9 kd_s0 _) rfl rfl rfl hl.1 (Nat.le_of_ble_eq_true rfl) ⟨⟨rfl, rfl⟩, ⟨Nat.le_of_ble_eq_true rfl, Nat.le_of_ble_eq_true rfl⟩, Nat.le_of_ble_eq_true rfl, Nat.le_of_ble_eq_true rfl⟩ dX9_passOrRefuse_7) (fun H locs S => ?_)
    cases hf
    exact g_throwXW hl0 X S hT hl.1 ex_2 st_372 dX9_passOrRefuse_10 dX9_passOrRefuse_13 dX9_passOrRefuse_14 dX9_passOrRefuse_17 dX9_passOrRefuse_20 (by decide) (Nat.le_of_ble_eq_true rfl) (Nat.le_of_ble_eq_true rfl) (Nat.le_of_ble_eq_true rfl) (Nat.le_of_ble_eq_true rfl) (Nat.le_of_ble_eq_true rfl)

noncomputable def f_X9_film (σ : gSt) (a0 : Int32) : Option (Nat × Int32 × gSt) :=
  (if a0 < (100 : Int32) then some (1, 0, σ) else (if a0 ≤ (9999 : Int32) then (g_k1 (f_X3_lengthRefusal σ 1 a0) fun v3 => (g_x2 (f_X9_passOrRefuse σ v3) (fun x s => (x, (0 : Int32), s)) fun σ5 => (g_k1 (f_X4_keep σ5 1) fun σ6 => (g_k1 (gset σ6 1 0 a0) fun σ7 => some (0, (σ6 1 0), σ7))))) else some (1, 0, σ)))
set_option maxRecDepth 100000 in
set_option maxHeartbeats 4000000 in
theorem c_X9_film (l : Launch) (hl0 : l.stackTraces = false) {Γ : gG} {ad : Nat → Nat} {N : Nat} (hN : 202 ≤ N) {σ : gSt} {a0 : Int32}  {x : Nat} {r : Int32} {σ' : gSt} (hf : f_X9_film σ a0 = some (x, r, σ')) : gMxi l Γ ad N yX9_film cX9_film 3 (some .int) (gR 9 1 6) [.ref (ad 0), .int a0] σ x r σ' 1 6 := by
  intro sz
  refine gOfX (Qc := fun sz => gQcxi Γ ad N x r σ' sz) (XC := fun sz => gXc Γ ad N x σ' sz) RX9 (by decide) rfl (Nat.le_of_ble_eq_true rfl) (fun p e s m args below meth c H locs ls X hT S hl => ?_)
  have hl : lv_has ls 3 [(0, .ref (ad 0)), (1, .int a0)] := hl
  have hx := X.1
  have hb := X.2.1
  unfold f_X9_film at hf
  refine lv_iload_n hx hb dX9_film_0 rfl (lv_at hl 1 rfl) ?_
  refine lv_bipush (v := (100 : Int32)) hx hb dX9_film_1 (by decide) ?_
  refine lv_icmp_lt (tgt := 13) hx hb dX9_film_3 (by decide) (fun c1 => ?_) (fun c1 => ?_)
  · have hf := (if_pos c1).symm.trans hf
    cases hf
    exact g_throwX hl0 X S hT hl.1 ex_1 st_77 dX9_film_13 dX9_film_16 dX9_film_17 dX9_film_19 dX9_film_22 (by decide) (Nat.le_of_ble_eq_true rfl) (Nat.le_of_ble_eq_true rfl) (Nat.le_of_ble_eq_true rfl) (Nat.le_of_ble_eq_true rfl) (Nat.le_of_ble_eq_true rfl)
  · have hf := (if_neg c1).symm.trans hf
    refine lv_iload_n hx hb dX9_film_6 rfl (lv_at hl 1 rfl) ?_
    refine lv_sipush (v := (9999 : Int32)) hx hb dX9_film_7 (by decide) ?_
    refine lv_icmp_le (tgt := 23) hx hb dX9_film_10 (by decide) (fun c2 => ?_) (fun c2 => ?_)
    · have hf := (if_pos c2).symm.trans hf
      refine lv_aload_n hx hb dX9_film_23 rfl (lv_at hl 0 rfl) ?_
      refine lv_aload_n hx hb dX9_film_24 rfl (lv_at hl 0 rfl) ?_
      refine gfX9_10 X S hN kd_s0 dX9_film_25 ?_
      refine lv_iload_n hx hb dX9_film_28 rfl (lv_at hl 1 rfl) ?_
      obtain ⟨v3, hv3, hf⟩ := g_s1 hf
      refine g_ki S (g_runV (rest := [.ref (ad 0)]) X S (c_X3_lengthRefusal l hN kd_s1 hv3 _) cvX3_lengthRefusal mlX9_82 (kd_N kd_s1 (by decide) hN) (ceC_3 kd_s1 _) rfl rfl rfl hl.1 (Nat.le_of_ble_eq_true rfl) ⟨⟨rfl, rfl⟩, ⟨Nat.le_of_ble_eq_true rfl, Nat.le_of_ble_eq_true rfl⟩, Nat.le_of_ble_eq_true rfl, Nat.le_of_ble_eq_true rfl⟩ dX9_film_29) (fun H locs S => ?_)
      obtain ⟨x4, σ5, hx4, hf, hfx⟩ := g_sx2 hf
      refine g_kxG S X hT (g_xrunV (rest := []) X S (c_X9_passOrRefuse l hl0 hN  hx4 _) cvX9_passOrRefuse mlX9_86 (kd_N kd_s0 (by decide) hN) (ceC_9 kd_s0 _) rfl rfl rfl hl.1 (Nat.le_of_ble_eq_true rfl) ⟨⟨rfl, rfl⟩, ⟨Nat.le_of_ble_eq_true rfl, Nat.le_of_ble_eq_true rfl⟩, Nat.le_of_ble_eq_true rfl, Nat.le_of_ble_eq_true rfl⟩ dX9_film_32) (fun h0 => by have h9 := hfx h0; cases h9; exact ⟨rfl, rfl⟩) (by decide) (by decide) (fun h0 H locs S => ?_)
      have hf := hf h0
      refine lv_aload_n hx hb dX9_film_35 rfl (lv_at hl 0 rfl) ?_
      refine gfX9_37 X S hN kd_s0 dX9_film_36 ?_
      refine lv_aload_n hx hb dX9_film_39 rfl (lv_at hl 0 rfl) ?_
      refine gfX9_10 X S hN kd_s0 dX9_film_40 ?_
      obtain ⟨σ6, hσ6, hf⟩ := g_s1 hf
      refine g_kv S (g_runV (rest := []) X S (c_X4_keep l hN kd_s1 hσ6 _) cvX4_keep mlX9_90 (kd_N kd_s25 (by decide) hN) (ceC_4 kd_s25 _) rfl rfl rfl hl.1 (Nat.le_of_ble_eq_true rfl) ⟨⟨rfl, rfl⟩, ⟨Nat.le_of_ble_eq_true rfl, Nat.le_of_ble_eq_true rfl⟩, Nat.le_of_ble_eq_true rfl, Nat.le_of_ble_eq_true rfl⟩ dX9_film_43) (fun H locs S => ?_)
      refine lv_aload_n hx hb dX9_film_46 rfl (lv_at hl 0 rfl) ?_
      refine gfX9_10 X S hN kd_s0 dX9_film_47 ?_
      refine gfX9_93 X S hN kd_s1 dX9_film_50 ?_
      refine lv_istore_n (lv' := [(2, .int (σ6 1 0)), (0, .ref (ad 0)), (1, .int a0)]) hx hb dX9_film_53 rfl hl (by decide) rfl (fun ls hl => ?_)
      refine lv_aload_n hx hb dX9_film_54 rfl (lv_at hl 1 rfl) ?_
      refine gfX9_10 X S hN kd_s0 dX9_film_55 ?_
      refine lv_iload_n hx hb dX9_film_58 rfl (lv_at hl 2 rfl) ?_
      obtain ⟨σ7, hσ7, hf⟩ := g_s1 hf
      refine pfX9_93 X S hN kd_s1 hσ7 dX9_film_59 (fun H locs S => ?_)
      refine lv_iload_n hx hb dX9_film_62 rfl (lv_at hl 0 rfl) ?_
      cases hf
      exact g_xreti X S rfl dX9_film_63 (by decide) (by decide)
    · have hf := (if_neg c2).symm.trans hf
      cases hf
      exact g_throwX hl0 X S hT hl.1 ex_1 st_77 dX9_film_13 dX9_film_16 dX9_film_17 dX9_film_19 dX9_film_22 (by decide) (Nat.le_of_ble_eq_true rfl) (Nat.le_of_ble_eq_true rfl) (Nat.le_of_ble_eq_true rfl) (Nat.le_of_ble_eq_true rfl) (Nat.le_of_ble_eq_true rfl)

noncomputable def f_X9_set (σ : gSt) (a0 : Int32) (a1 : Int32) : Option (Nat × Int32 × gSt) :=
  (g_k1 (f_X9_isSettingValue σ a0 a1) fun v1 => (if v1 = 0 then some (1, 0, σ) else (g_k1 (f_X4_keep σ 1) fun σ3 => (g_k2 (f_X3_changeSetting σ3 1 a0 a1) fun v4 σ5 => some (0, v4, σ5)))))
set_option maxRecDepth 100000 in
set_option maxHeartbeats 4000000 in
theorem c_X9_set (l : Launch) (hl0 : l.stackTraces = false) {Γ : gG} {ad : Nat → Nat} {N : Nat} (hN : 202 ≤ N) {σ : gSt} {a0 : Int32} {a1 : Int32}  {x : Nat} {r : Int32} {σ' : gSt} (hf : f_X9_set σ a0 a1 = some (x, r, σ')) : gMxi l Γ ad N yX9_set cX9_set 3 (some .int) (gR 8 1 6) [.ref (ad 0), .int a0, .int a1] σ x r σ' 1 6 := by
  intro sz
  refine gOfX (Qc := fun sz => gQcxi Γ ad N x r σ' sz) (XC := fun sz => gXc Γ ad N x σ' sz) RX9 (by decide) rfl (Nat.le_of_ble_eq_true rfl) (fun p e s m args below meth c H locs ls X hT S hl => ?_)
  have hl : lv_has ls 3 [(0, .ref (ad 0)), (1, .int a0), (2, .int a1)] := hl
  have hx := X.1
  have hb := X.2.1
  unfold f_X9_set at hf
  refine lv_iload_n hx hb dX9_set_0 rfl (lv_at hl 1 rfl) ?_
  refine lv_iload_n hx hb dX9_set_1 rfl (lv_at hl 2 rfl) ?_
  obtain ⟨v1, hv1, hf⟩ := g_s1 hf
  refine g_ki S (g_runS (rest := []) X S (c_X9_isSettingValue l hN  hv1 _) csX9_isSettingValue mlX9_96 rfl rfl hl.1 (Nat.le_of_ble_eq_true rfl) ⟨⟨rfl, rfl⟩, ⟨Nat.le_of_ble_eq_true rfl, Nat.le_of_ble_eq_true rfl⟩, Nat.le_of_ble_eq_true rfl, Nat.le_of_ble_eq_true rfl⟩ dX9_set_2) (fun H locs S => ?_)
  refine lv_if_ne (tgt := 18) hx hb dX9_set_5 (by decide) (fun c2 => ?_) (fun c2 => ?_)
  · have hf := (if_neg c2).symm.trans hf
    refine lv_aload_n hx hb dX9_set_18 rfl (lv_at hl 0 rfl) ?_
    refine gfX9_37 X S hN kd_s0 dX9_set_19 ?_
    refine lv_aload_n hx hb dX9_set_22 rfl (lv_at hl 0 rfl) ?_
    refine gfX9_10 X S hN kd_s0 dX9_set_23 ?_
    obtain ⟨σ3, hσ3, hf⟩ := g_s1 hf
    refine g_kv S (g_runV (rest := []) X S (c_X4_keep l hN kd_s1 hσ3 _) cvX4_keep mlX9_90 (kd_N kd_s25 (by decide) hN) (ceC_4 kd_s25 _) rfl rfl rfl hl.1 (Nat.le_of_ble_eq_true rfl) ⟨⟨rfl, rfl⟩, ⟨Nat.le_of_ble_eq_true rfl, Nat.le_of_ble_eq_true rfl⟩, Nat.le_of_ble_eq_true rfl, Nat.le_of_ble_eq_true rfl⟩ dX9_set_26) (fun H locs S => ?_)
    refine lv_aload_n hx hb dX9_set_29 rfl (lv_at hl 0 rfl) ?_
    refine gfX9_10 X S hN kd_s0 dX9_set_30 ?_
    refine lv_iload_n hx hb dX9_set_33 rfl (lv_at hl 1 rfl) ?_
    refine lv_iload_n hx hb dX9_set_34 rfl (lv_at hl 2 rfl) ?_
    obtain ⟨v4, σ5, hv4, hf⟩ := g_s2 hf
    refine g_ki S (g_runV (rest := []) X S (c_X3_changeSetting l hN kd_s1 hv4 _) cvX3_changeSetting mlX9_102 (kd_N kd_s1 (by decide) hN) (ceC_3 kd_s1 _) rfl rfl rfl hl.1 (Nat.le_of_ble_eq_true rfl) ⟨⟨rfl, rfl⟩, ⟨Nat.le_of_ble_eq_true rfl, Nat.le_of_ble_eq_true rfl⟩, Nat.le_of_ble_eq_true rfl, Nat.le_of_ble_eq_true rfl⟩ dX9_set_35) (fun H locs S => ?_)
    cases hf
    exact g_xreti X S rfl dX9_set_38 (by decide) (by decide)
  · have hf := (if_pos c2).symm.trans hf
    cases hf
    exact g_throwX hl0 X S hT hl.1 ex_1 st_100 dX9_set_8 dX9_set_11 dX9_set_12 dX9_set_14 dX9_set_17 (by decide) (Nat.le_of_ble_eq_true rfl) (Nat.le_of_ble_eq_true rfl) (Nat.le_of_ble_eq_true rfl) (Nat.le_of_ble_eq_true rfl) (Nat.le_of_ble_eq_true rfl)

noncomputable def f_X9_cut_b1 (a0 : Int32) (a1 : Int32) (σ4 : gSt) : Option (Nat × Int32 × gSt) :=
  (g_k1 (f_X4_keep σ4 1) fun σ5 => (g_k1 (if a1 = 0 then (g_k1 (f_X0_takeAway σ5 (1 + 2) a0) fun σ10 => some σ10) else (g_k1 (f_X0_make σ5 (1 + 2) a0) fun σ11 => some σ11)) fun σ6 => some (0, (σ6 (1 + 2) 1), σ6)))
set_option maxRecDepth 100000 in
set_option maxHeartbeats 4000000 in
theorem w_X9_cut_b1 {l : Launch} {Γ : gG} {ad : Nat → Nat} {N : Nat} {p : Program} {e : Env} {s : State} {m : MethodId} {args : Array Value} {below : List Frame} {meth : Method} {c : Code} (hl0 : l.stackTraces = false) (hT : ∀ x ∈ c.exceptionTable.toList, False) (hN : 202 ≤ N) (X : gX celC Γ ad N RX9 cX9_cut 3 (some .int) p s m args meth c) {a0 : Int32} {a1 : Int32} {σ4 : gSt}  {x : Nat} {r : Int32} {σ' : gSt} (hf : f_X9_cut_b1 a0 a1 σ4 = some (x, r, σ')) (H : Heap) (locs : List Loc) (ls : Array Slot) (S : gS celC Γ ad N σ4 s H locs) (hl : lv_has ls 3 [(0, .ref (ad 0)), (1, .int a0), (2, .int a1)]) : W p l e (gR 8 1 6) s m args below meth c H locs 0 0 (gQxi Γ ad N x r σ' 1 6 below args s) (F0 m 49 ls []) := by
  have hx := X.1
  have hb := X.2.1
  unfold f_X9_cut_b1 at hf
  refine lv_aload_n hx hb dX9_cut_49 rfl (lv_at hl 0 rfl) ?_
  refine gfX9_37 X S hN kd_s0 dX9_cut_50 ?_
  refine lv_aload_n hx hb dX9_cut_53 rfl (lv_at hl 0 rfl) ?_
  refine gfX9_10 X S hN kd_s0 dX9_cut_54 ?_
  obtain ⟨σ5, hσ5, hf⟩ := g_s1 hf
  refine g_kv S (g_runV (rest := []) X S (c_X4_keep l hN kd_s1 hσ5 _) cvX4_keep mlX9_90 (kd_N kd_s25 (by decide) hN) (ceC_4 kd_s25 _) rfl rfl rfl hl.1 (Nat.le_of_ble_eq_true rfl) ⟨⟨rfl, rfl⟩, ⟨Nat.le_of_ble_eq_true rfl, Nat.le_of_ble_eq_true rfl⟩, Nat.le_of_ble_eq_true rfl, Nat.le_of_ble_eq_true rfl⟩ dX9_cut_57) (fun H locs S => ?_)
  refine lv_iload_n hx hb dX9_cut_60 rfl (lv_at hl 2 rfl) ?_
  obtain ⟨σ6, hr7, hf⟩ := g_s1 hf
  have J8 : ∀ (H : Heap) (locs : List Loc) (ls : Array Slot), gS celC Γ ad N σ6 s H locs → lv_has ls 3 [(0, .ref (ad 0))] → W p l e (gR 8 1 6) s m args below meth c H locs 0 0 (gQxi Γ ad N x r σ' 1 6 below args s) (F0 m 89 ls []) := by
    intro H locs ls S hl
    refine lv_aload_n hx hb dX9_cut_89 rfl (lv_at hl 0 rfl) ?_
    refine gfX9_10 X S hN kd_s0 dX9_cut_90 ?_
    refine gfX9_115 X S hN kd_s1 dX9_cut_93 ?_
    refine gfX9_135 X S hN (kd_3_2 kd_s1) dX9_cut_96 ?_
    cases hf
    exact g_xreti X S rfl dX9_cut_99 (by decide) (by decide)
  replace hf := hr7
  refine lv_if_eq (tgt := 78) hx hb dX9_cut_61 (by decide) (fun c9 => ?_) (fun c9 => ?_)
  · have hf := (if_pos c9).symm.trans hf
    refine lv_aload_n hx hb dX9_cut_78 rfl (lv_at hl 0 rfl) ?_
    refine gfX9_10 X S hN kd_s0 dX9_cut_79 ?_
    refine gfX9_115 X S hN kd_s1 dX9_cut_82 ?_
    refine lv_iload_n hx hb dX9_cut_85 rfl (lv_at hl 1 rfl) ?_
    obtain ⟨σ10, hσ10, hf⟩ := g_s1 hf
    refine g_kv S (g_runV (rest := []) X S (c_X0_takeAway l hN (kd_3_2 kd_s1) hσ10 _) cvX0_takeAway mlX9_132 (kd_N (kd_3_2 kd_s1) (by decide) hN) (ceC_0 (kd_3_2 kd_s1) _) rfl rfl rfl hl.1 (Nat.le_of_ble_eq_true rfl) ⟨⟨rfl, rfl⟩, ⟨Nat.le_of_ble_eq_true rfl, Nat.le_of_ble_eq_true rfl⟩, Nat.le_of_ble_eq_true rfl, Nat.le_of_ble_eq_true rfl⟩ dX9_cut_86) (fun H locs S => ?_)
    cases hf
    exact J8 _ _ _ S (lv_sub hl [0] rfl)
  · have hf := (if_neg c9).symm.trans hf
    refine lv_aload_n hx hb dX9_cut_64 rfl (lv_at hl 0 rfl) ?_
    refine gfX9_10 X S hN kd_s0 dX9_cut_65 ?_
    refine gfX9_115 X S hN kd_s1 dX9_cut_68 ?_
    refine lv_iload_n hx hb dX9_cut_71 rfl (lv_at hl 1 rfl) ?_
    obtain ⟨σ11, hσ11, hf⟩ := g_s1 hf
    refine g_kv S (g_runV (rest := []) X S (c_X0_make l hN (kd_3_2 kd_s1) hσ11 _) cvX0_make mlX9_129 (kd_N (kd_3_2 kd_s1) (by decide) hN) (ceC_0 (kd_3_2 kd_s1) _) rfl rfl rfl hl.1 (Nat.le_of_ble_eq_true rfl) ⟨⟨rfl, rfl⟩, ⟨Nat.le_of_ble_eq_true rfl, Nat.le_of_ble_eq_true rfl⟩, Nat.le_of_ble_eq_true rfl, Nat.le_of_ble_eq_true rfl⟩ dX9_cut_72) (fun H locs S => ?_)
    refine lv_goto (tgt := 89) hx hb dX9_cut_75 (by decide) ?_
    cases hf
    exact J8 _ _ _ S (lv_sub hl [0] rfl)
noncomputable def f_X9_cut (σ : gSt) (a0 : Int32) (a1 : Int32) : Option (Nat × Int32 × gSt) :=
  (g_k1 (f_X3_canBeCut σ 1 a0) fun v1 => (if v1 = 0 then some (3, 0, σ) else (if a1 = 0 then (f_X9_cut_b1 a0 a1 σ) else (g_k1 (f_X0_lacksRoomFor σ (1 + 2) a0) fun v12 => (if v12 = 0 then (f_X9_cut_b1 a0 a1 σ) else some (4, 0, σ))))))
set_option maxRecDepth 100000 in
set_option maxHeartbeats 4000000 in
theorem c_X9_cut (l : Launch) (hl0 : l.stackTraces = false) {Γ : gG} {ad : Nat → Nat} {N : Nat} (hN : 202 ≤ N) {σ : gSt} {a0 : Int32} {a1 : Int32}  {x : Nat} {r : Int32} {σ' : gSt} (hf : f_X9_cut σ a0 a1 = some (x, r, σ')) : gMxi l Γ ad N yX9_cut cX9_cut 3 (some .int) (gR 8 1 6) [.ref (ad 0), .int a0, .int a1] σ x r σ' 1 6 := by
  intro sz
  refine gOfX (Qc := fun sz => gQcxi Γ ad N x r σ' sz) (XC := fun sz => gXc Γ ad N x σ' sz) RX9 (by decide) rfl (Nat.le_of_ble_eq_true rfl) (fun p e s m args below meth c H locs ls X hT S hl => ?_)
  have hl : lv_has ls 3 [(0, .ref (ad 0)), (1, .int a0), (2, .int a1)] := hl
  have hx := X.1
  have hb := X.2.1
  unfold f_X9_cut at hf
  refine lv_aload_n hx hb dX9_cut_0 rfl (lv_at hl 0 rfl) ?_
  refine gfX9_10 X S hN kd_s0 dX9_cut_1 ?_
  refine lv_iload_n hx hb dX9_cut_4 rfl (lv_at hl 1 rfl) ?_
  obtain ⟨v1, hv1, hf⟩ := g_s1 hf
  refine g_ki S (g_runV (rest := []) X S (c_X3_canBeCut l hN kd_s1 hv1 _) cvX3_canBeCut mlX9_106 (kd_N kd_s1 (by decide) hN) (ceC_3 kd_s1 _) rfl rfl rfl hl.1 (Nat.le_of_ble_eq_true rfl) ⟨⟨rfl, rfl⟩, ⟨Nat.le_of_ble_eq_true rfl, Nat.le_of_ble_eq_true rfl⟩, Nat.le_of_ble_eq_true rfl, Nat.le_of_ble_eq_true rfl⟩ dX9_cut_5) (fun H locs S => ?_)
  refine lv_if_ne (tgt := 21) hx hb dX9_cut_8 (by decide) (fun c2 => ?_) (fun c2 => ?_)
  · have hf := (if_neg c2).symm.trans hf
    refine lv_iload_n hx hb dX9_cut_21 rfl (lv_at hl 2 rfl) ?_
    refine lv_if_eq (tgt := 49) hx hb dX9_cut_22 (by decide) (fun c3 => ?_) (fun c3 => ?_)
    · have hf := (if_pos c3).symm.trans hf
      exact w_X9_cut_b1 hl0 hT hN X  hf _ _ _ S (lv_sub hl [0, 1, 2] rfl)
    · have hf := (if_neg c3).symm.trans hf
      refine lv_aload_n hx hb dX9_cut_25 rfl (lv_at hl 0 rfl) ?_
      refine gfX9_10 X S hN kd_s0 dX9_cut_26 ?_
      refine gfX9_115 X S hN kd_s1 dX9_cut_29 ?_
      refine lv_iload_n hx hb dX9_cut_32 rfl (lv_at hl 1 rfl) ?_
      obtain ⟨v12, hv12, hf⟩ := g_s1 hf
      refine g_ki S (g_runV (rest := []) X S (c_X0_lacksRoomFor l hN (kd_3_2 kd_s1) hv12 _) cvX0_lacksRoomFor mlX9_119 (kd_N (kd_3_2 kd_s1) (by decide) hN) (ceC_0 (kd_3_2 kd_s1) _) rfl rfl rfl hl.1 (Nat.le_of_ble_eq_true rfl) ⟨⟨rfl, rfl⟩, ⟨Nat.le_of_ble_eq_true rfl, Nat.le_of_ble_eq_true rfl⟩, Nat.le_of_ble_eq_true rfl, Nat.le_of_ble_eq_true rfl⟩ dX9_cut_33) (fun H locs S => ?_)
      refine lv_if_eq (tgt := 49) hx hb dX9_cut_36 (by decide) (fun c13 => ?_) (fun c13 => ?_)
      · have hf := (if_pos c13).symm.trans hf
        exact w_X9_cut_b1 hl0 hT hN X  hf _ _ _ S (lv_sub hl [0, 1, 2] rfl)
      · have hf := (if_neg c13).symm.trans hf
        cases hf
        exact g_throwX hl0 X S hT hl.1 ex_4 st_126 dX9_cut_39 dX9_cut_42 dX9_cut_43 dX9_cut_45 dX9_cut_48 (by decide) (Nat.le_of_ble_eq_true rfl) (Nat.le_of_ble_eq_true rfl) (Nat.le_of_ble_eq_true rfl) (Nat.le_of_ble_eq_true rfl) (Nat.le_of_ble_eq_true rfl)
  · have hf := (if_pos c2).symm.trans hf
    cases hf
    exact g_throwX hl0 X S hT hl.1 ex_3 st_112 dX9_cut_11 dX9_cut_14 dX9_cut_15 dX9_cut_17 dX9_cut_20 (by decide) (Nat.le_of_ble_eq_true rfl) (Nat.le_of_ble_eq_true rfl) (Nat.le_of_ble_eq_true rfl) (Nat.le_of_ble_eq_true rfl) (Nat.le_of_ble_eq_true rfl)

noncomputable def f_X9_number (σ : gSt) (a0 : Int32) : Option (Nat × Int32 × gSt) :=
  (if a0 = (6 : Int32) then some (0, (σ 1 0), σ) else (if a0 = (7 : Int32) then some (0, (σ (1 + 2) 1), σ) else (if a0 = (8 : Int32) then (g_k1 (f_X3_trackOf σ 1 (0 : Int32)) fun v4 => some (0, (σ v4 5), σ)) else (if a0 = (9 : Int32) then (g_k1 (f_X3_trackOf σ 1 (1 : Int32)) fun v6 => some (0, (σ v6 5), σ)) else (if a0 = (10 : Int32) then (g_k1 (f_X2_framesOfBoth σ ) fun v8 => some (0, v8, σ)) else (if a0 = (11 : Int32) then (g_k1 (f_X2_captionsWith σ (0 : Int32) (63 : Int32)) fun v10 => (g_k1 (f_X2_captionsWith σ (1 : Int32) (63 : Int32)) fun v11 => some (0, (v10 + v11), σ))) else (if a0 = (12 : Int32) then some (0, (σ 25 1), σ) else (if a0 = (13 : Int32) then some (0, (σ 187 1), σ) else (g_k1 (f_X9_isSetting σ a0) fun v14 => (if v14 = 0 then some (1, 0, σ) else (g_k1 (f_X3_setting σ 1 a0) fun v16 => some (0, v16, σ))))))))))))
set_option maxRecDepth 100000 in
set_option maxHeartbeats 4000000 in
theorem c_X9_number (l : Launch) (hl0 : l.stackTraces = false) {Γ : gG} {ad : Nat → Nat} {N : Nat} (hN : 202 ≤ N) {σ : gSt} {a0 : Int32}  {x : Nat} {r : Int32} {σ' : gSt} (hf : f_X9_number σ a0 = some (x, r, σ')) : gMxi l Γ ad N yX9_number cX9_number 2 (some .int) (gR 8 1 6) [.ref (ad 0), .int a0] σ x r σ' 1 6 := by
  intro sz
  refine gOfX (Qc := fun sz => gQcxi Γ ad N x r σ' sz) (XC := fun sz => gXc Γ ad N x σ' sz) RX9 (by decide) rfl (Nat.le_of_ble_eq_true rfl) (fun p e s m args below meth c H locs ls X hT S hl => ?_)
  have hl : lv_has ls 2 [(0, .ref (ad 0)), (1, .int a0)] := hl
  have hx := X.1
  have hb := X.2.1
  unfold f_X9_number at hf
  refine lv_iload_n hx hb dX9_number_0 rfl (lv_at hl 1 rfl) ?_
  by_cases c1 : a0 = (6 : Int32)
  · have hf := (if_pos c1).symm.trans hf
    refine lv_tableIn (off := 47) (tgt := 48) hx hb dX9_number_1 (by rw [c1]; decide) (by rw [c1]; decide) (by rw [c1]; decide) (by decide) ?_
    refine lv_aload_n hx hb dX9_number_48 rfl (lv_at hl 0 rfl) ?_
    refine gfX9_10 X S hN kd_s0 dX9_number_49 ?_
    refine gfX9_93 X S hN kd_s1 dX9_number_52 ?_
    cases hf
    exact g_xreti X S rfl dX9_number_55 (by decide) (by decide)
  replace hf := (if_neg c1).symm.trans hf
  by_cases c2 : a0 = (7 : Int32)
  · have hf := (if_pos c2).symm.trans hf
    refine lv_tableIn (off := 55) (tgt := 56) hx hb dX9_number_1 (by rw [c2]; decide) (by rw [c2]; decide) (by rw [c2]; decide) (by decide) ?_
    refine lv_aload_n hx hb dX9_number_56 rfl (lv_at hl 0 rfl) ?_
    refine gfX9_10 X S hN kd_s0 dX9_number_57 ?_
    refine gfX9_115 X S hN kd_s1 dX9_number_60 ?_
    refine gfX9_135 X S hN (kd_3_2 kd_s1) dX9_number_63 ?_
    cases hf
    exact g_xreti X S rfl dX9_number_66 (by decide) (by decide)
  replace hf := (if_neg c2).symm.trans hf
  by_cases c3 : a0 = (8 : Int32)
  · have hf := (if_pos c3).symm.trans hf
    refine lv_tableIn (off := 66) (tgt := 67) hx hb dX9_number_1 (by rw [c3]; decide) (by rw [c3]; decide) (by rw [c3]; decide) (by decide) ?_
    refine lv_aload_n hx hb dX9_number_67 rfl (lv_at hl 0 rfl) ?_
    refine gfX9_10 X S hN kd_s0 dX9_number_68 ?_
    refine lv_iconst (v := (0 : Int32)) hx hb dX9_number_71 (by decide) ?_
    obtain ⟨v4, hv4, hf⟩ := g_s1 hf
    refine g_kr S (g_runV (rest := []) X S (c_X3_trackOf l hN kd_s1 hv4 _) cvX3_trackOf mlX9_138 (kd_N kd_s1 (by decide) hN) (ceC_3 kd_s1 _) rfl rfl rfl hl.1 (Nat.le_of_ble_eq_true rfl) ⟨⟨rfl, rfl⟩, ⟨Nat.le_of_ble_eq_true rfl, Nat.le_of_ble_eq_true rfl⟩, Nat.le_of_ble_eq_true rfl, Nat.le_of_ble_eq_true rfl⟩ dX9_number_72) (fun H locs S => ?_)
    have hkv4 : gkd v4 = 8 := kr_X3_trackOf kd_s1 hv4
    refine gfX9_142 X S hN hkv4 dX9_number_75 ?_
    cases hf
    exact g_xreti X S rfl dX9_number_78 (by decide) (by decide)
  replace hf := (if_neg c3).symm.trans hf
  by_cases c5 : a0 = (9 : Int32)
  · have hf := (if_pos c5).symm.trans hf
    refine lv_tableIn (off := 78) (tgt := 79) hx hb dX9_number_1 (by rw [c5]; decide) (by rw [c5]; decide) (by rw [c5]; decide) (by decide) ?_
    refine lv_aload_n hx hb dX9_number_79 rfl (lv_at hl 0 rfl) ?_
    refine gfX9_10 X S hN kd_s0 dX9_number_80 ?_
    refine lv_iconst (v := (1 : Int32)) hx hb dX9_number_83 (by decide) ?_
    obtain ⟨v6, hv6, hf⟩ := g_s1 hf
    refine g_kr S (g_runV (rest := []) X S (c_X3_trackOf l hN kd_s1 hv6 _) cvX3_trackOf mlX9_138 (kd_N kd_s1 (by decide) hN) (ceC_3 kd_s1 _) rfl rfl rfl hl.1 (Nat.le_of_ble_eq_true rfl) ⟨⟨rfl, rfl⟩, ⟨Nat.le_of_ble_eq_true rfl, Nat.le_of_ble_eq_true rfl⟩, Nat.le_of_ble_eq_true rfl, Nat.le_of_ble_eq_true rfl⟩ dX9_number_84) (fun H locs S => ?_)
    have hkv6 : gkd v6 = 8 := kr_X3_trackOf kd_s1 hv6
    refine gfX9_142 X S hN hkv6 dX9_number_87 ?_
    cases hf
    exact g_xreti X S rfl dX9_number_90 (by decide) (by decide)
  replace hf := (if_neg c5).symm.trans hf
  by_cases c7 : a0 = (10 : Int32)
  · have hf := (if_pos c7).symm.trans hf
    refine lv_tableIn (off := 90) (tgt := 91) hx hb dX9_number_1 (by rw [c7]; decide) (by rw [c7]; decide) (by rw [c7]; decide) (by decide) ?_
    refine lv_aload_n hx hb dX9_number_91 rfl (lv_at hl 0 rfl) ?_
    refine gfX9_21 X S hN kd_s0 dX9_number_92 ?_
    obtain ⟨v8, hv8, hf⟩ := g_s1 hf
    refine g_ki S (g_runV (rest := []) X S (c_X2_framesOfBoth l hN  hv8 _) cvX2_framesOfBoth mlX9_145 (kd_N kd_s17 (by decide) hN) (ceC_2 kd_s17 _) rfl rfl rfl hl.1 (Nat.le_of_ble_eq_true rfl) ⟨⟨rfl, rfl⟩, ⟨Nat.le_of_ble_eq_true rfl, Nat.le_of_ble_eq_true rfl⟩, Nat.le_of_ble_eq_true rfl, Nat.le_of_ble_eq_true rfl⟩ dX9_number_95) (fun H locs S => ?_)
    cases hf
    exact g_xreti X S rfl dX9_number_98 (by decide) (by decide)
  replace hf := (if_neg c7).symm.trans hf
  by_cases c9 : a0 = (11 : Int32)
  · have hf := (if_pos c9).symm.trans hf
    refine lv_tableIn (off := 98) (tgt := 99) hx hb dX9_number_1 (by rw [c9]; decide) (by rw [c9]; decide) (by rw [c9]; decide) (by decide) ?_
    refine lv_aload_n hx hb dX9_number_99 rfl (lv_at hl 0 rfl) ?_
    refine gfX9_21 X S hN kd_s0 dX9_number_100 ?_
    refine lv_iconst (v := (0 : Int32)) hx hb dX9_number_103 (by decide) ?_
    refine lv_bipush (v := (63 : Int32)) hx hb dX9_number_104 (by decide) ?_
    obtain ⟨v10, hv10, hf⟩ := g_s1 hf
    refine g_ki S (g_runV (rest := []) X S (c_X2_captionsWith l hN  hv10 _) cvX2_captionsWith mlX9_149 (kd_N kd_s17 (by decide) hN) (ceC_2 kd_s17 _) rfl rfl rfl hl.1 (Nat.le_of_ble_eq_true rfl) ⟨⟨rfl, rfl⟩, ⟨Nat.le_of_ble_eq_true rfl, Nat.le_of_ble_eq_true rfl⟩, Nat.le_of_ble_eq_true rfl, Nat.le_of_ble_eq_true rfl⟩ dX9_number_106) (fun H locs S => ?_)
    refine lv_aload_n hx hb dX9_number_109 rfl (lv_at hl 0 rfl) ?_
    refine gfX9_21 X S hN kd_s0 dX9_number_110 ?_
    refine lv_iconst (v := (1 : Int32)) hx hb dX9_number_113 (by decide) ?_
    refine lv_bipush (v := (63 : Int32)) hx hb dX9_number_114 (by decide) ?_
    obtain ⟨v11, hv11, hf⟩ := g_s1 hf
    refine g_ki S (g_runV (rest := [.int v10]) X S (c_X2_captionsWith l hN  hv11 _) cvX2_captionsWith mlX9_149 (kd_N kd_s17 (by decide) hN) (ceC_2 kd_s17 _) rfl rfl rfl hl.1 (Nat.le_of_ble_eq_true rfl) ⟨⟨rfl, rfl⟩, ⟨Nat.le_of_ble_eq_true rfl, Nat.le_of_ble_eq_true rfl⟩, Nat.le_of_ble_eq_true rfl, Nat.le_of_ble_eq_true rfl⟩ dX9_number_116) (fun H locs S => ?_)
    refine lv_iadd hx hb dX9_number_119 ?_
    cases hf
    exact g_xreti X S rfl dX9_number_120 (by decide) (by decide)
  replace hf := (if_neg c9).symm.trans hf
  by_cases c12 : a0 = (12 : Int32)
  · have hf := (if_pos c12).symm.trans hf
    refine lv_tableIn (off := 120) (tgt := 121) hx hb dX9_number_1 (by rw [c12]; decide) (by rw [c12]; decide) (by rw [c12]; decide) (by decide) ?_
    refine lv_aload_n hx hb dX9_number_121 rfl (lv_at hl 0 rfl) ?_
    refine gfX9_37 X S hN kd_s0 dX9_number_122 ?_
    refine gfX9_152 X S hN kd_s25 dX9_number_125 ?_
    cases hf
    exact g_xreti X S rfl dX9_number_128 (by decide) (by decide)
  replace hf := (if_neg c12).symm.trans hf
  by_cases c13 : a0 = (13 : Int32)
  · have hf := (if_pos c13).symm.trans hf
    refine lv_tableIn (off := 128) (tgt := 129) hx hb dX9_number_1 (by rw [c13]; decide) (by rw [c13]; decide) (by rw [c13]; decide) (by decide) ?_
    refine lv_aload_n hx hb dX9_number_129 rfl (lv_at hl 0 rfl) ?_
    refine gfX9_51 X S hN kd_s0 dX9_number_130 ?_
    refine gfX9_153 X S hN kd_s187 dX9_number_133 ?_
    cases hf
    exact g_xreti X S rfl dX9_number_136 (by decide) (by decide)
  replace hf := (if_neg c13).symm.trans hf
  refine lv_tableOut (tgt := 137) hx hb dX9_number_1 (g_swout0 (x := a0) (lo := 6) (n := 8) (fun j hj => by rcases (show j = 0 ∨ j = 1 ∨ j = 2 ∨ j = 3 ∨ j = 4 ∨ j = 5 ∨ j = 6 ∨ j = 7 by omega) with rfl | rfl | rfl | rfl | rfl | rfl | rfl | rfl <;> (intro h9; first | exact c1 (Int32.toInt_inj.mp (h9.trans (by decide))) | exact c2 (Int32.toInt_inj.mp (h9.trans (by decide))) | exact c3 (Int32.toInt_inj.mp (h9.trans (by decide))) | exact c5 (Int32.toInt_inj.mp (h9.trans (by decide))) | exact c7 (Int32.toInt_inj.mp (h9.trans (by decide))) | exact c9 (Int32.toInt_inj.mp (h9.trans (by decide))) | exact c12 (Int32.toInt_inj.mp (h9.trans (by decide))) | exact c13 (Int32.toInt_inj.mp (h9.trans (by decide)))))) (by decide) ?_
  refine lv_iload_n hx hb dX9_number_137 rfl (lv_at hl 1 rfl) ?_
  obtain ⟨v14, hv14, hf⟩ := g_s1 hf
  refine g_ki S (g_runS (rest := []) X S (c_X9_isSetting l hN  hv14 _) csX9_isSetting mlX9_156 rfl rfl hl.1 (Nat.le_of_ble_eq_true rfl) ⟨⟨rfl, rfl⟩, ⟨Nat.le_of_ble_eq_true rfl, Nat.le_of_ble_eq_true rfl⟩, Nat.le_of_ble_eq_true rfl, Nat.le_of_ble_eq_true rfl⟩ dX9_number_138) (fun H locs S => ?_)
  refine lv_if_ne (tgt := 154) hx hb dX9_number_141 (by decide) (fun c15 => ?_) (fun c15 => ?_)
  · have hf := (if_neg c15).symm.trans hf
    refine lv_aload_n hx hb dX9_number_154 rfl (lv_at hl 0 rfl) ?_
    refine gfX9_10 X S hN kd_s0 dX9_number_155 ?_
    refine lv_iload_n hx hb dX9_number_158 rfl (lv_at hl 1 rfl) ?_
    obtain ⟨v16, hv16, hf⟩ := g_s1 hf
    refine g_ki S (g_runV (rest := []) X S (c_X3_setting l hN kd_s1 hv16 _) cvX3_setting mlX9_161 (kd_N kd_s1 (by decide) hN) (ceC_3 kd_s1 _) rfl rfl rfl hl.1 (Nat.le_of_ble_eq_true rfl) ⟨⟨rfl, rfl⟩, ⟨Nat.le_of_ble_eq_true rfl, Nat.le_of_ble_eq_true rfl⟩, Nat.le_of_ble_eq_true rfl, Nat.le_of_ble_eq_true rfl⟩ dX9_number_159) (fun H locs S => ?_)
    cases hf
    exact g_xreti X S rfl dX9_number_162 (by decide) (by decide)
  · have hf := (if_pos c15).symm.trans hf
    cases hf
    exact g_throwX hl0 X S hT hl.1 ex_1 st_159 dX9_number_144 dX9_number_147 dX9_number_148 dX9_number_150 dX9_number_153 (by decide) (Nat.le_of_ble_eq_true rfl) (Nat.le_of_ble_eq_true rfl) (Nat.le_of_ble_eq_true rfl) (Nat.le_of_ble_eq_true rfl) (Nat.le_of_ble_eq_true rfl)

noncomputable def f_X9_shot (σ : gSt) (a0 : Int32) : Option (Nat × Int32 × gSt) :=
  (g_k1 (f_X3_hasFrame σ 1 a0) fun v1 => (if v1 = 0 then some (3, 0, σ) else (g_k1 (f_X0_upTo σ (1 + 2) a0) fun v3 => some (0, v3, σ))))
set_option maxRecDepth 100000 in
set_option maxHeartbeats 4000000 in
theorem c_X9_shot (l : Launch) (hl0 : l.stackTraces = false) {Γ : gG} {ad : Nat → Nat} {N : Nat} (hN : 202 ≤ N) {σ : gSt} {a0 : Int32}  {x : Nat} {r : Int32} {σ' : gSt} (hf : f_X9_shot σ a0 = some (x, r, σ')) : gMxi l Γ ad N yX9_shot cX9_shot 2 (some .int) (gR 8 1 6) [.ref (ad 0), .int a0] σ x r σ' 1 6 := by
  intro sz
  refine gOfX (Qc := fun sz => gQcxi Γ ad N x r σ' sz) (XC := fun sz => gXc Γ ad N x σ' sz) RX9 (by decide) rfl (Nat.le_of_ble_eq_true rfl) (fun p e s m args below meth c H locs ls X hT S hl => ?_)
  have hl : lv_has ls 2 [(0, .ref (ad 0)), (1, .int a0)] := hl
  have hx := X.1
  have hb := X.2.1
  unfold f_X9_shot at hf
  refine lv_aload_n hx hb dX9_shot_0 rfl (lv_at hl 0 rfl) ?_
  refine gfX9_10 X S hN kd_s0 dX9_shot_1 ?_
  refine lv_iload_n hx hb dX9_shot_4 rfl (lv_at hl 1 rfl) ?_
  obtain ⟨v1, hv1, hf⟩ := g_s1 hf
  refine g_ki S (g_runV (rest := []) X S (c_X3_hasFrame l hN kd_s1 hv1 _) cvX3_hasFrame mlX9_164 (kd_N kd_s1 (by decide) hN) (ceC_3 kd_s1 _) rfl rfl rfl hl.1 (Nat.le_of_ble_eq_true rfl) ⟨⟨rfl, rfl⟩, ⟨Nat.le_of_ble_eq_true rfl, Nat.le_of_ble_eq_true rfl⟩, Nat.le_of_ble_eq_true rfl, Nat.le_of_ble_eq_true rfl⟩ dX9_shot_5) (fun H locs S => ?_)
  refine lv_if_ne (tgt := 21) hx hb dX9_shot_8 (by decide) (fun c2 => ?_) (fun c2 => ?_)
  · have hf := (if_neg c2).symm.trans hf
    refine lv_aload_n hx hb dX9_shot_21 rfl (lv_at hl 0 rfl) ?_
    refine gfX9_10 X S hN kd_s0 dX9_shot_22 ?_
    refine gfX9_115 X S hN kd_s1 dX9_shot_25 ?_
    refine lv_iload_n hx hb dX9_shot_28 rfl (lv_at hl 1 rfl) ?_
    obtain ⟨v3, hv3, hf⟩ := g_s1 hf
    refine g_ki S (g_runV (rest := []) X S (c_X0_upTo l hN (kd_3_2 kd_s1) hv3 _) cvX0_upTo mlX9_169 (kd_N (kd_3_2 kd_s1) (by decide) hN) (ceC_0 (kd_3_2 kd_s1) _) rfl rfl rfl hl.1 (Nat.le_of_ble_eq_true rfl) ⟨⟨rfl, rfl⟩, ⟨Nat.le_of_ble_eq_true rfl, Nat.le_of_ble_eq_true rfl⟩, Nat.le_of_ble_eq_true rfl, Nat.le_of_ble_eq_true rfl⟩ dX9_shot_29) (fun H locs S => ?_)
    cases hf
    exact g_xreti X S rfl dX9_shot_32 (by decide) (by decide)
  · have hf := (if_pos c2).symm.trans hf
    cases hf
    exact g_throwX hl0 X S hT hl.1 ex_3 st_167 dX9_shot_11 dX9_shot_14 dX9_shot_15 dX9_shot_17 dX9_shot_20 (by decide) (Nat.le_of_ble_eq_true rfl) (Nat.le_of_ble_eq_true rfl) (Nat.le_of_ble_eq_true rfl) (Nat.le_of_ble_eq_true rfl) (Nat.le_of_ble_eq_true rfl)

noncomputable def f_X9_feed (σ : gSt) (a0 : Int32) : Option (Nat × Int32 × gSt) :=
  (g_k2 (f_X7_append σ 187 a0) fun v1 σ2 => (if v1 = 0 then some (4, 0, σ2) else some (0, (σ2 187 1), σ2)))
set_option maxRecDepth 100000 in
set_option maxHeartbeats 4000000 in
theorem c_X9_feed (l : Launch) (hl0 : l.stackTraces = false) {Γ : gG} {ad : Nat → Nat} {N : Nat} (hN : 202 ≤ N) {σ : gSt} {a0 : Int32}  {x : Nat} {r : Int32} {σ' : gSt} (hf : f_X9_feed σ a0 = some (x, r, σ')) : gMxi l Γ ad N yX9_feed cX9_feed 2 (some .int) (gR 8 1 6) [.ref (ad 0), .int a0] σ x r σ' 1 6 := by
  intro sz
  refine gOfX (Qc := fun sz => gQcxi Γ ad N x r σ' sz) (XC := fun sz => gXc Γ ad N x σ' sz) RX9 (by decide) rfl (Nat.le_of_ble_eq_true rfl) (fun p e s m args below meth c H locs ls X hT S hl => ?_)
  have hl : lv_has ls 2 [(0, .ref (ad 0)), (1, .int a0)] := hl
  have hx := X.1
  have hb := X.2.1
  unfold f_X9_feed at hf
  refine lv_aload_n hx hb dX9_feed_0 rfl (lv_at hl 0 rfl) ?_
  refine gfX9_51 X S hN kd_s0 dX9_feed_1 ?_
  refine lv_iload_n hx hb dX9_feed_4 rfl (lv_at hl 1 rfl) ?_
  obtain ⟨v1, σ2, hv1, hf⟩ := g_s2 hf
  refine g_ki S (g_runV (rest := []) X S (c_X7_append l hN kd_s187 hv1 _) cvX7_append mlX9_172 (kd_N kd_s187 (by decide) hN) (ceC_7 kd_s187 _) rfl rfl rfl hl.1 (Nat.le_of_ble_eq_true rfl) ⟨⟨rfl, rfl⟩, ⟨Nat.le_of_ble_eq_true rfl, Nat.le_of_ble_eq_true rfl⟩, Nat.le_of_ble_eq_true rfl, Nat.le_of_ble_eq_true rfl⟩ dX9_feed_5) (fun H locs S => ?_)
  refine lv_if_ne (tgt := 21) hx hb dX9_feed_8 (by decide) (fun c3 => ?_) (fun c3 => ?_)
  · have hf := (if_neg c3).symm.trans hf
    refine lv_aload_n hx hb dX9_feed_21 rfl (lv_at hl 0 rfl) ?_
    refine gfX9_51 X S hN kd_s0 dX9_feed_22 ?_
    refine gfX9_153 X S hN kd_s187 dX9_feed_25 ?_
    cases hf
    exact g_xreti X S rfl dX9_feed_28 (by decide) (by decide)
  · have hf := (if_pos c3).symm.trans hf
    cases hf
    exact g_throwX hl0 X S hT hl.1 ex_4 st_175 dX9_feed_11 dX9_feed_14 dX9_feed_15 dX9_feed_17 dX9_feed_20 (by decide) (Nat.le_of_ble_eq_true rfl) (Nat.le_of_ble_eq_true rfl) (Nat.le_of_ble_eq_true rfl) (Nat.le_of_ble_eq_true rfl) (Nat.le_of_ble_eq_true rfl)

noncomputable def f_X9_requireTrack (σ : gSt) (a0 : Int32) : Option (Nat × gSt) :=
  (g_k1 (f_X9_isTrack σ a0) fun v1 => (if v1 = 0 then some (3, σ) else some (0, σ)))
set_option maxRecDepth 100000 in
set_option maxHeartbeats 4000000 in
theorem c_X9_requireTrack (l : Launch) (hl0 : l.stackTraces = false) {Γ : gG} {ad : Nat → Nat} {N : Nat} (hN : 202 ≤ N) {σ : gSt} {a0 : Int32}  {x : Nat} {σ' : gSt} (hf : f_X9_requireTrack σ a0 = some (x, σ')) : gMxv l Γ ad N yX9_requireTrack cX9_requireTrack 2 none (gR 8 1 6) [.ref (ad 0), .int a0] σ x σ' 1 6 := by
  intro sz
  refine gOfX (Qc := fun sz => gQcxv Γ ad N x σ' sz) (XC := fun sz => gXc Γ ad N x σ' sz) RX9 (by decide) rfl (Nat.le_of_ble_eq_true rfl) (fun p e s m args below meth c H locs ls X hT S hl => ?_)
  have hl : lv_has ls 2 [(0, .ref (ad 0)), (1, .int a0)] := hl
  have hx := X.1
  have hb := X.2.1
  unfold f_X9_requireTrack at hf
  refine lv_iload_n hx hb dX9_requireTrack_0 rfl (lv_at hl 1 rfl) ?_
  obtain ⟨v1, hv1, hf⟩ := g_s1 hf
  refine g_ki S (g_runS (rest := []) X S (c_X9_isTrack l hN  hv1 _) csX9_isTrack mlX9_359 rfl rfl hl.1 (Nat.le_of_ble_eq_true rfl) ⟨⟨rfl, rfl⟩, ⟨Nat.le_of_ble_eq_true rfl, Nat.le_of_ble_eq_true rfl⟩, Nat.le_of_ble_eq_true rfl, Nat.le_of_ble_eq_true rfl⟩ dX9_requireTrack_1) (fun H locs S => ?_)
  refine lv_if_ne (tgt := 18) hx hb dX9_requireTrack_4 (by decide) (fun c2 => ?_) (fun c2 => ?_)
  · have hf := (if_neg c2).symm.trans hf
    cases hf
    exact g_xretv X S dX9_requireTrack_18 (by decide) (by decide)
  · have hf := (if_pos c2).symm.trans hf
    cases hf
    exact g_throwXW hl0 X S hT hl.1 ex_3 st_362 dX9_requireTrack_7 dX9_requireTrack_10 dX9_requireTrack_11 dX9_requireTrack_14 dX9_requireTrack_17 (by decide) (Nat.le_of_ble_eq_true rfl) (Nat.le_of_ble_eq_true rfl) (Nat.le_of_ble_eq_true rfl) (Nat.le_of_ble_eq_true rfl) (Nat.le_of_ble_eq_true rfl)

noncomputable def f_X9_add (σ : gSt) (a0 : Int32) (a1 : Int32) (a2 : Int32) (a3 : Int32) : Option (Nat × Int32 × gSt) :=
  (g_k1 (f_X7_clear σ 189) fun σ1 => (g_k1 (f_X7_appendPart σ1 189 187 (0 : Int32) (σ1 187 1)) fun σ2 => (g_k1 (f_X7_clear σ2 187) fun σ3 => (g_x2 (f_X9_requireTrack σ3 a0) (fun x s => (x, (0 : Int32), s)) fun σ5 => (if a1 < 0 then some (1, 0, σ5) else (if a1 ≤ (2 : Int32) then (g_k1 (f_X3_addRefusal σ5 1 a0 a2 a3 189) fun v8 => (g_x2 (f_X9_passOrRefuse σ5 v8) (fun x s => (x, (0 : Int32), s)) fun σ10 => (g_k1 (f_X4_keep σ10 1) fun σ11 => (g_k1 (f_X3_trackOf σ11 1 a0) fun v12 => (g_k2 (f_X8_insertCaption σ11 v12 a1 a2 a3 189) fun v13 σ14 => some (0, v13, σ14)))))) else some (1, 0, σ5)))))))
set_option maxRecDepth 100000 in
set_option maxHeartbeats 4000000 in
theorem c_X9_add (l : Launch) (hl0 : l.stackTraces = false) {Γ : gG} {ad : Nat → Nat} {N : Nat} (hN : 202 ≤ N) {σ : gSt} {a0 : Int32} {a1 : Int32} {a2 : Int32} {a3 : Int32}  {x : Nat} {r : Int32} {σ' : gSt} (hf : f_X9_add σ a0 a1 a2 a3 = some (x, r, σ')) : gMxi l Γ ad N yX9_add cX9_add 5 (some .int) (gR 9 2 12) [.ref (ad 0), .int a0, .int a1, .int a2, .int a3] σ x r σ' 2 12 := by
  intro sz
  refine gOfX (Qc := fun sz => gQcxi Γ ad N x r σ' sz) (XC := fun sz => gXc Γ ad N x σ' sz) RX9 (by decide) rfl (Nat.le_of_ble_eq_true rfl) (fun p e s m args below meth c H locs ls X hT S hl => ?_)
  have hl : lv_has ls 5 [(0, .ref (ad 0)), (1, .int a0), (2, .int a1), (3, .int a2), (4, .int a3)] := hl
  have hx := X.1
  have hb := X.2.1
  unfold f_X9_add at hf
  refine lv_aload_n hx hb dX9_add_0 rfl (lv_at hl 0 rfl) ?_
  refine gfX9_55 X S hN kd_s0 dX9_add_1 ?_
  obtain ⟨σ1, hσ1, hf⟩ := g_s1 hf
  refine g_kv S (g_runV (rest := []) X S (c_X7_clear l hN kd_s189 hσ1 _) cvX7_clear mlX9_177 (kd_N kd_s189 (by decide) hN) (ceC_7 kd_s189 _) rfl rfl rfl hl.1 (Nat.le_of_ble_eq_true rfl) ⟨⟨rfl, rfl⟩, ⟨Nat.le_of_ble_eq_true rfl, Nat.le_of_ble_eq_true rfl⟩, Nat.le_of_ble_eq_true rfl, Nat.le_of_ble_eq_true rfl⟩ dX9_add_4) (fun H locs S => ?_)
  refine lv_aload_n hx hb dX9_add_7 rfl (lv_at hl 0 rfl) ?_
  refine gfX9_55 X S hN kd_s0 dX9_add_8 ?_
  refine lv_aload_n hx hb dX9_add_11 rfl (lv_at hl 0 rfl) ?_
  refine gfX9_51 X S hN kd_s0 dX9_add_12 ?_
  refine lv_iconst (v := (0 : Int32)) hx hb dX9_add_15 (by decide) ?_
  refine lv_aload_n hx hb dX9_add_16 rfl (lv_at hl 0 rfl) ?_
  refine gfX9_51 X S hN kd_s0 dX9_add_17 ?_
  refine gfX9_153 X S hN kd_s187 dX9_add_20 ?_
  obtain ⟨σ2, hσ2, hf⟩ := g_s1 hf
  refine g_kv S (g_runV (rest := []) X S (c_X7_appendPart l hN kd_s189 kd_s187 hσ2 _) cvX7_appendPart mlX9_180 (kd_N kd_s189 (by decide) hN) (ceC_7 kd_s189 _) rfl rfl rfl hl.1 (Nat.le_of_ble_eq_true rfl) ⟨⟨rfl, rfl⟩, ⟨Nat.le_of_ble_eq_true rfl, Nat.le_of_ble_eq_true rfl⟩, Nat.le_of_ble_eq_true rfl, Nat.le_of_ble_eq_true rfl⟩ dX9_add_23) (fun H locs S => ?_)
  refine lv_aload_n hx hb dX9_add_26 rfl (lv_at hl 0 rfl) ?_
  refine gfX9_51 X S hN kd_s0 dX9_add_27 ?_
  obtain ⟨σ3, hσ3, hf⟩ := g_s1 hf
  refine g_kv S (g_runV (rest := []) X S (c_X7_clear l hN kd_s187 hσ3 _) cvX7_clear mlX9_177 (kd_N kd_s187 (by decide) hN) (ceC_7 kd_s187 _) rfl rfl rfl hl.1 (Nat.le_of_ble_eq_true rfl) ⟨⟨rfl, rfl⟩, ⟨Nat.le_of_ble_eq_true rfl, Nat.le_of_ble_eq_true rfl⟩, Nat.le_of_ble_eq_true rfl, Nat.le_of_ble_eq_true rfl⟩ dX9_add_30) (fun H locs S => ?_)
  refine lv_aload_n hx hb dX9_add_33 rfl (lv_at hl 0 rfl) ?_
  refine lv_iload_n hx hb dX9_add_34 rfl (lv_at hl 1 rfl) ?_
  obtain ⟨x4, σ5, hx4, hf, hfx⟩ := g_sx2 hf
  refine g_kxG S X hT (g_xrunV (rest := []) X S (c_X9_requireTrack l hl0 hN  hx4 _) cvX9_requireTrack mlX9_184 (kd_N kd_s0 (by decide) hN) (ceC_9 kd_s0 _) rfl rfl rfl hl.1 (Nat.le_of_ble_eq_true rfl) ⟨⟨rfl, rfl⟩, ⟨Nat.le_of_ble_eq_true rfl, Nat.le_of_ble_eq_true rfl⟩, Nat.le_of_ble_eq_true rfl, Nat.le_of_ble_eq_true rfl⟩ dX9_add_35) (fun h0 => by have h9 := hfx h0; cases h9; exact ⟨rfl, rfl⟩) (by decide) (by decide) (fun h0 H locs S => ?_)
  have hf := hf h0
  refine lv_iload_n hx hb dX9_add_38 rfl (lv_at hl 2 rfl) ?_
  refine lv_if_lt (tgt := 47) hx hb dX9_add_39 (by decide) (fun c6 => ?_) (fun c6 => ?_)
  · have hf := (if_pos c6).symm.trans hf
    cases hf
    exact g_throwX hl0 X S hT hl.1 ex_1 st_187 dX9_add_47 dX9_add_50 dX9_add_51 dX9_add_53 dX9_add_56 (by decide) (Nat.le_of_ble_eq_true rfl) (Nat.le_of_ble_eq_true rfl) (Nat.le_of_ble_eq_true rfl) (Nat.le_of_ble_eq_true rfl) (Nat.le_of_ble_eq_true rfl)
  · have hf := (if_neg c6).symm.trans hf
    refine lv_iload_n hx hb dX9_add_42 rfl (lv_at hl 2 rfl) ?_
    refine lv_iconst (v := (2 : Int32)) hx hb dX9_add_43 (by decide) ?_
    refine lv_icmp_le (tgt := 57) hx hb dX9_add_44 (by decide) (fun c7 => ?_) (fun c7 => ?_)
    · have hf := (if_pos c7).symm.trans hf
      refine lv_aload_n hx hb dX9_add_57 rfl (lv_at hl 0 rfl) ?_
      refine lv_aload_n hx hb dX9_add_58 rfl (lv_at hl 0 rfl) ?_
      refine gfX9_10 X S hN kd_s0 dX9_add_59 ?_
      refine lv_iload_n hx hb dX9_add_62 rfl (lv_at hl 1 rfl) ?_
      refine lv_iload_n hx hb dX9_add_63 rfl (lv_at hl 3 rfl) ?_
      refine lv_iload hx hb dX9_add_64 (lv_at hl 4 rfl) ?_
      refine lv_aload_n hx hb dX9_add_66 rfl (lv_at hl 0 rfl) ?_
      refine gfX9_55 X S hN kd_s0 dX9_add_67 ?_
      obtain ⟨v8, hv8, hf⟩ := g_s1 hf
      refine g_ki S (g_runV (rest := [.ref (ad 0)]) X S (c_X3_addRefusal l hN kd_s1 kd_s189 hv8 _) cvX3_addRefusal mlX9_189 (kd_N kd_s1 (by decide) hN) (ceC_3 kd_s1 _) rfl rfl rfl hl.1 (Nat.le_of_ble_eq_true rfl) ⟨⟨rfl, rfl⟩, ⟨Nat.le_of_ble_eq_true rfl, Nat.le_of_ble_eq_true rfl⟩, Nat.le_of_ble_eq_true rfl, Nat.le_of_ble_eq_true rfl⟩ dX9_add_70) (fun H locs S => ?_)
      obtain ⟨x9, σ10, hx9, hf, hfx⟩ := g_sx2 hf
      refine g_kxG S X hT (g_xrunV (rest := []) X S (c_X9_passOrRefuse l hl0 hN  hx9 _) cvX9_passOrRefuse mlX9_86 (kd_N kd_s0 (by decide) hN) (ceC_9 kd_s0 _) rfl rfl rfl hl.1 (Nat.le_of_ble_eq_true rfl) ⟨⟨rfl, rfl⟩, ⟨Nat.le_of_ble_eq_true rfl, Nat.le_of_ble_eq_true rfl⟩, Nat.le_of_ble_eq_true rfl, Nat.le_of_ble_eq_true rfl⟩ dX9_add_73) (fun h0 => by have h9 := hfx h0; cases h9; exact ⟨rfl, rfl⟩) (by decide) (by decide) (fun h0 H locs S => ?_)
      have hf := hf h0
      refine lv_aload_n hx hb dX9_add_76 rfl (lv_at hl 0 rfl) ?_
      refine gfX9_37 X S hN kd_s0 dX9_add_77 ?_
      refine lv_aload_n hx hb dX9_add_80 rfl (lv_at hl 0 rfl) ?_
      refine gfX9_10 X S hN kd_s0 dX9_add_81 ?_
      obtain ⟨σ11, hσ11, hf⟩ := g_s1 hf
      refine g_kv S (g_runV (rest := []) X S (c_X4_keep l hN kd_s1 hσ11 _) cvX4_keep mlX9_90 (kd_N kd_s25 (by decide) hN) (ceC_4 kd_s25 _) rfl rfl rfl hl.1 (Nat.le_of_ble_eq_true rfl) ⟨⟨rfl, rfl⟩, ⟨Nat.le_of_ble_eq_true rfl, Nat.le_of_ble_eq_true rfl⟩, Nat.le_of_ble_eq_true rfl, Nat.le_of_ble_eq_true rfl⟩ dX9_add_84) (fun H locs S => ?_)
      refine lv_aload_n hx hb dX9_add_87 rfl (lv_at hl 0 rfl) ?_
      refine gfX9_10 X S hN kd_s0 dX9_add_88 ?_
      refine lv_iload_n hx hb dX9_add_91 rfl (lv_at hl 1 rfl) ?_
      obtain ⟨v12, hv12, hf⟩ := g_s1 hf
      refine g_kr S (g_runV (rest := []) X S (c_X3_trackOf l hN kd_s1 hv12 _) cvX3_trackOf mlX9_138 (kd_N kd_s1 (by decide) hN) (ceC_3 kd_s1 _) rfl rfl rfl hl.1 (Nat.le_of_ble_eq_true rfl) ⟨⟨rfl, rfl⟩, ⟨Nat.le_of_ble_eq_true rfl, Nat.le_of_ble_eq_true rfl⟩, Nat.le_of_ble_eq_true rfl, Nat.le_of_ble_eq_true rfl⟩ dX9_add_92) (fun H locs S => ?_)
      have hkv12 : gkd v12 = 8 := kr_X3_trackOf kd_s1 hv12
      refine lv_iload_n hx hb dX9_add_95 rfl (lv_at hl 2 rfl) ?_
      refine lv_iload_n hx hb dX9_add_96 rfl (lv_at hl 3 rfl) ?_
      refine lv_iload hx hb dX9_add_97 (lv_at hl 4 rfl) ?_
      refine lv_aload_n hx hb dX9_add_99 rfl (lv_at hl 0 rfl) ?_
      refine gfX9_55 X S hN kd_s0 dX9_add_100 ?_
      obtain ⟨v13, σ14, hv13, hf⟩ := g_s2 hf
      refine g_ki S (g_runV (rest := []) X S (c_X8_insertCaption l hN hkv12 kd_s189 hv13 _) cvX8_insertCaption mlX9_193 (kd_N hkv12 (by decide) hN) (ceC_8 hkv12 _) rfl rfl rfl hl.1 (Nat.le_of_ble_eq_true rfl) ⟨⟨rfl, rfl⟩, ⟨Nat.le_of_ble_eq_true rfl, Nat.le_of_ble_eq_true rfl⟩, Nat.le_of_ble_eq_true rfl, Nat.le_of_ble_eq_true rfl⟩ dX9_add_103) (fun H locs S => ?_)
      cases hf
      exact g_xreti X S rfl dX9_add_106 (by decide) (by decide)
    · have hf := (if_neg c7).symm.trans hf
      cases hf
      exact g_throwX hl0 X S hT hl.1 ex_1 st_187 dX9_add_47 dX9_add_50 dX9_add_51 dX9_add_53 dX9_add_56 (by decide) (Nat.le_of_ble_eq_true rfl) (Nat.le_of_ble_eq_true rfl) (Nat.le_of_ble_eq_true rfl) (Nat.le_of_ble_eq_true rfl) (Nat.le_of_ble_eq_true rfl)

noncomputable def f_X9_requireCaption (σ : gSt) (a0 : Int32) (a1 : Int32) : Option (Nat × gSt) :=
  (g_x2 (f_X9_requireTrack σ a0) (fun x s => (x, s)) fun σ2 => (g_k1 (f_X3_trackOf σ2 1 a0) fun v3 => (g_k1 (f_X8_has σ2 v3 a1) fun v4 => (if v4 = 0 then some (3, σ2) else some (0, σ2)))))
set_option maxRecDepth 100000 in
set_option maxHeartbeats 4000000 in
theorem c_X9_requireCaption (l : Launch) (hl0 : l.stackTraces = false) {Γ : gG} {ad : Nat → Nat} {N : Nat} (hN : 202 ≤ N) {σ : gSt} {a0 : Int32} {a1 : Int32}  {x : Nat} {σ' : gSt} (hf : f_X9_requireCaption σ a0 a1 = some (x, σ')) : gMxv l Γ ad N yX9_requireCaption cX9_requireCaption 3 none (gR 9 2 12) [.ref (ad 0), .int a0, .int a1] σ x σ' 2 12 := by
  intro sz
  refine gOfX (Qc := fun sz => gQcxv Γ ad N x σ' sz) (XC := fun sz => gXc Γ ad N x σ' sz) RX9 (by decide) rfl (Nat.le_of_ble_eq_true rfl) (fun p e s m args below meth c H locs ls X hT S hl => ?_)
  have hl : lv_has ls 3 [(0, .ref (ad 0)), (1, .int a0), (2, .int a1)] := hl
  have hx := X.1
  have hb := X.2.1
  unfold f_X9_requireCaption at hf
  refine lv_aload_n hx hb dX9_requireCaption_0 rfl (lv_at hl 0 rfl) ?_
  refine lv_iload_n hx hb dX9_requireCaption_1 rfl (lv_at hl 1 rfl) ?_
  obtain ⟨x1, σ2, hx1, hf, hfx⟩ := g_sx2 hf
  refine g_kxG S X hT (g_xrunV (rest := []) X S (c_X9_requireTrack l hl0 hN  hx1 _) cvX9_requireTrack mlX9_184 (kd_N kd_s0 (by decide) hN) (ceC_9 kd_s0 _) rfl rfl rfl hl.1 (Nat.le_of_ble_eq_true rfl) ⟨⟨rfl, rfl⟩, ⟨Nat.le_of_ble_eq_true rfl, Nat.le_of_ble_eq_true rfl⟩, Nat.le_of_ble_eq_true rfl, Nat.le_of_ble_eq_true rfl⟩ dX9_requireCaption_2) (fun h0 => by have h9 := hfx h0; cases h9; exact ⟨rfl, rfl⟩) (by decide) (by decide) (fun h0 H locs S => ?_)
  have hf := hf h0
  refine lv_aload_n hx hb dX9_requireCaption_5 rfl (lv_at hl 0 rfl) ?_
  refine gfX9_10 X S hN kd_s0 dX9_requireCaption_6 ?_
  refine lv_iload_n hx hb dX9_requireCaption_9 rfl (lv_at hl 1 rfl) ?_
  obtain ⟨v3, hv3, hf⟩ := g_s1 hf
  refine g_kr S (g_runV (rest := []) X S (c_X3_trackOf l hN kd_s1 hv3 _) cvX3_trackOf mlX9_138 (kd_N kd_s1 (by decide) hN) (ceC_3 kd_s1 _) rfl rfl rfl hl.1 (Nat.le_of_ble_eq_true rfl) ⟨⟨rfl, rfl⟩, ⟨Nat.le_of_ble_eq_true rfl, Nat.le_of_ble_eq_true rfl⟩, Nat.le_of_ble_eq_true rfl, Nat.le_of_ble_eq_true rfl⟩ dX9_requireCaption_10) (fun H locs S => ?_)
  have hkv3 : gkd v3 = 8 := kr_X3_trackOf kd_s1 hv3
  refine lv_iload_n hx hb dX9_requireCaption_13 rfl (lv_at hl 2 rfl) ?_
  obtain ⟨v4, hv4, hf⟩ := g_s1 hf
  refine g_ki S (g_runV (rest := []) X S (c_X8_has l hN hkv3 hv4 _) cvX8_has mlX9_364 (kd_N hkv3 (by decide) hN) (ceC_8 hkv3 _) rfl rfl rfl hl.1 (Nat.le_of_ble_eq_true rfl) ⟨⟨rfl, rfl⟩, ⟨Nat.le_of_ble_eq_true rfl, Nat.le_of_ble_eq_true rfl⟩, Nat.le_of_ble_eq_true rfl, Nat.le_of_ble_eq_true rfl⟩ dX9_requireCaption_14) (fun H locs S => ?_)
  refine lv_if_ne (tgt := 31) hx hb dX9_requireCaption_17 (by decide) (fun c5 => ?_) (fun c5 => ?_)
  · have hf := (if_neg c5).symm.trans hf
    cases hf
    exact g_xretv X S dX9_requireCaption_31 (by decide) (by decide)
  · have hf := (if_pos c5).symm.trans hf
    cases hf
    exact g_throwXW hl0 X S hT hl.1 ex_3 st_367 dX9_requireCaption_20 dX9_requireCaption_23 dX9_requireCaption_24 dX9_requireCaption_27 dX9_requireCaption_30 (by decide) (Nat.le_of_ble_eq_true rfl) (Nat.le_of_ble_eq_true rfl) (Nat.le_of_ble_eq_true rfl) (Nat.le_of_ble_eq_true rfl) (Nat.le_of_ble_eq_true rfl)

noncomputable def f_X9_remove (σ : gSt) (a0 : Int32) (a1 : Int32) : Option (Nat × Int32 × gSt) :=
  (g_x2 (f_X9_requireCaption σ a0 a1) (fun x s => (x, (0 : Int32), s)) fun σ2 => (g_k1 (f_X4_keep σ2 1) fun σ3 => (g_k1 (f_X3_trackOf σ3 1 a0) fun v4 => (g_k1 (f_X8_closeRow σ3 v4 a1) fun σ5 => some (0, (σ5 v4 5), σ5)))))
set_option maxRecDepth 100000 in
set_option maxHeartbeats 4000000 in
theorem c_X9_remove (l : Launch) (hl0 : l.stackTraces = false) {Γ : gG} {ad : Nat → Nat} {N : Nat} (hN : 202 ≤ N) {σ : gSt} {a0 : Int32} {a1 : Int32}  {x : Nat} {r : Int32} {σ' : gSt} (hf : f_X9_remove σ a0 a1 = some (x, r, σ')) : gMxi l Γ ad N yX9_remove cX9_remove 4 (some .int) (gR 10 2 12) [.ref (ad 0), .int a0, .int a1] σ x r σ' 2 12 := by
  intro sz
  refine gOfX (Qc := fun sz => gQcxi Γ ad N x r σ' sz) (XC := fun sz => gXc Γ ad N x σ' sz) RX9 (by decide) rfl (Nat.le_of_ble_eq_true rfl) (fun p e s m args below meth c H locs ls X hT S hl => ?_)
  have hl : lv_has ls 4 [(0, .ref (ad 0)), (1, .int a0), (2, .int a1)] := hl
  have hx := X.1
  have hb := X.2.1
  unfold f_X9_remove at hf
  refine lv_aload_n hx hb dX9_remove_0 rfl (lv_at hl 0 rfl) ?_
  refine lv_iload_n hx hb dX9_remove_1 rfl (lv_at hl 1 rfl) ?_
  refine lv_iload_n hx hb dX9_remove_2 rfl (lv_at hl 2 rfl) ?_
  obtain ⟨x1, σ2, hx1, hf, hfx⟩ := g_sx2 hf
  refine g_kxG S X hT (g_xrunV (rest := []) X S (c_X9_requireCaption l hl0 hN  hx1 _) cvX9_requireCaption mlX9_196 (kd_N kd_s0 (by decide) hN) (ceC_9 kd_s0 _) rfl rfl rfl hl.1 (Nat.le_of_ble_eq_true rfl) ⟨⟨rfl, rfl⟩, ⟨Nat.le_of_ble_eq_true rfl, Nat.le_of_ble_eq_true rfl⟩, Nat.le_of_ble_eq_true rfl, Nat.le_of_ble_eq_true rfl⟩ dX9_remove_3) (fun h0 => by have h9 := hfx h0; cases h9; exact ⟨rfl, rfl⟩) (by decide) (by decide) (fun h0 H locs S => ?_)
  have hf := hf h0
  refine lv_aload_n hx hb dX9_remove_6 rfl (lv_at hl 0 rfl) ?_
  refine gfX9_37 X S hN kd_s0 dX9_remove_7 ?_
  refine lv_aload_n hx hb dX9_remove_10 rfl (lv_at hl 0 rfl) ?_
  refine gfX9_10 X S hN kd_s0 dX9_remove_11 ?_
  obtain ⟨σ3, hσ3, hf⟩ := g_s1 hf
  refine g_kv S (g_runV (rest := []) X S (c_X4_keep l hN kd_s1 hσ3 _) cvX4_keep mlX9_90 (kd_N kd_s25 (by decide) hN) (ceC_4 kd_s25 _) rfl rfl rfl hl.1 (Nat.le_of_ble_eq_true rfl) ⟨⟨rfl, rfl⟩, ⟨Nat.le_of_ble_eq_true rfl, Nat.le_of_ble_eq_true rfl⟩, Nat.le_of_ble_eq_true rfl, Nat.le_of_ble_eq_true rfl⟩ dX9_remove_14) (fun H locs S => ?_)
  refine lv_aload_n hx hb dX9_remove_17 rfl (lv_at hl 0 rfl) ?_
  refine gfX9_10 X S hN kd_s0 dX9_remove_18 ?_
  refine lv_iload_n hx hb dX9_remove_21 rfl (lv_at hl 1 rfl) ?_
  obtain ⟨v4, hv4, hf⟩ := g_s1 hf
  refine g_kr S (g_runV (rest := []) X S (c_X3_trackOf l hN kd_s1 hv4 _) cvX3_trackOf mlX9_138 (kd_N kd_s1 (by decide) hN) (ceC_3 kd_s1 _) rfl rfl rfl hl.1 (Nat.le_of_ble_eq_true rfl) ⟨⟨rfl, rfl⟩, ⟨Nat.le_of_ble_eq_true rfl, Nat.le_of_ble_eq_true rfl⟩, Nat.le_of_ble_eq_true rfl, Nat.le_of_ble_eq_true rfl⟩ dX9_remove_22) (fun H locs S => ?_)
  have hkv4 : gkd v4 = 8 := kr_X3_trackOf kd_s1 hv4
  refine lv_astore_n (lv' := [(3, .ref (ad v4)), (0, .ref (ad 0)), (1, .int a0), (2, .int a1)]) hx hb dX9_remove_25 rfl hl (by decide) rfl (fun ls hl => ?_)
  refine lv_aload_n hx hb dX9_remove_26 rfl (lv_at hl 0 rfl) ?_
  refine lv_iload_n hx hb dX9_remove_27 rfl (lv_at hl 3 rfl) ?_
  obtain ⟨σ5, hσ5, hf⟩ := g_s1 hf
  refine g_kv S (g_runV (rest := []) X S (c_X8_closeRow l hN hkv4 hσ5 _) cvX8_closeRow mlX9_200 (kd_N hkv4 (by decide) hN) (ceC_8 hkv4 _) rfl rfl rfl hl.1 (Nat.le_of_ble_eq_true rfl) ⟨⟨rfl, rfl⟩, ⟨Nat.le_of_ble_eq_true rfl, Nat.le_of_ble_eq_true rfl⟩, Nat.le_of_ble_eq_true rfl, Nat.le_of_ble_eq_true rfl⟩ dX9_remove_28) (fun H locs S => ?_)
  refine lv_aload_n hx hb dX9_remove_31 rfl (lv_at hl 0 rfl) ?_
  refine gfX9_142 X S hN hkv4 dX9_remove_32 ?_
  cases hf
  exact g_xreti X S rfl dX9_remove_35 (by decide) (by decide)

noncomputable def f_X9_move (σ : gSt) (a0 : Int32) (a1 : Int32) (a2 : Int32) (a3 : Int32) : Option (Nat × Int32 × gSt) :=
  (g_x2 (f_X9_requireCaption σ a0 a1) (fun x s => (x, (0 : Int32), s)) fun σ2 => (g_k1 (f_X3_placeRefusal σ2 1 a0 a1 a2 a3) fun v3 => (g_x2 (f_X9_passOrRefuse σ2 v3) (fun x s => (x, (0 : Int32), s)) fun σ5 => (g_k1 (f_X4_keep σ5 1) fun σ6 => (g_k2 (f_X1_placeCaption σ6 a0 a1 a2 a3) fun v7 σ8 => some (0, v7, σ8))))))
set_option maxRecDepth 100000 in
set_option maxHeartbeats 4000000 in
theorem c_X9_move (l : Launch) (hl0 : l.stackTraces = false) {Γ : gG} {ad : Nat → Nat} {N : Nat} (hN : 202 ≤ N) {σ : gSt} {a0 : Int32} {a1 : Int32} {a2 : Int32} {a3 : Int32}  {x : Nat} {r : Int32} {σ' : gSt} (hf : f_X9_move σ a0 a1 a2 a3 = some (x, r, σ')) : gMxi l Γ ad N yX9_move cX9_move 5 (some .int) (gR 10 3 18) [.ref (ad 0), .int a0, .int a1, .int a2, .int a3] σ x r σ' 3 18 := by
  intro sz
  refine gOfX (Qc := fun sz => gQcxi Γ ad N x r σ' sz) (XC := fun sz => gXc Γ ad N x σ' sz) RX9 (by decide) rfl (Nat.le_of_ble_eq_true rfl) (fun p e s m args below meth c H locs ls X hT S hl => ?_)
  have hl : lv_has ls 5 [(0, .ref (ad 0)), (1, .int a0), (2, .int a1), (3, .int a2), (4, .int a3)] := hl
  have hx := X.1
  have hb := X.2.1
  unfold f_X9_move at hf
  refine lv_aload_n hx hb dX9_move_0 rfl (lv_at hl 0 rfl) ?_
  refine lv_iload_n hx hb dX9_move_1 rfl (lv_at hl 1 rfl) ?_
  refine lv_iload_n hx hb dX9_move_2 rfl (lv_at hl 2 rfl) ?_
  obtain ⟨x1, σ2, hx1, hf, hfx⟩ := g_sx2 hf
  refine g_kxG S X hT (g_xrunV (rest := []) X S (c_X9_requireCaption l hl0 hN  hx1 _) cvX9_requireCaption mlX9_196 (kd_N kd_s0 (by decide) hN) (ceC_9 kd_s0 _) rfl rfl rfl hl.1 (Nat.le_of_ble_eq_true rfl) ⟨⟨rfl, rfl⟩, ⟨Nat.le_of_ble_eq_true rfl, Nat.le_of_ble_eq_true rfl⟩, Nat.le_of_ble_eq_true rfl, Nat.le_of_ble_eq_true rfl⟩ dX9_move_3) (fun h0 => by have h9 := hfx h0; cases h9; exact ⟨rfl, rfl⟩) (by decide) (by decide) (fun h0 H locs S => ?_)
  have hf := hf h0
  refine lv_aload_n hx hb dX9_move_6 rfl (lv_at hl 0 rfl) ?_
  refine lv_aload_n hx hb dX9_move_7 rfl (lv_at hl 0 rfl) ?_
  refine gfX9_10 X S hN kd_s0 dX9_move_8 ?_
  refine lv_iload_n hx hb dX9_move_11 rfl (lv_at hl 1 rfl) ?_
  refine lv_iload_n hx hb dX9_move_12 rfl (lv_at hl 2 rfl) ?_
  refine lv_iload_n hx hb dX9_move_13 rfl (lv_at hl 3 rfl) ?_
  refine lv_iload hx hb dX9_move_14 (lv_at hl 4 rfl) ?_
  obtain ⟨v3, hv3, hf⟩ := g_s1 hf
  refine g_ki S (g_runV (rest := [.ref (ad 0)]) X S (c_X3_placeRefusal l hN kd_s1 hv3 _) cvX3_placeRefusal mlX9_203 (kd_N kd_s1 (by decide) hN) (ceC_3 kd_s1 _) rfl rfl rfl hl.1 (Nat.le_of_ble_eq_true rfl) ⟨⟨rfl, rfl⟩, ⟨Nat.le_of_ble_eq_true rfl, Nat.le_of_ble_eq_true rfl⟩, Nat.le_of_ble_eq_true rfl, Nat.le_of_ble_eq_true rfl⟩ dX9_move_16) (fun H locs S => ?_)
  obtain ⟨x4, σ5, hx4, hf, hfx⟩ := g_sx2 hf
  refine g_kxG S X hT (g_xrunV (rest := []) X S (c_X9_passOrRefuse l hl0 hN  hx4 _) cvX9_passOrRefuse mlX9_86 (kd_N kd_s0 (by decide) hN) (ceC_9 kd_s0 _) rfl rfl rfl hl.1 (Nat.le_of_ble_eq_true rfl) ⟨⟨rfl, rfl⟩, ⟨Nat.le_of_ble_eq_true rfl, Nat.le_of_ble_eq_true rfl⟩, Nat.le_of_ble_eq_true rfl, Nat.le_of_ble_eq_true rfl⟩ dX9_move_19) (fun h0 => by have h9 := hfx h0; cases h9; exact ⟨rfl, rfl⟩) (by decide) (by decide) (fun h0 H locs S => ?_)
  have hf := hf h0
  refine lv_aload_n hx hb dX9_move_22 rfl (lv_at hl 0 rfl) ?_
  refine gfX9_37 X S hN kd_s0 dX9_move_23 ?_
  refine lv_aload_n hx hb dX9_move_26 rfl (lv_at hl 0 rfl) ?_
  refine gfX9_10 X S hN kd_s0 dX9_move_27 ?_
  obtain ⟨σ6, hσ6, hf⟩ := g_s1 hf
  refine g_kv S (g_runV (rest := []) X S (c_X4_keep l hN kd_s1 hσ6 _) cvX4_keep mlX9_90 (kd_N kd_s25 (by decide) hN) (ceC_4 kd_s25 _) rfl rfl rfl hl.1 (Nat.le_of_ble_eq_true rfl) ⟨⟨rfl, rfl⟩, ⟨Nat.le_of_ble_eq_true rfl, Nat.le_of_ble_eq_true rfl⟩, Nat.le_of_ble_eq_true rfl, Nat.le_of_ble_eq_true rfl⟩ dX9_move_30) (fun H locs S => ?_)
  refine lv_aload_n hx hb dX9_move_33 rfl (lv_at hl 0 rfl) ?_
  refine gfX9_30 X S hN kd_s0 dX9_move_34 ?_
  refine lv_iload_n hx hb dX9_move_37 rfl (lv_at hl 1 rfl) ?_
  refine lv_iload_n hx hb dX9_move_38 rfl (lv_at hl 2 rfl) ?_
  refine lv_iload_n hx hb dX9_move_39 rfl (lv_at hl 3 rfl) ?_
  refine lv_iload hx hb dX9_move_40 (lv_at hl 4 rfl) ?_
  obtain ⟨v7, σ8, hv7, hf⟩ := g_s2 hf
  refine g_ki S (g_runV (rest := []) X S (c_X1_placeCaption l hN  hv7 _) cvX1_placeCaption mlX9_207 (kd_N kd_s20 (by decide) hN) (ceC_1 kd_s20 _) rfl rfl rfl hl.1 (Nat.le_of_ble_eq_true rfl) ⟨⟨rfl, rfl⟩, ⟨Nat.le_of_ble_eq_true rfl, Nat.le_of_ble_eq_true rfl⟩, Nat.le_of_ble_eq_true rfl, Nat.le_of_ble_eq_true rfl⟩ dX9_move_42) (fun H locs S => ?_)
  cases hf
  exact g_xreti X S rfl dX9_move_45 (by decide) (by decide)

noncomputable def f_X9_split (σ : gSt) (a0 : Int32) (a1 : Int32) (a2 : Int32) : Option (Nat × Int32 × gSt) :=
  (g_x2 (f_X9_requireCaption σ a0 a1) (fun x s => (x, (0 : Int32), s)) fun σ2 => (if a2 < 0 then some (3, 0, σ2) else (g_k1 (f_X3_trackOf σ2 1 a0) fun v4 => (g_k1 (f_X8_size σ2 v4 a1) fun v5 => (if a2 < v5 then (g_k2 (f_X1_splitRefusal σ2 a0 a1 a2) fun v7 σ8 => (g_x2 (f_X9_passOrRefuse σ8 v7) (fun x s => (x, (0 : Int32), s)) fun σ10 => (g_k1 (f_X4_keep σ10 1) fun σ11 => (g_k2 (f_X1_splitCaption σ11 a0 a1 a2) fun v12 σ13 => some (0, v12, σ13))))) else some (3, 0, σ2))))))
set_option maxRecDepth 100000 in
set_option maxHeartbeats 4000000 in
theorem c_X9_split (l : Launch) (hl0 : l.stackTraces = false) {Γ : gG} {ad : Nat → Nat} {N : Nat} (hN : 202 ≤ N) {σ : gSt} {a0 : Int32} {a1 : Int32} {a2 : Int32}  {x : Nat} {r : Int32} {σ' : gSt} (hf : f_X9_split σ a0 a1 a2 = some (x, r, σ')) : gMxi l Γ ad N yX9_split cX9_split 4 (some .int) (gR 10 3 18) [.ref (ad 0), .int a0, .int a1, .int a2] σ x r σ' 3 18 := by
  intro sz
  refine gOfX (Qc := fun sz => gQcxi Γ ad N x r σ' sz) (XC := fun sz => gXc Γ ad N x σ' sz) RX9 (by decide) rfl (Nat.le_of_ble_eq_true rfl) (fun p e s m args below meth c H locs ls X hT S hl => ?_)
  have hl : lv_has ls 4 [(0, .ref (ad 0)), (1, .int a0), (2, .int a1), (3, .int a2)] := hl
  have hx := X.1
  have hb := X.2.1
  unfold f_X9_split at hf
  refine lv_aload_n hx hb dX9_split_0 rfl (lv_at hl 0 rfl) ?_
  refine lv_iload_n hx hb dX9_split_1 rfl (lv_at hl 1 rfl) ?_
  refine lv_iload_n hx hb dX9_split_2 rfl (lv_at hl 2 rfl) ?_
  obtain ⟨x1, σ2, hx1, hf, hfx⟩ := g_sx2 hf
  refine g_kxG S X hT (g_xrunV (rest := []) X S (c_X9_requireCaption l hl0 hN  hx1 _) cvX9_requireCaption mlX9_196 (kd_N kd_s0 (by decide) hN) (ceC_9 kd_s0 _) rfl rfl rfl hl.1 (Nat.le_of_ble_eq_true rfl) ⟨⟨rfl, rfl⟩, ⟨Nat.le_of_ble_eq_true rfl, Nat.le_of_ble_eq_true rfl⟩, Nat.le_of_ble_eq_true rfl, Nat.le_of_ble_eq_true rfl⟩ dX9_split_3) (fun h0 => by have h9 := hfx h0; cases h9; exact ⟨rfl, rfl⟩) (by decide) (by decide) (fun h0 H locs S => ?_)
  have hf := hf h0
  refine lv_iload_n hx hb dX9_split_6 rfl (lv_at hl 3 rfl) ?_
  refine lv_if_lt (tgt := 26) hx hb dX9_split_7 (by decide) (fun c3 => ?_) (fun c3 => ?_)
  · have hf := (if_pos c3).symm.trans hf
    cases hf
    exact g_throwX hl0 X S hT hl.1 ex_3 st_212 dX9_split_26 dX9_split_29 dX9_split_30 dX9_split_32 dX9_split_35 (by decide) (Nat.le_of_ble_eq_true rfl) (Nat.le_of_ble_eq_true rfl) (Nat.le_of_ble_eq_true rfl) (Nat.le_of_ble_eq_true rfl) (Nat.le_of_ble_eq_true rfl)
  · have hf := (if_neg c3).symm.trans hf
    refine lv_iload_n hx hb dX9_split_10 rfl (lv_at hl 3 rfl) ?_
    refine lv_aload_n hx hb dX9_split_11 rfl (lv_at hl 0 rfl) ?_
    refine gfX9_10 X S hN kd_s0 dX9_split_12 ?_
    refine lv_iload_n hx hb dX9_split_15 rfl (lv_at hl 1 rfl) ?_
    obtain ⟨v4, hv4, hf⟩ := g_s1 hf
    refine g_kr S (g_runV (rest := [.int a2]) X S (c_X3_trackOf l hN kd_s1 hv4 _) cvX3_trackOf mlX9_138 (kd_N kd_s1 (by decide) hN) (ceC_3 kd_s1 _) rfl rfl rfl hl.1 (Nat.le_of_ble_eq_true rfl) ⟨⟨rfl, rfl⟩, ⟨Nat.le_of_ble_eq_true rfl, Nat.le_of_ble_eq_true rfl⟩, Nat.le_of_ble_eq_true rfl, Nat.le_of_ble_eq_true rfl⟩ dX9_split_16) (fun H locs S => ?_)
    have hkv4 : gkd v4 = 8 := kr_X3_trackOf kd_s1 hv4
    refine lv_iload_n hx hb dX9_split_19 rfl (lv_at hl 2 rfl) ?_
    obtain ⟨v5, hv5, hf⟩ := g_s1 hf
    refine g_ki S (g_runV (rest := [.int a2]) X S (c_X8_size l hN hkv4 hv5 _) cvX8_size mlX9_210 (kd_N hkv4 (by decide) hN) (ceC_8 hkv4 _) rfl rfl rfl hl.1 (Nat.le_of_ble_eq_true rfl) ⟨⟨rfl, rfl⟩, ⟨Nat.le_of_ble_eq_true rfl, Nat.le_of_ble_eq_true rfl⟩, Nat.le_of_ble_eq_true rfl, Nat.le_of_ble_eq_true rfl⟩ dX9_split_20) (fun H locs S => ?_)
    refine lv_icmp_lt (tgt := 36) hx hb dX9_split_23 (by decide) (fun c6 => ?_) (fun c6 => ?_)
    · have hf := (if_pos c6).symm.trans hf
      refine lv_aload_n hx hb dX9_split_36 rfl (lv_at hl 0 rfl) ?_
      refine lv_aload_n hx hb dX9_split_37 rfl (lv_at hl 0 rfl) ?_
      refine gfX9_30 X S hN kd_s0 dX9_split_38 ?_
      refine lv_iload_n hx hb dX9_split_41 rfl (lv_at hl 1 rfl) ?_
      refine lv_iload_n hx hb dX9_split_42 rfl (lv_at hl 2 rfl) ?_
      refine lv_iload_n hx hb dX9_split_43 rfl (lv_at hl 3 rfl) ?_
      obtain ⟨v7, σ8, hv7, hf⟩ := g_s2 hf
      refine g_ki S (g_runV (rest := [.ref (ad 0)]) X S (c_X1_splitRefusal l hN  hv7 _) cvX1_splitRefusal mlX9_214 (kd_N kd_s20 (by decide) hN) (ceC_1 kd_s20 _) rfl rfl rfl hl.1 (Nat.le_of_ble_eq_true rfl) ⟨⟨rfl, rfl⟩, ⟨Nat.le_of_ble_eq_true rfl, Nat.le_of_ble_eq_true rfl⟩, Nat.le_of_ble_eq_true rfl, Nat.le_of_ble_eq_true rfl⟩ dX9_split_44) (fun H locs S => ?_)
      obtain ⟨x9, σ10, hx9, hf, hfx⟩ := g_sx2 hf
      refine g_kxG S X hT (g_xrunV (rest := []) X S (c_X9_passOrRefuse l hl0 hN  hx9 _) cvX9_passOrRefuse mlX9_86 (kd_N kd_s0 (by decide) hN) (ceC_9 kd_s0 _) rfl rfl rfl hl.1 (Nat.le_of_ble_eq_true rfl) ⟨⟨rfl, rfl⟩, ⟨Nat.le_of_ble_eq_true rfl, Nat.le_of_ble_eq_true rfl⟩, Nat.le_of_ble_eq_true rfl, Nat.le_of_ble_eq_true rfl⟩ dX9_split_47) (fun h0 => by have h9 := hfx h0; cases h9; exact ⟨rfl, rfl⟩) (by decide) (by decide) (fun h0 H locs S => ?_)
      have hf := hf h0
      refine lv_aload_n hx hb dX9_split_50 rfl (lv_at hl 0 rfl) ?_
      refine gfX9_37 X S hN kd_s0 dX9_split_51 ?_
      refine lv_aload_n hx hb dX9_split_54 rfl (lv_at hl 0 rfl) ?_
      refine gfX9_10 X S hN kd_s0 dX9_split_55 ?_
      obtain ⟨σ11, hσ11, hf⟩ := g_s1 hf
      refine g_kv S (g_runV (rest := []) X S (c_X4_keep l hN kd_s1 hσ11 _) cvX4_keep mlX9_90 (kd_N kd_s25 (by decide) hN) (ceC_4 kd_s25 _) rfl rfl rfl hl.1 (Nat.le_of_ble_eq_true rfl) ⟨⟨rfl, rfl⟩, ⟨Nat.le_of_ble_eq_true rfl, Nat.le_of_ble_eq_true rfl⟩, Nat.le_of_ble_eq_true rfl, Nat.le_of_ble_eq_true rfl⟩ dX9_split_58) (fun H locs S => ?_)
      refine lv_aload_n hx hb dX9_split_61 rfl (lv_at hl 0 rfl) ?_
      refine gfX9_30 X S hN kd_s0 dX9_split_62 ?_
      refine lv_iload_n hx hb dX9_split_65 rfl (lv_at hl 1 rfl) ?_
      refine lv_iload_n hx hb dX9_split_66 rfl (lv_at hl 2 rfl) ?_
      refine lv_iload_n hx hb dX9_split_67 rfl (lv_at hl 3 rfl) ?_
      obtain ⟨v12, σ13, hv12, hf⟩ := g_s2 hf
      refine g_ki S (g_runV (rest := []) X S (c_X1_splitCaption l hN  hv12 _) cvX1_splitCaption mlX9_218 (kd_N kd_s20 (by decide) hN) (ceC_1 kd_s20 _) rfl rfl rfl hl.1 (Nat.le_of_ble_eq_true rfl) ⟨⟨rfl, rfl⟩, ⟨Nat.le_of_ble_eq_true rfl, Nat.le_of_ble_eq_true rfl⟩, Nat.le_of_ble_eq_true rfl, Nat.le_of_ble_eq_true rfl⟩ dX9_split_68) (fun H locs S => ?_)
      cases hf
      exact g_xreti X S rfl dX9_split_71 (by decide) (by decide)
    · have hf := (if_neg c6).symm.trans hf
      cases hf
      exact g_throwX hl0 X S hT hl.1 ex_3 st_212 dX9_split_26 dX9_split_29 dX9_split_30 dX9_split_32 dX9_split_35 (by decide) (Nat.le_of_ble_eq_true rfl) (Nat.le_of_ble_eq_true rfl) (Nat.le_of_ble_eq_true rfl) (Nat.le_of_ble_eq_true rfl) (Nat.le_of_ble_eq_true rfl)

