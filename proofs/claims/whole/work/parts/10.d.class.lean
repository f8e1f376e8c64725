theorem ex_1 : gExW 1 75 79 := ⟨gq 351 (by decide +kernel) rfl, gq 75 (by decide +kernel) rfl, by decide +kernel, by decide +kernel, by decide, by decide⟩
theorem ex_2 : gExW 2 333 337 := ⟨gq 451 (by decide +kernel) rfl, gq 76 (by decide +kernel) rfl, by decide +kernel, by decide +kernel, by decide, by decide⟩
theorem ex_3 : gExW 3 110 114 := ⟨gq 550 (by decide +kernel) rfl, gq 78 (by decide +kernel) rfl, by decide +kernel, by decide +kernel, by decide, by decide⟩
theorem ex_4 : gExW 4 124 128 := ⟨gq 575 (by decide +kernel) rfl, gq 81 (by decide +kernel) rfl, by decide +kernel, by decide +kernel, by decide, by decide⟩
theorem ex_5 : gExW 5 290 292 := ⟨gq 1038 (by decide +kernel) rfl, gq 83 (by decide +kernel) rfl, by decide +kernel, by decide +kernel, by decide, by decide⟩
theorem st_77 : (RX9, 77, "the length is out of range") ∈ gStr := by decide +kernel
theorem st_100 : (RX9, 100, "what or the number is out of range") ∈ gStr := by decide +kernel
theorem st_112 : (RX9, 112, "no such frame for a cut") ∈ gStr := by decide +kernel
theorem st_126 : (RX9, 126, "there are as many cuts as there can be") ∈ gStr := by decide +kernel
theorem st_159 : (RX9, 159, "what is out of range") ∈ gStr := by decide +kernel
theorem st_167 : (RX9, 167, "no such frame") ∈ gStr := by decide +kernel
theorem st_175 : (RX9, 175, "the input is full") ∈ gStr := by decide +kernel
theorem st_187 : (RX9, 187, "no such kind") ∈ gStr := by decide +kernel
theorem st_212 : (RX9, 212, "no such character") ∈ gStr := by decide +kernel
theorem st_296 : (RX9, 296, "no caption is shown") ∈ gStr := by decide +kernel
theorem st_313 : (RX9, 313, "the track has no captions") ∈ gStr := by decide +kernel
theorem st_331 : (RX9, 331, "the input is no text of items") ∈ gStr := by decide +kernel
theorem st_335 : (RX9, 335, "an item is refused") ∈ gStr := by decide +kernel
theorem st_339 : (RX9, 339, "no fault position was kept") ∈ gStr := by decide +kernel
theorem st_341 : (RX9, 341, "nothing was refused") ∈ gStr := by decide +kernel
theorem st_343 : (RX9, 343, "there is no change to undo") ∈ gStr := by decide +kernel
theorem st_354 : (RX9, 354, "there is no snapshot") ∈ gStr := by decide +kernel
theorem st_362 : (RX9, 362, "no such track") ∈ gStr := by decide +kernel
theorem st_367 : (RX9, 367, "no such caption") ∈ gStr := by decide +kernel
theorem st_372 : (RX9, 372, "the edit is refused") ∈ gStr := by decide +kernel
noncomputable def f_X9_passOrRefuse (σ : gSt) (a0 : Int32) : Option (Nat × gSt) :=
  (if a0 = 0 then some (0, σ) else (g_k1 (f_X9_keepRefusal σ a0 (0 : Int32)) fun σ2 => some (2, σ2)))
set_option maxRecDepth 100000 in
set_option maxHeartbeats 4000000 in
theorem c_X9_passOrRefuse (l : Launch) (hl0 : l.stackTraces = false) {Γ : gG} {ad : Nat → Nat} {N : Nat} (hN : 202 ≤ N) {σ : gSt} {a0 : Int32}  {x : Nat} {σ' : gSt} (hf : f_X9_passOrRefuse σ a0 = some (x, σ')) : gMxv l Γ ad N yX9_passOrRefuse cX9_passOrRefuse 2 none (gR 8 1 6) [.ref (ad 0), .int a0] σ x σ' 1 6 := by
  intro sz
  refine gOfX (Qc := fun sz => gQcxv Γ ad N x σ' sz) (XC := fun sz => gXc Γ ad N x σ' sz) RX9 (by decide) rfl (by decide) (fun p e s m args below meth c H locs ls X hT S hl => ?_)
  have hl : lv_has ls 2 [(0, .ref (ad 0)), (1, .int a0)] := hl
  have hx := X.1
  have hb := X.2.1
  unfold f_X9_passOrRefuse at hf
  refine lv_iload_n hx hb dX9_passOrRefuse_0 rfl (lv_at hl 1 rfl) ?_
  refine lv_if_eq (tgt := 21) hx hb dX9_passOrRefuse_1 (by decide) (fun c1 => ?_) (fun c1 => ?_)
  · have hf := (if_pos c1).symm.trans hf
    cases hf
    exact g_xretv X S dX9_passOrRefuse_21 (by decide) (by decide)
  · have hf := (if_neg c1).symm.trans hf
    refine lv_aload_n hx hb dX9_passOrRefuse_4 rfl (lv_at hl 0 rfl) ?_
    refine lv_iload_n hx hb dX9_passOrRefuse_5 rfl (lv_at hl 1 rfl) ?_
    refine lv_iconst (v := (0 : Int32)) hx hb dX9_passOrRefuse_6 (by decide) ?_
    obtain ⟨σ2, hσ2, hf⟩ := g_s1 hf
    refine g_kv S (g_runV (rest := []) X S (c_X9_keepRefusal l hN  hσ2 _) cvX9_keepRefusal mlX9_369 (kd_N kd_s0 (by decide) hN) (ceC_9 kd_s0 _) rfl rfl rfl hl.1 (by decide) ⟨⟨rfl, rfl⟩, ⟨Nat.le_of_ble_eq_true rfl, Nat.le_of_ble_eq_true rfl⟩, Nat.le_of_ble_eq_true rfl, Nat.le_of_ble_eq_true rfl⟩ dX9_passOrRefuse_7) (fun H locs S => ?_)
    cases hf
    exact g_throwXW hl0 X S hT hl.1 ex_2 st_372 dX9_passOrRefuse_10 dX9_passOrRefuse_13 dX9_passOrRefuse_14 dX9_passOrRefuse_17 dX9_passOrRefuse_20 (by decide) (Nat.le_of_ble_eq_true rfl) (Nat.le_of_ble_eq_true rfl) (Nat.le_of_ble_eq_true rfl) (Nat.le_of_ble_eq_true rfl) (Nat.le_of_ble_eq_true rfl)

noncomputable def f_X9_film (σ : gSt) (a0 : Int32) : Option (Nat × Int32 × gSt) :=
  (if a0 < (100 : Int32) then some (1, 0, σ) else (if a0 ≤ (9999 : Int32) then (g_k1 (f_X3_lengthRefusal σ 1 a0) fun v3 => (g_x2 (f_X9_passOrRefuse σ v3) (fun x s => (x, (0 : Int32), s)) fun σ5 => (g_k1 (f_X4_keep σ5 1) fun σ6 => (g_k1 (gset σ6 1 0 a0) fun σ7 => some (0, (σ6 1 0), σ7))))) else some (1, 0, σ)))
set_option maxRecDepth 100000 in
set_option maxHeartbeats 4000000 in
theorem c_X9_film (l : Launch) (hl0 : l.stackTraces = false) {Γ : gG} {ad : Nat → Nat} {N : Nat} (hN : 202 ≤ N) {σ : gSt} {a0 : Int32}  {x : Nat} {r : Int32} {σ' : gSt} (hf : f_X9_film σ a0 = some (x, r, σ')) : gMxi l Γ ad N yX9_film cX9_film 3 (some .int) (gR 9 1 6) [.ref (ad 0), .int a0] σ x r σ' 1 6 := by
  intro sz
  refine gOfX (Qc := fun sz => gQcxi Γ ad N x r σ' sz) (XC := fun sz => gXc Γ ad N x σ' sz) RX9 (by decide) rfl (by decide) (fun p e s m args below meth c H locs ls X hT S hl => ?_)
  have hl : lv_has ls 3 [(0, .ref (ad 0)), (1, .int a0)] := hl
  have hx := X.1
  have hb := X.2.1
  unfold f_X9_film at hf
  refine lv_iload_n hx hb dX9_film_0 rfl (lv_at hl 1 rfl) ?_
  refine lv_bipush (v := (100 : Int32)) hx hb dX9_film_1 (by decide) ?_
  refine lv_icmp_lt (tgt := 13) hx hb dX9_film_3 (by decide) (fun c1 => ?_) (fun c1 => ?_)
  · have hf := (if_pos c1).symm.trans hf
    cases hf
    exact g_throwX hl0 X S hT hl.1 ex_1 st_77 dX9_film_13 dX9_film_16 dX9_film_17 dX9_film_19 dX9_film_22 (by decide) (Nat.le_of_ble_eq_true rfl) (Nat.le_of_ble_eq_true rfl) (Nat.le_of_ble_eq_true rfl) (Nat.le_of_ble_eq_true rfl) (Nat.le_of_ble_eq_true rfl)
  · have hf := (if_neg c1).symm.trans hf
    refine lv_iload_n hx hb dX9_film_6 rfl (lv_at hl 1 rfl) ?_
    refine lv_sipush (v := (9999 : Int32)) hx hb dX9_film_7 (by decide) ?_
    refine lv_icmp_le (tgt := 23) hx hb dX9_film_10 (by decide) (fun c2 => ?_) (fun c2 => ?_)
    · have hf := (if_pos c2).symm.trans hf
      refine lv_aload_n hx hb dX9_film_23 rfl (lv_at hl 0 rfl) ?_
      refine lv_aload_n hx hb dX9_film_24 rfl (lv_at hl 0 rfl) ?_
      refine gfX9_10 X S hN kd_s0 dX9_film_25 ?_
      refine lv_iload_n hx hb dX9_film_28 rfl (lv_at hl 1 rfl) ?_
      obtain ⟨v3, hv3, hf⟩ := g_s1 hf
      refine g_ki S (g_runV (rest := [.ref (ad 0)]) X S (c_X3_lengthRefusal l hN kd_s1 hv3 _) cvX3_lengthRefusal mlX9_82 (kd_N kd_s1 (by decide) hN) (ceC_3 kd_s1 _) rfl rfl rfl hl.1 (by decide) ⟨⟨rfl, rfl⟩, ⟨Nat.le_of_ble_eq_true rfl, Nat.le_of_ble_eq_true rfl⟩, Nat.le_of_ble_eq_true rfl, Nat.le_of_ble_eq_true rfl⟩ dX9_film_29) (fun H locs S => ?_)
      obtain ⟨x4, σ5, hx4, hf, hfx⟩ := g_sx2 hf
      refine g_kxG S X hT (g_xrunV (rest := []) X S (c_X9_passOrRefuse l hl0 hN  hx4 _) cvX9_passOrRefuse mlX9_86 (kd_N kd_s0 (by decide) hN) (ceC_9 kd_s0 _) rfl rfl rfl hl.1 (by decide) ⟨⟨rfl, rfl⟩, ⟨Nat.le_of_ble_eq_true rfl, Nat.le_of_ble_eq_true rfl⟩, Nat.le_of_ble_eq_true rfl, Nat.le_of_ble_eq_true rfl⟩ dX9_film_32) (fun h0 => by have h9 := hfx h0; cases h9; exact ⟨rfl, rfl⟩) (by decide) (by decide) (fun h0 H locs S => ?_)
      have hf := hf h0
      refine lv_aload_n hx hb dX9_film_35 rfl (lv_at hl 0 rfl) ?_
      refine gfX9_37 X S hN kd_s0 dX9_film_36 ?_
      refine lv_aload_n hx hb dX9_film_39 rfl (lv_at hl 0 rfl) ?_
      refine gfX9_10 X S hN kd_s0 dX9_film_40 ?_
      obtain ⟨σ6, hσ6, hf⟩ := g_s1 hf
      refine g_kv S (g_runV (rest := []) X S (c_X4_keep l hN kd_s1 hσ6 _) cvX4_keep mlX9_90 (kd_N kd_s25 (by decide) hN) (ceC_4 kd_s25 _) rfl rfl rfl hl.1 (by decide) ⟨⟨rfl, rfl⟩, ⟨Nat.le_of_ble_eq_true rfl, Nat.le_of_ble_eq_true rfl⟩, Nat.le_of_ble_eq_true rfl, Nat.le_of_ble_eq_true rfl⟩ dX9_film_43) (fun H locs S => ?_)
      refine lv_aload_n hx hb dX9_film_46 rfl (lv_at hl 0 rfl) ?_
      refine gfX9_10 X S hN kd_s0 dX9_film_47 ?_
      refine gfX9_93 X S hN kd_s1 dX9_film_50 ?_
      refine lv_istore_n (lv' := [(2, .int (σ6 1 0)), (0, .ref (ad 0)), (1, .int a0)]) hx hb dX9_film_53 rfl hl (by decide) rfl (fun ls hl => ?_)
      refine lv_aload_n hx hb dX9_film_54 rfl (lv_at hl 1 rfl) ?_
      refine gfX9_10 X S hN kd_s0 dX9_film_55 ?_
      refine lv_iload_n hx hb dX9_film_58 rfl (lv_at hl 2 rfl) ?_
      obtain ⟨σ7, hσ7, hf⟩ := g_s1 hf
      refine pfX9_93 X S hN kd_s1 hσ7 dX9_film_59 (fun H locs S => ?_)
      refine lv_iload_n hx hb dX9_film_62 rfl (lv_at hl 0 rfl) ?_
      cases hf
      exact g_xreti X S rfl dX9_film_63 (by decide) (by decide)
    · have hf := (if_neg c2).symm.trans hf
      cases hf
      exact g_throwX hl0 X S hT hl.1 ex_1 st_77 dX9_film_13 dX9_film_16 dX9_film_17 dX9_film_19 dX9_film_22 (by decide) (Nat.le_of_ble_eq_true rfl) (Nat.le_of_ble_eq_true rfl) (Nat.le_of_ble_eq_true rfl) (Nat.le_of_ble_eq_true rfl) (Nat.le_of_ble_eq_true rfl)

noncomputable def f_X9_set (σ : gSt) (a0 : Int32) (a1 : Int32) : Option (Nat × Int32 × gSt) :=
  (g_k1 (f_X9_isSettingValue σ a0 a1) fun v1 => (if v1 = 0 then some (1, 0, σ) else (g_k1 (f_X4_keep σ 1) fun σ3 => (g_k2 (f_X3_changeSetting σ3 1 a0 a1) fun v4 σ5 => some (0, v4, σ5)))))
set_option maxRecDepth 100000 in
set_option maxHeartbeats 4000000 in
theorem c_X9_set (l : Launch) (hl0 : l.stackTraces = false) {Γ : gG} {ad : Nat → Nat} {N : Nat} (hN : 202 ≤ N) {σ : gSt} {a0 : Int32} {a1 : Int32}  {x : Nat} {r : Int32} {σ' : gSt} (hf : f_X9_set σ a0 a1 = some (x, r, σ')) : gMxi l Γ ad N yX9_set cX9_set 3 (some .int) (gR 8 1 6) [.ref (ad 0), .int a0, .int a1] σ x r σ' 1 6 := by
  intro sz
  refine gOfX (Qc := fun sz => gQcxi Γ ad N x r σ' sz) (XC := fun sz => gXc Γ ad N x σ' sz) RX9 (by decide) rfl (by decide) (fun p e s m args below meth c H locs ls X hT S hl => ?_)
  have hl : lv_has ls 3 [(0, .ref (ad 0)), (1, .int a0), (2, .int a1)] := hl
  have hx := X.1
  have hb := X.2.1
  unfold f_X9_set at hf
  refine lv_iload_n hx hb dX9_set_0 rfl (lv_at hl 1 rfl) ?_
  refine lv_iload_n hx hb dX9_set_1 rfl (lv_at hl 2 rfl) ?_
  obtain ⟨v1, hv1, hf⟩ := g_s1 hf
  refine g_ki S (g_runS (rest := []) X S (c_X9_isSettingValue l hN  hv1 _) csX9_isSettingValue mlX9_96 rfl rfl hl.1 (by decide) ⟨⟨rfl, rfl⟩, ⟨Nat.le_of_ble_eq_true rfl, Nat.le_of_ble_eq_true rfl⟩, Nat.le_of_ble_eq_true rfl, Nat.le_of_ble_eq_true rfl⟩ dX9_set_2) (fun H locs S => ?_)
  refine lv_if_ne (tgt := 18) hx hb dX9_set_5 (by decide) (fun c2 => ?_) (fun c2 => ?_)
  · have hf := (if_neg c2).symm.trans hf
    refine lv_aload_n hx hb dX9_set_18 rfl (lv_at hl 0 rfl) ?_
    refine gfX9_37 X S hN kd_s0 dX9_set_19 ?_
    refine lv_aload_n hx hb dX9_set_22 rfl (lv_at hl 0 rfl) ?_
    refine gfX9_10 X S hN kd_s0 dX9_set_23 ?_
    obtain ⟨σ3, hσ3, hf⟩ := g_s1 hf
    refine g_kv S (g_runV (rest := []) X S (c_X4_keep l hN kd_s1 hσ3 _) cvX4_keep mlX9_90 (kd_N kd_s25 (by decide) hN) (ceC_4 kd_s25 _) rfl rfl rfl hl.1 (by decide) ⟨⟨rfl, rfl⟩, ⟨Nat.le_of_ble_eq_true rfl, Nat.le_of_ble_eq_true rfl⟩, Nat.le_of_ble_eq_true rfl, Nat.le_of_ble_eq_true rfl⟩ dX9_set_26) (fun H locs S => ?_)
    refine lv_aload_n hx hb dX9_set_29 rfl (lv_at hl 0 rfl) ?_
    refine gfX9_10 X S hN kd_s0 dX9_set_30 ?_
    refine lv_iload_n hx hb dX9_set_33 rfl (lv_at hl 1 rfl) ?_
    refine lv_iload_n hx hb dX9_set_34 rfl (lv_at hl 2 rfl) ?_
    obtain ⟨v4, σ5, hv4, hf⟩ := g_s2 hf
    refine g_ki S (g_runV (rest := []) X S (c_X3_changeSetting l hN kd_s1 hv4 _) cvX3_changeSetting mlX9_102 (kd_N kd_s1 (by decide) hN) (ceC_3 kd_s1 _) rfl rfl rfl hl.1 (by decide) ⟨⟨rfl, rfl⟩, ⟨Nat.le_of_ble_eq_true rfl, Nat.le_of_ble_eq_true rfl⟩, Nat.le_of_ble_eq_true rfl, Nat.le_of_ble_eq_true rfl⟩ dX9_set_35) (fun H locs S => ?_)
    cases hf
    exact g_xreti X S rfl dX9_set_38 (by decide) (by decide)
  · have hf := (if_pos c2).symm.trans hf
    cases hf
    exact g_throwX hl0 X S hT hl.1 ex_1 st_100 dX9_set_8 dX9_set_11 dX9_set_12 dX9_set_14 dX9_set_17 (by decide) (Nat.le_of_ble_eq_true rfl) (Nat.le_of_ble_eq_true rfl) (Nat.le_of_ble_eq_true rfl) (Nat.le_of_ble_eq_true rfl) (Nat.le_of_ble_eq_true rfl)

noncomputable def f_X9_cut_b1 (a0 : Int32) (a1 : Int32) (σ4 : gSt) : Option (Nat × Int32 × gSt) :=
  (g_k1 (f_X4_keep σ4 1) fun σ5 => (g_k1 (if a1 = 0 then (g_k1 (f_X0_takeAway σ5 (1 + 2) a0) fun σ10 => some σ10) else (g_k1 (f_X0_make σ5 (1 + 2) a0) fun σ11 => some σ11)) fun σ6 => some (0, (σ6 (1 + 2) 1), σ6)))
set_option maxRecDepth 100000 in
set_option maxHeartbeats 4000000 in
theorem w_X9_cut_b1 {l : Launch} {Γ : gG} {ad : Nat → Nat} {N : Nat} {p : Program} {e : Env} {s : State} {m : MethodId} {args : Array Value} {below : List Frame} {meth : Method} {c : Code} (hl0 : l.stackTraces = false) (hT : ∀ x ∈ c.exceptionTable.toList, False) (hN : 202 ≤ N) (X : gX celC Γ ad N RX9 cX9_cut 3 (some .int) p s m args meth c) {a0 : Int32} {a1 : Int32} {σ4 : gSt}  {x : Nat} {r : Int32} {σ' : gSt} (hf : f_X9_cut_b1 a0 a1 σ4 = some (x, r, σ')) (H : Heap) (locs : List Loc) (ls : Array Slot) (S : gS celC Γ ad N σ4 s H locs) (hl : lv_has ls 3 [(0, .ref (ad 0)), (1, .int a0), (2, .int a1)]) : W p l e (gR 8 1 6) s m args below meth c H locs 0 0 (gQxi Γ ad N x r σ' 1 6 below args s) (F0 m 49 ls []) := by
  have hx := X.1
  have hb := X.2.1
  unfold f_X9_cut_b1 at hf
  refine lv_aload_n hx hb dX9_cut_49 rfl (lv_at hl 0 rfl) ?_
  refine gfX9_37 X S hN kd_s0 dX9_cut_50 ?_
  refine lv_aload_n hx hb dX9_cut_53 rfl (lv_at hl 0 rfl) ?_
  refine gfX9_10 X S hN kd_s0 dX9_cut_54 ?_
  obtain ⟨σ5, hσ5, hf⟩ := g_s1 hf
  refine g_kv S (g_runV (rest := []) X S (c_X4_keep l hN kd_s1 hσ5 _) cvX4_keep mlX9_90 (kd_N kd_s25 (by decide) hN) (ceC_4 kd_s25 _) rfl rfl rfl hl.1 (by decide) ⟨⟨rfl, rfl⟩, ⟨Nat.le_of_ble_eq_true rfl, Nat.le_of_ble_eq_true rfl⟩, Nat.le_of_ble_eq_true rfl, Nat.le_of_ble_eq_true rfl⟩ dX9_cut_57) (fun H locs S => ?_)
  refine lv_iload_n hx hb dX9_cut_60 rfl (lv_at hl 2 rfl) ?_
  obtain ⟨σ6, hr7, hf⟩ := g_s1 hf
  have J8 : ∀ (H : Heap) (locs : List Loc) (ls : Array Slot), gS celC Γ ad N σ6 s H locs → lv_has ls 3 [(0, .ref (ad 0))] → W p l e (gR 8 1 6) s m args below meth c H locs 0 0 (gQxi Γ ad N x r σ' 1 6 below args s) (F0 m 89 ls []) := by
    intro H locs ls S hl
    refine lv_aload_n hx hb dX9_cut_89 rfl (lv_at hl 0 rfl) ?_
    refine gfX9_10 X S hN kd_s0 dX9_cut_90 ?_
    refine gfX9_115 X S hN kd_s1 dX9_cut_93 ?_
    refine gfX9_135 X S hN (kd_3_2 kd_s1) dX9_cut_96 ?_
    cases hf
    exact g_xreti X S rfl dX9_cut_99 (by decide) (by decide)
  replace hf := hr7
  refine lv_if_eq (tgt := 78) hx hb dX9_cut_61 (by decide) (fun c9 => ?_) (fun c9 => ?_)
  · have hf := (if_pos c9).symm.trans hf
    refine lv_aload_n hx hb dX9_cut_78 rfl (lv_at hl 0 rfl) ?_
    refine gfX9_10 X S hN kd_s0 dX9_cut_79 ?_
    refine gfX9_115 X S hN kd_s1 dX9_cut_82 ?_
    refine lv_iload_n hx hb dX9_cut_85 rfl (lv_at hl 1 rfl) ?_
    obtain ⟨σ10, hσ10, hf⟩ := g_s1 hf
    refine g_kv S (g_runV (rest := []) X S (c_X0_takeAway l hN (kd_3_2 kd_s1) hσ10 _) cvX0_takeAway mlX9_132 (kd_N (kd_3_2 kd_s1) (by decide) hN) (ceC_0 (kd_3_2 kd_s1) _) rfl rfl rfl hl.1 (by decide) ⟨⟨rfl, rfl⟩, ⟨Nat.le_of_ble_eq_true rfl, Nat.le_of_ble_eq_true rfl⟩, Nat.le_of_ble_eq_true rfl, Nat.le_of_ble_eq_true rfl⟩ dX9_cut_86) (fun H locs S => ?_)
    cases hf
    exact J8 _ _ _ S (lv_sub hl [0] rfl)
  · have hf := (if_neg c9).symm.trans hf
    refine lv_aload_n hx hb dX9_cut_64 rfl (lv_at hl 0 rfl) ?_
    refine gfX9_10 X S hN kd_s0 dX9_cut_65 ?_
    refine gfX9_115 X S hN kd_s1 dX9_cut_68 ?_
    refine lv_iload_n hx hb dX9_cut_71 rfl (lv_at hl 1 rfl) ?_
    obtain ⟨σ11, hσ11, hf⟩ := g_s1 hf
    refine g_kv S (g_runV (rest := []) X S (c_X0_make l hN (kd_3_2 kd_s1) hσ11 _) cvX0_make mlX9_129 (kd_N (kd_3_2 kd_s1) (by decide) hN) (ceC_0 (kd_3_2 kd_s1) _) rfl rfl rfl hl.1 (by decide) ⟨⟨rfl, rfl⟩, ⟨Nat.le_of_ble_eq_true rfl, Nat.le_of_ble_eq_true rfl⟩, Nat.le_of_ble_eq_true rfl, Nat.le_of_ble_eq_true rfl⟩ dX9_cut_72) (fun H locs S => ?_)
    refine lv_goto (tgt := 89) hx hb dX9_cut_75 (by decide) ?_
    cases hf
    exact J8 _ _ _ S (lv_sub hl [0] rfl)
noncomputable def f_X9_cut (σ : gSt) (a0 : Int32) (a1 : Int32) : Option (Nat × Int32 × gSt) :=
  (g_k1 (f_X3_canBeCut σ 1 a0) fun v1 => (if v1 = 0 then some (3, 0, σ) else (if a1 = 0 then (f_X9_cut_b1 a0 a1 σ) else (g_k1 (f_X0_lacksRoomFor σ (1 + 2) a0) fun v12 => (if v12 = 0 then (f_X9_cut_b1 a0 a1 σ) else some (4, 0, σ))))))
set_option maxRecDepth 100000 in
set_option maxHeartbeats 4000000 in
theorem c_X9_cut (l : Launch) (hl0 : l.stackTraces = false) {Γ : gG} {ad : Nat → Nat} {N : Nat} (hN : 202 ≤ N) {σ : gSt} {a0 : Int32} {a1 : Int32}  {x : Nat} {r : Int32} {σ' : gSt} (hf : f_X9_cut σ a0 a1 = some (x, r, σ')) : gMxi l Γ ad N yX9_cut cX9_cut 3 (some .int) (gR 8 1 6) [.ref (ad 0), .int a0, .int a1] σ x r σ' 1 6 := by
  intro sz
  refine gOfX (Qc := fun sz => gQcxi Γ ad N x r σ' sz) (XC := fun sz => gXc Γ ad N x σ' sz) RX9 (by decide) rfl (by decide) (fun p e s m args below meth c H locs ls X hT S hl => ?_)
  have hl : lv_has ls 3 [(0, .ref (ad 0)), (1, .int a0), (2, .int a1)] := hl
  have hx := X.1
  have hb := X.2.1
  unfold f_X9_cut at hf
  refine lv_aload_n hx hb dX9_cut_0 rfl (lv_at hl 0 rfl) ?_
  refine gfX9_10 X S hN kd_s0 dX9_cut_1 ?_
  refine lv_iload_n hx hb dX9_cut_4 rfl (lv_at hl 1 rfl) ?_
  obtain ⟨v1, hv1, hf⟩ := g_s1 hf
  refine g_ki S (g_runV (rest := []) X S (c_X3_canBeCut l hN kd_s1 hv1 _) cvX3_canBeCut mlX9_106 (kd_N kd_s1 (by decide) hN) (ceC_3 kd_s1 _) rfl rfl rfl hl.1 (by decide) ⟨⟨rfl, rfl⟩, ⟨Nat.le_of_ble_eq_true rfl, Nat.le_of_ble_eq_true rfl⟩, Nat.le_of_ble_eq_true rfl, Nat.le_of_ble_eq_true rfl⟩ dX9_cut_5) (fun H locs S => ?_)
  refine lv_if_ne (tgt := 21) hx hb dX9_cut_8 (by decide) (fun c2 => ?_) (fun c2 => ?_)
  · have hf := (if_neg c2).symm.trans hf
    refine lv_iload_n hx hb dX9_cut_21 rfl (lv_at hl 2 rfl) ?_
    refine lv_if_eq (tgt := 49) hx hb dX9_cut_22 (by decide) (fun c3 => ?_) (fun c3 => ?_)
    · have hf := (if_pos c3).symm.trans hf
      exact w_X9_cut_b1 hl0 hT hN X  hf _ _ _ S (lv_sub hl [0, 1, 2] rfl)
    · have hf := (if_neg c3).symm.trans hf
      refine lv_aload_n hx hb dX9_cut_25 rfl (lv_at hl 0 rfl) ?_
      refine gfX9_10 X S hN kd_s0 dX9_cut_26 ?_
      refine gfX9_115 X S hN kd_s1 dX9_cut_29 ?_
      refine lv_iload_n hx hb dX9_cut_32 rfl (lv_at hl 1 rfl) ?_
      obtain ⟨v12, hv12, hf⟩ := g_s1 hf
      refine g_ki S (g_runV (rest := []) X S (c_X0_lacksRoomFor l hN (kd_3_2 kd_s1) hv12 _) cvX0_lacksRoomFor mlX9_119 (kd_N (kd_3_2 kd_s1) (by decide) hN) (ceC_0 (kd_3_2 kd_s1) _) rfl rfl rfl hl.1 (by decide) ⟨⟨rfl, rfl⟩, ⟨Nat.le_of_ble_eq_true rfl, Nat.le_of_ble_eq_true rfl⟩, Nat.le_of_ble_eq_true rfl, Nat.le_of_ble_eq_true rfl⟩ dX9_cut_33) (fun H locs S => ?_)
      refine lv_if_eq (tgt := 49) hx hb dX9_cut_36 (by decide) (fun c13 => ?_) (fun c13 => ?_)
      · have hf := (if_pos c13).symm.trans hf
        exact w_X9_cut_b1 hl0 hT hN X  hf _ _ _ S (lv_sub hl [0, 1, 2] rfl)
      · have hf := (if_neg c13).symm.trans hf
        cases hf
        exact g_throwX hl0 X S hT hl.1 ex_4 st_126 dX9_cut_39 dX9_cut_42 dX9_cut_43 dX9_cut_45 dX9_cut_48 (by decide) (Nat.le_of_ble_eq_true rfl) (Nat.le_of_ble_eq_true rfl) (Nat.le_of_ble_eq_true rfl) (Nat.le_of_ble_eq_true rfl) (Nat.le_of_ble_eq_true rfl)
  · have hf := (if_pos c2).symm.trans hf
    cases hf
    exact g_throwX hl0 X S hT hl.1 ex_3 st_112 dX9_cut_11 dX9_cut_14 dX9_cut_15 dX9_cut_17 dX9_cut_20 (by decide) (Nat.le_of_ble_eq_true rfl) (Nat.le_of_ble_eq_true rfl) (Nat.le_of_ble_eq_true rfl) (Nat.le_of_ble_eq_true rfl) (Nat.le_of_ble_eq_true rfl)

noncomputable def f_X9_number (σ : gSt) (a0 : Int32) : Option (Nat × Int32 × gSt) :=
  (if a0 = (6 : Int32) then some (0, (σ 1 0), σ) else (if a0 = (7 : Int32) then some (0, (σ (1 + 2) 1), σ) else (if a0 = (8 : Int32) then (g_k1 (f_X3_trackOf σ 1 (0 : Int32)) fun v4 => some (0, (σ v4 5), σ)) else (if a0 = (9 : Int32) then (g_k1 (f_X3_trackOf σ 1 (1 : Int32)) fun v6 => some (0, (σ v6 5), σ)) else (if a0 = (10 : Int32) then (g_k1 (f_X2_framesOfBoth σ ) fun v8 => some (0, v8, σ)) else (if a0 = (11 : Int32) then (g_k1 (f_X2_captionsWith σ (0 : Int32) (63 : Int32)) fun v10 => (g_k1 (f_X2_captionsWith σ (1 : Int32) (63 : Int32)) fun v11 => some (0, (v10 + v11), σ))) else (if a0 = (12 : Int32) then some (0, (σ 25 1), σ) else (if a0 = (13 : Int32) then some (0, (σ 187 1), σ) else (g_k1 (f_X9_isSetting σ a0) fun v14 => (if v14 = 0 then some (1, 0, σ) else (g_k1 (f_X3_setting σ 1 a0) fun v16 => some (0, v16, σ))))))))))))
set_option maxRecDepth 100000 in
set_option maxHeartbeats 4000000 in
theorem c_X9_number (l : Launch) (hl0 : l.stackTraces = false) {Γ : gG} {ad : Nat → Nat} {N : Nat} (hN : 202 ≤ N) {σ : gSt} {a0 : Int32}  {x : Nat} {r : Int32} {σ' : gSt} (hf : f_X9_number σ a0 = some (x, r, σ')) : gMxi l Γ ad N yX9_number cX9_number 2 (some .int) (gR 8 1 6) [.ref (ad 0), .int a0] σ x r σ' 1 6 := by
  intro sz
  refine gOfX (Qc := fun sz => gQcxi Γ ad N x r σ' sz) (XC := fun sz => gXc Γ ad N x σ' sz) RX9 (by decide) rfl (by decide) (fun p e s m args below meth c H locs ls X hT S hl => ?_)
  have hl : lv_has ls 2 [(0, .ref (ad 0)), (1, .int a0)] := hl
  have hx := X.1
  have hb := X.2.1
  unfold f_X9_number at hf
  refine lv_iload_n hx hb dX9_number_0 rfl (lv_at hl 1 rfl) ?_
  by_cases c1 : a0 = (6 : Int32)
  · have hf := (if_pos c1).symm.trans hf
    refine lv_tableIn (off := 47) (tgt := 48) hx hb dX9_number_1 (by rw [c1]; decide) (by rw [c1]; decide) (by rw [c1]; decide) (by decide) ?_
    refine lv_aload_n hx hb dX9_number_48 rfl (lv_at hl 0 rfl) ?_
    refine gfX9_10 X S hN kd_s0 dX9_number_49 ?_
    refine gfX9_93 X S hN kd_s1 dX9_number_52 ?_
    cases hf
    exact g_xreti X S rfl dX9_number_55 (by decide) (by decide)
  replace hf := (if_neg c1).symm.trans hf
  by_cases c2 : a0 = (7 : Int32)
  · have hf := (if_pos c2).symm.trans hf
    refine lv_tableIn (off := 55) (tgt := 56) hx hb dX9_number_1 (by rw [c2]; decide) (by rw [c2]; decide) (by rw [c2]; decide) (by decide) ?_
    refine lv_aload_n hx hb dX9_number_56 rfl (lv_at hl 0 rfl) ?_
    refine gfX9_10 X S hN kd_s0 dX9_number_57 ?_
    refine gfX9_115 X S hN kd_s1 dX9_number_60 ?_
    refine gfX9_135 X S hN (kd_3_2 kd_s1) dX9_number_63 ?_
    cases hf
    exact g_xreti X S rfl dX9_number_66 (by decide) (by decide)
  replace hf := (if_neg c2).symm.trans hf
  by_cases c3 : a0 = (8 : Int32)
  · have hf := (if_pos c3).symm.trans hf
    refine lv_tableIn (off := 66) (tgt := 67) hx hb dX9_number_1 (by rw [c3]; decide) (by rw [c3]; decide) (by rw [c3]; decide) (by decide) ?_
    refine lv_aload_n hx hb dX9_number_67 rfl (lv_at hl 0 rfl) ?_
    refine gfX9_10 X S hN kd_s0 dX9_number_68 ?_
    refine lv_iconst (v := (0 : Int32)) hx hb dX9_number_71 (by decide) ?_
    obtain ⟨v4, hv4, hf⟩ := g_s1 hf
    refine g_kr S (g_runV (rest := []) X S (c_X3_trackOf l hN kd_s1 hv4 _) cvX3_trackOf mlX9_138 (kd_N kd_s1 (by decide) hN) (ceC_3 kd_s1 _) rfl rfl rfl hl.1 (by decide) ⟨⟨rfl, rfl⟩, ⟨Nat.le_of_ble_eq_true rfl, Nat.le_of_ble_eq_true rfl⟩, Nat.le_of_ble_eq_true rfl, Nat.le_of_ble_eq_true rfl⟩ dX9_number_72) (fun H locs S => ?_)
    have hkv4 : gkd v4 = 8 := kr_X3_trackOf kd_s1 hv4
    refine gfX9_142 X S hN hkv4 dX9_number_75 ?_
    cases hf
    exact g_xreti X S rfl dX9_number_78 (by decide) (by decide)
  replace hf := (if_neg c3).symm.trans hf
  by_cases c5 : a0 = (9 : Int32)
  · have hf := (if_pos c5).symm.trans hf
    refine lv_tableIn (off := 78) (tgt := 79) hx hb dX9_number_1 (by rw [c5]; decide) (by rw [c5]; decide) (by rw [c5]; decide) (by decide) ?_
    refine lv_aload_n hx hb dX9_number_79 rfl (lv_at hl 0 rfl) ?_
    refine gfX9_10 X S hN kd_s0 dX9_number_80 ?_
    refine lv_iconst (v := (1 : Int32)) hx hb dX9_number_83 (by decide) ?_
    obtain ⟨v6, hv6, hf⟩ := g_s1 hf
    refine g_kr S (g_runV (rest := []) X S (c_X3_trackOf l hN kd_s1 hv6 _) cvX3_trackOf mlX9_138 (kd_N kd_s1 (by decide) hN) (ceC_3 kd_s1 _) rfl rfl rfl hl.1 (by decide) ⟨⟨rfl, rfl⟩, ⟨Nat.le_of_ble_eq_true rfl, Nat.le_of_ble_eq_true rfl⟩, Nat.le_of_ble_eq_true rfl, Nat.le_of_ble_eq_true rfl⟩ dX9_number_84) (fun H locs S => ?_)
    have hkv6 : gkd v6 = 8 := kr_X3_trackOf kd_s1 hv6
    refine gfX9_142 X S hN hkv6 dX9_number_87 ?_
    cases hf
    exact g_xreti X S rfl dX9_number_90 (by decide) (by decide)
  replace hf := (if_neg c5).symm.trans hf
  by_cases c7 : a0 = (10 : Int32)
  · have hf := (if_pos c7).symm.trans hf
    refine lv_tableIn (off := 90) (tgt := 91) hx hb dX9_number_1 (by rw [c7]; decide) (by rw [c7]; decide) (by rw [c7]; decide) (by decide) ?_
    refine lv_aload_n hx hb dX9_number_91 rfl (lv_at hl 0 rfl) ?_
    refine gfX9_21 X S hN kd_s0 dX9_number_92 ?_
    obtain ⟨v8, hv8, hf⟩ := g_s1 hf
    refine g_ki S (g_runV (rest := []) X S (c_X2_framesOfBoth l hN  hv8 _) cvX2_framesOfBoth mlX9_145 (kd_N kd_s17 (by decide) hN) (ceC_2 kd_s17 _) rfl rfl rfl hl.1 (by decide) ⟨⟨rfl, rfl⟩, ⟨Nat.le_of_ble_eq_true rfl, Nat.le_of_ble_eq_true rfl⟩, Nat.le_of_ble_eq_true rfl, Nat.le_of_ble_eq_true rfl⟩ dX9_number_95) (fun H locs S => ?_)
    cases hf
    exact g_xreti X S rfl dX9_number_98 (by decide) (by decide)
  replace hf := (if_neg c7).symm.trans hf
  by_cases c9 : a0 = (11 : Int32)
  · have hf := (if_pos c9).symm.trans hf
    refine lv_tableIn (off := 98) (tgt := 99) hx hb dX9_number_1 (by rw [c9]; decide) (by rw [c9]; decide) (by rw [c9]; decide) (by decide) ?_
    refine lv_aload_n hx hb dX9_number_99 rfl (lv_at hl 0 rfl) ?_
    refine gfX9_21 X S hN kd_s0 dX9_number_100 ?_
    refine lv_iconst (v := (0 : Int32)) hx hb dX9_number_103 (by decide) ?_
    refine lv_bipush (v := (63 : Int32)) hx hb dX9_number_104 (by decide) ?_
    obtain ⟨v10, hv10, hf⟩ := g_s1 hf
    refine g_ki S (g_runV (rest := []) X S (c_X2_captionsWith l hN  hv10 _) cvX2_captionsWith mlX9_149 (kd_N kd_s17 (by decide) hN) (ceC_2 kd_s17 _) rfl rfl rfl hl.1 (by decide) ⟨⟨rfl, rfl⟩, ⟨Nat.le_of_ble_eq_true rfl, Nat.le_of_ble_eq_true rfl⟩, Nat.le_of_ble_eq_true rfl, Nat.le_of_ble_eq_true rfl⟩ dX9_number_106) (fun H locs S => ?_)
    refine lv_aload_n hx hb dX9_number_109 rfl (lv_at hl 0 rfl) ?_
    refine gfX9_21 X S hN kd_s0 dX9_number_110 ?_
    refine lv_iconst (v := (1 : Int32)) hx hb dX9_number_113 (by decide) ?_
    refine lv_bipush (v := (63 : Int32)) hx hb dX9_number_114 (by decide) ?_
    obtain ⟨v11, hv11, hf⟩ := g_s1 hf
    refine g_ki S (g_runV (rest := [.int v10]) X S (c_X2_captionsWith l hN  hv11 _) cvX2_captionsWith mlX9_149 (kd_N kd_s17 (by decide) hN) (ceC_2 kd_s17 _) rfl rfl rfl hl.1 (by decide) ⟨⟨rfl, rfl⟩, ⟨Nat.le_of_ble_eq_true rfl, Nat.le_of_ble_eq_true rfl⟩, Nat.le_of_ble_eq_true rfl, Nat.le_of_ble_eq_true rfl⟩ dX9_number_116) (fun H locs S => ?_)
    refine lv_iadd hx hb dX9_number_119 ?_
    cases hf
    exact g_xreti X S rfl dX9_number_120 (by decide) (by decide)
  replace hf := (if_neg c9).symm.trans hf
  by_cases c12 : a0 = (12 : Int32)
  · have hf := (if_pos c12).symm.trans hf
    refine lv_tableIn (off := 120) (tgt := 121) hx hb dX9_number_1 (by rw [c12]; decide) (by rw [c12]; decide) (by rw [c12]; decide) (by decide) ?_
    refine lv_aload_n hx hb dX9_number_121 rfl (lv_at hl 0 rfl) ?_
    refine gfX9_37 X S hN kd_s0 dX9_number_122 ?_
    refine gfX9_152 X S hN kd_s25 dX9_number_125 ?_
    cases hf
    exact g_xreti X S rfl dX9_number_128 (by decide) (by decide)
  replace hf := (if_neg c12).symm.trans hf
  by_cases c13 : a0 = (13 : Int32)
  · have hf := (if_pos c13).symm.trans hf
    refine lv_tableIn (off := 128) (tgt := 129) hx hb dX9_number_1 (by rw [c13]; decide) (by rw [c13]; decide) (by rw [c13]; decide) (by decide) ?_
    refine lv_aload_n hx hb dX9_number_129 rfl (lv_at hl 0 rfl) ?_
    refine gfX9_51 X S hN kd_s0 dX9_number_130 ?_
    refine gfX9_153 X S hN kd_s187 dX9_number_133 ?_
    cases hf
    exact g_xreti X S rfl dX9_number_136 (by decide) (by decide)
  replace hf := (if_neg c13).symm.trans hf
  refine lv_tableOut (tgt := 137) hx hb dX9_number_1 (g_swout0 (x := a0) (lo := 6) (n := 8) (fun j hj => by rcases (show j = 0 ∨ j = 1 ∨ j = 2 ∨ j = 3 ∨ j = 4 ∨ j = 5 ∨ j = 6 ∨ j = 7 by omega) with rfl | rfl | rfl | rfl | rfl | rfl | rfl | rfl <;> (intro h9; first | exact c1 (Int32.toInt_inj.mp (h9.trans (by decide))) | exact c2 (Int32.toInt_inj.mp (h9.trans (by decide))) | exact c3 (Int32.toInt_inj.mp (h9.trans (by decide))) | exact c5 (Int32.toInt_inj.mp (h9.trans (by decide))) | exact c7 (Int32.toInt_inj.mp (h9.trans (by decide))) | exact c9 (Int32.toInt_inj.mp (h9.trans (by decide))) | exact c12 (Int32.toInt_inj.mp (h9.trans (by decide))) | exact c13 (Int32.toInt_inj.mp (h9.trans (by decide)))))) (by decide) ?_
  refine lv_iload_n hx hb dX9_number_137 rfl (lv_at hl 1 rfl) ?_
  obtain ⟨v14, hv14, hf⟩ := g_s1 hf
  refine g_ki S (g_runS (rest := []) X S (c_X9_isSetting l hN  hv14 _) csX9_isSetting mlX9_156 rfl rfl hl.1 (by decide) ⟨⟨rfl, rfl⟩, ⟨Nat.le_of_ble_eq_true rfl, Nat.le_of_ble_eq_true rfl⟩, Nat.le_of_ble_eq_true rfl, Nat.le_of_ble_eq_true rfl⟩ dX9_number_138) (fun H locs S => ?_)
  refine lv_if_ne (tgt := 154) hx hb dX9_number_141 (by decide) (fun c15 => ?_) (fun c15 => ?_)
  · have hf := (if_neg c15).symm.trans hf
    refine lv_aload_n hx hb dX9_number_154 rfl (lv_at hl 0 rfl) ?_
    refine gfX9_10 X S hN kd_s0 dX9_number_155 ?_
    refine lv_iload_n hx hb dX9_number_158 rfl (lv_at hl 1 rfl) ?_
    obtain ⟨v16, hv16, hf⟩ := g_s1 hf
    refine g_ki S (g_runV (rest := []) X S (c_X3_setting l hN kd_s1 hv16 _) cvX3_setting mlX9_161 (kd_N kd_s1 (by decide) hN) (ceC_3 kd_s1 _) rfl rfl rfl hl.1 (by decide) ⟨⟨rfl, rfl⟩, ⟨Nat.le_of_ble_eq_true rfl, Nat.le_of_ble_eq_true rfl⟩, Nat.le_of_ble_eq_true rfl, Nat.le_of_ble_eq_true rfl⟩ dX9_number_159) (fun H locs S => ?_)
    cases hf
    exact g_xreti X S rfl dX9_number_162 (by decide) (by decide)
  · have hf := (if_pos c15).symm.trans hf
    cases hf
    exact g_throwX hl0 X S hT hl.1 ex_1 st_159 dX9_number_144 dX9_number_147 dX9_number_148 dX9_number_150 dX9_number_153 (by decide) (Nat.le_of_ble_eq_true rfl) (Nat.le_of_ble_eq_true rfl) (Nat.le_of_ble_eq_true rfl) (Nat.le_of_ble_eq_true rfl) (Nat.le_of_ble_eq_true rfl)

noncomputable def f_X9_shot (σ : gSt) (a0 : Int32) : Option (Nat × Int32 × gSt) :=
  (g_k1 (f_X3_hasFrame σ 1 a0) fun v1 => (if v1 = 0 then some (3, 0, σ) else (g_k1 (f_X0_upTo σ (1 + 2) a0) fun v3 => some (0, v3, σ))))
set_option maxRecDepth 100000 in
set_option maxHeartbeats 4000000 in
theorem c_X9_shot (l : Launch) (hl0 : l.stackTraces = false) {Γ : gG} {ad : Nat → Nat} {N : Nat} (hN : 202 ≤ N) {σ : gSt} {a0 : Int32}  {x : Nat} {r : Int32} {σ' : gSt} (hf : f_X9_shot σ a0 = some (x, r, σ')) : gMxi l Γ ad N yX9_shot cX9_shot 2 (some .int) (gR 8 1 6) [.ref (ad 0), .int a0] σ x r σ' 1 6 := by
  intro sz
  refine gOfX (Qc := fun sz => gQcxi Γ ad N x r σ' sz) (XC := fun sz => gXc Γ ad N x σ' sz) RX9 (by decide) rfl (by decide) (fun p e s m args below meth c H locs ls X hT S hl => ?_)
  have hl : lv_has ls 2 [(0, .ref (ad 0)), (1, .int a0)] := hl
  have hx := X.1
  have hb := X.2.1
  unfold f_X9_shot at hf
  refine lv_aload_n hx hb dX9_shot_0 rfl (lv_at hl 0 rfl) ?_
  refine gfX9_10 X S hN kd_s0 dX9_shot_1 ?_
  refine lv_iload_n hx hb dX9_shot_4 rfl (lv_at hl 1 rfl) ?_
  obtain ⟨v1, hv1, hf⟩ := g_s1 hf
  refine g_ki S (g_runV (rest := []) X S (c_X3_hasFrame l hN kd_s1 hv1 _) cvX3_hasFrame mlX9_164 (kd_N kd_s1 (by decide) hN) (ceC_3 kd_s1 _) rfl rfl rfl hl.1 (by decide) ⟨⟨rfl, rfl⟩, ⟨Nat.le_of_ble_eq_true rfl, Nat.le_of_ble_eq_true rfl⟩, Nat.le_of_ble_eq_true rfl, Nat.le_of_ble_eq_true rfl⟩ dX9_shot_5) (fun H locs S => ?_)
  refine lv_if_ne (tgt := 21) hx hb dX9_shot_8 (by decide) (fun c2 => ?_) (fun c2 => ?_)
  · have hf := (if_neg c2).symm.trans hf
    refine lv_aload_n hx hb dX9_shot_21 rfl (lv_at hl 0 rfl) ?_
    refine gfX9_10 X S hN kd_s0 dX9_shot_22 ?_
    refine gfX9_115 X S hN kd_s1 dX9_shot_25 ?_
    refine lv_iload_n hx hb dX9_shot_28 rfl (lv_at hl 1 rfl) ?_
    obtain ⟨v3, hv3, hf⟩ := g_s1 hf
    refine g_ki S (g_runV (rest := []) X S (c_X0_upTo l hN (kd_3_2 kd_s1) hv3 _) cvX0_upTo mlX9_169 (kd_N (kd_3_2 kd_s1) (by decide) hN) (ceC_0 (kd_3_2 kd_s1) _) rfl rfl rfl hl.1 (by decide) ⟨⟨rfl, rfl⟩, ⟨Nat.le_of_ble_eq_true rfl, Nat.le_of_ble_eq_true rfl⟩, Nat.le_of_ble_eq_true rfl, Nat.le_of_ble_eq_true rfl⟩ dX9_shot_29) (fun H locs S => ?_)
    cases hf
    exact g_xreti X S rfl dX9_shot_32 (by decide) (by decide)
  · have hf := (if_pos c2).symm.trans hf
    cases hf
    exact g_throwX hl0 X S hT hl.1 ex_3 st_167 dX9_shot_11 dX9_shot_14 dX9_shot_15 dX9_shot_17 dX9_shot_20 (by decide) (Nat.le_of_ble_eq_true rfl) (Nat.le_of_ble_eq_true rfl) (Nat.le_of_ble_eq_true rfl) (Nat.le_of_ble_eq_true rfl) (Nat.le_of_ble_eq_true rfl)

noncomputable def f_X9_feed (σ : gSt) (a0 : Int32) : Option (Nat × Int32 × gSt) :=
  (g_k2 (f_X7_append σ 187 a0) fun v1 σ2 => (if v1 = 0 then some (4, 0, σ2) else some (0, (σ2 187 1), σ2)))
set_option maxRecDepth 100000 in
set_option maxHeartbeats 4000000 in
theorem c_X9_feed (l : Launch) (hl0 : l.stackTraces = false) {Γ : gG} {ad : Nat → Nat} {N : Nat} (hN : 202 ≤ N) {σ : gSt} {a0 : Int32}  {x : Nat} {r : Int32} {σ' : gSt} (hf : f_X9_feed σ a0 = some (x, r, σ')) : gMxi l Γ ad N yX9_feed cX9_feed 2 (some .int) (gR 8 1 6) [.ref (ad 0), .int a0] σ x r σ' 1 6 := by
  intro sz
  refine gOfX (Qc := fun sz => gQcxi Γ ad N x r σ' sz) (XC := fun sz => gXc Γ ad N x σ' sz) RX9 (by decide) rfl (by decide) (fun p e s m args below meth c H locs ls X hT S hl => ?_)
  have hl : lv_has ls 2 [(0, .ref (ad 0)), (1, .int a0)] := hl
  have hx := X.1
  have hb := X.2.1
  unfold f_X9_feed at hf
  refine lv_aload_n hx hb dX9_feed_0 rfl (lv_at hl 0 rfl) ?_
  refine gfX9_51 X S hN kd_s0 dX9_feed_1 ?_
  refine lv_iload_n hx hb dX9_feed_4 rfl (lv_at hl 1 rfl) ?_
  obtain ⟨v1, σ2, hv1, hf⟩ := g_s2 hf
  refine g_ki S (g_runV (rest := []) X S (c_X7_append l hN kd_s187 hv1 _) cvX7_append mlX9_172 (kd_N kd_s187 (by decide) hN) (ceC_7 kd_s187 _) rfl rfl rfl hl.1 (by decide) ⟨⟨rfl, rfl⟩, ⟨Nat.le_of_ble_eq_true rfl, Nat.le_of_ble_eq_true rfl⟩, Nat.le_of_ble_eq_true rfl, Nat.le_of_ble_eq_true rfl⟩ dX9_feed_5) (fun H locs S => ?_)
  refine lv_if_ne (tgt := 21) hx hb dX9_feed_8 (by decide) (fun c3 => ?_) (fun c3 => ?_)
  · have hf := (if_neg c3).symm.trans hf
    refine lv_aload_n hx hb dX9_feed_21 rfl (lv_at hl 0 rfl) ?_
    refine gfX9_51 X S hN kd_s0 dX9_feed_22 ?_
    refine gfX9_153 X S hN kd_s187 dX9_feed_25 ?_
    cases hf
    exact g_xreti X S rfl dX9_feed_28 (by decide) (by decide)
  · have hf := (if_pos c3).symm.trans hf
    cases hf
    exact g_throwX hl0 X S hT hl.1 ex_4 st_175 dX9_feed_11 dX9_feed_14 dX9_feed_15 dX9_feed_17 dX9_feed_20 (by decide) (Nat.le_of_ble_eq_true rfl) (Nat.le_of_ble_eq_true rfl) (Nat.le_of_ble_eq_true rfl) (Nat.le_of_ble_eq_true rfl) (Nat.le_of_ble_eq_true rfl)

noncomputable def f_X9_requireTrack (σ : gSt) (a0 : Int32) : Option (Nat × gSt) :=
  (g_k1 (f_X9_isTrack σ a0) fun v1 => (if v1 = 0 then some (3, σ) else some (0, σ)))
set_option maxRecDepth 100000 in
set_option maxHeartbeats 4000000 in
theorem c_X9_requireTrack (l : Launch) (hl0 : l.stackTraces = false) {Γ : gG} {ad : Nat → Nat} {N : Nat} (hN : 202 ≤ N) {σ : gSt} {a0 : Int32}  {x : Nat} {σ' : gSt} (hf : f_X9_requireTrack σ a0 = some (x, σ')) : gMxv l Γ ad N yX9_requireTrack cX9_requireTrack 2 none (gR 8 1 6) [.ref (ad 0), .int a0] σ x σ' 1 6 := by
  intro sz
  refine gOfX (Qc := fun sz => gQcxv Γ ad N x σ' sz) (XC := fun sz => gXc Γ ad N x σ' sz) RX9 (by decide) rfl (by decide) (fun p e s m args below meth c H locs ls X hT S hl => ?_)
  have hl : lv_has ls 2 [(0, .ref (ad 0)), (1, .int a0)] := hl
  have hx := X.1
  have hb := X.2.1
  unfold f_X9_requireTrack at hf
  refine lv_iload_n hx hb dX9_requireTrack_0 rfl (lv_at hl 1 rfl) ?_
  obtain ⟨v1, hv1, hf⟩ := g_s1 hf
  refine g_ki S (g_runS (rest := []) X S (c_X9_isTrack l hN  hv1 _) csX9_isTrack mlX9_359 rfl rfl hl.1 (by decide) ⟨⟨rfl, rfl⟩, ⟨Nat.le_of_ble_eq_true rfl, Nat.le_of_ble_eq_true rfl⟩, Nat.le_of_ble_eq_true rfl, Nat.le_of_ble_eq_true rfl⟩ dX9_requireTrack_1) (fun H locs S => ?_)
  refine lv_if_ne (tgt := 18) hx hb dX9_requireTrack_4 (by decide) (fun c2 => ?_) (fun c2 => ?_)
  · have hf := (if_neg c2).symm.trans hf
    cases hf
    exact g_xretv X S dX9_requireTrack_18 (by decide) (by decide)
  · have hf := (if_pos c2).symm.trans hf
    cases hf
    exact g_throwXW hl0 X S hT hl.1 ex_3 st_362 dX9_requireTrack_7 dX9_requireTrack_10 dX9_requireTrack_11 dX9_requireTrack_14 dX9_requireTrack_17 (by decide) (Nat.le_of_ble_eq_true rfl) (Nat.le_of_ble_eq_true rfl) (Nat.le_of_ble_eq_true rfl) (Nat.le_of_ble_eq_true rfl) (Nat.le_of_ble_eq_true rfl)

noncomputable def f_X9_add (σ : gSt) (a0 : Int32) (a1 : Int32) (a2 : Int32) (a3 : Int32) : Option (Nat × Int32 × gSt) :=
  (g_k1 (f_X7_clear σ 189) fun σ1 => (g_k1 (f_X7_appendPart σ1 189 187 (0 : Int32) (σ1 187 1)) fun σ2 => (g_k1 (f_X7_clear σ2 187) fun σ3 => (g_x2 (f_X9_requireTrack σ3 a0) (fun x s => (x, (0 : Int32), s)) fun σ5 => (if a1 < 0 then some (1, 0, σ5) else (if a1 ≤ (2 : Int32) then (g_k1 (f_X3_addRefusal σ5 1 a0 a2 a3 189) fun v8 => (g_x2 (f_X9_passOrRefuse σ5 v8) (fun x s => (x, (0 : Int32), s)) fun σ10 => (g_k1 (f_X4_keep σ10 1) fun σ11 => (g_k1 (f_X3_trackOf σ11 1 a0) fun v12 => (g_k2 (f_X8_insertCaption σ11 v12 a1 a2 a3 189) fun v13 σ14 => some (0, v13, σ14)))))) else some (1, 0, σ5)))))))
set_option maxRecDepth 100000 in
set_option maxHeartbeats 4000000 in
theorem c_X9_add (l : Launch) (hl0 : l.stackTraces = false) {Γ : gG} {ad : Nat → Nat} {N : Nat} (hN : 202 ≤ N) {σ : gSt} {a0 : Int32} {a1 : Int32} {a2 : Int32} {a3 : Int32}  {x : Nat} {r : Int32} {σ' : gSt} (hf : f_X9_add σ a0 a1 a2 a3 = some (x, r, σ')) : gMxi l Γ ad N yX9_add cX9_add 5 (some .int) (gR 9 2 12) [.ref (ad 0), .int a0, .int a1, .int a2, .int a3] σ x r σ' 2 12 := by
  intro sz
  refine gOfX (Qc := fun sz => gQcxi Γ ad N x r σ' sz) (XC := fun sz => gXc Γ ad N x σ' sz) RX9 (by decide) rfl (by decide) (fun p e s m args below meth c H locs ls X hT S hl => ?_)
  have hl : lv_has ls 5 [(0, .ref (ad 0)), (1, .int a0), (2, .int a1), (3, .int a2), (4, .int a3)] := hl
  have hx := X.1
  have hb := X.2.1
  unfold f_X9_add at hf
  refine lv_aload_n hx hb dX9_add_0 rfl (lv_at hl 0 rfl) ?_
  refine gfX9_55 X S hN kd_s0 dX9_add_1 ?_
  obtain ⟨σ1, hσ1, hf⟩ := g_s1 hf
  refine g_kv S (g_runV (rest := []) X S (c_X7_clear l hN kd_s189 hσ1 _) cvX7_clear mlX9_177 (kd_N kd_s189 (by decide) hN) (ceC_7 kd_s189 _) rfl rfl rfl hl.1 (by decide) ⟨⟨rfl, rfl⟩, ⟨Nat.le_of_ble_eq_true rfl, Nat.le_of_ble_eq_true rfl⟩, Nat.le_of_ble_eq_true rfl, Nat.le_of_ble_eq_true rfl⟩ dX9_add_4) (fun H locs S => ?_)
  refine lv_aload_n hx hb dX9_add_7 rfl (lv_at hl 0 rfl) ?_
  refine gfX9_55 X S hN kd_s0 dX9_add_8 ?_
  refine lv_aload_n hx hb dX9_add_11 rfl (lv_at hl 0 rfl) ?_
  refine gfX9_51 X S hN kd_s0 dX9_add_12 ?_
  refine lv_iconst (v := (0 : Int32)) hx hb dX9_add_15 (by decide) ?_
  refine lv_aload_n hx hb dX9_add_16 rfl (lv_at hl 0 rfl) ?_
  refine gfX9_51 X S hN kd_s0 dX9_add_17 ?_
  refine gfX9_153 X S hN kd_s187 dX9_add_20 ?_
  obtain ⟨σ2, hσ2, hf⟩ := g_s1 hf
  refine g_kv S (g_runV (rest := []) X S (c_X7_appendPart l hN kd_s189 kd_s187 hσ2 _) cvX7_appendPart mlX9_180 (kd_N kd_s189 (by decide) hN) (ceC_7 kd_s189 _) rfl rfl rfl hl.1 (by decide) ⟨⟨rfl, rfl⟩, ⟨Nat.le_of_ble_eq_true rfl, Nat.le_of_ble_eq_true rfl⟩, Nat.le_of_ble_eq_true rfl, Nat.le_of_ble_eq_true rfl⟩ dX9_add_23) (fun H locs S => ?_)
  refine lv_aload_n hx hb dX9_add_26 rfl (lv_at hl 0 rfl) ?_
  refine gfX9_51 X S hN kd_s0 dX9_add_27 ?_
  obtain ⟨σ3, hσ3, hf⟩ := g_s1 hf
  refine g_kv S (g_runV (rest := []) X S (c_X7_clear l hN kd_s187 hσ3 _) cvX7_clear mlX9_177 (kd_N kd_s187 (by decide) hN) (ceC_7 kd_s187 _) rfl rfl rfl hl.1 (by decide) ⟨⟨rfl, rfl⟩, ⟨Nat.le_of_ble_eq_true rfl, Nat.le_of_ble_eq_true rfl⟩, Nat.le_of_ble_eq_true rfl, Nat.le_of_ble_eq_true rfl⟩ dX9_add_30) (fun H locs S => ?_)
  refine lv_aload_n hx hb dX9_add_33 rfl (lv_at hl 0 rfl) ?_
  refine lv_iload_n hx hb dX9_add_34 rfl (lv_at hl 1 rfl) ?_
  obtain ⟨x4, σ5, hx4, hf, hfx⟩ := g_sx2 hf
  refine g_kxG S X hT (g_xrunV (rest := []) X S (c_X9_requireTrack l hl0 hN  hx4 _) cvX9_requireTrack mlX9_184 (kd_N kd_s0 (by decide) hN) (ceC_9 kd_s0 _) rfl rfl rfl hl.1 (by decide) ⟨⟨rfl, rfl⟩, ⟨Nat.le_of_ble_eq_true rfl, Nat.le_of_ble_eq_true rfl⟩, Nat.le_of_ble_eq_true rfl, Nat.le_of_ble_eq_true rfl⟩ dX9_add_35) (fun h0 => by have h9 := hfx h0; cases h9; exact ⟨rfl, rfl⟩) (by decide) (by decide) (fun h0 H locs S => ?_)
  have hf := hf h0
  refine lv_iload_n hx hb dX9_add_38 rfl (lv_at hl 2 rfl) ?_
  refine lv_if_lt (tgt := 47) hx hb dX9_add_39 (by decide) (fun c6 => ?_) (fun c6 => ?_)
  · have hf := (if_pos c6).symm.trans hf
    cases hf
    exact g_throwX hl0 X S hT hl.1 ex_1 st_187 dX9_add_47 dX9_add_50 dX9_add_51 dX9_add_53 dX9_add_56 (by decide) (Nat.le_of_ble_eq_true rfl) (Nat.le_of_ble_eq_true rfl) (Nat.le_of_ble_eq_true rfl) (Nat.le_of_ble_eq_true rfl) (Nat.le_of_ble_eq_true rfl)
  · have hf := (if_neg c6).symm.trans hf
    refine lv_iload_n hx hb dX9_add_42 rfl (lv_at hl 2 rfl) ?_
    refine lv_iconst (v := (2 : Int32)) hx hb dX9_add_43 (by decide) ?_
    refine lv_icmp_le (tgt := 57) hx hb dX9_add_44 (by decide) (fun c7 => ?_) (fun c7 => ?_)
    · have hf := (if_pos c7).symm.trans hf
      refine lv_aload_n hx hb dX9_add_57 rfl (lv_at hl 0 rfl) ?_
      refine lv_aload_n hx hb dX9_add_58 rfl (lv_at hl 0 rfl) ?_
      refine gfX9_10 X S hN kd_s0 dX9_add_59 ?_
      refine lv_iload_n hx hb dX9_add_62 rfl (lv_at hl 1 rfl) ?_
      refine lv_iload_n hx hb dX9_add_63 rfl (lv_at hl 3 rfl) ?_
      refine lv_iload hx hb dX9_add_64 (lv_at hl 4 rfl) ?_
      refine lv_aload_n hx hb dX9_add_66 rfl (lv_at hl 0 rfl) ?_
      refine gfX9_55 X S hN kd_s0 dX9_add_67 ?_
      obtain ⟨v8, hv8, hf⟩ := g_s1 hf
      refine g_ki S (g_runV (rest := [.ref (ad 0)]) X S (c_X3_addRefusal l hN kd_s1 kd_s189 hv8 _) cvX3_addRefusal mlX9_189 (kd_N kd_s1 (by decide) hN) (ceC_3 kd_s1 _) rfl rfl rfl hl.1 (by decide) ⟨⟨rfl, rfl⟩, ⟨Nat.le_of_ble_eq_true rfl, Nat.le_of_ble_eq_true rfl⟩, Nat.le_of_ble_eq_true rfl, Nat.le_of_ble_eq_true rfl⟩ dX9_add_70) (fun H locs S => ?_)
      obtain ⟨x9, σ10, hx9, hf, hfx⟩ := g_sx2 hf
      refine g_kxG S X hT (g_xrunV (rest := []) X S (c_X9_passOrRefuse l hl0 hN  hx9 _) cvX9_passOrRefuse mlX9_86 (kd_N kd_s0 (by decide) hN) (ceC_9 kd_s0 _) rfl rfl rfl hl.1 (by decide) ⟨⟨rfl, rfl⟩, ⟨Nat.le_of_ble_eq_true rfl, Nat.le_of_ble_eq_true rfl⟩, Nat.le_of_ble_eq_true rfl, Nat.le_of_ble_eq_true rfl⟩ dX9_add_73) (fun h0 => by have h9 := hfx h0; cases h9; exact ⟨rfl, rfl⟩) (by decide) (by decide) (fun h0 H locs S => ?_)
      have hf := hf h0
      refine lv_aload_n hx hb dX9_add_76 rfl (lv_at hl 0 rfl) ?_
      refine gfX9_37 X S hN kd_s0 dX9_add_77 ?_
      refine lv_aload_n hx hb dX9_add_80 rfl (lv_at hl 0 rfl) ?_
      refine gfX9_10 X S hN kd_s0 dX9_add_81 ?_
      obtain ⟨σ11, hσ11, hf⟩ := g_s1 hf
      refine g_kv S (g_runV (rest := []) X S (c_X4_keep l hN kd_s1 hσ11 _) cvX4_keep mlX9_90 (kd_N kd_s25 (by decide) hN) (ceC_4 kd_s25 _) rfl rfl rfl hl.1 (by decide) ⟨⟨rfl, rfl⟩, ⟨Nat.le_of_ble_eq_true rfl, Nat.le_of_ble_eq_true rfl⟩, Nat.le_of_ble_eq_true rfl, Nat.le_of_ble_eq_true rfl⟩ dX9_add_84) (fun H locs S => ?_)
      refine lv_aload_n hx hb dX9_add_87 rfl (lv_at hl 0 rfl) ?_
      refine gfX9_10 X S hN kd_s0 dX9_add_88 ?_
      refine lv_iload_n hx hb dX9_add_91 rfl (lv_at hl 1 rfl) ?_
      obtain ⟨v12, hv12, hf⟩ := g_s1 hf
      refine g_kr S (g_runV (rest := []) X S (c_X3_trackOf l hN kd_s1 hv12 _) cvX3_trackOf mlX9_138 (kd_N kd_s1 (by decide) hN) (ceC_3 kd_s1 _) rfl rfl rfl hl.1 (by decide) ⟨⟨rfl, rfl⟩, ⟨Nat.le_of_ble_eq_true rfl, Nat.le_of_ble_eq_true rfl⟩, Nat.le_of_ble_eq_true rfl, Nat.le_of_ble_eq_true rfl⟩ dX9_add_92) (fun H locs S => ?_)
      have hkv12 : gkd v12 = 8 := kr_X3_trackOf kd_s1 hv12
      refine lv_iload_n hx hb dX9_add_95 rfl (lv_at hl 2 rfl) ?_
      refine lv_iload_n hx hb dX9_add_96 rfl (lv_at hl 3 rfl) ?_
      refine lv_iload hx hb dX9_add_97 (lv_at hl 4 rfl) ?_
      refine lv_aload_n hx hb dX9_add_99 rfl (lv_at hl 0 rfl) ?_
      refine gfX9_55 X S hN kd_s0 dX9_add_100 ?_
      obtain ⟨v13, σ14, hv13, hf⟩ := g_s2 hf
      refine g_ki S (g_runV (rest := []) X S (c_X8_insertCaption l hN hkv12 kd_s189 hv13 _) cvX8_insertCaption mlX9_193 (kd_N hkv12 (by decide) hN) (ceC_8 hkv12 _) rfl rfl rfl hl.1 (by decide) ⟨⟨rfl, rfl⟩, ⟨Nat.le_of_ble_eq_true rfl, Nat.le_of_ble_eq_true rfl⟩, Nat.le_of_ble_eq_true rfl, Nat.le_of_ble_eq_true rfl⟩ dX9_add_103) (fun H locs S => ?_)
      cases hf
      exact g_xreti X S rfl dX9_add_106 (by decide) (by decide)
    · have hf := (if_neg c7).symm.trans hf
      cases hf
      exact g_throwX hl0 X S hT hl.1 ex_1 st_187 dX9_add_47 dX9_add_50 dX9_add_51 dX9_add_53 dX9_add_56 (by decide) (Nat.le_of_ble_eq_true rfl) (Nat.le_of_ble_eq_true rfl) (Nat.le_of_ble_eq_true rfl) (Nat.le_of_ble_eq_true rfl) (Nat.le_of_ble_eq_true rfl)

noncomputable def f_X9_requireCaption (σ : gSt) (a0 : Int32) (a1 : Int32) : Option (Nat × gSt) :=
  (g_x2 (f_X9_requireTrack σ a0) (fun x s => (x, s)) fun σ2 => (g_k1 (f_X3_trackOf σ2 1 a0) fun v3 => (g_k1 (f_X8_has σ2 v3 a1) fun v4 => (if v4 = 0 then some (3, σ2) else some (0, σ2)))))
set_option maxRecDepth 100000 in
set_option maxHeartbeats 4000000 in
theorem c_X9_requireCaption (l : Launch) (hl0 : l.stackTraces = false) {Γ : gG} {ad : Nat → Nat} {N : Nat} (hN : 202 ≤ N) {σ : gSt} {a0 : Int32} {a1 : Int32}  {x : Nat} {σ' : gSt} (hf : f_X9_requireCaption σ a0 a1 = some (x, σ')) : gMxv l Γ ad N yX9_requireCaption cX9_requireCaption 3 none (gR 9 2 12) [.ref (ad 0), .int a0, .int a1] σ x σ' 2 12 := by
  intro sz
  refine gOfX (Qc := fun sz => gQcxv Γ ad N x σ' sz) (XC := fun sz => gXc Γ ad N x σ' sz) RX9 (by decide) rfl (by decide) (fun p e s m args below meth c H locs ls X hT S hl => ?_)
  have hl : lv_has ls 3 [(0, .ref (ad 0)), (1, .int a0), (2, .int a1)] := hl
  have hx := X.1
  have hb := X.2.1
  unfold f_X9_requireCaption at hf
  refine lv_aload_n hx hb dX9_requireCaption_0 rfl (lv_at hl 0 rfl) ?_
  refine lv_iload_n hx hb dX9_requireCaption_1 rfl (lv_at hl 1 rfl) ?_
  obtain ⟨x1, σ2, hx1, hf, hfx⟩ := g_sx2 hf
  refine g_kxG S X hT (g_xrunV (rest := []) X S (c_X9_requireTrack l hl0 hN  hx1 _) cvX9_requireTrack mlX9_184 (kd_N kd_s0 (by decide) hN) (ceC_9 kd_s0 _) rfl rfl rfl hl.1 (by decide) ⟨⟨rfl, rfl⟩, ⟨Nat.le_of_ble_eq_true rfl, Nat.le_of_ble_eq_true rfl⟩, Nat.le_of_ble_eq_true rfl, Nat.le_of_ble_eq_true rfl⟩ dX9_requireCaption_2) (fun h0 => by have h9 := hfx h0; cases h9; exact ⟨rfl, rfl⟩) (by decide) (by decide) (fun h0 H locs S => ?_)
  have hf := hf h0
  refine lv_aload_n hx hb dX9_requireCaption_5 rfl (lv_at hl 0 rfl) ?_
  refine gfX9_10 X S hN kd_s0 dX9_requireCaption_6 ?_
  refine lv_iload_n hx hb dX9_requireCaption_9 rfl (lv_at hl 1 rfl) ?_
  obtain ⟨v3, hv3, hf⟩ := g_s1 hf
  refine g_kr S (g_runV (rest := []) X S (c_X3_trackOf l hN kd_s1 hv3 _) cvX3_trackOf mlX9_138 (kd_N kd_s1 (by decide) hN) (ceC_3 kd_s1 _) rfl rfl rfl hl.1 (by decide) ⟨⟨rfl, rfl⟩, ⟨Nat.le_of_ble_eq_true rfl, Nat.le_of_ble_eq_true rfl⟩, Nat.le_of_ble_eq_true rfl, Nat.le_of_ble_eq_true rfl⟩ dX9_requireCaption_10) (fun H locs S => ?_)
  have hkv3 : gkd v3 = 8 := kr_X3_trackOf kd_s1 hv3
  refine lv_iload_n hx hb dX9_requireCaption_13 rfl (lv_at hl 2 rfl) ?_
  obtain ⟨v4, hv4, hf⟩ := g_s1 hf
  refine g_ki S (g_runV (rest := []) X S (c_X8_has l hN hkv3 hv4 _) cvX8_has mlX9_364 (kd_N hkv3 (by decide) hN) (ceC_8 hkv3 _) rfl rfl rfl hl.1 (by decide) ⟨⟨rfl, rfl⟩, ⟨Nat.le_of_ble_eq_true rfl, Nat.le_of_ble_eq_true rfl⟩, Nat.le_of_ble_eq_true rfl, Nat.le_of_ble_eq_true rfl⟩ dX9_requireCaption_14) (fun H locs S => ?_)
  refine lv_if_ne (tgt := 31) hx hb dX9_requireCaption_17 (by decide) (fun c5 => ?_) (fun c5 => ?_)
  · have hf := (if_neg c5).symm.trans hf
    cases hf
    exact g_xretv X S dX9_requireCaption_31 (by decide) (by decide)
  · have hf := (if_pos c5).symm.trans hf
    cases hf
    exact g_throwXW hl0 X S hT hl.1 ex_3 st_367 dX9_requireCaption_20 dX9_requireCaption_23 dX9_requireCaption_24 dX9_requireCaption_27 dX9_requireCaption_30 (by decide) (Nat.le_of_ble_eq_true rfl) (Nat.le_of_ble_eq_true rfl) (Nat.le_of_ble_eq_true rfl) (Nat.le_of_ble_eq_true rfl) (Nat.le_of_ble_eq_true rfl)

noncomputable def f_X9_remove (σ : gSt) (a0 : Int32) (a1 : Int32) : Option (Nat × Int32 × gSt) :=
  (g_x2 (f_X9_requireCaption σ a0 a1) (fun x s => (x, (0 : Int32), s)) fun σ2 => (g_k1 (f_X4_keep σ2 1) fun σ3 => (g_k1 (f_X3_trackOf σ3 1 a0) fun v4 => (g_k1 (f_X8_closeRow σ3 v4 a1) fun σ5 => some (0, (σ5 v4 5), σ5)))))
set_option maxRecDepth 100000 in
set_option maxHeartbeats 4000000 in
theorem c_X9_remove (l : Launch) (hl0 : l.stackTraces = false) {Γ : gG} {ad : Nat → Nat} {N : Nat} (hN : 202 ≤ N) {σ : gSt} {a0 : Int32} {a1 : Int32}  {x : Nat} {r : Int32} {σ' : gSt} (hf : f_X9_remove σ a0 a1 = some (x, r, σ')) : gMxi l Γ ad N yX9_remove cX9_remove 4 (some .int) (gR 10 2 12) [.ref (ad 0), .int a0, .int a1] σ x r σ' 2 12 := by
  intro sz
  refine gOfX (Qc := fun sz => gQcxi Γ ad N x r σ' sz) (XC := fun sz => gXc Γ ad N x σ' sz) RX9 (by decide) rfl (by decide) (fun p e s m args below meth c H locs ls X hT S hl => ?_)
  have hl : lv_has ls 4 [(3, .ref (ad v4)), (0, .ref (ad 0)), (1, .int a0), (2, .int a1)] := hl
  have hx := X.1
  have hb := X.2.1
  unfold f_X9_remove at hf
  refine lv_aload_n hx hb dX9_remove_0 rfl (lv_at hl 0 rfl) ?_
  refine lv_iload_n hx hb dX9_remove_1 rfl (lv_at hl 1 rfl) ?_
  refine lv_iload_n hx hb dX9_remove_2 rfl (lv_at hl 2 rfl) ?_
  obtain ⟨x1, σ2, hx1, hf, hfx⟩ := g_sx2 hf
  refine g_kxG S X hT (g_xrunV (rest := []) X S (c_X9_requireCaption l hl0 hN  hx1 _) cvX9_requireCaption mlX9_196 (kd_N kd_s0 (by decide) hN) (ceC_9 kd_s0 _) rfl rfl rfl hl.1 (by decide) ⟨⟨rfl, rfl⟩, ⟨Nat.le_of_ble_eq_true rfl, Nat.le_of_ble_eq_true rfl⟩, Nat.le_of_ble_eq_true rfl, Nat.le_of_ble_eq_true rfl⟩ dX9_remove_3) (fun h0 => by have h9 := hfx h0; cases h9; exact ⟨rfl, rfl⟩) (by decide) (by decide) (fun h0 H locs S => ?_)
  have hf := hf h0
  refine lv_aload_n hx hb dX9_remove_6 rfl (lv_at hl 0 rfl) ?_
  refine gfX9_37 X S hN kd_s0 dX9_remove_7 ?_
  refine lv_aload_n hx hb dX9_remove_10 rfl (lv_at hl 0 rfl) ?_
  refine gfX9_10 X S hN kd_s0 dX9_remove_11 ?_
  obtain ⟨σ3, hσ3, hf⟩ := g_s1 hf
  refine g_kv S (g_runV (rest := []) X S (c_X4_keep l hN kd_s1 hσ3 _) cvX4_keep mlX9_90 (kd_N kd_s25 (by decide) hN) (ceC_4 kd_s25 _) rfl rfl rfl hl.1 (by decide) ⟨⟨rfl, rfl⟩, ⟨Nat.le_of_ble_eq_true rfl, Nat.le_of_ble_eq_true rfl⟩, Nat.le_of_ble_eq_true rfl, Nat.le_of_ble_eq_true rfl⟩ dX9_remove_14) (fun H locs S => ?_)
  refine lv_aload_n hx hb dX9_remove_17 rfl (lv_at hl 0 rfl) ?_
  refine gfX9_10 X S hN kd_s0 dX9_remove_18 ?_
  refine lv_iload_n hx hb dX9_remove_21 rfl (lv_at hl 1 rfl) ?_
  obtain ⟨v4, hv4, hf⟩ := g_s1 hf
  refine g_kr S (g_runV (rest := []) X S (c_X3_trackOf l hN kd_s1 hv4 _) cvX3_trackOf mlX9_138 (kd_N kd_s1 (by decide) hN) (ceC_3 kd_s1 _) rfl rfl rfl hl.1 (by decide) ⟨⟨rfl, rfl⟩, ⟨Nat.le_of_ble_eq_true rfl, Nat.le_of_ble_eq_true rfl⟩, Nat.le_of_ble_eq_true rfl, Nat.le_of_ble_eq_true rfl⟩ dX9_remove_22) (fun H locs S => ?_)
  have hkv4 : gkd v4 = 8 := kr_X3_trackOf kd_s1 hv4
  refine lv_astore_n (lv' := [(3, .ref (ad v4)), (0, .ref (ad 0)), (1, .int a0), (2, .int a1)]) hx hb dX9_remove_25 rfl hl (by decide) rfl (fun ls hl => ?_)
  refine lv_aload_n hx hb dX9_remove_26 rfl (lv_at hl 0 rfl) ?_
  refine lv_iload_n hx hb dX9_remove_27 rfl (lv_at hl 3 rfl) ?_
  obtain ⟨σ5, hσ5, hf⟩ := g_s1 hf
  refine g_kv S (g_runV (rest := []) X S (c_X8_closeRow l hN hkv4 hσ5 _) cvX8_closeRow mlX9_200 (kd_N hkv4 (by decide) hN) (ceC_8 hkv4 _) rfl rfl rfl hl.1 (by decide) ⟨⟨rfl, rfl⟩, ⟨Nat.le_of_ble_eq_true rfl, Nat.le_of_ble_eq_true rfl⟩, Nat.le_of_ble_eq_true rfl, Nat.le_of_ble_eq_true rfl⟩ dX9_remove_28) (fun H locs S => ?_)
  refine lv_aload_n hx hb dX9_remove_31 rfl (lv_at hl 0 rfl) ?_
  refine gfX9_142 X S hN hkv4 dX9_remove_32 ?_
  cases hf
  exact g_xreti X S rfl dX9_remove_35 (by decide) (by decide)

noncomputable def f_X9_move (σ : gSt) (a0 : Int32) (a1 : Int32) (a2 : Int32) (a3 : Int32) : Option (Nat × Int32 × gSt) :=
  (g_x2 (f_X9_requireCaption σ a0 a1) (fun x s => (x, (0 : Int32), s)) fun σ2 => (g_k1 (f_X3_placeRefusal σ2 1 a0 a1 a2 a3) fun v3 => (g_x2 (f_X9_passOrRefuse σ2 v3) (fun x s => (x, (0 : Int32), s)) fun σ5 => (g_k1 (f_X4_keep σ5 1) fun σ6 => (g_k2 (f_X1_placeCaption σ6 a0 a1 a2 a3) fun v7 σ8 => some (0, v7, σ8))))))
set_option maxRecDepth 100000 in
set_option maxHeartbeats 4000000 in
theorem c_X9_move (l : Launch) (hl0 : l.stackTraces = false) {Γ : gG} {ad : Nat → Nat} {N : Nat} (hN : 202 ≤ N) {σ : gSt} {a0 : Int32} {a1 : Int32} {a2 : Int32} {a3 : Int32}  {x : Nat} {r : Int32} {σ' : gSt} (hf : f_X9_move σ a0 a1 a2 a3 = some (x, r, σ')) : gMxi l Γ ad N yX9_move cX9_move 5 (some .int) (gR 10 3 18) [.ref (ad 0), .int a0, .int a1, .int a2, .int a3] σ x r σ' 3 18 := by
  intro sz
  refine gOfX (Qc := fun sz => gQcxi Γ ad N x r σ' sz) (XC := fun sz => gXc Γ ad N x σ' sz) RX9 (by decide) rfl (by decide) (fun p e s m args below meth c H locs ls X hT S hl => ?_)
  have hl : lv_has ls 5 [(0, .ref (ad 0)), (1, .int a0), (2, .int a1), (3, .int a2), (4, .int a3)] := hl
  have hx := X.1
  have hb := X.2.1
  unfold f_X9_move at hf
  refine lv_aload_n hx hb dX9_move_0 rfl (lv_at hl 0 rfl) ?_
  refine lv_iload_n hx hb dX9_move_1 rfl (lv_at hl 1 rfl) ?_
  refine lv_iload_n hx hb dX9_move_2 rfl (lv_at hl 2 rfl) ?_
  obtain ⟨x1, σ2, hx1, hf, hfx⟩ := g_sx2 hf
  refine g_kxG S X hT (g_xrunV (rest := []) X S (c_X9_requireCaption l hl0 hN  hx1 _) cvX9_requireCaption mlX9_196 (kd_N kd_s0 (by decide) hN) (ceC_9 kd_s0 _) rfl rfl rfl hl.1 (by decide) ⟨⟨rfl, rfl⟩, ⟨Nat.le_of_ble_eq_true rfl, Nat.le_of_ble_eq_true rfl⟩, Nat.le_of_ble_eq_true rfl, Nat.le_of_ble_eq_true rfl⟩ dX9_move_3) (fun h0 => by have h9 := hfx h0; cases h9; exact ⟨rfl, rfl⟩) (by decide) (by decide) (fun h0 H locs S => ?_)
  have hf := hf h0
  refine lv_aload_n hx hb dX9_move_6 rfl (lv_at hl 0 rfl) ?_
  refine lv_aload_n hx hb dX9_move_7 rfl (lv_at hl 0 rfl) ?_
  refine gfX9_10 X S hN kd_s0 dX9_move_8 ?_
  refine lv_iload_n hx hb dX9_move_11 rfl (lv_at hl 1 rfl) ?_
  refine lv_iload_n hx hb dX9_move_12 rfl (lv_at hl 2 rfl) ?_
  refine lv_iload_n hx hb dX9_move_13 rfl (lv_at hl 3 rfl) ?_
  refine lv_iload hx hb dX9_move_14 (lv_at hl 4 rfl) ?_
  obtain ⟨v3, hv3, hf⟩ := g_s1 hf
  refine g_ki S (g_runV (rest := [.ref (ad 0)]) X S (c_X3_placeRefusal l hN kd_s1 hv3 _) cvX3_placeRefusal mlX9_203 (kd_N kd_s1 (by decide) hN) (ceC_3 kd_s1 _) rfl rfl rfl hl.1 (by decide) ⟨⟨rfl, rfl⟩, ⟨Nat.le_of_ble_eq_true rfl, Nat.le_of_ble_eq_true rfl⟩, Nat.le_of_ble_eq_true rfl, Nat.le_of_ble_eq_true rfl⟩ dX9_move_16) (fun H locs S => ?_)
  obtain ⟨x4, σ5, hx4, hf, hfx⟩ := g_sx2 hf
  refine g_kxG S X hT (g_xrunV (rest := []) X S (c_X9_passOrRefuse l hl0 hN  hx4 _) cvX9_passOrRefuse mlX9_86 (kd_N kd_s0 (by decide) hN) (ceC_9 kd_s0 _) rfl rfl rfl hl.1 (by decide) ⟨⟨rfl, rfl⟩, ⟨Nat.le_of_ble_eq_true rfl, Nat.le_of_ble_eq_true rfl⟩, Nat.le_of_ble_eq_true rfl, Nat.le_of_ble_eq_true rfl⟩ dX9_move_19) (fun h0 => by have h9 := hfx h0; cases h9; exact ⟨rfl, rfl⟩) (by decide) (by decide) (fun h0 H locs S => ?_)
  have hf := hf h0
  refine lv_aload_n hx hb dX9_move_22 rfl (lv_at hl 0 rfl) ?_
  refine gfX9_37 X S hN kd_s0 dX9_move_23 ?_
  refine lv_aload_n hx hb dX9_move_26 rfl (lv_at hl 0 rfl) ?_
  refine gfX9_10 X S hN kd_s0 dX9_move_27 ?_
  obtain ⟨σ6, hσ6, hf⟩ := g_s1 hf
  refine g_kv S (g_runV (rest := []) X S (c_X4_keep l hN kd_s1 hσ6 _) cvX4_keep mlX9_90 (kd_N kd_s25 (by decide) hN) (ceC_4 kd_s25 _) rfl rfl rfl hl.1 (by decide) ⟨⟨rfl, rfl⟩, ⟨Nat.le_of_ble_eq_true rfl, Nat.le_of_ble_eq_true rfl⟩, Nat.le_of_ble_eq_true rfl, Nat.le_of_ble_eq_true rfl⟩ dX9_move_30) (fun H locs S => ?_)
  refine lv_aload_n hx hb dX9_move_33 rfl (lv_at hl 0 rfl) ?_
  refine gfX9_30 X S hN kd_s0 dX9_move_34 ?_
  refine lv_iload_n hx hb dX9_move_37 rfl (lv_at hl 1 rfl) ?_
  refine lv_iload_n hx hb dX9_move_38 rfl (lv_at hl 2 rfl) ?_
  refine lv_iload_n hx hb dX9_move_39 rfl (lv_at hl 3 rfl) ?_
  refine lv_iload hx hb dX9_move_40 (lv_at hl 4 rfl) ?_
  obtain ⟨v7, σ8, hv7, hf⟩ := g_s2 hf
  refine g_ki S (g_runV (rest := []) X S (c_X1_placeCaption l hN  hv7 _) cvX1_placeCaption mlX9_207 (kd_N kd_s20 (by decide) hN) (ceC_1 kd_s20 _) rfl rfl rfl hl.1 (by decide) ⟨⟨rfl, rfl⟩, ⟨Nat.le_of_ble_eq_true rfl, Nat.le_of_ble_eq_true rfl⟩, Nat.le_of_ble_eq_true rfl, Nat.le_of_ble_eq_true rfl⟩ dX9_move_42) (fun H locs S => ?_)
  cases hf
  exact g_xreti X S rfl dX9_move_45 (by decide) (by decide)

noncomputable def f_X9_split (σ : gSt) (a0 : Int32) (a1 : Int32) (a2 : Int32) : Option (Nat × Int32 × gSt) :=
  (g_x2 (f_X9_requireCaption σ a0 a1) (fun x s => (x, (0 : Int32), s)) fun σ2 => (if a2 < 0 then some (3, 0, σ2) else (g_k1 (f_X3_trackOf σ2 1 a0) fun v4 => (g_k1 (f_X8_size σ2 v4 a1) fun v5 => (if a2 < v5 then (g_k2 (f_X1_splitRefusal σ2 a0 a1 a2) fun v7 σ8 => (g_x2 (f_X9_passOrRefuse σ8 v7) (fun x s => (x, (0 : Int32), s)) fun σ10 => (g_k1 (f_X4_keep σ10 1) fun σ11 => (g_k2 (f_X1_splitCaption σ11 a0 a1 a2) fun v12 σ13 => some (0, v12, σ13))))) else some (3, 0, σ2))))))
set_option maxRecDepth 100000 in
set_option maxHeartbeats 4000000 in
theorem c_X9_split (l : Launch) (hl0 : l.stackTraces = false) {Γ : gG} {ad : Nat → Nat} {N : Nat} (hN : 202 ≤ N) {σ : gSt} {a0 : Int32} {a1 : Int32} {a2 : Int32}  {x : Nat} {r : Int32} {σ' : gSt} (hf : f_X9_split σ a0 a1 a2 = some (x, r, σ')) : gMxi l Γ ad N yX9_split cX9_split 4 (some .int) (gR 10 3 18) [.ref (ad 0), .int a0, .int a1, .int a2] σ x r σ' 3 18 := by
  intro sz
  refine gOfX (Qc := fun sz => gQcxi Γ ad N x r σ' sz) (XC := fun sz => gXc Γ ad N x σ' sz) RX9 (by decide) rfl (by decide) (fun p e s m args below meth c H locs ls X hT S hl => ?_)
  have hl : lv_has ls 4 [(0, .ref (ad 0)), (1, .int a0), (2, .int a1), (3, .int a2)] := hl
  have hx := X.1
  have hb := X.2.1
  unfold f_X9_split at hf
  refine lv_aload_n hx hb dX9_split_0 rfl (lv_at hl 0 rfl) ?_
  refine lv_iload_n hx hb dX9_split_1 rfl (lv_at hl 1 rfl) ?_
  refine lv_iload_n hx hb dX9_split_2 rfl (lv_at hl 2 rfl) ?_
  obtain ⟨x1, σ2, hx1, hf, hfx⟩ := g_sx2 hf
  refine g_kxG S X hT (g_xrunV (rest := []) X S (c_X9_requireCaption l hl0 hN  hx1 _) cvX9_requireCaption mlX9_196 (kd_N kd_s0 (by decide) hN) (ceC_9 kd_s0 _) rfl rfl rfl hl.1 (by decide) ⟨⟨rfl, rfl⟩, ⟨Nat.le_of_ble_eq_true rfl, Nat.le_of_ble_eq_true rfl⟩, Nat.le_of_ble_eq_true rfl, Nat.le_of_ble_eq_true rfl⟩ dX9_split_3) (fun h0 => by have h9 := hfx h0; cases h9; exact ⟨rfl, rfl⟩) (by decide) (by decide) (fun h0 H locs S => ?_)
  have hf := hf h0
  refine lv_iload_n hx hb dX9_split_6 rfl (lv_at hl 3 rfl) ?_
  refine lv_if_lt (tgt := 26) hx hb dX9_split_7 (by decide) (fun c3 => ?_) (fun c3 => ?_)
  · have hf := (if_pos c3).symm.trans hf
    cases hf
    exact g_throwX hl0 X S hT hl.1 ex_3 st_212 dX9_split_26 dX9_split_29 dX9_split_30 dX9_split_32 dX9_split_35 (by decide) (Nat.le_of_ble_eq_true rfl) (Nat.le_of_ble_eq_true rfl) (Nat.le_of_ble_eq_true rfl) (Nat.le_of_ble_eq_true rfl) (Nat.le_of_ble_eq_true rfl)
  · have hf := (if_neg c3).symm.trans hf
    refine lv_iload_n hx hb dX9_split_10 rfl (lv_at hl 3 rfl) ?_
    refine lv_aload_n hx hb dX9_split_11 rfl (lv_at hl 0 rfl) ?_
    refine gfX9_10 X S hN kd_s0 dX9_split_12 ?_
    refine lv_iload_n hx hb dX9_split_15 rfl (lv_at hl 1 rfl) ?_
    obtain ⟨v4, hv4, hf⟩ := g_s1 hf
    refine g_kr S (g_runV (rest := [.int a2]) X S (c_X3_trackOf l hN kd_s1 hv4 _) cvX3_trackOf mlX9_138 (kd_N kd_s1 (by decide) hN) (ceC_3 kd_s1 _) rfl rfl rfl hl.1 (by decide) ⟨⟨rfl, rfl⟩, ⟨Nat.le_of_ble_eq_true rfl, Nat.le_of_ble_eq_true rfl⟩, Nat.le_of_ble_eq_true rfl, Nat.le_of_ble_eq_true rfl⟩ dX9_split_16) (fun H locs S => ?_)
    have hkv4 : gkd v4 = 8 := kr_X3_trackOf kd_s1 hv4
    refine lv_iload_n hx hb dX9_split_19 rfl (lv_at hl 2 rfl) ?_
    obtain ⟨v5, hv5, hf⟩ := g_s1 hf
    refine g_ki S (g_runV (rest := [.int a2]) X S (c_X8_size l hN hkv4 hv5 _) cvX8_size mlX9_210 (kd_N hkv4 (by decide) hN) (ceC_8 hkv4 _) rfl rfl rfl hl.1 (by decide) ⟨⟨rfl, rfl⟩, ⟨Nat.le_of_ble_eq_true rfl, Nat.le_of_ble_eq_true rfl⟩, Nat.le_of_ble_eq_true rfl, Nat.le_of_ble_eq_true rfl⟩ dX9_split_20) (fun H locs S => ?_)
    refine lv_icmp_lt (tgt := 36) hx hb dX9_split_23 (by decide) (fun c6 => ?_) (fun c6 => ?_)
    · have hf := (if_pos c6).symm.trans hf
      refine lv_aload_n hx hb dX9_split_36 rfl (lv_at hl 0 rfl) ?_
      refine lv_aload_n hx hb dX9_split_37 rfl (lv_at hl 0 rfl) ?_
      refine gfX9_30 X S hN kd_s0 dX9_split_38 ?_
      refine lv_iload_n hx hb dX9_split_41 rfl (lv_at hl 1 rfl) ?_
      refine lv_iload_n hx hb dX9_split_42 rfl (lv_at hl 2 rfl) ?_
      refine lv_iload_n hx hb dX9_split_43 rfl (lv_at hl 3 rfl) ?_
      obtain ⟨v7, σ8, hv7, hf⟩ := g_s2 hf
      refine g_ki S (g_runV (rest := [.ref (ad 0)]) X S (c_X1_splitRefusal l hN  hv7 _) cvX1_splitRefusal mlX9_214 (kd_N kd_s20 (by decide) hN) (ceC_1 kd_s20 _) rfl rfl rfl hl.1 (by decide) ⟨⟨rfl, rfl⟩, ⟨Nat.le_of_ble_eq_true rfl, Nat.le_of_ble_eq_true rfl⟩, Nat.le_of_ble_eq_true rfl, Nat.le_of_ble_eq_true rfl⟩ dX9_split_44) (fun H locs S => ?_)
      obtain ⟨x9, σ10, hx9, hf, hfx⟩ := g_sx2 hf
      refine g_kxG S X hT (g_xrunV (rest := []) X S (c_X9_passOrRefuse l hl0 hN  hx9 _) cvX9_passOrRefuse mlX9_86 (kd_N kd_s0 (by decide) hN) (ceC_9 kd_s0 _) rfl rfl rfl hl.1 (by decide) ⟨⟨rfl, rfl⟩, ⟨Nat.le_of_ble_eq_true rfl, Nat.le_of_ble_eq_true rfl⟩, Nat.le_of_ble_eq_true rfl, Nat.le_of_ble_eq_true rfl⟩ dX9_split_47) (fun h0 => by have h9 := hfx h0; cases h9; exact ⟨rfl, rfl⟩) (by decide) (by decide) (fun h0 H locs S => ?_)
      have hf := hf h0
      refine lv_aload_n hx hb dX9_split_50 rfl (lv_at hl 0 rfl) ?_
      refine gfX9_37 X S hN kd_s0 dX9_split_51 ?_
      refine lv_aload_n hx hb dX9_split_54 rfl (lv_at hl 0 rfl) ?_
      refine gfX9_10 X S hN kd_s0 dX9_split_55 ?_
      obtain ⟨σ11, hσ11, hf⟩ := g_s1 hf
      refine g_kv S (g_runV (rest := []) X S (c_X4_keep l hN kd_s1 hσ11 _) cvX4_keep mlX9_90 (kd_N kd_s25 (by decide) hN) (ceC_4 kd_s25 _) rfl rfl rfl hl.1 (by decide) ⟨⟨rfl, rfl⟩, ⟨Nat.le_of_ble_eq_true rfl, Nat.le_of_ble_eq_true rfl⟩, Nat.le_of_ble_eq_true rfl, Nat.le_of_ble_eq_true rfl⟩ dX9_split_58) (fun H locs S => ?_)
      refine lv_aload_n hx hb dX9_split_61 rfl (lv_at hl 0 rfl) ?_
      refine gfX9_30 X S hN kd_s0 dX9_split_62 ?_
      refine lv_iload_n hx hb dX9_split_65 rfl (lv_at hl 1 rfl) ?_
      refine lv_iload_n hx hb dX9_split_66 rfl (lv_at hl 2 rfl) ?_
      refine lv_iload_n hx hb dX9_split_67 rfl (lv_at hl 3 rfl) ?_
      obtain ⟨v12, σ13, hv12, hf⟩ := g_s2 hf
      refine g_ki S (g_runV (rest := []) X S (c_X1_splitCaption l hN  hv12 _) cvX1_splitCaption mlX9_218 (kd_N kd_s20 (by decide) hN) (ceC_1 kd_s20 _) rfl rfl rfl hl.1 (by decide) ⟨⟨rfl, rfl⟩, ⟨Nat.le_of_ble_eq_true rfl, Nat.le_of_ble_eq_true rfl⟩, Nat.le_of_ble_eq_true rfl, Nat.le_of_ble_eq_true rfl⟩ dX9_split_68) (fun H locs S => ?_)
      cases hf
      exact g_xreti X S rfl dX9_split_71 (by decide) (by decide)
    · have hf := (if_neg c6).symm.trans hf
      cases hf
      exact g_throwX hl0 X S hT hl.1 ex_3 st_212 dX9_split_26 dX9_split_29 dX9_split_30 dX9_split_32 dX9_split_35 (by decide) (Nat.le_of_ble_eq_true rfl) (Nat.le_of_ble_eq_true rfl) (Nat.le_of_ble_eq_true rfl) (Nat.le_of_ble_eq_true rfl) (Nat.le_of_ble_eq_true rfl)

noncomputable def f_X9_merge (σ : gSt) (a0 : Int32) (a1 : Int32) : Option (Nat × Int32 × gSt) :=
  (g_x2 (f_X9_requireCaption σ a0 a1) (fun x s => (x, (0 : Int32), s)) fun σ2 => (g_k2 (f_X2_mergeRefusal σ2 a0 a1) fun v3 σ4 => (g_x2 (f_X9_passOrRefuse σ4 v3) (fun x s => (x, (0 : Int32), s)) fun σ6 => (g_k1 (f_X4_keep σ6 1) fun σ7 => (g_k2 (f_X1_mergeCaption σ7 a0 a1) fun v8 σ9 => some (0, v8, σ9))))))
set_option maxRecDepth 100000 in
set_option maxHeartbeats 4000000 in
theorem c_X9_merge (l : Launch) (hl0 : l.stackTraces = false) {Γ : gG} {ad : Nat → Nat} {N : Nat} (hN : 202 ≤ N) {σ : gSt} {a0 : Int32} {a1 : Int32}  {x : Nat} {r : Int32} {σ' : gSt} (hf : f_X9_merge σ a0 a1 = some (x, r, σ')) : gMxi l Γ ad N yX9_merge cX9_merge 3 (some .int) (gR 10 3 18) [.ref (ad 0), .int a0, .int a1] σ x r σ' 3 18 := by
  intro sz
  refine gOfX (Qc := fun sz => gQcxi Γ ad N x r σ' sz) (XC := fun sz => gXc Γ ad N x σ' sz) RX9 (by decide) rfl (by decide) (fun p e s m args below meth c H locs ls X hT S hl => ?_)
  have hl : lv_has ls 3 [(0, .ref (ad 0)), (1, .int a0), (2, .int a1)] := hl
  have hx := X.1
  have hb := X.2.1
  unfold f_X9_merge at hf
  refine lv_aload_n hx hb dX9_merge_0 rfl (lv_at hl 0 rfl) ?_
  refine lv_iload_n hx hb dX9_merge_1 rfl (lv_at hl 1 rfl) ?_
  refine lv_iload_n hx hb dX9_merge_2 rfl (lv_at hl 2 rfl) ?_
  obtain ⟨x1, σ2, hx1, hf, hfx⟩ := g_sx2 hf
  refine g_kxG S X hT (g_xrunV (rest := []) X S (c_X9_requireCaption l hl0 hN  hx1 _) cvX9_requireCaption mlX9_196 (kd_N kd_s0 (by decide) hN) (ceC_9 kd_s0 _) rfl rfl rfl hl.1 (by decide) ⟨⟨rfl, rfl⟩, ⟨Nat.le_of_ble_eq_true rfl, Nat.le_of_ble_eq_true rfl⟩, Nat.le_of_ble_eq_true rfl, Nat.le_of_ble_eq_true rfl⟩ dX9_merge_3) (fun h0 => by have h9 := hfx h0; cases h9; exact ⟨rfl, rfl⟩) (by decide) (by decide) (fun h0 H locs S => ?_)
  have hf := hf h0
  refine lv_aload_n hx hb dX9_merge_6 rfl (lv_at hl 0 rfl) ?_
  refine lv_aload_n hx hb dX9_merge_7 rfl (lv_at hl 0 rfl) ?_
  refine gfX9_21 X S hN kd_s0 dX9_merge_8 ?_
  refine lv_iload_n hx hb dX9_merge_11 rfl (lv_at hl 1 rfl) ?_
  refine lv_iload_n hx hb dX9_merge_12 rfl (lv_at hl 2 rfl) ?_
  obtain ⟨v3, σ4, hv3, hf⟩ := g_s2 hf
  refine g_ki S (g_runV (rest := [.ref (ad 0)]) X S (c_X2_mergeRefusal l hN  hv3 _) cvX2_mergeRefusal mlX9_221 (kd_N kd_s17 (by decide) hN) (ceC_2 kd_s17 _) rfl rfl rfl hl.1 (by decide) ⟨⟨rfl, rfl⟩, ⟨Nat.le_of_ble_eq_true rfl, Nat.le_of_ble_eq_true rfl⟩, Nat.le_of_ble_eq_true rfl, Nat.le_of_ble_eq_true rfl⟩ dX9_merge_13) (fun H locs S => ?_)
  obtain ⟨x5, σ6, hx5, hf, hfx⟩ := g_sx2 hf
  refine g_kxG S X hT (g_xrunV (rest := []) X S (c_X9_passOrRefuse l hl0 hN  hx5 _) cvX9_passOrRefuse mlX9_86 (kd_N kd_s0 (by decide) hN) (ceC_9 kd_s0 _) rfl rfl rfl hl.1 (by decide) ⟨⟨rfl, rfl⟩, ⟨Nat.le_of_ble_eq_true rfl, Nat.le_of_ble_eq_true rfl⟩, Nat.le_of_ble_eq_true rfl, Nat.le_of_ble_eq_true rfl⟩ dX9_merge_16) (fun h0 => by have h9 := hfx h0; cases h9; exact ⟨rfl, rfl⟩) (by decide) (by decide) (fun h0 H locs S => ?_)
  have hf := hf h0
  refine lv_aload_n hx hb dX9_merge_19 rfl (lv_at hl 0 rfl) ?_
  refine gfX9_37 X S hN kd_s0 dX9_merge_20 ?_
  refine lv_aload_n hx hb dX9_merge_23 rfl (lv_at hl 0 rfl) ?_
  refine gfX9_10 X S hN kd_s0 dX9_merge_24 ?_
  obtain ⟨σ7, hσ7, hf⟩ := g_s1 hf
  refine g_kv S (g_runV (rest := []) X S (c_X4_keep l hN kd_s1 hσ7 _) cvX4_keep mlX9_90 (kd_N kd_s25 (by decide) hN) (ceC_4 kd_s25 _) rfl rfl rfl hl.1 (by decide) ⟨⟨rfl, rfl⟩, ⟨Nat.le_of_ble_eq_true rfl, Nat.le_of_ble_eq_true rfl⟩, Nat.le_of_ble_eq_true rfl, Nat.le_of_ble_eq_true rfl⟩ dX9_merge_27) (fun H locs S => ?_)
  refine lv_aload_n hx hb dX9_merge_30 rfl (lv_at hl 0 rfl) ?_
  refine gfX9_30 X S hN kd_s0 dX9_merge_31 ?_
  refine lv_iload_n hx hb dX9_merge_34 rfl (lv_at hl 1 rfl) ?_
  refine lv_iload_n hx hb dX9_merge_35 rfl (lv_at hl 2 rfl) ?_
  obtain ⟨v8, σ9, hv8, hf⟩ := g_s2 hf
  refine g_ki S (g_runV (rest := []) X S (c_X1_mergeCaption l hN  hv8 _) cvX1_mergeCaption mlX9_224 (kd_N kd_s20 (by decide) hN) (ceC_1 kd_s20 _) rfl rfl rfl hl.1 (by decide) ⟨⟨rfl, rfl⟩, ⟨Nat.le_of_ble_eq_true rfl, Nat.le_of_ble_eq_true rfl⟩, Nat.le_of_ble_eq_true rfl, Nat.le_of_ble_eq_true rfl⟩ dX9_merge_36) (fun H locs S => ?_)
  cases hf
  exact g_xreti X S rfl dX9_merge_39 (by decide) (by decide)

noncomputable def f_X9_snap (σ : gSt) (a0 : Int32) (a1 : Int32) : Option (Nat × Int32 × gSt) :=
  (g_x2 (f_X9_requireCaption σ a0 a1) (fun x s => (x, (0 : Int32), s)) fun σ2 => (g_k1 (f_X1_snapRefusal σ2 a0 a1) fun v3 => (g_x2 (f_X9_passOrRefuse σ2 v3) (fun x s => (x, (0 : Int32), s)) fun σ5 => (g_k1 (f_X4_keep σ5 1) fun σ6 => (g_k2 (f_X1_snapCaption σ6 a0 a1) fun v7 σ8 => some (0, v7, σ8))))))
set_option maxRecDepth 100000 in
set_option maxHeartbeats 4000000 in
theorem c_X9_snap (l : Launch) (hl0 : l.stackTraces = false) {Γ : gG} {ad : Nat → Nat} {N : Nat} (hN : 202 ≤ N) {σ : gSt} {a0 : Int32} {a1 : Int32}  {x : Nat} {r : Int32} {σ' : gSt} (hf : f_X9_snap σ a0 a1 = some (x, r, σ')) : gMxi l Γ ad N yX9_snap cX9_snap 3 (some .int) (gR 10 3 18) [.ref (ad 0), .int a0, .int a1] σ x r σ' 3 18 := by
  intro sz
  refine gOfX (Qc := fun sz => gQcxi Γ ad N x r σ' sz) (XC := fun sz => gXc Γ ad N x σ' sz) RX9 (by decide) rfl (by decide) (fun p e s m args below meth c H locs ls X hT S hl => ?_)
  have hl : lv_has ls 3 [(0, .ref (ad 0)), (1, .int a0), (2, .int a1)] := hl
  have hx := X.1
  have hb := X.2.1
  unfold f_X9_snap at hf
  refine lv_aload_n hx hb dX9_snap_0 rfl (lv_at hl 0 rfl) ?_
  refine lv_iload_n hx hb dX9_snap_1 rfl (lv_at hl 1 rfl) ?_
  refine lv_iload_n hx hb dX9_snap_2 rfl (lv_at hl 2 rfl) ?_
  obtain ⟨x1, σ2, hx1, hf, hfx⟩ := g_sx2 hf
  refine g_kxG S X hT (g_xrunV (rest := []) X S (c_X9_requireCaption l hl0 hN  hx1 _) cvX9_requireCaption mlX9_196 (kd_N kd_s0 (by decide) hN) (ceC_9 kd_s0 _) rfl rfl rfl hl.1 (by decide) ⟨⟨rfl, rfl⟩, ⟨Nat.le_of_ble_eq_true rfl, Nat.le_of_ble_eq_true rfl⟩, Nat.le_of_ble_eq_true rfl, Nat.le_of_ble_eq_true rfl⟩ dX9_snap_3) (fun h0 => by have h9 := hfx h0; cases h9; exact ⟨rfl, rfl⟩) (by decide) (by decide) (fun h0 H locs S => ?_)
  have hf := hf h0
  refine lv_aload_n hx hb dX9_snap_6 rfl (lv_at hl 0 rfl) ?_
  refine lv_aload_n hx hb dX9_snap_7 rfl (lv_at hl 0 rfl) ?_
  refine gfX9_30 X S hN kd_s0 dX9_snap_8 ?_
  refine lv_iload_n hx hb dX9_snap_11 rfl (lv_at hl 1 rfl) ?_
  refine lv_iload_n hx hb dX9_snap_12 rfl (lv_at hl 2 rfl) ?_
  obtain ⟨v3, hv3, hf⟩ := g_s1 hf
  refine g_ki S (g_runV (rest := [.ref (ad 0)]) X S (c_X1_snapRefusal l hN  hv3 _) cvX1_snapRefusal mlX9_227 (kd_N kd_s20 (by decide) hN) (ceC_1 kd_s20 _) rfl rfl rfl hl.1 (by decide) ⟨⟨rfl, rfl⟩, ⟨Nat.le_of_ble_eq_true rfl, Nat.le_of_ble_eq_true rfl⟩, Nat.le_of_ble_eq_true rfl, Nat.le_of_ble_eq_true rfl⟩ dX9_snap_13) (fun H locs S => ?_)
  obtain ⟨x4, σ5, hx4, hf, hfx⟩ := g_sx2 hf
  refine g_kxG S X hT (g_xrunV (rest := []) X S (c_X9_passOrRefuse l hl0 hN  hx4 _) cvX9_passOrRefuse mlX9_86 (kd_N kd_s0 (by decide) hN) (ceC_9 kd_s0 _) rfl rfl rfl hl.1 (by decide) ⟨⟨rfl, rfl⟩, ⟨Nat.le_of_ble_eq_true rfl, Nat.le_of_ble_eq_true rfl⟩, Nat.le_of_ble_eq_true rfl, Nat.le_of_ble_eq_true rfl⟩ dX9_snap_16) (fun h0 => by have h9 := hfx h0; cases h9; exact ⟨rfl, rfl⟩) (by decide) (by decide) (fun h0 H locs S => ?_)
  have hf := hf h0
  refine lv_aload_n hx hb dX9_snap_19 rfl (lv_at hl 0 rfl) ?_
  refine gfX9_37 X S hN kd_s0 dX9_snap_20 ?_
  refine lv_aload_n hx hb dX9_snap_23 rfl (lv_at hl 0 rfl) ?_
  refine gfX9_10 X S hN kd_s0 dX9_snap_24 ?_
  obtain ⟨σ6, hσ6, hf⟩ := g_s1 hf
  refine g_kv S (g_runV (rest := []) X S (c_X4_keep l hN kd_s1 hσ6 _) cvX4_keep mlX9_90 (kd_N kd_s25 (by decide) hN) (ceC_4 kd_s25 _) rfl rfl rfl hl.1 (by decide) ⟨⟨rfl, rfl⟩, ⟨Nat.le_of_ble_eq_true rfl, Nat.le_of_ble_eq_true rfl⟩, Nat.le_of_ble_eq_true rfl, Nat.le_of_ble_eq_true rfl⟩ dX9_snap_27) (fun H locs S => ?_)
  refine lv_aload_n hx hb dX9_snap_30 rfl (lv_at hl 0 rfl) ?_
  refine gfX9_30 X S hN kd_s0 dX9_snap_31 ?_
  refine lv_iload_n hx hb dX9_snap_34 rfl (lv_at hl 1 rfl) ?_
  refine lv_iload_n hx hb dX9_snap_35 rfl (lv_at hl 2 rfl) ?_
  obtain ⟨v7, σ8, hv7, hf⟩ := g_s2 hf
  refine g_ki S (g_runV (rest := []) X S (c_X1_snapCaption l hN  hv7 _) cvX1_snapCaption mlX9_230 (kd_N kd_s20 (by decide) hN) (ceC_1 kd_s20 _) rfl rfl rfl hl.1 (by decide) ⟨⟨rfl, rfl⟩, ⟨Nat.le_of_ble_eq_true rfl, Nat.le_of_ble_eq_true rfl⟩, Nat.le_of_ble_eq_true rfl, Nat.le_of_ble_eq_true rfl⟩ dX9_snap_36) (fun H locs S => ?_)
  cases hf
  exact g_xreti X S rfl dX9_snap_39 (by decide) (by decide)

noncomputable def f_X9_fit (σ : gSt) (a0 : Int32) (a1 : Int32) : Option (Nat × Int32 × gSt) :=
  (g_x2 (f_X9_requireCaption σ a0 a1) (fun x s => (x, (0 : Int32), s)) fun σ2 => (g_k1 (f_X4_keep σ2 1) fun σ3 => (g_k2 (f_X1_fitCaption σ3 a0 a1) fun v4 σ5 => some (0, v4, σ5))))
set_option maxRecDepth 100000 in
set_option maxHeartbeats 4000000 in
theorem c_X9_fit (l : Launch) (hl0 : l.stackTraces = false) {Γ : gG} {ad : Nat → Nat} {N : Nat} (hN : 202 ≤ N) {σ : gSt} {a0 : Int32} {a1 : Int32}  {x : Nat} {r : Int32} {σ' : gSt} (hf : f_X9_fit σ a0 a1 = some (x, r, σ')) : gMxi l Γ ad N yX9_fit cX9_fit 3 (some .int) (gR 10 2 12) [.ref (ad 0), .int a0, .int a1] σ x r σ' 2 12 := by
  intro sz
  refine gOfX (Qc := fun sz => gQcxi Γ ad N x r σ' sz) (XC := fun sz => gXc Γ ad N x σ' sz) RX9 (by decide) rfl (by decide) (fun p e s m args below meth c H locs ls X hT S hl => ?_)
  have hl : lv_has ls 3 [(0, .ref (ad 0)), (1, .int a0), (2, .int a1)] := hl
  have hx := X.1
  have hb := X.2.1
  unfold f_X9_fit at hf
  refine lv_aload_n hx hb dX9_fit_0 rfl (lv_at hl 0 rfl) ?_
  refine lv_iload_n hx hb dX9_fit_1 rfl (lv_at hl 1 rfl) ?_
  refine lv_iload_n hx hb dX9_fit_2 rfl (lv_at hl 2 rfl) ?_
  obtain ⟨x1, σ2, hx1, hf, hfx⟩ := g_sx2 hf
  refine g_kxG S X hT (g_xrunV (rest := []) X S (c_X9_requireCaption l hl0 hN  hx1 _) cvX9_requireCaption mlX9_196 (kd_N kd_s0 (by decide) hN) (ceC_9 kd_s0 _) rfl rfl rfl hl.1 (by decide) ⟨⟨rfl, rfl⟩, ⟨Nat.le_of_ble_eq_true rfl, Nat.le_of_ble_eq_true rfl⟩, Nat.le_of_ble_eq_true rfl, Nat.le_of_ble_eq_true rfl⟩ dX9_fit_3) (fun h0 => by have h9 := hfx h0; cases h9; exact ⟨rfl, rfl⟩) (by decide) (by decide) (fun h0 H locs S => ?_)
  have hf := hf h0
  refine lv_aload_n hx hb dX9_fit_6 rfl (lv_at hl 0 rfl) ?_
  refine gfX9_37 X S hN kd_s0 dX9_fit_7 ?_
  refine lv_aload_n hx hb dX9_fit_10 rfl (lv_at hl 0 rfl) ?_
  refine gfX9_10 X S hN kd_s0 dX9_fit_11 ?_
  obtain ⟨σ3, hσ3, hf⟩ := g_s1 hf
  refine g_kv S (g_runV (rest := []) X S (c_X4_keep l hN kd_s1 hσ3 _) cvX4_keep mlX9_90 (kd_N kd_s25 (by decide) hN) (ceC_4 kd_s25 _) rfl rfl rfl hl.1 (by decide) ⟨⟨rfl, rfl⟩, ⟨Nat.le_of_ble_eq_true rfl, Nat.le_of_ble_eq_true rfl⟩, Nat.le_of_ble_eq_true rfl, Nat.le_of_ble_eq_true rfl⟩ dX9_fit_14) (fun H locs S => ?_)
  refine lv_aload_n hx hb dX9_fit_17 rfl (lv_at hl 0 rfl) ?_
  refine gfX9_30 X S hN kd_s0 dX9_fit_18 ?_
  refine lv_iload_n hx hb dX9_fit_21 rfl (lv_at hl 1 rfl) ?_
  refine lv_iload_n hx hb dX9_fit_22 rfl (lv_at hl 2 rfl) ?_
  obtain ⟨v4, σ5, hv4, hf⟩ := g_s2 hf
  refine g_ki S (g_runV (rest := []) X S (c_X1_fitCaption l hN  hv4 _) cvX1_fitCaption mlX9_233 (kd_N kd_s20 (by decide) hN) (ceC_1 kd_s20 _) rfl rfl rfl hl.1 (by decide) ⟨⟨rfl, rfl⟩, ⟨Nat.le_of_ble_eq_true rfl, Nat.le_of_ble_eq_true rfl⟩, Nat.le_of_ble_eq_true rfl, Nat.le_of_ble_eq_true rfl⟩ dX9_fit_23) (fun H locs S => ?_)
  cases hf
  exact g_xreti X S rfl dX9_fit_26 (by decide) (by decide)

noncomputable def f_X9_caption (σ : gSt) (a0 : Int32) (a1 : Int32) (a2 : Int32) : Option (Nat × Int32 × gSt) :=
  (g_x2 (f_X9_requireCaption σ a0 a1) (fun x s => (x, (0 : Int32), s)) fun σ2 => (g_k1 (f_X3_trackOf σ2 1 a0) fun v3 => (if a2 = (0 : Int32) then (g_k1 (f_X8_first σ2 v3 a1) fun v5 => some (0, v5, σ2)) else (if a2 = (1 : Int32) then (g_k1 (f_X8_end σ2 v3 a1) fun v7 => some (0, v7, σ2)) else (if a2 = (2 : Int32) then (g_k1 (f_X8_kind σ2 v3 a1) fun v9 => some (0, v9, σ2)) else (if a2 = (3 : Int32) then (g_k1 (f_X8_load σ2 v3 a1) fun v11 => some (0, v11, σ2)) else (if a2 = (4 : Int32) then (g_k1 (f_X2_needs σ2 a0 a1) fun v13 => some (0, v13, σ2)) else (if a2 = (5 : Int32) then (g_k1 (f_X2_problems σ2 a0 a1) fun v15 => some (0, v15, σ2)) else (if a2 = (6 : Int32) then (g_k1 (f_X2_partner σ2 a0 a1) fun v17 => some (0, v17, σ2)) else (if a2 = (7 : Int32) then (g_k1 (f_X8_size σ2 v3 a1) fun v19 => some (0, v19, σ2)) else (if a2 = (8 : Int32) then (g_k1 (f_X8_longestLine σ2 v3 a1) fun v21 => some (0, v21, σ2)) else (if a2 = (9 : Int32) then (g_k1 (f_X2_cutsWithin σ2 a0 a1) fun v23 => some (0, v23, σ2)) else (if a2 = (10 : Int32) then (g_k1 (f_X8_gapBefore σ2 v3 a1) fun v25 => some (0, v25, σ2)) else (if a2 = (11 : Int32) then (g_k1 (f_X2_sharedWithPartner σ2 a0 a1) fun v27 => some (0, v27, σ2)) else some (1, 0, σ2)))))))))))))))
set_option maxRecDepth 100000 in
set_option maxHeartbeats 4000000 in
theorem c_X9_caption (l : Launch) (hl0 : l.stackTraces = false) {Γ : gG} {ad : Nat → Nat} {N : Nat} (hN : 202 ≤ N) {σ : gSt} {a0 : Int32} {a1 : Int32} {a2 : Int32}  {x : Nat} {r : Int32} {σ' : gSt} (hf : f_X9_caption σ a0 a1 a2 = some (x, r, σ')) : gMxi l Γ ad N yX9_caption cX9_caption 5 (some .int) (gR 10 3 18) [.ref (ad 0), .int a0, .int a1, .int a2] σ x r σ' 3 18 := by
  intro sz
  refine gOfX (Qc := fun sz => gQcxi Γ ad N x r σ' sz) (XC := fun sz => gXc Γ ad N x σ' sz) RX9 (by decide) rfl (by decide) (fun p e s m args below meth c H locs ls X hT S hl => ?_)
  have hl : lv_has ls 5 [(4, .ref (ad v3)), (0, .ref (ad 0)), (1, .int a0), (2, .int a1), (3, .int a2)] := hl
  have hx := X.1
  have hb := X.2.1
  unfold f_X9_caption at hf
  refine lv_aload_n hx hb dX9_caption_0 rfl (lv_at hl 0 rfl) ?_
  refine lv_iload_n hx hb dX9_caption_1 rfl (lv_at hl 1 rfl) ?_
  refine lv_iload_n hx hb dX9_caption_2 rfl (lv_at hl 2 rfl) ?_
  obtain ⟨x1, σ2, hx1, hf, hfx⟩ := g_sx2 hf
  refine g_kxG S X hT (g_xrunV (rest := []) X S (c_X9_requireCaption l hl0 hN  hx1 _) cvX9_requireCaption mlX9_196 (kd_N kd_s0 (by decide) hN) (ceC_9 kd_s0 _) rfl rfl rfl hl.1 (by decide) ⟨⟨rfl, rfl⟩, ⟨Nat.le_of_ble_eq_true rfl, Nat.le_of_ble_eq_true rfl⟩, Nat.le_of_ble_eq_true rfl, Nat.le_of_ble_eq_true rfl⟩ dX9_caption_3) (fun h0 => by have h9 := hfx h0; cases h9; exact ⟨rfl, rfl⟩) (by decide) (by decide) (fun h0 H locs S => ?_)
  have hf := hf h0
  refine lv_aload_n hx hb dX9_caption_6 rfl (lv_at hl 0 rfl) ?_
  refine gfX9_10 X S hN kd_s0 dX9_caption_7 ?_
  refine lv_iload_n hx hb dX9_caption_10 rfl (lv_at hl 1 rfl) ?_
  obtain ⟨v3, hv3, hf⟩ := g_s1 hf
  refine g_kr S (g_runV (rest := []) X S (c_X3_trackOf l hN kd_s1 hv3 _) cvX3_trackOf mlX9_138 (kd_N kd_s1 (by decide) hN) (ceC_3 kd_s1 _) rfl rfl rfl hl.1 (by decide) ⟨⟨rfl, rfl⟩, ⟨Nat.le_of_ble_eq_true rfl, Nat.le_of_ble_eq_true rfl⟩, Nat.le_of_ble_eq_true rfl, Nat.le_of_ble_eq_true rfl⟩ dX9_caption_11) (fun H locs S => ?_)
  have hkv3 : gkd v3 = 8 := kr_X3_trackOf kd_s1 hv3
  refine lv_astore (lv' := [(4, .ref (ad v3)), (0, .ref (ad 0)), (1, .int a0), (2, .int a1), (3, .int a2)]) hx hb dX9_caption_14 hl (by decide) rfl (fun ls hl => ?_)
  refine lv_iload_n hx hb dX9_caption_16 rfl (lv_at hl 4 rfl) ?_
  by_cases c4 : a2 = (0 : Int32)
  · have hf := (if_pos c4).symm.trans hf
    refine lv_tableIn (off := 63) (tgt := 80) hx hb dX9_caption_17 (by rw [c4]; decide) (by rw [c4]; decide) (by rw [c4]; decide) (by decide) ?_
    refine lv_aload hx hb dX9_caption_80 (lv_at hl 0 rfl) ?_
    refine lv_iload_n hx hb dX9_caption_82 rfl (lv_at hl 3 rfl) ?_
    obtain ⟨v5, hv5, hf⟩ := g_s1 hf
    refine g_ki S (g_runV (rest := []) X S (c_X8_first l hN hkv3 hv5 _) cvX8_first mlX9_254 (kd_N hkv3 (by decide) hN) (ceC_8 hkv3 _) rfl rfl rfl hl.1 (by decide) ⟨⟨rfl, rfl⟩, ⟨Nat.le_of_ble_eq_true rfl, Nat.le_of_ble_eq_true rfl⟩, Nat.le_of_ble_eq_true rfl, Nat.le_of_ble_eq_true rfl⟩ dX9_caption_83) (fun H locs S => ?_)
    cases hf
    exact g_xreti X S rfl dX9_caption_86 (by decide) (by decide)
  replace hf := (if_neg c4).symm.trans hf
  by_cases c6 : a2 = (1 : Int32)
  · have hf := (if_pos c6).symm.trans hf
    refine lv_tableIn (off := 70) (tgt := 87) hx hb dX9_caption_17 (by rw [c6]; decide) (by rw [c6]; decide) (by rw [c6]; decide) (by decide) ?_
    refine lv_aload hx hb dX9_caption_87 (lv_at hl 0 rfl) ?_
    refine lv_iload_n hx hb dX9_caption_89 rfl (lv_at hl 3 rfl) ?_
    obtain ⟨v7, hv7, hf⟩ := g_s1 hf
    refine g_ki S (g_runV (rest := []) X S (c_X8_end l hN hkv3 hv7 _) cvX8_end mlX9_257 (kd_N hkv3 (by decide) hN) (ceC_8 hkv3 _) rfl rfl rfl hl.1 (by decide) ⟨⟨rfl, rfl⟩, ⟨Nat.le_of_ble_eq_true rfl, Nat.le_of_ble_eq_true rfl⟩, Nat.le_of_ble_eq_true rfl, Nat.le_of_ble_eq_true rfl⟩ dX9_caption_90) (fun H locs S => ?_)
    cases hf
    exact g_xreti X S rfl dX9_caption_93 (by decide) (by decide)
  replace hf := (if_neg c6).symm.trans hf
  by_cases c8 : a2 = (2 : Int32)
  · have hf := (if_pos c8).symm.trans hf
    refine lv_tableIn (off := 77) (tgt := 94) hx hb dX9_caption_17 (by rw [c8]; decide) (by rw [c8]; decide) (by rw [c8]; decide) (by decide) ?_
    refine lv_aload hx hb dX9_caption_94 (lv_at hl 0 rfl) ?_
    refine lv_iload_n hx hb dX9_caption_96 rfl (lv_at hl 3 rfl) ?_
    obtain ⟨v9, hv9, hf⟩ := g_s1 hf
    refine g_ki S (g_runV (rest := []) X S (c_X8_kind l hN hkv3 hv9 _) cvX8_kind mlX9_260 (kd_N hkv3 (by decide) hN) (ceC_8 hkv3 _) rfl rfl rfl hl.1 (by decide) ⟨⟨rfl, rfl⟩, ⟨Nat.le_of_ble_eq_true rfl, Nat.le_of_ble_eq_true rfl⟩, Nat.le_of_ble_eq_true rfl, Nat.le_of_ble_eq_true rfl⟩ dX9_caption_97) (fun H locs S => ?_)
    cases hf
    exact g_xreti X S rfl dX9_caption_100 (by decide) (by decide)
  replace hf := (if_neg c8).symm.trans hf
  by_cases c10 : a2 = (3 : Int32)
  · have hf := (if_pos c10).symm.trans hf
    refine lv_tableIn (off := 84) (tgt := 101) hx hb dX9_caption_17 (by rw [c10]; decide) (by rw [c10]; decide) (by rw [c10]; decide) (by decide) ?_
    refine lv_aload hx hb dX9_caption_101 (lv_at hl 0 rfl) ?_
    refine lv_iload_n hx hb dX9_caption_103 rfl (lv_at hl 3 rfl) ?_
    obtain ⟨v11, hv11, hf⟩ := g_s1 hf
    refine g_ki S (g_runV (rest := []) X S (c_X8_load l hN hkv3 hv11 _) cvX8_load mlX9_263 (kd_N hkv3 (by decide) hN) (ceC_8 hkv3 _) rfl rfl rfl hl.1 (by decide) ⟨⟨rfl, rfl⟩, ⟨Nat.le_of_ble_eq_true rfl, Nat.le_of_ble_eq_true rfl⟩, Nat.le_of_ble_eq_true rfl, Nat.le_of_ble_eq_true rfl⟩ dX9_caption_104) (fun H locs S => ?_)
    cases hf
    exact g_xreti X S rfl dX9_caption_107 (by decide) (by decide)
  replace hf := (if_neg c10).symm.trans hf
  by_cases c12 : a2 = (4 : Int32)
  · have hf := (if_pos c12).symm.trans hf
    refine lv_tableIn (off := 91) (tgt := 108) hx hb dX9_caption_17 (by rw [c12]; decide) (by rw [c12]; decide) (by rw [c12]; decide) (by decide) ?_
    refine lv_aload_n hx hb dX9_caption_108 rfl (lv_at hl 1 rfl) ?_
    refine gfX9_21 X S hN kd_s0 dX9_caption_109 ?_
    refine lv_iload_n hx hb dX9_caption_112 rfl (lv_at hl 2 rfl) ?_
    refine lv_iload_n hx hb dX9_caption_113 rfl (lv_at hl 3 rfl) ?_
    obtain ⟨v13, hv13, hf⟩ := g_s1 hf
    refine g_ki S (g_runV (rest := []) X S (c_X2_needs l hN  hv13 _) cvX2_needs mlX9_266 (kd_N kd_s17 (by decide) hN) (ceC_2 kd_s17 _) rfl rfl rfl hl.1 (by decide) ⟨⟨rfl, rfl⟩, ⟨Nat.le_of_ble_eq_true rfl, Nat.le_of_ble_eq_true rfl⟩, Nat.le_of_ble_eq_true rfl, Nat.le_of_ble_eq_true rfl⟩ dX9_caption_114) (fun H locs S => ?_)
    cases hf
    exact g_xreti X S rfl dX9_caption_117 (by decide) (by decide)
  replace hf := (if_neg c12).symm.trans hf
  by_cases c14 : a2 = (5 : Int32)
  · have hf := (if_pos c14).symm.trans hf
    refine lv_tableIn (off := 101) (tgt := 118) hx hb dX9_caption_17 (by rw [c14]; decide) (by rw [c14]; decide) (by rw [c14]; decide) (by decide) ?_
    refine lv_aload_n hx hb dX9_caption_118 rfl (lv_at hl 1 rfl) ?_
    refine gfX9_21 X S hN kd_s0 dX9_caption_119 ?_
    refine lv_iload_n hx hb dX9_caption_122 rfl (lv_at hl 2 rfl) ?_
    refine lv_iload_n hx hb dX9_caption_123 rfl (lv_at hl 3 rfl) ?_
    obtain ⟨v15, hv15, hf⟩ := g_s1 hf
    refine g_ki S (g_runV (rest := []) X S (c_X2_problems l hN  hv15 _) cvX2_problems mlX9_269 (kd_N kd_s17 (by decide) hN) (ceC_2 kd_s17 _) rfl rfl rfl hl.1 (by decide) ⟨⟨rfl, rfl⟩, ⟨Nat.le_of_ble_eq_true rfl, Nat.le_of_ble_eq_true rfl⟩, Nat.le_of_ble_eq_true rfl, Nat.le_of_ble_eq_true rfl⟩ dX9_caption_124) (fun H locs S => ?_)
    cases hf
    exact g_xreti X S rfl dX9_caption_127 (by decide) (by decide)
  replace hf := (if_neg c14).symm.trans hf
  by_cases c16 : a2 = (6 : Int32)
  · have hf := (if_pos c16).symm.trans hf
    refine lv_tableIn (off := 111) (tgt := 128) hx hb dX9_caption_17 (by rw [c16]; decide) (by rw [c16]; decide) (by rw [c16]; decide) (by decide) ?_
    refine lv_aload_n hx hb dX9_caption_128 rfl (lv_at hl 1 rfl) ?_
    refine gfX9_21 X S hN kd_s0 dX9_caption_129 ?_
    refine lv_iload_n hx hb dX9_caption_132 rfl (lv_at hl 2 rfl) ?_
    refine lv_iload_n hx hb dX9_caption_133 rfl (lv_at hl 3 rfl) ?_
    obtain ⟨v17, hv17, hf⟩ := g_s1 hf
    refine g_ki S (g_runV (rest := []) X S (c_X2_partner l hN  hv17 _) cvX2_partner mlX9_272 (kd_N kd_s17 (by decide) hN) (ceC_2 kd_s17 _) rfl rfl rfl hl.1 (by decide) ⟨⟨rfl, rfl⟩, ⟨Nat.le_of_ble_eq_true rfl, Nat.le_of_ble_eq_true rfl⟩, Nat.le_of_ble_eq_true rfl, Nat.le_of_ble_eq_true rfl⟩ dX9_caption_134) (fun H locs S => ?_)
    cases hf
    exact g_xreti X S rfl dX9_caption_137 (by decide) (by decide)
  replace hf := (if_neg c16).symm.trans hf
  by_cases c18 : a2 = (7 : Int32)
  · have hf := (if_pos c18).symm.trans hf
    refine lv_tableIn (off := 121) (tgt := 138) hx hb dX9_caption_17 (by rw [c18]; decide) (by rw [c18]; decide) (by rw [c18]; decide) (by decide) ?_
    refine lv_aload hx hb dX9_caption_138 (lv_at hl 0 rfl) ?_
    refine lv_iload_n hx hb dX9_caption_140 rfl (lv_at hl 3 rfl) ?_
    obtain ⟨v19, hv19, hf⟩ := g_s1 hf
    refine g_ki S (g_runV (rest := []) X S (c_X8_size l hN hkv3 hv19 _) cvX8_size mlX9_210 (kd_N hkv3 (by decide) hN) (ceC_8 hkv3 _) rfl rfl rfl hl.1 (by decide) ⟨⟨rfl, rfl⟩, ⟨Nat.le_of_ble_eq_true rfl, Nat.le_of_ble_eq_true rfl⟩, Nat.le_of_ble_eq_true rfl, Nat.le_of_ble_eq_true rfl⟩ dX9_caption_141) (fun H locs S => ?_)
    cases hf
    exact g_xreti X S rfl dX9_caption_144 (by decide) (by decide)
  replace hf := (if_neg c18).symm.trans hf
  by_cases c20 : a2 = (8 : Int32)
  · have hf := (if_pos c20).symm.trans hf
    refine lv_tableIn (off := 128) (tgt := 145) hx hb dX9_caption_17 (by rw [c20]; decide) (by rw [c20]; decide) (by rw [c20]; decide) (by decide) ?_
    refine lv_aload hx hb dX9_caption_145 (lv_at hl 0 rfl) ?_
    refine lv_iload_n hx hb dX9_caption_147 rfl (lv_at hl 3 rfl) ?_
    obtain ⟨v21, hv21, hf⟩ := g_s1 hf
    refine g_ki S (g_runV (rest := []) X S (c_X8_longestLine l hN hkv3 hv21 _) cvX8_longestLine mlX9_275 (kd_N hkv3 (by decide) hN) (ceC_8 hkv3 _) rfl rfl rfl hl.1 (by decide) ⟨⟨rfl, rfl⟩, ⟨Nat.le_of_ble_eq_true rfl, Nat.le_of_ble_eq_true rfl⟩, Nat.le_of_ble_eq_true rfl, Nat.le_of_ble_eq_true rfl⟩ dX9_caption_148) (fun H locs S => ?_)
    cases hf
    exact g_xreti X S rfl dX9_caption_151 (by decide) (by decide)
  replace hf := (if_neg c20).symm.trans hf
  by_cases c22 : a2 = (9 : Int32)
  · have hf := (if_pos c22).symm.trans hf
    refine lv_tableIn (off := 135) (tgt := 152) hx hb dX9_caption_17 (by rw [c22]; decide) (by rw [c22]; decide) (by rw [c22]; decide) (by decide) ?_
    refine lv_aload_n hx hb dX9_caption_152 rfl (lv_at hl 1 rfl) ?_
    refine gfX9_21 X S hN kd_s0 dX9_caption_153 ?_
    refine lv_iload_n hx hb dX9_caption_156 rfl (lv_at hl 2 rfl) ?_
    refine lv_iload_n hx hb dX9_caption_157 rfl (lv_at hl 3 rfl) ?_
    obtain ⟨v23, hv23, hf⟩ := g_s1 hf
    refine g_ki S (g_runV (rest := []) X S (c_X2_cutsWithin l hN  hv23 _) cvX2_cutsWithin mlX9_278 (kd_N kd_s17 (by decide) hN) (ceC_2 kd_s17 _) rfl rfl rfl hl.1 (by decide) ⟨⟨rfl, rfl⟩, ⟨Nat.le_of_ble_eq_true rfl, Nat.le_of_ble_eq_true rfl⟩, Nat.le_of_ble_eq_true rfl, Nat.le_of_ble_eq_true rfl⟩ dX9_caption_158) (fun H locs S => ?_)
    cases hf
    exact g_xreti X S rfl dX9_caption_161 (by decide) (by decide)
  replace hf := (if_neg c22).symm.trans hf
  by_cases c24 : a2 = (10 : Int32)
  · have hf := (if_pos c24).symm.trans hf
    refine lv_tableIn (off := 145) (tgt := 162) hx hb dX9_caption_17 (by rw [c24]; decide) (by rw [c24]; decide) (by rw [c24]; decide) (by decide) ?_
    refine lv_aload hx hb dX9_caption_162 (lv_at hl 0 rfl) ?_
    refine lv_iload_n hx hb dX9_caption_164 rfl (lv_at hl 3 rfl) ?_
    obtain ⟨v25, hv25, hf⟩ := g_s1 hf
    refine g_ki S (g_runV (rest := []) X S (c_X8_gapBefore l hN hkv3 hv25 _) cvX8_gapBefore mlX9_281 (kd_N hkv3 (by decide) hN) (ceC_8 hkv3 _) rfl rfl rfl hl.1 (by decide) ⟨⟨rfl, rfl⟩, ⟨Nat.le_of_ble_eq_true rfl, Nat.le_of_ble_eq_true rfl⟩, Nat.le_of_ble_eq_true rfl, Nat.le_of_ble_eq_true rfl⟩ dX9_caption_165) (fun H locs S => ?_)
    cases hf
    exact g_xreti X S rfl dX9_caption_168 (by decide) (by decide)
  replace hf := (if_neg c24).symm.trans hf
  by_cases c26 : a2 = (11 : Int32)
  · have hf := (if_pos c26).symm.trans hf
    refine lv_tableIn (off := 152) (tgt := 169) hx hb dX9_caption_17 (by rw [c26]; decide) (by rw [c26]; decide) (by rw [c26]; decide) (by decide) ?_
    refine lv_aload_n hx hb dX9_caption_169 rfl (lv_at hl 1 rfl) ?_
    refine gfX9_21 X S hN kd_s0 dX9_caption_170 ?_
    refine lv_iload_n hx hb dX9_caption_173 rfl (lv_at hl 2 rfl) ?_
    refine lv_iload_n hx hb dX9_caption_174 rfl (lv_at hl 3 rfl) ?_
    obtain ⟨v27, hv27, hf⟩ := g_s1 hf
    refine g_ki S (g_runV (rest := []) X S (c_X2_sharedWithPartner l hN  hv27 _) cvX2_sharedWithPartner mlX9_284 (kd_N kd_s17 (by decide) hN) (ceC_2 kd_s17 _) rfl rfl rfl hl.1 (by decide) ⟨⟨rfl, rfl⟩, ⟨Nat.le_of_ble_eq_true rfl, Nat.le_of_ble_eq_true rfl⟩, Nat.le_of_ble_eq_true rfl, Nat.le_of_ble_eq_true rfl⟩ dX9_caption_175) (fun H locs S => ?_)
    cases hf
    exact g_xreti X S rfl dX9_caption_178 (by decide) (by decide)
  replace hf := (if_neg c26).symm.trans hf
  refine lv_tableOut (tgt := 179) hx hb dX9_caption_17 (g_swout0 (x := a2) (lo := 0) (n := 12) (fun j hj => by rcases (show j = 0 ∨ j = 1 ∨ j = 2 ∨ j = 3 ∨ j = 4 ∨ j = 5 ∨ j = 6 ∨ j = 7 ∨ j = 8 ∨ j = 9 ∨ j = 10 ∨ j = 11 by omega) with rfl | rfl | rfl | rfl | rfl | rfl | rfl | rfl | rfl | rfl | rfl | rfl <;> (intro h9; first | exact c4 (Int32.toInt_inj.mp (h9.trans (by decide))) | exact c6 (Int32.toInt_inj.mp (h9.trans (by decide))) | exact c8 (Int32.toInt_inj.mp (h9.trans (by decide))) | exact c10 (Int32.toInt_inj.mp (h9.trans (by decide))) | exact c12 (Int32.toInt_inj.mp (h9.trans (by decide))) | exact c14 (Int32.toInt_inj.mp (h9.trans (by decide))) | exact c16 (Int32.toInt_inj.mp (h9.trans (by decide))) | exact c18 (Int32.toInt_inj.mp (h9.trans (by decide))) | exact c20 (Int32.toInt_inj.mp (h9.trans (by decide))) | exact c22 (Int32.toInt_inj.mp (h9.trans (by decide))) | exact c24 (Int32.toInt_inj.mp (h9.trans (by decide))) | exact c26 (Int32.toInt_inj.mp (h9.trans (by decide)))))) (by decide) ?_
  cases hf
  exact g_throwX hl0 X S hT hl.1 ex_1 st_159 dX9_caption_179 dX9_caption_182 dX9_caption_183 dX9_caption_185 dX9_caption_188 (by decide) (Nat.le_of_ble_eq_true rfl) (Nat.le_of_ble_eq_true rfl) (Nat.le_of_ble_eq_true rfl) (Nat.le_of_ble_eq_true rfl) (Nat.le_of_ble_eq_true rfl)

noncomputable def f_X9_letter (σ : gSt) (a0 : Int32) (a1 : Int32) (a2 : Int32) : Option (Nat × Int32 × gSt) :=
  (g_x2 (f_X9_requireCaption σ a0 a1) (fun x s => (x, (0 : Int32), s)) fun σ2 => (g_k1 (f_X3_trackOf σ2 1 a0) fun v3 => (g_k1 (f_X8_signAt σ2 v3 a1 a2) fun v4 => (if v4 = (-1 : Int32) then some (5, 0, σ2) else some (0, (((v4).toUInt32 % 65536).toInt32), σ2)))))
set_option maxRecDepth 100000 in
set_option maxHeartbeats 4000000 in
theorem c_X9_letter (l : Launch) (hl0 : l.stackTraces = false) {Γ : gG} {ad : Nat → Nat} {N : Nat} (hN : 202 ≤ N) {σ : gSt} {a0 : Int32} {a1 : Int32} {a2 : Int32}  {x : Nat} {r : Int32} {σ' : gSt} (hf : f_X9_letter σ a0 a1 a2 = some (x, r, σ')) : gMxi l Γ ad N yX9_letter cX9_letter 5 (some .char) (gR 10 3 18) [.ref (ad 0), .int a0, .int a1, .int a2] σ x r σ' 3 18 := by
  intro sz
  refine gOfX (Qc := fun sz => gQcxi Γ ad N x r σ' sz) (XC := fun sz => gXc Γ ad N x σ' sz) RX9 (by decide) rfl (by decide) (fun p e s m args below meth c H locs ls X hT S hl => ?_)
  have hl : lv_has ls 5 [(4, .int v4), (0, .ref (ad 0)), (1, .int a0), (2, .int a1), (3, .int a2)] := hl
  have hx := X.1
  have hb := X.2.1
  unfold f_X9_letter at hf
  refine lv_aload_n hx hb dX9_letter_0 rfl (lv_at hl 0 rfl) ?_
  refine lv_iload_n hx hb dX9_letter_1 rfl (lv_at hl 1 rfl) ?_
  refine lv_iload_n hx hb dX9_letter_2 rfl (lv_at hl 2 rfl) ?_
  obtain ⟨x1, σ2, hx1, hf, hfx⟩ := g_sx2 hf
  refine g_kxG S X hT (g_xrunV (rest := []) X S (c_X9_requireCaption l hl0 hN  hx1 _) cvX9_requireCaption mlX9_196 (kd_N kd_s0 (by decide) hN) (ceC_9 kd_s0 _) rfl rfl rfl hl.1 (by decide) ⟨⟨rfl, rfl⟩, ⟨Nat.le_of_ble_eq_true rfl, Nat.le_of_ble_eq_true rfl⟩, Nat.le_of_ble_eq_true rfl, Nat.le_of_ble_eq_true rfl⟩ dX9_letter_3) (fun h0 => by have h9 := hfx h0; cases h9; exact ⟨rfl, rfl⟩) (by decide) (by decide) (fun h0 H locs S => ?_)
  have hf := hf h0
  refine lv_aload_n hx hb dX9_letter_6 rfl (lv_at hl 0 rfl) ?_
  refine gfX9_10 X S hN kd_s0 dX9_letter_7 ?_
  refine lv_iload_n hx hb dX9_letter_10 rfl (lv_at hl 1 rfl) ?_
  obtain ⟨v3, hv3, hf⟩ := g_s1 hf
  refine g_kr S (g_runV (rest := []) X S (c_X3_trackOf l hN kd_s1 hv3 _) cvX3_trackOf mlX9_138 (kd_N kd_s1 (by decide) hN) (ceC_3 kd_s1 _) rfl rfl rfl hl.1 (by decide) ⟨⟨rfl, rfl⟩, ⟨Nat.le_of_ble_eq_true rfl, Nat.le_of_ble_eq_true rfl⟩, Nat.le_of_ble_eq_true rfl, Nat.le_of_ble_eq_true rfl⟩ dX9_letter_11) (fun H locs S => ?_)
  have hkv3 : gkd v3 = 8 := kr_X3_trackOf kd_s1 hv3
  refine lv_iload_n hx hb dX9_letter_14 rfl (lv_at hl 2 rfl) ?_
  refine lv_iload_n hx hb dX9_letter_15 rfl (lv_at hl 3 rfl) ?_
  obtain ⟨v4, hv4, hf⟩ := g_s1 hf
  refine g_ki S (g_runV (rest := []) X S (c_X8_signAt l hN hkv3 hv4 _) cvX8_signAt mlX9_287 (kd_N hkv3 (by decide) hN) (ceC_8 hkv3 _) rfl rfl rfl hl.1 (by decide) ⟨⟨rfl, rfl⟩, ⟨Nat.le_of_ble_eq_true rfl, Nat.le_of_ble_eq_true rfl⟩, Nat.le_of_ble_eq_true rfl, Nat.le_of_ble_eq_true rfl⟩ dX9_letter_16) (fun H locs S => ?_)
  refine lv_istore (lv' := [(4, .int v4), (0, .ref (ad 0)), (1, .int a0), (2, .int a1), (3, .int a2)]) hx hb dX9_letter_19 hl (by decide) rfl (fun ls hl => ?_)
  refine lv_iload hx hb dX9_letter_21 (lv_at hl 0 rfl) ?_
  refine lv_iconst (v := (-1 : Int32)) hx hb dX9_letter_23 (by decide) ?_
  refine lv_icmp_ne (tgt := 37) hx hb dX9_letter_24 (by decide) (fun c5 => ?_) (fun c5 => ?_)
  · have hf := (if_neg c5).symm.trans hf
    refine lv_iload hx hb dX9_letter_37 (lv_at hl 0 rfl) ?_
    refine lv_i2c (v := (((v4).toUInt32 % 65536).toInt32)) hx hb dX9_letter_39 rfl ?_
    cases hf
    exact g_xreti X S (pk_nc _) dX9_letter_40 (by decide) (by decide)
  · have hf := (if_pos c5).symm.trans hf
    cases hf
    exact g_throwX hl0 X S hT hl.1 ex_5 st_212 dX9_letter_27 dX9_letter_30 dX9_letter_31 dX9_letter_33 dX9_letter_36 (by decide) (Nat.le_of_ble_eq_true rfl) (Nat.le_of_ble_eq_true rfl) (Nat.le_of_ble_eq_true rfl) (Nat.le_of_ble_eq_true rfl) (Nat.le_of_ble_eq_true rfl)

noncomputable def f_X9_shown (σ : gSt) (a0 : Int32) (a1 : Int32) : Option (Nat × Int32 × gSt) :=
  (g_x2 (f_X9_requireTrack σ a0) (fun x s => (x, (0 : Int32), s)) fun σ2 => (g_k1 (f_X3_hasFrame σ2 1 a1) fun v3 => (if v3 = 0 then some (3, 0, σ2) else (g_k1 (f_X3_trackOf σ2 1 a0) fun v5 => (g_k1 (f_X8_captionOn σ2 v5 a1) fun v6 => (if v6 = (-1 : Int32) then some (5, 0, σ2) else some (0, v6, σ2)))))))
set_option maxRecDepth 100000 in
set_option maxHeartbeats 4000000 in
theorem c_X9_shown (l : Launch) (hl0 : l.stackTraces = false) {Γ : gG} {ad : Nat → Nat} {N : Nat} (hN : 202 ≤ N) {σ : gSt} {a0 : Int32} {a1 : Int32}  {x : Nat} {r : Int32} {σ' : gSt} (hf : f_X9_shown σ a0 a1 = some (x, r, σ')) : gMxi l Γ ad N yX9_shown cX9_shown 4 (some .int) (gR 9 2 12) [.ref (ad 0), .int a0, .int a1] σ x r σ' 2 12 := by
  intro sz
  refine gOfX (Qc := fun sz => gQcxi Γ ad N x r σ' sz) (XC := fun sz => gXc Γ ad N x σ' sz) RX9 (by decide) rfl (by decide) (fun p e s m args below meth c H locs ls X hT S hl => ?_)
  have hl : lv_has ls 4 [(0, .ref (ad 0)), (1, .int a0), (2, .int a1)] := hl
  have hx := X.1
  have hb := X.2.1
  unfold f_X9_shown at hf
  refine lv_aload_n hx hb dX9_shown_0 rfl (lv_at hl 0 rfl) ?_
  refine lv_iload_n hx hb dX9_shown_1 rfl (lv_at hl 1 rfl) ?_
  obtain ⟨x1, σ2, hx1, hf, hfx⟩ := g_sx2 hf
  refine g_kxG S X hT (g_xrunV (rest := []) X S (c_X9_requireTrack l hl0 hN  hx1 _) cvX9_requireTrack mlX9_184 (kd_N kd_s0 (by decide) hN) (ceC_9 kd_s0 _) rfl rfl rfl hl.1 (by decide) ⟨⟨rfl, rfl⟩, ⟨Nat.le_of_ble_eq_true rfl, Nat.le_of_ble_eq_true rfl⟩, Nat.le_of_ble_eq_true rfl, Nat.le_of_ble_eq_true rfl⟩ dX9_shown_2) (fun h0 => by have h9 := hfx h0; cases h9; exact ⟨rfl, rfl⟩) (by decide) (by decide) (fun h0 H locs S => ?_)
  have hf := hf h0
  refine lv_aload_n hx hb dX9_shown_5 rfl (lv_at hl 0 rfl) ?_
  refine gfX9_10 X S hN kd_s0 dX9_shown_6 ?_
  refine lv_iload_n hx hb dX9_shown_9 rfl (lv_at hl 2 rfl) ?_
  obtain ⟨v3, hv3, hf⟩ := g_s1 hf
  refine g_ki S (g_runV (rest := []) X S (c_X3_hasFrame l hN kd_s1 hv3 _) cvX3_hasFrame mlX9_164 (kd_N kd_s1 (by decide) hN) (ceC_3 kd_s1 _) rfl rfl rfl hl.1 (by decide) ⟨⟨rfl, rfl⟩, ⟨Nat.le_of_ble_eq_true rfl, Nat.le_of_ble_eq_true rfl⟩, Nat.le_of_ble_eq_true rfl, Nat.le_of_ble_eq_true rfl⟩ dX9_shown_10) (fun H locs S => ?_)
  refine lv_if_ne (tgt := 26) hx hb dX9_shown_13 (by decide) (fun c4 => ?_) (fun c4 => ?_)
  · have hf := (if_neg c4).symm.trans hf
    refine lv_aload_n hx hb dX9_shown_26 rfl (lv_at hl 0 rfl) ?_
    refine gfX9_10 X S hN kd_s0 dX9_shown_27 ?_
    refine lv_iload_n hx hb dX9_shown_30 rfl (lv_at hl 1 rfl) ?_
    obtain ⟨v5, hv5, hf⟩ := g_s1 hf
    refine g_kr S (g_runV (rest := []) X S (c_X3_trackOf l hN kd_s1 hv5 _) cvX3_trackOf mlX9_138 (kd_N kd_s1 (by decide) hN) (ceC_3 kd_s1 _) rfl rfl rfl hl.1 (by decide) ⟨⟨rfl, rfl⟩, ⟨Nat.le_of_ble_eq_true rfl, Nat.le_of_ble_eq_true rfl⟩, Nat.le_of_ble_eq_true rfl, Nat.le_of_ble_eq_true rfl⟩ dX9_shown_31) (fun H locs S => ?_)
    have hkv5 : gkd v5 = 8 := kr_X3_trackOf kd_s1 hv5
    refine lv_iload_n hx hb dX9_shown_34 rfl (lv_at hl 2 rfl) ?_
    obtain ⟨v6, hv6, hf⟩ := g_s1 hf
    refine g_ki S (g_runV (rest := []) X S (c_X8_captionOn l hN hkv5 hv6 _) cvX8_captionOn mlX9_293 (kd_N hkv5 (by decide) hN) (ceC_8 hkv5 _) rfl rfl rfl hl.1 (by decide) ⟨⟨rfl, rfl⟩, ⟨Nat.le_of_ble_eq_true rfl, Nat.le_of_ble_eq_true rfl⟩, Nat.le_of_ble_eq_true rfl, Nat.le_of_ble_eq_true rfl⟩ dX9_shown_35) (fun H locs S => ?_)
    refine lv_istore_n (lv' := [(3, .int v6), (0, .ref (ad 0)), (1, .int a0), (2, .int a1)]) hx hb dX9_shown_38 rfl hl (by decide) rfl (fun ls hl => ?_)
    refine lv_iload_n hx hb dX9_shown_39 rfl (lv_at hl 0 rfl) ?_
    refine lv_iconst (v := (-1 : Int32)) hx hb dX9_shown_40 (by decide) ?_
    refine lv_icmp_ne (tgt := 55) hx hb dX9_shown_41 (by decide) (fun c7 => ?_) (fun c7 => ?_)
    · have hf := (if_neg c7).symm.trans hf
      refine lv_iload_n hx hb dX9_shown_55 rfl (lv_at hl 0 rfl) ?_
      cases hf
      exact g_xreti X S rfl dX9_shown_56 (by decide) (by decide)
    · have hf := (if_pos c7).symm.trans hf
      cases hf
      exact g_throwXW hl0 X S hT hl.1 ex_5 st_296 dX9_shown_44 dX9_shown_47 dX9_shown_48 dX9_shown_51 dX9_shown_54 (by decide) (Nat.le_of_ble_eq_true rfl) (Nat.le_of_ble_eq_true rfl) (Nat.le_of_ble_eq_true rfl) (Nat.le_of_ble_eq_true rfl) (Nat.le_of_ble_eq_true rfl)
  · have hf := (if_pos c4).symm.trans hf
    cases hf
    exact g_throwX hl0 X S hT hl.1 ex_3 st_167 dX9_shown_16 dX9_shown_19 dX9_shown_20 dX9_shown_22 dX9_shown_25 (by decide) (Nat.le_of_ble_eq_true rfl) (Nat.le_of_ble_eq_true rfl) (Nat.le_of_ble_eq_true rfl) (Nat.le_of_ble_eq_true rfl) (Nat.le_of_ble_eq_true rfl)

noncomputable def f_X9_track (σ : gSt) (a0 : Int32) (a1 : Int32) : Option (Nat × Int32 × gSt) :=
  (g_x2 (f_X9_requireTrack σ a0) (fun x s => (x, (0 : Int32), s)) fun σ2 => (if a1 = (0 : Int32) then (g_k1 (f_X3_trackOf σ2 1 a0) fun v4 => (g_k1 (f_X8_allFrames σ2 v4) fun v5 => some (0, v5, σ2))) else (if a1 = (1 : Int32) then (g_k1 (f_X3_trackOf σ2 1 a0) fun v7 => (g_k1 (f_X8_allLoad σ2 v7) fun v8 => some (0, v8, σ2))) else (if a1 = (2 : Int32) then (g_k1 (f_X2_captionsWith σ2 a0 (1 : Int32)) fun v10 => some (0, v10, σ2)) else (if a1 = (3 : Int32) then (g_k1 (f_X2_captionsWith σ2 a0 (6 : Int32)) fun v12 => some (0, v12, σ2)) else (if a1 = (4 : Int32) then (g_k1 (f_X2_captionsWith σ2 a0 (8 : Int32)) fun v14 => some (0, v14, σ2)) else (if a1 = (5 : Int32) then (g_k1 (f_X2_captionsWith σ2 a0 (16 : Int32)) fun v16 => some (0, v16, σ2)) else (if a1 = (6 : Int32) then (g_k1 (f_X2_captionsWith σ2 a0 (32 : Int32)) fun v18 => some (0, v18, σ2)) else (if a1 = (7 : Int32) then (g_k1 (f_X2_captionsOverCuts σ2 a0) fun v20 => some (0, v20, σ2)) else (if a1 = (8 : Int32) then (g_k2 (f_X2_captionsToMerge σ2 a0) fun v22 σ23 => some (0, v22, σ23)) else some (1, 0, σ2)))))))))))
set_option maxRecDepth 100000 in
set_option maxHeartbeats 4000000 in
theorem c_X9_track (l : Launch) (hl0 : l.stackTraces = false) {Γ : gG} {ad : Nat → Nat} {N : Nat} (hN : 202 ≤ N) {σ : gSt} {a0 : Int32} {a1 : Int32}  {x : Nat} {r : Int32} {σ' : gSt} (hf : f_X9_track σ a0 a1 = some (x, r, σ')) : gMxi l Γ ad N yX9_track cX9_track 3 (some .int) (gR 9 2 12) [.ref (ad 0), .int a0, .int a1] σ x r σ' 2 12 := by
  intro sz
  refine gOfX (Qc := fun sz => gQcxi Γ ad N x r σ' sz) (XC := fun sz => gXc Γ ad N x σ' sz) RX9 (by decide) rfl (by decide) (fun p e s m args below meth c H locs ls X hT S hl => ?_)
  have hl : lv_has ls 3 [(0, .ref (ad 0)), (1, .int a0), (2, .int a1)] := hl
  have hx := X.1
  have hb := X.2.1
  unfold f_X9_track at hf
  refine lv_aload_n hx hb dX9_track_0 rfl (lv_at hl 0 rfl) ?_
  refine lv_iload_n hx hb dX9_track_1 rfl (lv_at hl 1 rfl) ?_
  obtain ⟨x1, σ2, hx1, hf, hfx⟩ := g_sx2 hf
  refine g_kxG S X hT (g_xrunV (rest := []) X S (c_X9_requireTrack l hl0 hN  hx1 _) cvX9_requireTrack mlX9_184 (kd_N kd_s0 (by decide) hN) (ceC_9 kd_s0 _) rfl rfl rfl hl.1 (by decide) ⟨⟨rfl, rfl⟩, ⟨Nat.le_of_ble_eq_true rfl, Nat.le_of_ble_eq_true rfl⟩, Nat.le_of_ble_eq_true rfl, Nat.le_of_ble_eq_true rfl⟩ dX9_track_2) (fun h0 => by have h9 := hfx h0; cases h9; exact ⟨rfl, rfl⟩) (by decide) (by decide) (fun h0 H locs S => ?_)
  have hf := hf h0
  refine lv_iload_n hx hb dX9_track_5 rfl (lv_at hl 2 rfl) ?_
  by_cases c3 : a1 = (0 : Int32)
  · have hf := (if_pos c3).symm.trans hf
    refine lv_tableIn (off := 50) (tgt := 56) hx hb dX9_track_6 (by rw [c3]; decide) (by rw [c3]; decide) (by rw [c3]; decide) (by decide) ?_
    refine lv_aload_n hx hb dX9_track_56 rfl (lv_at hl 0 rfl) ?_
    refine gfX9_10 X S hN kd_s0 dX9_track_57 ?_
    refine lv_iload_n hx hb dX9_track_60 rfl (lv_at hl 1 rfl) ?_
    obtain ⟨v4, hv4, hf⟩ := g_s1 hf
    refine g_kr S (g_runV (rest := []) X S (c_X3_trackOf l hN kd_s1 hv4 _) cvX3_trackOf mlX9_138 (kd_N kd_s1 (by decide) hN) (ceC_3 kd_s1 _) rfl rfl rfl hl.1 (by decide) ⟨⟨rfl, rfl⟩, ⟨Nat.le_of_ble_eq_true rfl, Nat.le_of_ble_eq_true rfl⟩, Nat.le_of_ble_eq_true rfl, Nat.le_of_ble_eq_true rfl⟩ dX9_track_61) (fun H locs S => ?_)
    have hkv4 : gkd v4 = 8 := kr_X3_trackOf kd_s1 hv4
    obtain ⟨v5, hv5, hf⟩ := g_s1 hf
    refine g_ki S (g_runV (rest := []) X S (c_X8_allFrames l hN hkv4 hv5 _) cvX8_allFrames mlX9_298 (kd_N hkv4 (by decide) hN) (ceC_8 hkv4 _) rfl rfl rfl hl.1 (by decide) ⟨⟨rfl, rfl⟩, ⟨Nat.le_of_ble_eq_true rfl, Nat.le_of_ble_eq_true rfl⟩, Nat.le_of_ble_eq_true rfl, Nat.le_of_ble_eq_true rfl⟩ dX9_track_64) (fun H locs S => ?_)
    cases hf
    exact g_xreti X S rfl dX9_track_67 (by decide) (by decide)
  replace hf := (if_neg c3).symm.trans hf
  by_cases c6 : a1 = (1 : Int32)
  · have hf := (if_pos c6).symm.trans hf
    refine lv_tableIn (off := 62) (tgt := 68) hx hb dX9_track_6 (by rw [c6]; decide) (by rw [c6]; decide) (by rw [c6]; decide) (by decide) ?_
    refine lv_aload_n hx hb dX9_track_68 rfl (lv_at hl 0 rfl) ?_
    refine gfX9_10 X S hN kd_s0 dX9_track_69 ?_
    refine lv_iload_n hx hb dX9_track_72 rfl (lv_at hl 1 rfl) ?_
    obtain ⟨v7, hv7, hf⟩ := g_s1 hf
    refine g_kr S (g_runV (rest := []) X S (c_X3_trackOf l hN kd_s1 hv7 _) cvX3_trackOf mlX9_138 (kd_N kd_s1 (by decide) hN) (ceC_3 kd_s1 _) rfl rfl rfl hl.1 (by decide) ⟨⟨rfl, rfl⟩, ⟨Nat.le_of_ble_eq_true rfl, Nat.le_of_ble_eq_true rfl⟩, Nat.le_of_ble_eq_true rfl, Nat.le_of_ble_eq_true rfl⟩ dX9_track_73) (fun H locs S => ?_)
    have hkv7 : gkd v7 = 8 := kr_X3_trackOf kd_s1 hv7
    obtain ⟨v8, hv8, hf⟩ := g_s1 hf
    refine g_ki S (g_runV (rest := []) X S (c_X8_allLoad l hN hkv7 hv8 _) cvX8_allLoad mlX9_301 (kd_N hkv7 (by decide) hN) (ceC_8 hkv7 _) rfl rfl rfl hl.1 (by decide) ⟨⟨rfl, rfl⟩, ⟨Nat.le_of_ble_eq_true rfl, Nat.le_of_ble_eq_true rfl⟩, Nat.le_of_ble_eq_true rfl, Nat.le_of_ble_eq_true rfl⟩ dX9_track_76) (fun H locs S => ?_)
    cases hf
    exact g_xreti X S rfl dX9_track_79 (by decide) (by decide)
  replace hf := (if_neg c6).symm.trans hf
  by_cases c9 : a1 = (2 : Int32)
  · have hf := (if_pos c9).symm.trans hf
    refine lv_tableIn (off := 74) (tgt := 80) hx hb dX9_track_6 (by rw [c9]; decide) (by rw [c9]; decide) (by rw [c9]; decide) (by decide) ?_
    refine lv_aload_n hx hb dX9_track_80 rfl (lv_at hl 0 rfl) ?_
    refine gfX9_21 X S hN kd_s0 dX9_track_81 ?_
    refine lv_iload_n hx hb dX9_track_84 rfl (lv_at hl 1 rfl) ?_
    refine lv_iconst (v := (1 : Int32)) hx hb dX9_track_85 (by decide) ?_
    obtain ⟨v10, hv10, hf⟩ := g_s1 hf
    refine g_ki S (g_runV (rest := []) X S (c_X2_captionsWith l hN  hv10 _) cvX2_captionsWith mlX9_149 (kd_N kd_s17 (by decide) hN) (ceC_2 kd_s17 _) rfl rfl rfl hl.1 (by decide) ⟨⟨rfl, rfl⟩, ⟨Nat.le_of_ble_eq_true rfl, Nat.le_of_ble_eq_true rfl⟩, Nat.le_of_ble_eq_true rfl, Nat.le_of_ble_eq_true rfl⟩ dX9_track_86) (fun H locs S => ?_)
    cases hf
    exact g_xreti X S rfl dX9_track_89 (by decide) (by decide)
  replace hf := (if_neg c9).symm.trans hf
  by_cases c11 : a1 = (3 : Int32)
  · have hf := (if_pos c11).symm.trans hf
    refine lv_tableIn (off := 84) (tgt := 90) hx hb dX9_track_6 (by rw [c11]; decide) (by rw [c11]; decide) (by rw [c11]; decide) (by decide) ?_
    refine lv_aload_n hx hb dX9_track_90 rfl (lv_at hl 0 rfl) ?_
    refine gfX9_21 X S hN kd_s0 dX9_track_91 ?_
    refine lv_iload_n hx hb dX9_track_94 rfl (lv_at hl 1 rfl) ?_
    refine lv_bipush (v := (6 : Int32)) hx hb dX9_track_95 (by decide) ?_
    obtain ⟨v12, hv12, hf⟩ := g_s1 hf
    refine g_ki S (g_runV (rest := []) X S (c_X2_captionsWith l hN  hv12 _) cvX2_captionsWith mlX9_149 (kd_N kd_s17 (by decide) hN) (ceC_2 kd_s17 _) rfl rfl rfl hl.1 (by decide) ⟨⟨rfl, rfl⟩, ⟨Nat.le_of_ble_eq_true rfl, Nat.le_of_ble_eq_true rfl⟩, Nat.le_of_ble_eq_true rfl, Nat.le_of_ble_eq_true rfl⟩ dX9_track_97) (fun H locs S => ?_)
    cases hf
    exact g_xreti X S rfl dX9_track_100 (by decide) (by decide)
  replace hf := (if_neg c11).symm.trans hf
  by_cases c13 : a1 = (4 : Int32)
  · have hf := (if_pos c13).symm.trans hf
    refine lv_tableIn (off := 95) (tgt := 101) hx hb dX9_track_6 (by rw [c13]; decide) (by rw [c13]; decide) (by rw [c13]; decide) (by decide) ?_
    refine lv_aload_n hx hb dX9_track_101 rfl (lv_at hl 0 rfl) ?_
    refine gfX9_21 X S hN kd_s0 dX9_track_102 ?_
    refine lv_iload_n hx hb dX9_track_105 rfl (lv_at hl 1 rfl) ?_
    refine lv_bipush (v := (8 : Int32)) hx hb dX9_track_106 (by decide) ?_
    obtain ⟨v14, hv14, hf⟩ := g_s1 hf
    refine g_ki S (g_runV (rest := []) X S (c_X2_captionsWith l hN  hv14 _) cvX2_captionsWith mlX9_149 (kd_N kd_s17 (by decide) hN) (ceC_2 kd_s17 _) rfl rfl rfl hl.1 (by decide) ⟨⟨rfl, rfl⟩, ⟨Nat.le_of_ble_eq_true rfl, Nat.le_of_ble_eq_true rfl⟩, Nat.le_of_ble_eq_true rfl, Nat.le_of_ble_eq_true rfl⟩ dX9_track_108) (fun H locs S => ?_)
    cases hf
    exact g_xreti X S rfl dX9_track_111 (by decide) (by decide)
  replace hf := (if_neg c13).symm.trans hf
  by_cases c15 : a1 = (5 : Int32)
  · have hf := (if_pos c15).symm.trans hf
    refine lv_tableIn (off := 106) (tgt := 112) hx hb dX9_track_6 (by rw [c15]; decide) (by rw [c15]; decide) (by rw [c15]; decide) (by decide) ?_
    refine lv_aload_n hx hb dX9_track_112 rfl (lv_at hl 0 rfl) ?_
    refine gfX9_21 X S hN kd_s0 dX9_track_113 ?_
    refine lv_iload_n hx hb dX9_track_116 rfl (lv_at hl 1 rfl) ?_
    refine lv_bipush (v := (16 : Int32)) hx hb dX9_track_117 (by decide) ?_
    obtain ⟨v16, hv16, hf⟩ := g_s1 hf
    refine g_ki S (g_runV (rest := []) X S (c_X2_captionsWith l hN  hv16 _) cvX2_captionsWith mlX9_149 (kd_N kd_s17 (by decide) hN) (ceC_2 kd_s17 _) rfl rfl rfl hl.1 (by decide) ⟨⟨rfl, rfl⟩, ⟨Nat.le_of_ble_eq_true rfl, Nat.le_of_ble_eq_true rfl⟩, Nat.le_of_ble_eq_true rfl, Nat.le_of_ble_eq_true rfl⟩ dX9_track_119) (fun H locs S => ?_)
    cases hf
    exact g_xreti X S rfl dX9_track_122 (by decide) (by decide)
  replace hf := (if_neg c15).symm.trans hf
  by_cases c17 : a1 = (6 : Int32)
  · have hf := (if_pos c17).symm.trans hf
    refine lv_tableIn (off := 117) (tgt := 123) hx hb dX9_track_6 (by rw [c17]; decide) (by rw [c17]; decide) (by rw [c17]; decide) (by decide) ?_
    refine lv_aload_n hx hb dX9_track_123 rfl (lv_at hl 0 rfl) ?_
    refine gfX9_21 X S hN kd_s0 dX9_track_124 ?_
    refine lv_iload_n hx hb dX9_track_127 rfl (lv_at hl 1 rfl) ?_
    refine lv_bipush (v := (32 : Int32)) hx hb dX9_track_128 (by decide) ?_
    obtain ⟨v18, hv18, hf⟩ := g_s1 hf
    refine g_ki S (g_runV (rest := []) X S (c_X2_captionsWith l hN  hv18 _) cvX2_captionsWith mlX9_149 (kd_N kd_s17 (by decide) hN) (ceC_2 kd_s17 _) rfl rfl rfl hl.1 (by decide) ⟨⟨rfl, rfl⟩, ⟨Nat.le_of_ble_eq_true rfl, Nat.le_of_ble_eq_true rfl⟩, Nat.le_of_ble_eq_true rfl, Nat.le_of_ble_eq_true rfl⟩ dX9_track_130) (fun H locs S => ?_)
    cases hf
    exact g_xreti X S rfl dX9_track_133 (by decide) (by decide)
  replace hf := (if_neg c17).symm.trans hf
  by_cases c19 : a1 = (7 : Int32)
  · have hf := (if_pos c19).symm.trans hf
    refine lv_tableIn (off := 128) (tgt := 134) hx hb dX9_track_6 (by rw [c19]; decide) (by rw [c19]; decide) (by rw [c19]; decide) (by decide) ?_
    refine lv_aload_n hx hb dX9_track_134 rfl (lv_at hl 0 rfl) ?_
    refine gfX9_21 X S hN kd_s0 dX9_track_135 ?_
    refine lv_iload_n hx hb dX9_track_138 rfl (lv_at hl 1 rfl) ?_
    obtain ⟨v20, hv20, hf⟩ := g_s1 hf
    refine g_ki S (g_runV (rest := []) X S (c_X2_captionsOverCuts l hN  hv20 _) cvX2_captionsOverCuts mlX9_304 (kd_N kd_s17 (by decide) hN) (ceC_2 kd_s17 _) rfl rfl rfl hl.1 (by decide) ⟨⟨rfl, rfl⟩, ⟨Nat.le_of_ble_eq_true rfl, Nat.le_of_ble_eq_true rfl⟩, Nat.le_of_ble_eq_true rfl, Nat.le_of_ble_eq_true rfl⟩ dX9_track_139) (fun H locs S => ?_)
    cases hf
    exact g_xreti X S rfl dX9_track_142 (by decide) (by decide)
  replace hf := (if_neg c19).symm.trans hf
  by_cases c21 : a1 = (8 : Int32)
  · have hf := (if_pos c21).symm.trans hf
    refine lv_tableIn (off := 137) (tgt := 143) hx hb dX9_track_6 (by rw [c21]; decide) (by rw [c21]; decide) (by rw [c21]; decide) (by decide) ?_
    refine lv_aload_n hx hb dX9_track_143 rfl (lv_at hl 0 rfl) ?_
    refine gfX9_21 X S hN kd_s0 dX9_track_144 ?_
    refine lv_iload_n hx hb dX9_track_147 rfl (lv_at hl 1 rfl) ?_
    obtain ⟨v22, σ23, hv22, hf⟩ := g_s2 hf
    refine g_ki S (g_runV (rest := []) X S (c_X2_captionsToMerge l hN  hv22 _) cvX2_captionsToMerge mlX9_307 (kd_N kd_s17 (by decide) hN) (ceC_2 kd_s17 _) rfl rfl rfl hl.1 (by decide) ⟨⟨rfl, rfl⟩, ⟨Nat.le_of_ble_eq_true rfl, Nat.le_of_ble_eq_true rfl⟩, Nat.le_of_ble_eq_true rfl, Nat.le_of_ble_eq_true rfl⟩ dX9_track_148) (fun H locs S => ?_)
    cases hf
    exact g_xreti X S rfl dX9_track_151 (by decide) (by decide)
  replace hf := (if_neg c21).symm.trans hf
  refine lv_tableOut (tgt := 152) hx hb dX9_track_6 (g_swout0 (x := a1) (lo := 0) (n := 9) (fun j hj => by rcases (show j = 0 ∨ j = 1 ∨ j = 2 ∨ j = 3 ∨ j = 4 ∨ j = 5 ∨ j = 6 ∨ j = 7 ∨ j = 8 by omega) with rfl | rfl | rfl | rfl | rfl | rfl | rfl | rfl | rfl <;> (intro h9; first | exact c3 (Int32.toInt_inj.mp (h9.trans (by decide))) | exact c6 (Int32.toInt_inj.mp (h9.trans (by decide))) | exact c9 (Int32.toInt_inj.mp (h9.trans (by decide))) | exact c11 (Int32.toInt_inj.mp (h9.trans (by decide))) | exact c13 (Int32.toInt_inj.mp (h9.trans (by decide))) | exact c15 (Int32.toInt_inj.mp (h9.trans (by decide))) | exact c17 (Int32.toInt_inj.mp (h9.trans (by decide))) | exact c19 (Int32.toInt_inj.mp (h9.trans (by decide))) | exact c21 (Int32.toInt_inj.mp (h9.trans (by decide)))))) (by decide) ?_
  cases hf
  exact g_throwX hl0 X S hT hl.1 ex_1 st_159 dX9_track_152 dX9_track_155 dX9_track_156 dX9_track_158 dX9_track_161 (by decide) (Nat.le_of_ble_eq_true rfl) (Nat.le_of_ble_eq_true rfl) (Nat.le_of_ble_eq_true rfl) (Nat.le_of_ble_eq_true rfl) (Nat.le_of_ble_eq_true rfl)

noncomputable def f_X9_fastest (σ : gSt) (a0 : Int32) : Option (Nat × Int32 × gSt) :=
  (g_x2 (f_X9_requireTrack σ a0) (fun x s => (x, (0 : Int32), s)) fun σ2 => (g_k1 (f_X3_trackOf σ2 1 a0) fun v3 => (g_k1 (f_X8_densest σ2 v3) fun v4 => (if v4 = (-1 : Int32) then some (5, 0, σ2) else some (0, v4, σ2)))))
set_option maxRecDepth 100000 in
set_option maxHeartbeats 4000000 in
theorem c_X9_fastest (l : Launch) (hl0 : l.stackTraces = false) {Γ : gG} {ad : Nat → Nat} {N : Nat} (hN : 202 ≤ N) {σ : gSt} {a0 : Int32}  {x : Nat} {r : Int32} {σ' : gSt} (hf : f_X9_fastest σ a0 = some (x, r, σ')) : gMxi l Γ ad N yX9_fastest cX9_fastest 3 (some .int) (gR 9 2 12) [.ref (ad 0), .int a0] σ x r σ' 2 12 := by
  intro sz
  refine gOfX (Qc := fun sz => gQcxi Γ ad N x r σ' sz) (XC := fun sz => gXc Γ ad N x σ' sz) RX9 (by decide) rfl (by decide) (fun p e s m args below meth c H locs ls X hT S hl => ?_)
  have hl : lv_has ls 3 [(2, .int v4), (0, .ref (ad 0)), (1, .int a0)] := hl
  have hx := X.1
  have hb := X.2.1
  unfold f_X9_fastest at hf
  refine lv_aload_n hx hb dX9_fastest_0 rfl (lv_at hl 0 rfl) ?_
  refine lv_iload_n hx hb dX9_fastest_1 rfl (lv_at hl 1 rfl) ?_
  obtain ⟨x1, σ2, hx1, hf, hfx⟩ := g_sx2 hf
  refine g_kxG S X hT (g_xrunV (rest := []) X S (c_X9_requireTrack l hl0 hN  hx1 _) cvX9_requireTrack mlX9_184 (kd_N kd_s0 (by decide) hN) (ceC_9 kd_s0 _) rfl rfl rfl hl.1 (by decide) ⟨⟨rfl, rfl⟩, ⟨Nat.le_of_ble_eq_true rfl, Nat.le_of_ble_eq_true rfl⟩, Nat.le_of_ble_eq_true rfl, Nat.le_of_ble_eq_true rfl⟩ dX9_fastest_2) (fun h0 => by have h9 := hfx h0; cases h9; exact ⟨rfl, rfl⟩) (by decide) (by decide) (fun h0 H locs S => ?_)
  have hf := hf h0
  refine lv_aload_n hx hb dX9_fastest_5 rfl (lv_at hl 0 rfl) ?_
  refine gfX9_10 X S hN kd_s0 dX9_fastest_6 ?_
  refine lv_iload_n hx hb dX9_fastest_9 rfl (lv_at hl 1 rfl) ?_
  obtain ⟨v3, hv3, hf⟩ := g_s1 hf
  refine g_kr S (g_runV (rest := []) X S (c_X3_trackOf l hN kd_s1 hv3 _) cvX3_trackOf mlX9_138 (kd_N kd_s1 (by decide) hN) (ceC_3 kd_s1 _) rfl rfl rfl hl.1 (by decide) ⟨⟨rfl, rfl⟩, ⟨Nat.le_of_ble_eq_true rfl, Nat.le_of_ble_eq_true rfl⟩, Nat.le_of_ble_eq_true rfl, Nat.le_of_ble_eq_true rfl⟩ dX9_fastest_10) (fun H locs S => ?_)
  have hkv3 : gkd v3 = 8 := kr_X3_trackOf kd_s1 hv3
  obtain ⟨v4, hv4, hf⟩ := g_s1 hf
  refine g_ki S (g_runV (rest := []) X S (c_X8_densest l hN hkv3 hv4 _) cvX8_densest mlX9_310 (kd_N hkv3 (by decide) hN) (ceC_8 hkv3 _) rfl rfl rfl hl.1 (by decide) ⟨⟨rfl, rfl⟩, ⟨Nat.le_of_ble_eq_true rfl, Nat.le_of_ble_eq_true rfl⟩, Nat.le_of_ble_eq_true rfl, Nat.le_of_ble_eq_true rfl⟩ dX9_fastest_13) (fun H locs S => ?_)
  refine lv_istore_n (lv' := [(2, .int v4), (0, .ref (ad 0)), (1, .int a0)]) hx hb dX9_fastest_16 rfl hl (by decide) rfl (fun ls hl => ?_)
  refine lv_iload_n hx hb dX9_fastest_17 rfl (lv_at hl 0 rfl) ?_
  refine lv_iconst (v := (-1 : Int32)) hx hb dX9_fastest_18 (by decide) ?_
  refine lv_icmp_ne (tgt := 33) hx hb dX9_fastest_19 (by decide) (fun c5 => ?_) (fun c5 => ?_)
  · have hf := (if_neg c5).symm.trans hf
    refine lv_iload_n hx hb dX9_fastest_33 rfl (lv_at hl 0 rfl) ?_
    cases hf
    exact g_xreti X S rfl dX9_fastest_34 (by decide) (by decide)
  · have hf := (if_pos c5).symm.trans hf
    cases hf
    exact g_throwXW hl0 X S hT hl.1 ex_5 st_313 dX9_fastest_22 dX9_fastest_25 dX9_fastest_26 dX9_fastest_29 dX9_fastest_32 (by decide) (Nat.le_of_ble_eq_true rfl) (Nat.le_of_ble_eq_true rfl) (Nat.le_of_ble_eq_true rfl) (Nat.le_of_ble_eq_true rfl) (Nat.le_of_ble_eq_true rfl)

noncomputable def f_X9_read (σ : gSt)  : Option (Nat × Int32 × gSt) :=
  (g_k2 (f_X5_readText σ 187) fun v1 σ2 => (g_k2 (if v1 = 0 then some ((0 : Int32), σ2) else (g_k2 (f_X9_carryOutItems σ2 ) fun v12 σ13 => (if v12 = 0 then some ((0 : Int32), σ13) else some ((1 : Int32), σ13)))) fun x3 σ4 => (g_k1 (f_X7_clear σ4 187) fun σ7 => (if v1 = 0 then (g_k1 (gset σ7 0 9 (σ7 191 8)) fun σ10 => some (1, 0, σ10)) else (if x3 = 0 then some (2, 0, σ7) else some (0, (σ7 191 7), σ7))))))
set_option maxRecDepth 100000 in
set_option maxHeartbeats 4000000 in
theorem c_X9_read (l : Launch) (hl0 : l.stackTraces = false) {Γ : gG} {ad : Nat → Nat} {N : Nat} (hN : 202 ≤ N) {σ : gSt}   {x : Nat} {r : Int32} {σ' : gSt} (hf : f_X9_read σ  = some (x, r, σ')) : gMxi l Γ ad N yX9_read cX9_read 3 (some .int) (gR 8 1 6) [.ref (ad 0)] σ x r σ' 1 6 := by
  intro sz
  refine gOfX (Qc := fun sz => gQcxi Γ ad N x r σ' sz) (XC := fun sz => gXc Γ ad N x σ' sz) RX9 (by decide) rfl (by decide) (fun p e s m args below meth c H locs ls X hT S hl => ?_)
  have hl : lv_has ls 3 [(1, .int v1), (0, .ref (ad 0))] := hl
  have hx := X.1
  have hb := X.2.1
  unfold f_X9_read at hf
  refine lv_aload_n hx hb dX9_read_0 rfl (lv_at hl 0 rfl) ?_
  refine gfX9_61 X S hN kd_s0 dX9_read_1 ?_
  refine lv_aload_n hx hb dX9_read_4 rfl (lv_at hl 0 rfl) ?_
  refine gfX9_51 X S hN kd_s0 dX9_read_5 ?_
  obtain ⟨v1, σ2, hv1, hf⟩ := g_s2 hf
  refine g_ki S (g_runV (rest := []) X S (c_X5_readText l hN kd_s187 hv1 _) cvX5_readText mlX9_320 (kd_N kd_s191 (by decide) hN) (ceC_5 kd_s191 _) rfl rfl rfl hl.1 (by decide) ⟨⟨rfl, rfl⟩, ⟨Nat.le_of_ble_eq_true rfl, Nat.le_of_ble_eq_true rfl⟩, Nat.le_of_ble_eq_true rfl, Nat.le_of_ble_eq_true rfl⟩ dX9_read_8) (fun H locs S => ?_)
  refine lv_istore_n (lv' := [(1, .int v1), (0, .ref (ad 0))]) hx hb dX9_read_11 rfl hl (by decide) rfl (fun ls hl => ?_)
  refine lv_iload_n hx hb dX9_read_12 rfl (lv_at hl 0 rfl) ?_
  obtain ⟨x3, σ4, hr5, hf⟩ := g_s2 hf
  have J6 : ∀ (H : Heap) (locs : List Loc) (ls : Array Slot), gS celC Γ ad N σ4 s H locs → lv_has ls 3 [(1, .int v1), (0, .ref (ad 0))] → W p l e (gR 8 1 6) s m args below meth c H locs 0 0 (gQxi Γ ad N x r σ' 1 6 below args s) (F0 m 28 ls [.int x3]) := by
    intro H locs ls S hl
    refine lv_istore_n (lv' := [(2, .int x3), (1, .int v1), (0, .ref (ad 0))]) hx hb dX9_read_28 rfl hl (by decide) rfl (fun ls hl => ?_)
    refine lv_aload_n hx hb dX9_read_29 rfl (lv_at hl 2 rfl) ?_
    refine gfX9_51 X S hN kd_s0 dX9_read_30 ?_
    obtain ⟨σ7, hσ7, hf⟩ := g_s1 hf
    refine g_kv S (g_runV (rest := []) X S (c_X7_clear l hN kd_s187 hσ7 _) cvX7_clear mlX9_177 (kd_N kd_s187 (by decide) hN) (ceC_7 kd_s187 _) rfl rfl rfl hl.1 (by decide) ⟨⟨rfl, rfl⟩, ⟨Nat.le_of_ble_eq_true rfl, Nat.le_of_ble_eq_true rfl⟩, Nat.le_of_ble_eq_true rfl, Nat.le_of_ble_eq_true rfl⟩ dX9_read_33) (fun H locs S => ?_)
    refine lv_iload_n hx hb dX9_read_36 rfl (lv_at hl 1 rfl) ?_
    refine lv_if_ne (tgt := 62) hx hb dX9_read_37 (by decide) (fun c8 => ?_) (fun c8 => ?_)
    · have hf := (if_neg c8).symm.trans hf
      refine lv_iload_n hx hb dX9_read_62 rfl (lv_at hl 0 rfl) ?_
      refine lv_if_ne (tgt := 77) hx hb dX9_read_63 (by decide) (fun c9 => ?_) (fun c9 => ?_)
      · have hf := (if_neg c9).symm.trans hf
        refine lv_aload_n hx hb dX9_read_77 rfl (lv_at hl 2 rfl) ?_
        refine gfX9_61 X S hN kd_s0 dX9_read_78 ?_
        refine gfX9_338 X S hN kd_s191 dX9_read_81 ?_
        cases hf
        exact g_xreti X S rfl dX9_read_84 (by decide) (by decide)
      · have hf := (if_pos c9).symm.trans hf
        cases hf
        exact g_throwXW hl0 X S hT hl.1 ex_2 st_335 dX9_read_66 dX9_read_69 dX9_read_70 dX9_read_73 dX9_read_76 (by decide) (Nat.le_of_ble_eq_true rfl) (Nat.le_of_ble_eq_true rfl) (Nat.le_of_ble_eq_true rfl) (Nat.le_of_ble_eq_true rfl) (Nat.le_of_ble_eq_true rfl)
    · have hf := (if_pos c8).symm.trans hf
      refine lv_aload_n hx hb dX9_read_40 rfl (lv_at hl 2 rfl) ?_
      refine lv_aload_n hx hb dX9_read_41 rfl (lv_at hl 2 rfl) ?_
      refine gfX9_61 X S hN kd_s0 dX9_read_42 ?_
      refine gfX9_328 X S hN kd_s191 dX9_read_45 ?_
      obtain ⟨σ10, hσ10, hf⟩ := g_s1 hf
      refine pfX9_65 X S hN kd_s0 hσ10 dX9_read_48 (fun H locs S => ?_)
      cases hf
      exact g_throwXW hl0 X S hT hl.1 ex_1 st_331 dX9_read_51 dX9_read_54 dX9_read_55 dX9_read_58 dX9_read_61 (by decide) (Nat.le_of_ble_eq_true rfl) (Nat.le_of_ble_eq_true rfl) (Nat.le_of_ble_eq_true rfl) (Nat.le_of_ble_eq_true rfl) (Nat.le_of_ble_eq_true rfl)
  replace hf := hr5
  refine lv_if_eq (tgt := 27) hx hb dX9_read_13 (by decide) (fun c11 => ?_) (fun c11 => ?_)
  · have hf := (if_pos c11).symm.trans hf
    refine lv_iconst (v := (0 : Int32)) hx hb dX9_read_27 (by decide) ?_
    cases hf
    exact J6 _ _ _ S (lv_sub hl [0, 1] rfl)
  · have hf := (if_neg c11).symm.trans hf
    refine lv_aload_n hx hb dX9_read_16 rfl (lv_at hl 1 rfl) ?_
    obtain ⟨v12, σ13, hv12, hf⟩ := g_s2 hf
    refine g_ki S (g_runV (rest := []) X S (c_X9_carryOutItems l hN  hv12 _) cvX9_carryOutItems mlX9_324 (kd_N kd_s0 (by decide) hN) (ceC_9 kd_s0 _) rfl rfl rfl hl.1 (by decide) ⟨⟨rfl, rfl⟩, ⟨Nat.le_of_ble_eq_true rfl, Nat.le_of_ble_eq_true rfl⟩, Nat.le_of_ble_eq_true rfl, Nat.le_of_ble_eq_true rfl⟩ dX9_read_17) (fun H locs S => ?_)
    refine lv_if_eq (tgt := 27) hx hb dX9_read_20 (by decide) (fun c14 => ?_) (fun c14 => ?_)
    · have hf := (if_pos c14).symm.trans hf
      refine lv_iconst (v := (0 : Int32)) hx hb dX9_read_27 (by decide) ?_
      cases hf
      exact J6 _ _ _ S (lv_sub hl [0, 1] rfl)
    · have hf := (if_neg c14).symm.trans hf
      refine lv_iconst (v := (1 : Int32)) hx hb dX9_read_23 (by decide) ?_
      refine lv_goto (tgt := 28) hx hb dX9_read_24 (by decide) ?_
      cases hf
      exact J6 _ _ _ S (lv_sub hl [0, 1] rfl)

noncomputable def f_X9_faultPosition (σ : gSt)  : Option (Nat × Int32 × gSt) :=
  (if (σ 0 9) = (-1 : Int32) then some (5, 0, σ) else some (0, (σ 0 9), σ))
set_option maxRecDepth 100000 in
set_option maxHeartbeats 4000000 in
theorem c_X9_faultPosition (l : Launch) (hl0 : l.stackTraces = false) {Γ : gG} {ad : Nat → Nat} {N : Nat} (hN : 202 ≤ N) {σ : gSt}   {x : Nat} {r : Int32} {σ' : gSt} (hf : f_X9_faultPosition σ  = some (x, r, σ')) : gMxi l Γ ad N yX9_faultPosition cX9_faultPosition 1 (some .int) (gR 8 1 6) [.ref (ad 0)] σ x r σ' 1 6 := by
  intro sz
  refine gOfX (Qc := fun sz => gQcxi Γ ad N x r σ' sz) (XC := fun sz => gXc Γ ad N x σ' sz) RX9 (by decide) rfl (by decide) (fun p e s m args below meth c H locs ls X hT S hl => ?_)
  have hl : lv_has ls 1 [(0, .ref (ad 0))] := hl
  have hx := X.1
  have hb := X.2.1
  unfold f_X9_faultPosition at hf
  refine lv_aload_n hx hb dX9_faultPosition_0 rfl (lv_at hl 0 rfl) ?_
  refine gfX9_65 X S hN kd_s0 dX9_faultPosition_1 ?_
  refine lv_iconst (v := (-1 : Int32)) hx hb dX9_faultPosition_4 (by decide) ?_
  refine lv_icmp_ne (tgt := 19) hx hb dX9_faultPosition_5 (by decide) (fun c1 => ?_) (fun c1 => ?_)
  · have hf := (if_neg c1).symm.trans hf
    refine lv_aload_n hx hb dX9_faultPosition_19 rfl (lv_at hl 0 rfl) ?_
    refine gfX9_65 X S hN kd_s0 dX9_faultPosition_20 ?_
    cases hf
    exact g_xreti X S rfl dX9_faultPosition_23 (by decide) (by decide)
  · have hf := (if_pos c1).symm.trans hf
    cases hf
    exact g_throwXW hl0 X S hT hl.1 ex_5 st_339 dX9_faultPosition_8 dX9_faultPosition_11 dX9_faultPosition_12 dX9_faultPosition_15 dX9_faultPosition_18 (by decide) (Nat.le_of_ble_eq_true rfl) (Nat.le_of_ble_eq_true rfl) (Nat.le_of_ble_eq_true rfl) (Nat.le_of_ble_eq_true rfl) (Nat.le_of_ble_eq_true rfl)

noncomputable def f_X9_refusal (σ : gSt) (a0 : Int32) : Option (Nat × Int32 × gSt) :=
  (if (σ 0 10) = 0 then some (5, 0, σ) else (g_k1 (if a0 = 0 then some (σ 0 11) else some (σ 0 10)) fun x2 => some (0, x2, σ)))
set_option maxRecDepth 100000 in
set_option maxHeartbeats 4000000 in
theorem c_X9_refusal (l : Launch) (hl0 : l.stackTraces = false) {Γ : gG} {ad : Nat → Nat} {N : Nat} (hN : 202 ≤ N) {σ : gSt} {a0 : Int32}  {x : Nat} {r : Int32} {σ' : gSt} (hf : f_X9_refusal σ a0 = some (x, r, σ')) : gMxi l Γ ad N yX9_refusal cX9_refusal 2 (some .int) (gR 8 1 6) [.ref (ad 0), .int a0] σ x r σ' 1 6 := by
  intro sz
  refine gOfX (Qc := fun sz => gQcxi Γ ad N x r σ' sz) (XC := fun sz => gXc Γ ad N x σ' sz) RX9 (by decide) rfl (by decide) (fun p e s m args below meth c H locs ls X hT S hl => ?_)
  have hl : lv_has ls 2 [(0, .ref (ad 0)), (1, .int a0)] := hl
  have hx := X.1
  have hb := X.2.1
  unfold f_X9_refusal at hf
  refine lv_aload_n hx hb dX9_refusal_0 rfl (lv_at hl 0 rfl) ?_
  refine gfX9_69 X S hN kd_s0 dX9_refusal_1 ?_
  refine lv_if_ne (tgt := 18) hx hb dX9_refusal_4 (by decide) (fun c1 => ?_) (fun c1 => ?_)
  · have hf := (if_neg c1).symm.trans hf
    refine lv_iload_n hx hb dX9_refusal_18 rfl (lv_at hl 1 rfl) ?_
    obtain ⟨x2, hr3, hf⟩ := g_s1 hf
    have J4 : ∀ (H : Heap) (locs : List Loc) (ls : Array Slot), gS celC Γ ad N σ s H locs → lv_has ls 2 [] → W p l e (gR 8 1 6) s m args below meth c H locs 0 0 (gQxi Γ ad N x r σ' 1 6 below args s) (F0 m 33 ls [.int x2]) := by
      intro H locs ls S hl
      cases hf
      exact g_xreti X S rfl dX9_refusal_33 (by decide) (by decide)
    replace hf := hr3
    refine lv_if_eq (tgt := 29) hx hb dX9_refusal_19 (by decide) (fun c5 => ?_) (fun c5 => ?_)
    · have hf := (if_pos c5).symm.trans hf
      refine lv_aload_n hx hb dX9_refusal_29 rfl (lv_at hl 0 rfl) ?_
      refine gfX9_72 X S hN kd_s0 dX9_refusal_30 ?_
      cases hf
      exact J4 _ _ _ S (lv_sub hl [] rfl)
    · have hf := (if_neg c5).symm.trans hf
      refine lv_aload_n hx hb dX9_refusal_22 rfl (lv_at hl 0 rfl) ?_
      refine gfX9_69 X S hN kd_s0 dX9_refusal_23 ?_
      refine lv_goto (tgt := 33) hx hb dX9_refusal_26 (by decide) ?_
      cases hf
      exact J4 _ _ _ S (lv_sub hl [] rfl)
  · have hf := (if_pos c1).symm.trans hf
    cases hf
    exact g_throwXW hl0 X S hT hl.1 ex_5 st_341 dX9_refusal_7 dX9_refusal_10 dX9_refusal_11 dX9_refusal_14 dX9_refusal_17 (by decide) (Nat.le_of_ble_eq_true rfl) (Nat.le_of_ble_eq_true rfl) (Nat.le_of_ble_eq_true rfl) (Nat.le_of_ble_eq_true rfl) (Nat.le_of_ble_eq_true rfl)

noncomputable def f_X9_undo (σ : gSt)  : Option (Nat × Int32 × gSt) :=
  (if 0 < (σ 25 1) then (g_k1 (f_X4_undoInto σ 1) fun σ2 => some (0, (σ2 25 1), σ2)) else some (4, 0, σ))
set_option maxRecDepth 100000 in
set_option maxHeartbeats 4000000 in
theorem c_X9_undo (l : Launch) (hl0 : l.stackTraces = false) {Γ : gG} {ad : Nat → Nat} {N : Nat} (hN : 202 ≤ N) {σ : gSt}   {x : Nat} {r : Int32} {σ' : gSt} (hf : f_X9_undo σ  = some (x, r, σ')) : gMxi l Γ ad N yX9_undo cX9_undo 1 (some .int) (gR 8 1 6) [.ref (ad 0)] σ x r σ' 1 6 := by
  intro sz
  refine gOfX (Qc := fun sz => gQcxi Γ ad N x r σ' sz) (XC := fun sz => gXc Γ ad N x σ' sz) RX9 (by decide) rfl (by decide) (fun p e s m args below meth c H locs ls X hT S hl => ?_)
  have hl : lv_has ls 1 [(0, .ref (ad 0))] := hl
  have hx := X.1
  have hb := X.2.1
  unfold f_X9_undo at hf
  refine lv_aload_n hx hb dX9_undo_0 rfl (lv_at hl 0 rfl) ?_
  refine gfX9_37 X S hN kd_s0 dX9_undo_1 ?_
  refine gfX9_152 X S hN kd_s25 dX9_undo_4 ?_
  refine lv_if_gt (tgt := 21) hx hb dX9_undo_7 (by decide) (fun c1 => ?_) (fun c1 => ?_)
  · have hf := (if_pos c1).symm.trans hf
    refine lv_aload_n hx hb dX9_undo_21 rfl (lv_at hl 0 rfl) ?_
    refine gfX9_37 X S hN kd_s0 dX9_undo_22 ?_
    refine lv_aload_n hx hb dX9_undo_25 rfl (lv_at hl 0 rfl) ?_
    refine gfX9_10 X S hN kd_s0 dX9_undo_26 ?_
    obtain ⟨σ2, hσ2, hf⟩ := g_s1 hf
    refine g_kv S (g_runV (rest := []) X S (c_X4_undoInto l hN kd_s1 hσ2 _) cvX4_undoInto mlX9_345 (kd_N kd_s25 (by decide) hN) (ceC_4 kd_s25 _) rfl rfl rfl hl.1 (by decide) ⟨⟨rfl, rfl⟩, ⟨Nat.le_of_ble_eq_true rfl, Nat.le_of_ble_eq_true rfl⟩, Nat.le_of_ble_eq_true rfl, Nat.le_of_ble_eq_true rfl⟩ dX9_undo_29) (fun H locs S => ?_)
    refine lv_aload_n hx hb dX9_undo_32 rfl (lv_at hl 0 rfl) ?_
    refine gfX9_37 X S hN kd_s0 dX9_undo_33 ?_
    refine gfX9_152 X S hN kd_s25 dX9_undo_36 ?_
    cases hf
    exact g_xreti X S rfl dX9_undo_39 (by decide) (by decide)
  · have hf := (if_neg c1).symm.trans hf
    cases hf
    exact g_throwXW hl0 X S hT hl.1 ex_4 st_343 dX9_undo_10 dX9_undo_13 dX9_undo_14 dX9_undo_17 dX9_undo_20 (by decide) (Nat.le_of_ble_eq_true rfl) (Nat.le_of_ble_eq_true rfl) (Nat.le_of_ble_eq_true rfl) (Nat.le_of_ble_eq_true rfl) (Nat.le_of_ble_eq_true rfl)

noncomputable def f_X9_restoreSnapshot (σ : gSt)  : Option (Nat × Int32 × gSt) :=
  (if (σ 0 5) = 0 then some (4, 0, σ) else (g_k1 (f_X3_copyFrom σ 1 171) fun σ2 => (g_k1 (f_X4_forgetAll σ2 ) fun σ3 => (g_k1 (f_X3_captionCount σ3 1) fun v4 => some (0, v4, σ3)))))
set_option maxRecDepth 100000 in
set_option maxHeartbeats 4000000 in
theorem c_X9_restoreSnapshot (l : Launch) (hl0 : l.stackTraces = false) {Γ : gG} {ad : Nat → Nat} {N : Nat} (hN : 202 ≤ N) {σ : gSt}   {x : Nat} {r : Int32} {σ' : gSt} (hf : f_X9_restoreSnapshot σ  = some (x, r, σ')) : gMxi l Γ ad N yX9_restoreSnapshot cX9_restoreSnapshot 1 (some .int) (gR 8 1 6) [.ref (ad 0)] σ x r σ' 1 6 := by
  intro sz
  refine gOfX (Qc := fun sz => gQcxi Γ ad N x r σ' sz) (XC := fun sz => gXc Γ ad N x σ' sz) RX9 (by decide) rfl (by decide) (fun p e s m args below meth c H locs ls X hT S hl => ?_)
  have hl : lv_has ls 1 [(0, .ref (ad 0))] := hl
  have hx := X.1
  have hb := X.2.1
  unfold f_X9_restoreSnapshot at hf
  refine lv_aload_n hx hb dX9_restoreSnapshot_0 rfl (lv_at hl 0 rfl) ?_
  refine gfX9_44 X S hN kd_s0 dX9_restoreSnapshot_1 ?_
  refine lv_if_ne (tgt := 18) hx hb dX9_restoreSnapshot_4 (by decide) (fun c1 => ?_) (fun c1 => ?_)
  · have hf := (if_neg c1).symm.trans hf
    refine lv_aload_n hx hb dX9_restoreSnapshot_18 rfl (lv_at hl 0 rfl) ?_
    refine gfX9_10 X S hN kd_s0 dX9_restoreSnapshot_19 ?_
    refine lv_aload_n hx hb dX9_restoreSnapshot_22 rfl (lv_at hl 0 rfl) ?_
    refine gfX9_41 X S hN kd_s0 dX9_restoreSnapshot_23 ?_
    obtain ⟨σ2, hσ2, hf⟩ := g_s1 hf
    refine g_kv S (g_runV (rest := []) X S (c_X3_copyFrom l hN kd_s1 kd_s171 hσ2 _) cvX3_copyFrom mlX9_348 (kd_N kd_s1 (by decide) hN) (ceC_3 kd_s1 _) rfl rfl rfl hl.1 (by decide) ⟨⟨rfl, rfl⟩, ⟨Nat.le_of_ble_eq_true rfl, Nat.le_of_ble_eq_true rfl⟩, Nat.le_of_ble_eq_true rfl, Nat.le_of_ble_eq_true rfl⟩ dX9_restoreSnapshot_26) (fun H locs S => ?_)
    refine lv_aload_n hx hb dX9_restoreSnapshot_29 rfl (lv_at hl 0 rfl) ?_
    refine gfX9_37 X S hN kd_s0 dX9_restoreSnapshot_30 ?_
    obtain ⟨σ3, hσ3, hf⟩ := g_s1 hf
    refine g_kv S (g_runV (rest := []) X S (c_X4_forgetAll l hN  hσ3 _) cvX4_forgetAll mlX9_356 (kd_N kd_s25 (by decide) hN) (ceC_4 kd_s25 _) rfl rfl rfl hl.1 (by decide) ⟨⟨rfl, rfl⟩, ⟨Nat.le_of_ble_eq_true rfl, Nat.le_of_ble_eq_true rfl⟩, Nat.le_of_ble_eq_true rfl, Nat.le_of_ble_eq_true rfl⟩ dX9_restoreSnapshot_33) (fun H locs S => ?_)
    refine lv_aload_n hx hb dX9_restoreSnapshot_36 rfl (lv_at hl 0 rfl) ?_
    refine gfX9_10 X S hN kd_s0 dX9_restoreSnapshot_37 ?_
    obtain ⟨v4, hv4, hf⟩ := g_s1 hf
    refine g_ki S (g_runV (rest := []) X S (c_X3_captionCount l hN kd_s1 hv4 _) cvX3_captionCount mlX9_351 (kd_N kd_s1 (by decide) hN) (ceC_3 kd_s1 _) rfl rfl rfl hl.1 (by decide) ⟨⟨rfl, rfl⟩, ⟨Nat.le_of_ble_eq_true rfl, Nat.le_of_ble_eq_true rfl⟩, Nat.le_of_ble_eq_true rfl, Nat.le_of_ble_eq_true rfl⟩ dX9_restoreSnapshot_40) (fun H locs S => ?_)
    cases hf
    exact g_xreti X S rfl dX9_restoreSnapshot_43 (by decide) (by decide)
  · have hf := (if_pos c1).symm.trans hf
    cases hf
    exact g_throwXW hl0 X S hT hl.1 ex_4 st_354 dX9_restoreSnapshot_7 dX9_restoreSnapshot_10 dX9_restoreSnapshot_11 dX9_restoreSnapshot_14 dX9_restoreSnapshot_17 (by decide) (Nat.le_of_ble_eq_true rfl) (Nat.le_of_ble_eq_true rfl) (Nat.le_of_ble_eq_true rfl) (Nat.le_of_ble_eq_true rfl) (Nat.le_of_ble_eq_true rfl)

