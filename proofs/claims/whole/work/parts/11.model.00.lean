noncomputable def f_X10_thrown (σ : gSt)  : Option (Int32) :=
  some (σ 0 10)
set_option maxRecDepth 100000 in
set_option maxHeartbeats 4000000 in
theorem c_X10_thrown (l : Launch) {Γ : gG} {ad : Nat → Nat} {N : Nat} (hN : 8 ≤ N) {σ : gSt}   {r : Int32} (hf : f_X10_thrown σ  = some r) : gMi l celM Γ ad N yX10_thrown cX10_thrown 1 (some .int) (gR 1 0 0) [.ref (ad 0)] σ r σ := by
  intro sz
  refine gOf (Qc := fun sz => gQci celM Γ ad N r σ sz) RX10 (by decide) rfl (Nat.le_of_ble_eq_true rfl) (fun p e s m args below meth c H locs ls X S hl => ?_)
  have hl : lv_has ls 1 [(0, .ref (ad 0))] := hl
  have hx := X.1
  have hb := X.2.1
  unfold f_X10_thrown at hf
  refine lv_aload_n hx hb dX10_thrown_0 rfl (lv_at hl 0 rfl) ?_
  refine gfX10_35 X S hN dX10_thrown_1 ?_
  cases hf
  exact g_reti X S rfl dX10_thrown_4

noncomputable def f_X10_fails (σ : gSt) (a0 : Int32) : Option (Int32 × gSt) :=
  (g_k1 (gset σ 0 10 a0) fun σ1 => some ((0 : Int32), σ1))
set_option maxRecDepth 100000 in
set_option maxHeartbeats 4000000 in
theorem c_X10_fails (l : Launch) {Γ : gG} {ad : Nat → Nat} {N : Nat} (hN : 8 ≤ N) {σ : gSt} {a0 : Int32}  {r : Int32} {σ' : gSt} (hf : f_X10_fails σ a0 = some (r, σ')) : gMi l celM Γ ad N yX10_fails cX10_fails 2 (some .int) (gR 1 0 0) [.ref (ad 0), .int a0] σ r σ' := by
  intro sz
  refine gOf (Qc := fun sz => gQci celM Γ ad N r σ' sz) RX10 (by decide) rfl (Nat.le_of_ble_eq_true rfl) (fun p e s m args below meth c H locs ls X S hl => ?_)
  have hl : lv_has ls 2 [(0, .ref (ad 0)), (1, .int a0)] := hl
  have hx := X.1
  have hb := X.2.1
  unfold f_X10_fails at hf
  refine lv_aload_n hx hb dX10_fails_0 rfl (lv_at hl 0 rfl) ?_
  refine lv_iload_n hx hb dX10_fails_1 rfl (lv_at hl 1 rfl) ?_
  obtain ⟨σ1, hσ1, hf⟩ := g_s1 hf
  refine pfX10_35 X S hN hσ1 dX10_fails_2 (fun H locs S => ?_)
  refine lv_iconst (v := (0 : Int32)) hx hb dX10_fails_5 (by decide) ?_
  cases hf
  exact g_reti X S rfl dX10_fails_6

noncomputable def f_X10_refuses (σ : gSt) (a0 : Int32) (a1 : Int32) : Option (Int32 × gSt) :=
  (g_k1 (gset σ 0 7 a1) fun σ1 => (g_k1 (gset σ1 0 8 (0 : Int32)) fun σ2 => (g_k2 (f_X10_fails σ2 a0) fun v3 σ4 => some (v3, σ4))))
set_option maxRecDepth 100000 in
set_option maxHeartbeats 4000000 in
theorem c_X10_refuses (l : Launch) {Γ : gG} {ad : Nat → Nat} {N : Nat} (hN : 8 ≤ N) {σ : gSt} {a0 : Int32} {a1 : Int32}  {r : Int32} {σ' : gSt} (hf : f_X10_refuses σ a0 a1 = some (r, σ')) : gMi l celM Γ ad N yX10_refuses cX10_refuses 3 (some .int) (gR 2 0 0) [.ref (ad 0), .int a0, .int a1] σ r σ' := by
  intro sz
  refine gOf (Qc := fun sz => gQci celM Γ ad N r σ' sz) RX10 (by decide) rfl (Nat.le_of_ble_eq_true rfl) (fun p e s m args below meth c H locs ls X S hl => ?_)
  have hl : lv_has ls 3 [(0, .ref (ad 0)), (1, .int a0), (2, .int a1)] := hl
  have hx := X.1
  have hb := X.2.1
  unfold f_X10_refuses at hf
  refine lv_aload_n hx hb dX10_refuses_0 rfl (lv_at hl 0 rfl) ?_
  refine lv_iload_n hx hb dX10_refuses_1 rfl (lv_at hl 2 rfl) ?_
  obtain ⟨σ1, hσ1, hf⟩ := g_s1 hf
  refine pfX10_38 X S hN hσ1 dX10_refuses_2 (fun H locs S => ?_)
  refine lv_aload_n hx hb dX10_refuses_5 rfl (lv_at hl 0 rfl) ?_
  refine lv_iconst (v := (0 : Int32)) hx hb dX10_refuses_6 (by decide) ?_
  obtain ⟨σ2, hσ2, hf⟩ := g_s1 hf
  refine pfX10_41 X S hN hσ2 dX10_refuses_7 (fun H locs S => ?_)
  refine lv_aload_n hx hb dX10_refuses_10 rfl (lv_at hl 0 rfl) ?_
  refine lv_iload_n hx hb dX10_refuses_11 rfl (lv_at hl 1 rfl) ?_
  obtain ⟨v3, σ4, hv3, hf⟩ := g_s2 hf
  refine g_ki S (g_runV (rest := []) X S (c_X10_fails l hN  hv3 _) cvX10_fails mlX10_44 (by omega) (ceM_10 _) rfl rfl rfl hl.1 (Nat.le_of_ble_eq_true rfl) ⟨⟨rfl, rfl⟩, ⟨Nat.le_of_ble_eq_true rfl, Nat.le_of_ble_eq_true rfl⟩, Nat.le_of_ble_eq_true rfl, Nat.le_of_ble_eq_true rfl⟩ dX10_refuses_12) (fun H locs S => ?_)
  cases hf
  exact g_reti X S rfl dX10_refuses_15

noncomputable def f_X10_in (σ : gSt) (a0 : Int32) (a1 : Int32) (a2 : Int32) : Option (Int32) :=
  (g_k1 (if a0 < a1 then some (0 : Int32) else (if a2 < a0 then some (0 : Int32) else some (1 : Int32))) fun x1 => (g_k1 (gzb x1) fun v4 => some v4))
set_option maxRecDepth 100000 in
set_option maxHeartbeats 4000000 in
theorem c_X10_in (l : Launch) {Γ : gG} {ad : Nat → Nat} {N : Nat} (hN : 8 ≤ N) {σ : gSt} {a0 : Int32} {a1 : Int32} {a2 : Int32}  {r : Int32} (hf : f_X10_in σ a0 a1 a2 = some r) : gMi l celM Γ ad N yX10_in cX10_in 3 (some .boolean) (gR 1 0 0) [.int a0, .int a1, .int a2] σ r σ := by
  intro sz
  refine gOf (Qc := fun sz => gQci celM Γ ad N r σ sz) RX10 (by decide) rfl (Nat.le_of_ble_eq_true rfl) (fun p e s m args below meth c H locs ls X S hl => ?_)
  have hl : lv_has ls 3 [(0, .int a0), (1, .int a1), (2, .int a2)] := hl
  have hx := X.1
  have hb := X.2.1
  unfold f_X10_in at hf
  refine lv_iload_n hx hb dX10_in_0 rfl (lv_at hl 0 rfl) ?_
  refine lv_iload_n hx hb dX10_in_1 rfl (lv_at hl 1 rfl) ?_
  obtain ⟨x1, hr2, hf⟩ := g_s1 hf
  have J3 : ∀ (H : Heap) (locs : List Loc) (ls : Array Slot), gS celM Γ ad N σ s H locs → lv_has ls 3 [] → W p l e (gR 1 0 0) s m args below meth c H locs 0 0 (gQi celM Γ ad N r σ below args s) (F0 m 15 ls [.int x1]) := by
    intro H locs ls S hl
    obtain ⟨v4, hv4, hf⟩ := g_s1 hf
    obtain ⟨hnv4, rfl⟩ := gzb_some hv4
    cases hf
    exact g_reti X S hnv4 dX10_in_15
  replace hf := hr2
  refine lv_icmp_lt (tgt := 14) hx hb dX10_in_2 (by decide) (fun c5 => ?_) (fun c5 => ?_)
  · have hf := (if_pos c5).symm.trans hf
    refine lv_iconst (v := (0 : Int32)) hx hb dX10_in_14 (by decide) ?_
    cases hf
    exact J3 _ _ _ S (lv_sub hl [] rfl)
  · have hf := (if_neg c5).symm.trans hf
    refine lv_iload_n hx hb dX10_in_5 rfl (lv_at hl 0 rfl) ?_
    refine lv_iload_n hx hb dX10_in_6 rfl (lv_at hl 2 rfl) ?_
    refine lv_icmp_gt (tgt := 14) hx hb dX10_in_7 (by decide) (fun c6 => ?_) (fun c6 => ?_)
    · have hf := (if_pos c6).symm.trans hf
      refine lv_iconst (v := (0 : Int32)) hx hb dX10_in_14 (by decide) ?_
      cases hf
      exact J3 _ _ _ S (lv_sub hl [] rfl)
    · have hf := (if_neg c6).symm.trans hf
      refine lv_iconst (v := (1 : Int32)) hx hb dX10_in_10 (by decide) ?_
      refine lv_goto (tgt := 15) hx hb dX10_in_11 (by decide) ?_
      cases hf
      exact J3 _ _ _ S (lv_sub hl [] rfl)

noncomputable def f_X10_isTrack (σ : gSt) (a0 : Int32) : Option (Int32) :=
  (g_k1 (f_X10_in σ a0 (0 : Int32) (1 : Int32)) fun v1 => (g_k1 (gzb v1) fun v2 => some v2))
set_option maxRecDepth 100000 in
set_option maxHeartbeats 4000000 in
theorem c_X10_isTrack (l : Launch) {Γ : gG} {ad : Nat → Nat} {N : Nat} (hN : 8 ≤ N) {σ : gSt} {a0 : Int32}  {r : Int32} (hf : f_X10_isTrack σ a0 = some r) : gMi l celM Γ ad N yX10_isTrack cX10_isTrack 1 (some .boolean) (gR 2 0 0) [.int a0] σ r σ := by
  intro sz
  refine gOf (Qc := fun sz => gQci celM Γ ad N r σ sz) RX10 (by decide) rfl (Nat.le_of_ble_eq_true rfl) (fun p e s m args below meth c H locs ls X S hl => ?_)
  have hl : lv_has ls 1 [(0, .int a0)] := hl
  have hx := X.1
  have hb := X.2.1
  unfold f_X10_isTrack at hf
  refine lv_iload_n hx hb dX10_isTrack_0 rfl (lv_at hl 0 rfl) ?_
  refine lv_iconst (v := (0 : Int32)) hx hb dX10_isTrack_1 (by decide) ?_
  refine lv_iconst (v := (1 : Int32)) hx hb dX10_isTrack_2 (by decide) ?_
  obtain ⟨v1, hv1, hf⟩ := g_s1 hf
  refine g_ki S (g_runS (rest := []) X S (c_X10_in l hN  hv1 _) csX10_in mlX10_48 rfl rfl hl.1 (Nat.le_of_ble_eq_true rfl) ⟨⟨rfl, rfl⟩, ⟨Nat.le_of_ble_eq_true rfl, Nat.le_of_ble_eq_true rfl⟩, Nat.le_of_ble_eq_true rfl, Nat.le_of_ble_eq_true rfl⟩ dX10_isTrack_3) (fun H locs S => ?_)
  obtain ⟨v2, hv2, hf⟩ := g_s1 hf
  obtain ⟨hnv2, rfl⟩ := gzb_some hv2
  cases hf
  exact g_reti X S hnv2 dX10_isTrack_6

noncomputable def f_X10_isCaption (σ : gSt) (a0 : Int32) (a1 : Int32) : Option (Int32) :=
  (g_k1 (f_X10_isTrack σ a0) fun v1 => (g_k1 (if v1 = 0 then some (0 : Int32) else (g_k1 (gald σ 1 926 ((28 : Int32) + a0)) fun v7 => (g_k1 (f_X10_in σ a1 (0 : Int32) (v7 - (1 : Int32))) fun v8 => (if v8 = 0 then some (0 : Int32) else some (1 : Int32))))) fun x2 => (g_k1 (gzb x2) fun v5 => some v5)))
set_option maxRecDepth 100000 in
set_option maxHeartbeats 4000000 in
theorem c_X10_isCaption (l : Launch) {Γ : gG} {ad : Nat → Nat} {N : Nat} (hN : 8 ≤ N) {σ : gSt} {a0 : Int32} {a1 : Int32}  {r : Int32} (hf : f_X10_isCaption σ a0 a1 = some r) : gMi l celM Γ ad N yX10_isCaption cX10_isCaption 3 (some .boolean) (gR 3 0 0) [.ref (ad 0), .int a0, .int a1] σ r σ := by
  intro sz
  refine gOf (Qc := fun sz => gQci celM Γ ad N r σ sz) RX10 (by decide) rfl (Nat.le_of_ble_eq_true rfl) (fun p e s m args below meth c H locs ls X S hl => ?_)
  have hl : lv_has ls 3 [(0, .ref (ad 0)), (1, .int a0), (2, .int a1)] := hl
  have hx := X.1
  have hb := X.2.1
  unfold f_X10_isCaption at hf
  refine lv_iload_n hx hb dX10_isCaption_0 rfl (lv_at hl 1 rfl) ?_
  obtain ⟨v1, hv1, hf⟩ := g_s1 hf
  refine g_ki S (g_runS (rest := []) X S (c_X10_isTrack l hN  hv1 _) csX10_isTrack mlX10_52 rfl rfl hl.1 (Nat.le_of_ble_eq_true rfl) ⟨⟨rfl, rfl⟩, ⟨Nat.le_of_ble_eq_true rfl, Nat.le_of_ble_eq_true rfl⟩, Nat.le_of_ble_eq_true rfl, Nat.le_of_ble_eq_true rfl⟩ dX10_isCaption_1) (fun H locs S => ?_)
  obtain ⟨x2, hr3, hf⟩ := g_s1 hf
  have J4 : ∀ (H : Heap) (locs : List Loc) (ls : Array Slot), gS celM Γ ad N σ s H locs → lv_has ls 3 [] → W p l e (gR 3 0 0) s m args below meth c H locs 0 0 (gQi celM Γ ad N r σ below args s) (F0 m 31 ls [.int x2]) := by
    intro H locs ls S hl
    obtain ⟨v5, hv5, hf⟩ := g_s1 hf
    obtain ⟨hnv5, rfl⟩ := gzb_some hv5
    cases hf
    exact g_reti X S hnv5 dX10_isCaption_31
  replace hf := hr3
  refine lv_if_eq (tgt := 30) hx hb dX10_isCaption_4 (by decide) (fun c6 => ?_) (fun c6 => ?_)
  · have hf := (if_pos c6).symm.trans hf
    refine lv_iconst (v := (0 : Int32)) hx hb dX10_isCaption_30 (by decide) ?_
    cases hf
    exact J4 _ _ _ S (lv_sub hl [] rfl)
  · have hf := (if_neg c6).symm.trans hf
    refine lv_iload_n hx hb dX10_isCaption_7 rfl (lv_at hl 2 rfl) ?_
    refine lv_iconst (v := (0 : Int32)) hx hb dX10_isCaption_8 (by decide) ?_
    refine lv_aload_n hx hb dX10_isCaption_9 rfl (lv_at hl 0 rfl) ?_
    refine gfX10_7 X S hN dX10_isCaption_10 ?_
    refine lv_bipush (v := (28 : Int32)) hx hb dX10_isCaption_13 (by decide) ?_
    refine lv_iload_n hx hb dX10_isCaption_15 rfl (lv_at hl 1 rfl) ?_
    refine lv_iadd hx hb dX10_isCaption_16 ?_
    obtain ⟨v7, hv7, hf⟩ := g_s1 hf
    refine g_iald X S (by omega) (ceM_a (rfl : gma 1 = true)) hv7 dX10_isCaption_17 ?_
    refine lv_iconst (v := (1 : Int32)) hx hb dX10_isCaption_18 (by decide) ?_
    refine lv_isub hx hb dX10_isCaption_19 ?_
    obtain ⟨v8, hv8, hf⟩ := g_s1 hf
    refine g_ki S (g_runS (rest := []) X S (c_X10_in l hN  hv8 _) csX10_in mlX10_48 rfl rfl hl.1 (Nat.le_of_ble_eq_true rfl) ⟨⟨rfl, rfl⟩, ⟨Nat.le_of_ble_eq_true rfl, Nat.le_of_ble_eq_true rfl⟩, Nat.le_of_ble_eq_true rfl, Nat.le_of_ble_eq_true rfl⟩ dX10_isCaption_20) (fun H locs S => ?_)
    refine lv_if_eq (tgt := 30) hx hb dX10_isCaption_23 (by decide) (fun c9 => ?_) (fun c9 => ?_)
    · have hf := (if_pos c9).symm.trans hf
      refine lv_iconst (v := (0 : Int32)) hx hb dX10_isCaption_30 (by decide) ?_
      cases hf
      exact J4 _ _ _ S (lv_sub hl [] rfl)
    · have hf := (if_neg c9).symm.trans hf
      refine lv_iconst (v := (1 : Int32)) hx hb dX10_isCaption_26 (by decide) ?_
      refine lv_goto (tgt := 31) hx hb dX10_isCaption_27 (by decide) ?_
      cases hf
      exact J4 _ _ _ S (lv_sub hl [] rfl)

noncomputable def f_X10_at (σ : gSt) (a0 : Int32) (a1 : Int32) (a2 : Int32) : Option (Int32) :=
  some (((30 : Int32) + ((28 : Int32) * (((16 : Int32) * a0) + a1))) + a2)
set_option maxRecDepth 100000 in
set_option maxHeartbeats 4000000 in
theorem c_X10_at (l : Launch) {Γ : gG} {ad : Nat → Nat} {N : Nat} (hN : 8 ≤ N) {σ : gSt} {a0 : Int32} {a1 : Int32} {a2 : Int32}  {r : Int32} (hf : f_X10_at σ a0 a1 a2 = some r) : gMi l celM Γ ad N yX10_at cX10_at 3 (some .int) (gR 1 0 0) [.int a0, .int a1, .int a2] σ r σ := by
  intro sz
  refine gOf (Qc := fun sz => gQci celM Γ ad N r σ sz) RX10 (by decide) rfl (Nat.le_of_ble_eq_true rfl) (fun p e s m args below meth c H locs ls X S hl => ?_)
  have hl : lv_has ls 3 [(0, .int a0), (1, .int a1), (2, .int a2)] := hl
  have hx := X.1
  have hb := X.2.1
  unfold f_X10_at at hf
  refine lv_bipush (v := (30 : Int32)) hx hb dX10_at_0 (by decide) ?_
  refine lv_bipush (v := (28 : Int32)) hx hb dX10_at_2 (by decide) ?_
  refine lv_bipush (v := (16 : Int32)) hx hb dX10_at_4 (by decide) ?_
  refine lv_iload_n hx hb dX10_at_6 rfl (lv_at hl 0 rfl) ?_
  refine lv_imul hx hb dX10_at_7 ?_
  refine lv_iload_n hx hb dX10_at_8 rfl (lv_at hl 1 rfl) ?_
  refine lv_iadd hx hb dX10_at_9 ?_
  refine lv_imul hx hb dX10_at_10 ?_
  refine lv_iadd hx hb dX10_at_11 ?_
  refine lv_iload_n hx hb dX10_at_12 rfl (lv_at hl 2 rfl) ?_
  refine lv_iadd hx hb dX10_at_13 ?_
  cases hf
  exact g_reti X S rfl dX10_at_14

noncomputable def f_X10_first (σ : gSt) (a0 : Int32) (a1 : Int32) : Option (Int32) :=
  (g_k1 (f_X10_at σ a0 a1 (0 : Int32)) fun v1 => (g_k1 (gald σ 1 926 v1) fun v2 => some v2))
set_option maxRecDepth 100000 in
set_option maxHeartbeats 4000000 in
theorem c_X10_first (l : Launch) {Γ : gG} {ad : Nat → Nat} {N : Nat} (hN : 8 ≤ N) {σ : gSt} {a0 : Int32} {a1 : Int32}  {r : Int32} (hf : f_X10_first σ a0 a1 = some r) : gMi l celM Γ ad N yX10_first cX10_first 3 (some .int) (gR 2 0 0) [.ref (ad 0), .int a0, .int a1] σ r σ := by
  intro sz
  refine gOf (Qc := fun sz => gQci celM Γ ad N r σ sz) RX10 (by decide) rfl (Nat.le_of_ble_eq_true rfl) (fun p e s m args below meth c H locs ls X S hl => ?_)
  have hl : lv_has ls 3 [(0, .ref (ad 0)), (1, .int a0), (2, .int a1)] := hl
  have hx := X.1
  have hb := X.2.1
  unfold f_X10_first at hf
  refine lv_aload_n hx hb dX10_first_0 rfl (lv_at hl 0 rfl) ?_
  refine gfX10_7 X S hN dX10_first_1 ?_
  refine lv_iload_n hx hb dX10_first_4 rfl (lv_at hl 1 rfl) ?_
  refine lv_iload_n hx hb dX10_first_5 rfl (lv_at hl 2 rfl) ?_
  refine lv_iconst (v := (0 : Int32)) hx hb dX10_first_6 (by decide) ?_
  obtain ⟨v1, hv1, hf⟩ := g_s1 hf
  refine g_ki S (g_runS (rest := [.ref (ad 1)]) X S (c_X10_at l hN  hv1 _) csX10_at mlX10_56 rfl rfl hl.1 (Nat.le_of_ble_eq_true rfl) ⟨⟨rfl, rfl⟩, ⟨Nat.le_of_ble_eq_true rfl, Nat.le_of_ble_eq_true rfl⟩, Nat.le_of_ble_eq_true rfl, Nat.le_of_ble_eq_true rfl⟩ dX10_first_7) (fun H locs S => ?_)
  obtain ⟨v2, hv2, hf⟩ := g_s1 hf
  refine g_iald X S (by omega) (ceM_a (rfl : gma 1 = true)) hv2 dX10_first_10 ?_
  cases hf
  exact g_reti X S rfl dX10_first_11

noncomputable def f_X10_end (σ : gSt) (a0 : Int32) (a1 : Int32) : Option (Int32) :=
  (g_k1 (f_X10_at σ a0 a1 (1 : Int32)) fun v1 => (g_k1 (gald σ 1 926 v1) fun v2 => some v2))
set_option maxRecDepth 100000 in
set_option maxHeartbeats 4000000 in
theorem c_X10_end (l : Launch) {Γ : gG} {ad : Nat → Nat} {N : Nat} (hN : 8 ≤ N) {σ : gSt} {a0 : Int32} {a1 : Int32}  {r : Int32} (hf : f_X10_end σ a0 a1 = some r) : gMi l celM Γ ad N yX10_end cX10_end 3 (some .int) (gR 2 0 0) [.ref (ad 0), .int a0, .int a1] σ r σ := by
  intro sz
  refine gOf (Qc := fun sz => gQci celM Γ ad N r σ sz) RX10 (by decide) rfl (Nat.le_of_ble_eq_true rfl) (fun p e s m args below meth c H locs ls X S hl => ?_)
  have hl : lv_has ls 3 [(0, .ref (ad 0)), (1, .int a0), (2, .int a1)] := hl
  have hx := X.1
  have hb := X.2.1
  unfold f_X10_end at hf
  refine lv_aload_n hx hb dX10_end_0 rfl (lv_at hl 0 rfl) ?_
  refine gfX10_7 X S hN dX10_end_1 ?_
  refine lv_iload_n hx hb dX10_end_4 rfl (lv_at hl 1 rfl) ?_
  refine lv_iload_n hx hb dX10_end_5 rfl (lv_at hl 2 rfl) ?_
  refine lv_iconst (v := (1 : Int32)) hx hb dX10_end_6 (by decide) ?_
  obtain ⟨v1, hv1, hf⟩ := g_s1 hf
  refine g_ki S (g_runS (rest := [.ref (ad 1)]) X S (c_X10_at l hN  hv1 _) csX10_at mlX10_56 rfl rfl hl.1 (Nat.le_of_ble_eq_true rfl) ⟨⟨rfl, rfl⟩, ⟨Nat.le_of_ble_eq_true rfl, Nat.le_of_ble_eq_true rfl⟩, Nat.le_of_ble_eq_true rfl, Nat.le_of_ble_eq_true rfl⟩ dX10_end_7) (fun H locs S => ?_)
  obtain ⟨v2, hv2, hf⟩ := g_s1 hf
  refine g_iald X S (by omega) (ceM_a (rfl : gma 1 = true)) hv2 dX10_end_10 ?_
  cases hf
  exact g_reti X S rfl dX10_end_11

noncomputable def f_X10_copies_l1 (σ : gSt) (a0 : Nat) (a1 : Int32) (a2 : Nat) (a3 : Int32) : Nat → Int32 → gSt → Option (gSt)
  | 0, _, _ => none
  | n + 1, i1, σ2 => (if (926 : Int32) ≤ i1 then some σ2 else (g_k1 (gald σ2 a0 (gml a0) (a1 + i1)) fun v5 => (g_k1 (gast σ2 a2 (gml a2) (a3 + i1) v5) fun σ6 => (f_X10_copies_l1 σ a0 a1 a2 a3 n (i1 + 1) σ6))))
set_option maxRecDepth 100000 in
set_option maxHeartbeats 4000000 in
theorem w_X10_copies_l1 {l : Launch} {Γ : gG} {ad : Nat → Nat} {N : Nat} {p : Program} {e : Env} {s : State} {m : MethodId} {args : Array Value} {below : List Frame} {meth : Method} {c : Code} {Q : State → Prop} (hN : 8 ≤ N) (X : gX celM Γ ad N RX10 cX10_copies 5 none p s m args meth c) {σ : gSt} {a0 : Nat} {a1 : Int32} {a2 : Nat} {a3 : Int32} (ha0 : gma a0 = true) (ha2 : gma a2 = true) : ∀ (n : Nat) (i1 : Int32) (σ2 : gSt) (σ3 : gSt), f_X10_copies_l1 σ a0 a1 a2 a3 n i1 σ2 = some σ3 → (∀ (H : Heap) (locs : List Loc) (ls : Array Slot), gS celM Γ ad N σ3 s H locs → lv_has ls 5 [] → W p l e (gR 1 0 0) s m args below meth c H locs 0 0 (Q) (F0 m 29 ls [])) → ∀ (H : Heap) (locs : List Loc) (ls : Array Slot), gS celM Γ ad N σ2 s H locs → lv_has ls 5 [(4, .int i1), (0, .ref (ad a0)), (1, .int a1), (2, .ref (ad a2)), (3, .int a3)] → W p l e (gR 1 0 0) s m args below meth c H locs 0 0 (Q) (F0 m 3 ls []) := by
  have hx := X.1
  have hb := X.2.1
  intro n
  induction n with
  | zero =>
    intro i1 σ2 σ3 hf
    cases hf
  | succ n ih =>
    intro i1 σ2 σ3 hf J H locs ls S hl
    rw [f_X10_copies_l1] at hf
    refine lv_iload hx hb dX10_copies_3 (lv_at hl 0 rfl) ?_
    refine lv_sipush (v := (926 : Int32)) hx hb dX10_copies_5 (by decide) ?_
    refine lv_icmp_ge (tgt := 29) hx hb dX10_copies_8 (by decide) (fun c4 => ?_) (fun c4 => ?_)
    · have hf := (if_pos c4).symm.trans hf
      cases hf
      exact J _ _ _ S (lv_sub hl [] rfl)
    · have hf := (if_neg c4).symm.trans hf
      refine lv_aload_n hx hb dX10_copies_11 rfl (lv_at hl 3 rfl) ?_
      refine lv_iload_n hx hb dX10_copies_12 rfl (lv_at hl 4 rfl) ?_
      refine lv_iload hx hb dX10_copies_13 (lv_at hl 0 rfl) ?_
      refine lv_iadd hx hb dX10_copies_15 ?_
      refine lv_aload_n hx hb dX10_copies_16 rfl (lv_at hl 1 rfl) ?_
      refine lv_iload_n hx hb dX10_copies_17 rfl (lv_at hl 2 rfl) ?_
      refine lv_iload hx hb dX10_copies_18 (lv_at hl 0 rfl) ?_
      refine lv_iadd hx hb dX10_copies_20 ?_
      obtain ⟨v5, hv5, hf⟩ := g_s1 hf
      refine g_iald X S (km_N ha0 hN) (ceM_a ha0) hv5 dX10_copies_21 ?_
      obtain ⟨σ6, hσ6, hf⟩ := g_s1 hf
      refine g_iast X S (km_N ha2 hN) (ceM_a ha2) hσ6 dX10_copies_22 (fun H locs S => ?_)
      refine lv_iinc (v := (i1 + 1)) (lv' := [(4, .int (i1 + 1)), (0, .ref (ad a0)), (1, .int a1), (2, .ref (ad a2)), (3, .int a3)]) hx hb dX10_copies_23 hl (k := 0) rfl rfl (by decide) rfl (fun ls hl => ?_)
      refine lv_goto (tgt := 3) hx hb dX10_copies_26 (by decide) ?_
      exact ih _ _ _  hf J _ _ _ S (lv_sub hl [0, 1, 2, 3, 4] rfl)
noncomputable def f_X10_copies (σ : gSt) (a0 : Nat) (a1 : Int32) (a2 : Nat) (a3 : Int32) : Option (gSt) :=
  (g_k1 (f_X10_copies_l1 σ a0 a1 a2 a3 FU (0 : Int32) σ) fun σ3 => some σ3)
set_option maxRecDepth 100000 in
set_option maxHeartbeats 4000000 in
theorem c_X10_copies (l : Launch) {Γ : gG} {ad : Nat → Nat} {N : Nat} (hN : 8 ≤ N) {σ : gSt} {a0 : Nat} {a1 : Int32} {a2 : Nat} {a3 : Int32} (ha0 : gma a0 = true) (ha2 : gma a2 = true) {σ' : gSt} (hf : f_X10_copies σ a0 a1 a2 a3 = some σ') : gMv l celM Γ ad N yX10_copies cX10_copies 5 none (gR 1 0 0) [.ref (ad a0), .int a1, .ref (ad a2), .int a3] σ σ' := by
  intro sz
  refine gOf (Qc := fun sz => gQcv celM Γ ad N σ' sz) RX10 (by decide) rfl (Nat.le_of_ble_eq_true rfl) (fun p e s m args below meth c H locs ls X S hl => ?_)
  have hl : lv_has ls 5 [(0, .ref (ad a0)), (1, .int a1), (2, .ref (ad a2)), (3, .int a3)] := hl
  have hx := X.1
  have hb := X.2.1
  unfold f_X10_copies at hf
  refine lv_iconst (v := (0 : Int32)) hx hb dX10_copies_0 (by decide) ?_
  refine lv_istore (lv' := [(4, .int (0 : Int32)), (0, .ref (ad a0)), (1, .int a1), (2, .ref (ad a2)), (3, .int a3)]) hx hb dX10_copies_1 hl (by decide) rfl (fun ls hl => ?_)
  obtain ⟨σ3, hr7, hf⟩ := g_s1 hf
  refine w_X10_copies_l1 hN X ha0 ha2 FU _ _ _  hr7 (fun H locs ls S hl => ?_) _ _ _ S (lv_sub hl [0, 1, 2, 3, 4] rfl)
  cases hf
  exact g_retv X S dX10_copies_29

noncomputable def f_X10_changes_l1 (σ : gSt) (a0 : Nat) : Nat → Int32 → gSt → Option (gSt)
  | 0, _, _ => none
  | n + 1, i7, σ8 => (if (6482 : Int32) ≤ i7 then some σ8 else (g_k1 (gald σ8 4 7408 (i7 + (926 : Int32))) fun v11 => (g_k1 (gast σ8 4 7408 i7 v11) fun σ12 => (f_X10_changes_l1 σ a0 n (i7 + 1) σ12))))
set_option maxRecDepth 100000 in
set_option maxHeartbeats 4000000 in
theorem w_X10_changes_l1 {l : Launch} {Γ : gG} {ad : Nat → Nat} {N : Nat} {p : Program} {e : Env} {s : State} {m : MethodId} {args : Array Value} {below : List Frame} {meth : Method} {c : Code} {Q : State → Prop} (hN : 8 ≤ N) (X : gX celM Γ ad N RX10 cX10_changes 3 none p s m args meth c) {σ : gSt} {a0 : Nat} (ha0 : gma a0 = true) : ∀ (n : Nat) (i7 : Int32) (σ8 : gSt) (σ9 : gSt), f_X10_changes_l1 σ a0 n i7 σ8 = some σ9 → (∀ (H : Heap) (locs : List Loc) (ls : Array Slot), gS celM Γ ad N σ9 s H locs → lv_has ls 3 [(0, .ref (ad 0)), (1, .ref (ad a0))] → W p l e (gR 2 0 0) s m args below meth c H locs 0 0 (Q) (F0 m 40 ls [])) → ∀ (H : Heap) (locs : List Loc) (ls : Array Slot), gS celM Γ ad N σ8 s H locs → lv_has ls 3 [(2, .int i7), (0, .ref (ad 0)), (1, .ref (ad a0))] → W p l e (gR 2 0 0) s m args below meth c H locs 0 0 (Q) (F0 m 11 ls []) := by
  have hx := X.1
  have hb := X.2.1
  intro n
  induction n with
  | zero =>
    intro i7 σ8 σ9 hf
    cases hf
  | succ n ih =>
    intro i7 σ8 σ9 hf J H locs ls S hl
    rw [f_X10_changes_l1] at hf
    refine lv_iload_n hx hb dX10_changes_11 rfl (lv_at hl 0 rfl) ?_
    refine lv_sipush (v := (6482 : Int32)) hx hb dX10_changes_12 (by decide) ?_
    refine lv_icmp_ge (tgt := 40) hx hb dX10_changes_15 (by decide) (fun c10 => ?_) (fun c10 => ?_)
    · have hf := (if_pos c10).symm.trans hf
      cases hf
      exact J _ _ _ S (lv_sub hl [1, 2] rfl)
    · have hf := (if_neg c10).symm.trans hf
      refine lv_aload_n hx hb dX10_changes_18 rfl (lv_at hl 1 rfl) ?_
      refine gfX10_19 X S hN dX10_changes_19 ?_
      refine lv_iload_n hx hb dX10_changes_22 rfl (lv_at hl 0 rfl) ?_
      refine lv_aload_n hx hb dX10_changes_23 rfl (lv_at hl 1 rfl) ?_
      refine gfX10_19 X S hN dX10_changes_24 ?_
      refine lv_iload_n hx hb dX10_changes_27 rfl (lv_at hl 0 rfl) ?_
      refine lv_sipush (v := (926 : Int32)) hx hb dX10_changes_28 (by decide) ?_
      refine lv_iadd hx hb dX10_changes_31 ?_
      obtain ⟨v11, hv11, hf⟩ := g_s1 hf
      refine g_iald X S (by omega) (ceM_a (rfl : gma 4 = true)) hv11 dX10_changes_32 ?_
      obtain ⟨σ12, hσ12, hf⟩ := g_s1 hf
      refine g_iast X S (by omega) (ceM_a (rfl : gma 4 = true)) hσ12 dX10_changes_33 (fun H locs S => ?_)
      refine lv_iinc (v := (i7 + 1)) (lv' := [(2, .int (i7 + 1)), (0, .ref (ad 0)), (1, .ref (ad a0))]) hx hb dX10_changes_34 hl (k := 0) rfl rfl (by decide) rfl (fun ls hl => ?_)
      refine lv_goto (tgt := 11) hx hb dX10_changes_37 (by decide) ?_
      exact ih _ _ _  hf J _ _ _ S (lv_sub hl [0, 1, 2] rfl)
noncomputable def f_X10_changes (σ : gSt) (a0 : Nat) : Option (gSt) :=
  (g_k1 (if (σ 0 5) = (8 : Int32) then (g_k1 (f_X10_changes_l1 σ a0 FU (0 : Int32) σ) fun σ9 => (g_k1 (gset σ9 0 5 ((σ9 0 5) - (1 : Int32))) fun σ14 => some σ14)) else some σ) fun σ1 => (g_k1 (f_X10_copies σ1 a0 (0 : Int32) 4 ((926 : Int32) * (σ1 0 5))) fun σ4 => (g_k1 (gset σ4 0 5 ((σ4 0 5) + (1 : Int32))) fun σ5 => some σ5)))
set_option maxRecDepth 100000 in
set_option maxHeartbeats 4000000 in
theorem c_X10_changes (l : Launch) {Γ : gG} {ad : Nat → Nat} {N : Nat} (hN : 8 ≤ N) {σ : gSt} {a0 : Nat} (ha0 : gma a0 = true) {σ' : gSt} (hf : f_X10_changes σ a0 = some σ') : gMv l celM Γ ad N yX10_changes cX10_changes 3 none (gR 2 0 0) [.ref (ad 0), .ref (ad a0)] σ σ' := by
  intro sz
  refine gOf (Qc := fun sz => gQcv celM Γ ad N σ' sz) RX10 (by decide) rfl (Nat.le_of_ble_eq_true rfl) (fun p e s m args below meth c H locs ls X S hl => ?_)
  have hl : lv_has ls 3 [(0, .ref (ad 0)), (1, .ref (ad a0))] := hl
  have hx := X.1
  have hb := X.2.1
  unfold f_X10_changes at hf
  refine lv_aload_n hx hb dX10_changes_0 rfl (lv_at hl 0 rfl) ?_
  refine gfX10_60 X S hN dX10_changes_1 ?_
  refine lv_bipush (v := (8 : Int32)) hx hb dX10_changes_4 (by decide) ?_
  obtain ⟨σ1, hr2, hf⟩ := g_s1 hf
  have J3 : ∀ (H : Heap) (locs : List Loc) (ls : Array Slot), gS celM Γ ad N σ1 s H locs → lv_has ls 3 [(0, .ref (ad 0)), (1, .ref (ad a0))] → W p l e (gR 2 0 0) s m args below meth c H locs 0 0 (gQv celM Γ ad N σ' below args s) (F0 m 50 ls []) := by
    intro H locs ls S hl
    refine lv_aload_n hx hb dX10_changes_50 rfl (lv_at hl 1 rfl) ?_
    refine lv_iconst (v := (0 : Int32)) hx hb dX10_changes_51 (by decide) ?_
    refine lv_aload_n hx hb dX10_changes_52 rfl (lv_at hl 0 rfl) ?_
    refine gfX10_19 X S hN dX10_changes_53 ?_
    refine lv_sipush (v := (926 : Int32)) hx hb dX10_changes_56 (by decide) ?_
    refine lv_aload_n hx hb dX10_changes_59 rfl (lv_at hl 0 rfl) ?_
    refine gfX10_60 X S hN dX10_changes_60 ?_
    refine lv_imul hx hb dX10_changes_63 ?_
    obtain ⟨σ4, hσ4, hf⟩ := g_s1 hf
    refine g_kv S (g_runS (rest := []) X S (c_X10_copies l hN ha0 (by rfl : gma 4 = true) hσ4 _) csX10_copies mlX10_63 rfl rfl hl.1 (Nat.le_of_ble_eq_true rfl) ⟨⟨rfl, rfl⟩, ⟨Nat.le_of_ble_eq_true rfl, Nat.le_of_ble_eq_true rfl⟩, Nat.le_of_ble_eq_true rfl, Nat.le_of_ble_eq_true rfl⟩ dX10_changes_64) (fun H locs S => ?_)
    refine lv_aload_n hx hb dX10_changes_67 rfl (lv_at hl 0 rfl) ?_
    refine lv_dup hx hb dX10_changes_68 rfl ?_
    refine gfX10_60 X S hN dX10_changes_69 ?_
    refine lv_iconst (v := (1 : Int32)) hx hb dX10_changes_72 (by decide) ?_
    refine lv_iadd hx hb dX10_changes_73 ?_
    obtain ⟨σ5, hσ5, hf⟩ := g_s1 hf
    refine pfX10_60 X S hN hσ5 dX10_changes_74 (fun H locs S => ?_)
    cases hf
    exact g_retv X S dX10_changes_77
  replace hf := hr2
  refine lv_icmp_ne (tgt := 50) hx hb dX10_changes_6 (by decide) (fun c6 => ?_) (fun c6 => ?_)
  · have hf := (if_neg c6).symm.trans hf
    cases hf
    exact J3 _ _ _ S (lv_sub hl [0, 1] rfl)
  · have hf := (if_pos c6).symm.trans hf
    refine lv_iconst (v := (0 : Int32)) hx hb dX10_changes_9 (by decide) ?_
    refine lv_istore_n (lv' := [(2, .int (0 : Int32)), (0, .ref (ad 0)), (1, .ref (ad a0))]) hx hb dX10_changes_10 rfl hl (by decide) rfl (fun ls hl => ?_)
    obtain ⟨σ9, hr13, hf⟩ := g_s1 hf
    refine w_X10_changes_l1 hN X ha0 FU _ _ _  hr13 (fun H locs ls S hl => ?_) _ _ _ S (lv_sub hl [0, 1, 2] rfl)
    refine lv_aload_n hx hb dX10_changes_40 rfl (lv_at hl 0 rfl) ?_
    refine lv_dup hx hb dX10_changes_41 rfl ?_
    refine gfX10_60 X S hN dX10_changes_42 ?_
    refine lv_iconst (v := (1 : Int32)) hx hb dX10_changes_45 (by decide) ?_
    refine lv_isub hx hb dX10_changes_46 ?_
    obtain ⟨σ14, hσ14, hf⟩ := g_s1 hf
    refine pfX10_60 X S hN hσ14 dX10_changes_47 (fun H locs S => ?_)
    cases hf
    exact J3 _ _ _ S (lv_sub hl [0, 1] rfl)

noncomputable def f_X10_undo (σ : gSt)  : Option (Int32 × gSt) :=
  (g_k1 (if (σ 0 5) = 0 then some (1 : Int32) else some (0 : Int32)) fun x1 => (g_k1 (gset σ 0 10 x1) fun σ4 => (if (σ4 0 10) ≤ 0 then (g_k1 (gset σ4 0 5 ((σ4 0 5) - (1 : Int32))) fun σ6 => (g_k1 (f_X10_copies σ6 4 ((926 : Int32) * (σ6 0 5)) 1 (0 : Int32)) fun σ7 => some ((σ7 0 5), σ7))) else some ((0 : Int32), σ4))))
set_option maxRecDepth 100000 in
set_option maxHeartbeats 4000000 in
theorem c_X10_undo (l : Launch) {Γ : gG} {ad : Nat → Nat} {N : Nat} (hN : 8 ≤ N) {σ : gSt}   {r : Int32} {σ' : gSt} (hf : f_X10_undo σ  = some (r, σ')) : gMi l celM Γ ad N yX10_undo cX10_undo 1 (some .int) (gR 2 0 0) [.ref (ad 0)] σ r σ' := by
  intro sz
  refine gOf (Qc := fun sz => gQci celM Γ ad N r σ' sz) RX10 (by decide) rfl (Nat.le_of_ble_eq_true rfl) (fun p e s m args below meth c H locs ls X S hl => ?_)
  have hl : lv_has ls 1 [(0, .ref (ad 0))] := hl
  have hx := X.1
  have hb := X.2.1
  unfold f_X10_undo at hf
  refine lv_aload_n hx hb dX10_undo_0 rfl (lv_at hl 0 rfl) ?_
  refine lv_aload_n hx hb dX10_undo_1 rfl (lv_at hl 0 rfl) ?_
  refine gfX10_60 X S hN dX10_undo_2 ?_
  obtain ⟨x1, hr2, hf⟩ := g_s1 hf
  have J3 : ∀ (H : Heap) (locs : List Loc) (ls : Array Slot), gS celM Γ ad N σ s H locs → lv_has ls 1 [(0, .ref (ad 0))] → W p l e (gR 2 0 0) s m args below meth c H locs 0 0 (gQi celM Γ ad N r σ' below args s) (F0 m 13 ls [.int x1, .ref (ad 0)]) := by
    intro H locs ls S hl
    obtain ⟨σ4, hσ4, hf⟩ := g_s1 hf
    refine pfX10_35 X S hN hσ4 dX10_undo_13 (fun H locs S => ?_)
    refine lv_aload_n hx hb dX10_undo_16 rfl (lv_at hl 0 rfl) ?_
    refine gfX10_35 X S hN dX10_undo_17 ?_
    refine lv_if_le (tgt := 25) hx hb dX10_undo_20 (by decide) (fun c5 => ?_) (fun c5 => ?_)
    · have hf := (if_pos c5).symm.trans hf
      refine lv_aload_n hx hb dX10_undo_25 rfl (lv_at hl 0 rfl) ?_
      refine lv_dup hx hb dX10_undo_26 rfl ?_
      refine gfX10_60 X S hN dX10_undo_27 ?_
      refine lv_iconst (v := (1 : Int32)) hx hb dX10_undo_30 (by decide) ?_
      refine lv_isub hx hb dX10_undo_31 ?_
      obtain ⟨σ6, hσ6, hf⟩ := g_s1 hf
      refine pfX10_60 X S hN hσ6 dX10_undo_32 (fun H locs S => ?_)
      refine lv_aload_n hx hb dX10_undo_35 rfl (lv_at hl 0 rfl) ?_
      refine gfX10_19 X S hN dX10_undo_36 ?_
      refine lv_sipush (v := (926 : Int32)) hx hb dX10_undo_39 (by decide) ?_
      refine lv_aload_n hx hb dX10_undo_42 rfl (lv_at hl 0 rfl) ?_
      refine gfX10_60 X S hN dX10_undo_43 ?_
      refine lv_imul hx hb dX10_undo_46 ?_
      refine lv_aload_n hx hb dX10_undo_47 rfl (lv_at hl 0 rfl) ?_
      refine gfX10_7 X S hN dX10_undo_48 ?_
      refine lv_iconst (v := (0 : Int32)) hx hb dX10_undo_51 (by decide) ?_
      obtain ⟨σ7, hσ7, hf⟩ := g_s1 hf
      refine g_kv S (g_runS (rest := []) X S (c_X10_copies l hN (by rfl : gma 4 = true) (by rfl : gma 1 = true) hσ7 _) csX10_copies mlX10_63 rfl rfl hl.1 (Nat.le_of_ble_eq_true rfl) ⟨⟨rfl, rfl⟩, ⟨Nat.le_of_ble_eq_true rfl, Nat.le_of_ble_eq_true rfl⟩, Nat.le_of_ble_eq_true rfl, Nat.le_of_ble_eq_true rfl⟩ dX10_undo_52) (fun H locs S => ?_)
      refine lv_aload_n hx hb dX10_undo_55 rfl (lv_at hl 0 rfl) ?_
      refine gfX10_60 X S hN dX10_undo_56 ?_
      cases hf
      exact g_reti X S rfl dX10_undo_59
    · have hf := (if_neg c5).symm.trans hf
      refine lv_iconst (v := (0 : Int32)) hx hb dX10_undo_23 (by decide) ?_
      cases hf
      exact g_reti X S rfl dX10_undo_24
  replace hf := hr2
  refine lv_if_ne (tgt := 12) hx hb dX10_undo_5 (by decide) (fun c8 => ?_) (fun c8 => ?_)
  · have hf := (if_neg c8).symm.trans hf
    refine lv_iconst (v := (0 : Int32)) hx hb dX10_undo_12 (by decide) ?_
    cases hf
    exact J3 _ _ _ S (lv_sub hl [0] rfl)
  · have hf := (if_pos c8).symm.trans hf
    refine lv_iconst (v := (1 : Int32)) hx hb dX10_undo_8 (by decide) ?_
    refine lv_goto (tgt := 13) hx hb dX10_undo_9 (by decide) ?_
    cases hf
    exact J3 _ _ _ S (lv_sub hl [0] rfl)

noncomputable def f_X10_saveSnapshot (σ : gSt)  : Option (Int32 × gSt) :=
  (g_k1 (gset σ 0 10 (0 : Int32)) fun σ1 => (g_k1 (gset σ1 0 3 (1 : Int32)) fun σ2 => (g_k1 (f_X10_copies σ2 1 (0 : Int32) 2 (0 : Int32)) fun σ3 => some (((σ3 1 28) + (σ3 1 29)), σ3))))
set_option maxRecDepth 100000 in
set_option maxHeartbeats 4000000 in
theorem c_X10_saveSnapshot (l : Launch) {Γ : gG} {ad : Nat → Nat} {N : Nat} (hN : 8 ≤ N) {σ : gSt}   {r : Int32} {σ' : gSt} (hf : f_X10_saveSnapshot σ  = some (r, σ')) : gMi l celM Γ ad N yX10_saveSnapshot cX10_saveSnapshot 1 (some .int) (gR 2 0 0) [.ref (ad 0)] σ r σ' := by
  intro sz
  refine gOf (Qc := fun sz => gQci celM Γ ad N r σ' sz) RX10 (by decide) rfl (Nat.le_of_ble_eq_true rfl) (fun p e s m args below meth c H locs ls X S hl => ?_)
  have hl : lv_has ls 1 [(0, .ref (ad 0))] := hl
  have hx := X.1
  have hb := X.2.1
  unfold f_X10_saveSnapshot at hf
  refine lv_aload_n hx hb dX10_saveSnapshot_0 rfl (lv_at hl 0 rfl) ?_
  refine lv_iconst (v := (0 : Int32)) hx hb dX10_saveSnapshot_1 (by decide) ?_
  obtain ⟨σ1, hσ1, hf⟩ := g_s1 hf
  refine pfX10_35 X S hN hσ1 dX10_saveSnapshot_2 (fun H locs S => ?_)
  refine lv_aload_n hx hb dX10_saveSnapshot_5 rfl (lv_at hl 0 rfl) ?_
  refine lv_iconst (v := (1 : Int32)) hx hb dX10_saveSnapshot_6 (by decide) ?_
  obtain ⟨σ2, hσ2, hf⟩ := g_s1 hf
  refine pfX10_67 X S hN (by decide +kernel) hσ2 dX10_saveSnapshot_7 (fun H locs S => ?_)
  refine lv_aload_n hx hb dX10_saveSnapshot_10 rfl (lv_at hl 0 rfl) ?_
  refine gfX10_7 X S hN dX10_saveSnapshot_11 ?_
  refine lv_iconst (v := (0 : Int32)) hx hb dX10_saveSnapshot_14 (by decide) ?_
  refine lv_aload_n hx hb dX10_saveSnapshot_15 rfl (lv_at hl 0 rfl) ?_
  refine gfX10_13 X S hN dX10_saveSnapshot_16 ?_
  refine lv_iconst (v := (0 : Int32)) hx hb dX10_saveSnapshot_19 (by decide) ?_
  obtain ⟨σ3, hσ3, hf⟩ := g_s1 hf
  refine g_kv S (g_runS (rest := []) X S (c_X10_copies l hN (by rfl : gma 1 = true) (by rfl : gma 2 = true) hσ3 _) csX10_copies mlX10_63 rfl rfl hl.1 (Nat.le_of_ble_eq_true rfl) ⟨⟨rfl, rfl⟩, ⟨Nat.le_of_ble_eq_true rfl, Nat.le_of_ble_eq_true rfl⟩, Nat.le_of_ble_eq_true rfl, Nat.le_of_ble_eq_true rfl⟩ dX10_saveSnapshot_20) (fun H locs S => ?_)
  refine lv_aload_n hx hb dX10_saveSnapshot_23 rfl (lv_at hl 0 rfl) ?_
  refine gfX10_7 X S hN dX10_saveSnapshot_24 ?_
  refine lv_bipush (v := (28 : Int32)) hx hb dX10_saveSnapshot_27 (by decide) ?_
  refine g_ialdC X S (by omega) (ceM_a (rfl : gma 1 = true)) 28 (by decide) (by decide) dX10_saveSnapshot_29 ?_
  refine lv_aload_n hx hb dX10_saveSnapshot_30 rfl (lv_at hl 0 rfl) ?_
  refine gfX10_7 X S hN dX10_saveSnapshot_31 ?_
  refine lv_bipush (v := (29 : Int32)) hx hb dX10_saveSnapshot_34 (by decide) ?_
  refine g_ialdC X S (by omega) (ceM_a (rfl : gma 1 = true)) 29 (by decide) (by decide) dX10_saveSnapshot_36 ?_
  refine lv_iadd hx hb dX10_saveSnapshot_37 ?_
  cases hf
  exact g_reti X S rfl dX10_saveSnapshot_38

noncomputable def f_X10_restoreSnapshot (σ : gSt)  : Option (Int32 × gSt) :=
  (g_k1 (if (σ 0 3) = 0 then some (1 : Int32) else some (0 : Int32)) fun x1 => (g_k1 (gset σ 0 10 x1) fun σ4 => (if (σ4 0 3) = 0 then some ((0 : Int32), σ4) else (g_k1 (f_X10_copies σ4 2 (0 : Int32) 1 (0 : Int32)) fun σ6 => (g_k1 (gset σ6 0 5 (0 : Int32)) fun σ7 => some (((σ7 1 28) + (σ7 1 29)), σ7))))))
set_option maxRecDepth 100000 in
set_option maxHeartbeats 4000000 in
theorem c_X10_restoreSnapshot (l : Launch) {Γ : gG} {ad : Nat → Nat} {N : Nat} (hN : 8 ≤ N) {σ : gSt}   {r : Int32} {σ' : gSt} (hf : f_X10_restoreSnapshot σ  = some (r, σ')) : gMi l celM Γ ad N yX10_restoreSnapshot cX10_restoreSnapshot 1 (some .int) (gR 2 0 0) [.ref (ad 0)] σ r σ' := by
  intro sz
  refine gOf (Qc := fun sz => gQci celM Γ ad N r σ' sz) RX10 (by decide) rfl (Nat.le_of_ble_eq_true rfl) (fun p e s m args below meth c H locs ls X S hl => ?_)
  have hl : lv_has ls 1 [(0, .ref (ad 0))] := hl
  have hx := X.1
  have hb := X.2.1
  unfold f_X10_restoreSnapshot at hf
  refine lv_aload_n hx hb dX10_restoreSnapshot_0 rfl (lv_at hl 0 rfl) ?_
  refine lv_aload_n hx hb dX10_restoreSnapshot_1 rfl (lv_at hl 0 rfl) ?_
  refine gfX10_67 X S hN dX10_restoreSnapshot_2 ?_
  obtain ⟨x1, hr2, hf⟩ := g_s1 hf
  have J3 : ∀ (H : Heap) (locs : List Loc) (ls : Array Slot), gS celM Γ ad N σ s H locs → lv_has ls 1 [(0, .ref (ad 0))] → W p l e (gR 2 0 0) s m args below meth c H locs 0 0 (gQi celM Γ ad N r σ' below args s) (F0 m 13 ls [.int x1, .ref (ad 0)]) := by
    intro H locs ls S hl
    obtain ⟨σ4, hσ4, hf⟩ := g_s1 hf
    refine pfX10_35 X S hN hσ4 dX10_restoreSnapshot_13 (fun H locs S => ?_)
    refine lv_aload_n hx hb dX10_restoreSnapshot_16 rfl (lv_at hl 0 rfl) ?_
    refine gfX10_67 X S hN dX10_restoreSnapshot_17 ?_
    refine lv_if_ne (tgt := 25) hx hb dX10_restoreSnapshot_20 (by decide) (fun c5 => ?_) (fun c5 => ?_)
    · have hf := (if_neg c5).symm.trans hf
      refine lv_aload_n hx hb dX10_restoreSnapshot_25 rfl (lv_at hl 0 rfl) ?_
      refine gfX10_13 X S hN dX10_restoreSnapshot_26 ?_
      refine lv_iconst (v := (0 : Int32)) hx hb dX10_restoreSnapshot_29 (by decide) ?_
      refine lv_aload_n hx hb dX10_restoreSnapshot_30 rfl (lv_at hl 0 rfl) ?_
      refine gfX10_7 X S hN dX10_restoreSnapshot_31 ?_
      refine lv_iconst (v := (0 : Int32)) hx hb dX10_restoreSnapshot_34 (by decide) ?_
      obtain ⟨σ6, hσ6, hf⟩ := g_s1 hf
      refine g_kv S (g_runS (rest := []) X S (c_X10_copies l hN (by rfl : gma 2 = true) (by rfl : gma 1 = true) hσ6 _) csX10_copies mlX10_63 rfl rfl hl.1 (Nat.le_of_ble_eq_true rfl) ⟨⟨rfl, rfl⟩, ⟨Nat.le_of_ble_eq_true rfl, Nat.le_of_ble_eq_true rfl⟩, Nat.le_of_ble_eq_true rfl, Nat.le_of_ble_eq_true rfl⟩ dX10_restoreSnapshot_35) (fun H locs S => ?_)
      refine lv_aload_n hx hb dX10_restoreSnapshot_38 rfl (lv_at hl 0 rfl) ?_
      refine lv_iconst (v := (0 : Int32)) hx hb dX10_restoreSnapshot_39 (by decide) ?_
      obtain ⟨σ7, hσ7, hf⟩ := g_s1 hf
      refine pfX10_60 X S hN hσ7 dX10_restoreSnapshot_40 (fun H locs S => ?_)
      refine lv_aload_n hx hb dX10_restoreSnapshot_43 rfl (lv_at hl 0 rfl) ?_
      refine gfX10_7 X S hN dX10_restoreSnapshot_44 ?_
      refine lv_bipush (v := (28 : Int32)) hx hb dX10_restoreSnapshot_47 (by decide) ?_
      refine g_ialdC X S (by omega) (ceM_a (rfl : gma 1 = true)) 28 (by decide) (by decide) dX10_restoreSnapshot_49 ?_
      refine lv_aload_n hx hb dX10_restoreSnapshot_50 rfl (lv_at hl 0 rfl) ?_
      refine gfX10_7 X S hN dX10_restoreSnapshot_51 ?_
      refine lv_bipush (v := (29 : Int32)) hx hb dX10_restoreSnapshot_54 (by decide) ?_
      refine g_ialdC X S (by omega) (ceM_a (rfl : gma 1 = true)) 29 (by decide) (by decide) dX10_restoreSnapshot_56 ?_
      refine lv_iadd hx hb dX10_restoreSnapshot_57 ?_
      cases hf
      exact g_reti X S rfl dX10_restoreSnapshot_58
    · have hf := (if_pos c5).symm.trans hf
      refine lv_iconst (v := (0 : Int32)) hx hb dX10_restoreSnapshot_23 (by decide) ?_
      cases hf
      exact g_reti X S rfl dX10_restoreSnapshot_24
  replace hf := hr2
  refine lv_if_eq (tgt := 12) hx hb dX10_restoreSnapshot_5 (by decide) (fun c8 => ?_) (fun c8 => ?_)
  · have hf := (if_pos c8).symm.trans hf
    refine lv_iconst (v := (1 : Int32)) hx hb dX10_restoreSnapshot_12 (by decide) ?_
    cases hf
    exact J3 _ _ _ S (lv_sub hl [0] rfl)
  · have hf := (if_neg c8).symm.trans hf
    refine lv_iconst (v := (0 : Int32)) hx hb dX10_restoreSnapshot_8 (by decide) ?_
    refine lv_goto (tgt := 13) hx hb dX10_restoreSnapshot_9 (by decide) ?_
    cases hf
    exact J3 _ _ _ S (lv_sub hl [0] rfl)

noncomputable def f_X10_film_l1 (a0 : Int32) (σ5 : gSt) : Nat → Int32 → Int32 → Option (Int32)
  | 0, _, _ => none
  | n + 1, i10, i11 => (if (2 : Int32) ≤ i10 then some i11 else (g_k1 (if i11 = 0 then some (0 : Int32) else (g_k1 (gald σ5 1 926 ((28 : Int32) + i10)) fun v18 => (if v18 = 0 then some (1 : Int32) else (g_k1 (gald σ5 1 926 ((28 : Int32) + i10)) fun v20 => (g_k1 (f_X10_end σ5 i10 (v20 - (1 : Int32))) fun v21 => (if a0 < v21 then some (0 : Int32) else some (1 : Int32))))))) fun x14 => (f_X10_film_l1 a0 σ5 n (i10 + 1) x14)))
set_option maxRecDepth 100000 in
set_option maxHeartbeats 4000000 in
theorem w_X10_film_l1 {l : Launch} {Γ : gG} {ad : Nat → Nat} {N : Nat} {p : Program} {e : Env} {s : State} {m : MethodId} {args : Array Value} {below : List Frame} {meth : Method} {c : Code} {Q : State → Prop} (hN : 8 ≤ N) (X : gX celM Γ ad N RX10 cX10_film 4 (some .int) p s m args meth c) {a0 : Int32} {σ5 : gSt}  : ∀ (n : Nat) (i10 : Int32) (i11 : Int32) (r12 : Int32), f_X10_film_l1 a0 σ5 n i10 i11 = some r12 → (∀ (H : Heap) (locs : List Loc) (ls : Array Slot), gS celM Γ ad N σ5 s H locs → lv_has ls 4 [(2, .int r12), (0, .ref (ad 0)), (1, .int a0)] → W p l e (gR 3 0 0) s m args below meth c H locs 0 0 (Q) (F0 m 122 ls [])) → ∀ (H : Heap) (locs : List Loc) (ls : Array Slot), gS celM Γ ad N σ5 s H locs → lv_has ls 4 [(3, .int i10), (2, .int i11), (0, .ref (ad 0)), (1, .int a0)] → W p l e (gR 3 0 0) s m args below meth c H locs 0 0 (Q) (F0 m 69 ls []) := by
  have hx := X.1
  have hb := X.2.1
  intro n
  induction n with
  | zero =>
    intro i10 i11 r12 hf
    cases hf
  | succ n ih =>
    intro i10 i11 r12 hf J H locs ls S hl
    rw [f_X10_film_l1] at hf
    refine lv_iload_n hx hb dX10_film_69 rfl (lv_at hl 0 rfl) ?_
    refine lv_iconst (v := (2 : Int32)) hx hb dX10_film_70 (by decide) ?_
    refine lv_icmp_ge (tgt := 122) hx hb dX10_film_71 (by decide) (fun c13 => ?_) (fun c13 => ?_)
    · have hf := (if_pos c13).symm.trans hf
      cases hf
      exact J _ _ _ S (lv_sub hl [1, 2, 3] rfl)
    · have hf := (if_neg c13).symm.trans hf
      refine lv_iload_n hx hb dX10_film_74 rfl (lv_at hl 1 rfl) ?_
      obtain ⟨x14, hr15, hf⟩ := g_s1 hf
      have J16 : ∀ (H : Heap) (locs : List Loc) (ls : Array Slot), gS celM Γ ad N σ5 s H locs → lv_has ls 4 [(3, .int i10), (0, .ref (ad 0)), (1, .int a0)] → W p l e (gR 3 0 0) s m args below meth c H locs 0 0 (Q) (F0 m 115 ls [.int x14]) := by
        intro H locs ls S hl
        refine lv_istore_n (lv' := [(2, .int x14), (3, .int i10), (0, .ref (ad 0)), (1, .int a0)]) hx hb dX10_film_115 rfl hl (by decide) rfl (fun ls hl => ?_)
        refine lv_iinc (v := (i10 + 1)) (lv' := [(3, .int (i10 + 1)), (2, .int x14), (0, .ref (ad 0)), (1, .int a0)]) hx hb dX10_film_116 hl (k := 1) rfl rfl (by decide) rfl (fun ls hl => ?_)
        refine lv_goto (tgt := 69) hx hb dX10_film_119 (by decide) ?_
        exact ih _ _ _  hf J _ _ _ S (lv_sub hl [0, 1, 2, 3] rfl)
      replace hf := hr15
      refine lv_if_eq (tgt := 114) hx hb dX10_film_75 (by decide) (fun c17 => ?_) (fun c17 => ?_)
      · have hf := (if_pos c17).symm.trans hf
        refine lv_iconst (v := (0 : Int32)) hx hb dX10_film_114 (by decide) ?_
        cases hf
        exact J16 _ _ _ S (lv_sub hl [0, 2, 3] rfl)
      · have hf := (if_neg c17).symm.trans hf
        refine lv_aload_n hx hb dX10_film_78 rfl (lv_at hl 2 rfl) ?_
        refine gfX10_7 X S hN dX10_film_79 ?_
        refine lv_bipush (v := (28 : Int32)) hx hb dX10_film_82 (by decide) ?_
        refine lv_iload_n hx hb dX10_film_84 rfl (lv_at hl 0 rfl) ?_
        refine lv_iadd hx hb dX10_film_85 ?_
        obtain ⟨v18, hv18, hf⟩ := g_s1 hf
        refine g_iald X S (by omega) (ceM_a (rfl : gma 1 = true)) hv18 dX10_film_86 ?_
        refine lv_if_eq (tgt := 110) hx hb dX10_film_87 (by decide) (fun c19 => ?_) (fun c19 => ?_)
        · have hf := (if_pos c19).symm.trans hf
          refine lv_iconst (v := (1 : Int32)) hx hb dX10_film_110 (by decide) ?_
          refine lv_goto (tgt := 115) hx hb dX10_film_111 (by decide) ?_
          cases hf
          exact J16 _ _ _ S (lv_sub hl [0, 2, 3] rfl)
        · have hf := (if_neg c19).symm.trans hf
          refine lv_aload_n hx hb dX10_film_90 rfl (lv_at hl 2 rfl) ?_
          refine lv_iload_n hx hb dX10_film_91 rfl (lv_at hl 0 rfl) ?_
          refine lv_aload_n hx hb dX10_film_92 rfl (lv_at hl 2 rfl) ?_
          refine gfX10_7 X S hN dX10_film_93 ?_
          refine lv_bipush (v := (28 : Int32)) hx hb dX10_film_96 (by decide) ?_
          refine lv_iload_n hx hb dX10_film_98 rfl (lv_at hl 0 rfl) ?_
          refine lv_iadd hx hb dX10_film_99 ?_
          obtain ⟨v20, hv20, hf⟩ := g_s1 hf
          refine g_iald X S (by omega) (ceM_a (rfl : gma 1 = true)) hv20 dX10_film_100 ?_
          refine lv_iconst (v := (1 : Int32)) hx hb dX10_film_101 (by decide) ?_
          refine lv_isub hx hb dX10_film_102 ?_
          obtain ⟨v21, hv21, hf⟩ := g_s1 hf
          refine g_ki S (g_runV (rest := []) X S (c_X10_end l hN  hv21 _) cvX10_end mlX10_71 (by omega) (ceM_10 _) rfl rfl rfl hl.1 (Nat.le_of_ble_eq_true rfl) ⟨⟨rfl, rfl⟩, ⟨Nat.le_of_ble_eq_true rfl, Nat.le_of_ble_eq_true rfl⟩, Nat.le_of_ble_eq_true rfl, Nat.le_of_ble_eq_true rfl⟩ dX10_film_103) (fun H locs S => ?_)
          refine lv_iload_n hx hb dX10_film_106 rfl (lv_at hl 3 rfl) ?_
          refine lv_icmp_gt (tgt := 114) hx hb dX10_film_107 (by decide) (fun c22 => ?_) (fun c22 => ?_)
          · have hf := (if_pos c22).symm.trans hf
            refine lv_iconst (v := (0 : Int32)) hx hb dX10_film_114 (by decide) ?_
            cases hf
            exact J16 _ _ _ S (lv_sub hl [0, 2, 3] rfl)
          · have hf := (if_neg c22).symm.trans hf
            refine lv_iconst (v := (1 : Int32)) hx hb dX10_film_110 (by decide) ?_
            refine lv_goto (tgt := 115) hx hb dX10_film_111 (by decide) ?_
            cases hf
            exact J16 _ _ _ S (lv_sub hl [0, 2, 3] rfl)
noncomputable def f_X10_film (σ : gSt) (a0 : Int32) : Option (Int32 × gSt) :=
  (g_k1 (f_X10_in σ a0 (100 : Int32) (9999 : Int32)) fun v1 => (g_k1 (if v1 = 0 then some (1 : Int32) else some (0 : Int32)) fun x2 => (g_k1 (gset σ 0 10 x2) fun σ5 => (if (σ5 0 10) ≤ 0 then (g_k1 (if (σ5 1 7) = 0 then some (1 : Int32) else (g_k1 (gald σ5 1 926 (((8 : Int32) + (σ5 1 7)) - (1 : Int32))) fun v30 => (if a0 ≤ v30 then some (0 : Int32) else some (1 : Int32)))) fun x7 => (g_k1 (f_X10_film_l1 a0 σ5 FU (0 : Int32) x7) fun r12 => (if r12 = 0 then (g_k2 (f_X10_refuses σ5 (2 : Int32) (1 : Int32)) fun v27 σ28 => some (v27, σ28)) else (g_k1 (f_X10_changes σ5 1) fun σ25 => (g_k1 (gset σ25 1 0 a0) fun σ26 => some ((σ25 1 0), σ26)))))) else some ((0 : Int32), σ5)))))
set_option maxRecDepth 100000 in
set_option maxHeartbeats 4000000 in
theorem c_X10_film (l : Launch) {Γ : gG} {ad : Nat → Nat} {N : Nat} (hN : 8 ≤ N) {σ : gSt} {a0 : Int32}  {r : Int32} {σ' : gSt} (hf : f_X10_film σ a0 = some (r, σ')) : gMi l celM Γ ad N yX10_film cX10_film 4 (some .int) (gR 3 0 0) [.ref (ad 0), .int a0] σ r σ' := by
  intro sz
  refine gOf (Qc := fun sz => gQci celM Γ ad N r σ' sz) RX10 (by decide) rfl (Nat.le_of_ble_eq_true rfl) (fun p e s m args below meth c H locs ls X S hl => ?_)
  have hl : lv_has ls 4 [(0, .ref (ad 0)), (1, .int a0)] := hl
  have hx := X.1
  have hb := X.2.1
  unfold f_X10_film at hf
  refine lv_aload_n hx hb dX10_film_0 rfl (lv_at hl 0 rfl) ?_
  refine lv_iload_n hx hb dX10_film_1 rfl (lv_at hl 1 rfl) ?_
  refine lv_bipush (v := (100 : Int32)) hx hb dX10_film_2 (by decide) ?_
  refine lv_sipush (v := (9999 : Int32)) hx hb dX10_film_4 (by decide) ?_
  obtain ⟨v1, hv1, hf⟩ := g_s1 hf
  refine g_ki S (g_runS (rest := [.ref (ad 0)]) X S (c_X10_in l hN  hv1 _) csX10_in mlX10_48 rfl rfl hl.1 (Nat.le_of_ble_eq_true rfl) ⟨⟨rfl, rfl⟩, ⟨Nat.le_of_ble_eq_true rfl, Nat.le_of_ble_eq_true rfl⟩, Nat.le_of_ble_eq_true rfl, Nat.le_of_ble_eq_true rfl⟩ dX10_film_7) (fun H locs S => ?_)
  obtain ⟨x2, hr3, hf⟩ := g_s1 hf
  have J4 : ∀ (H : Heap) (locs : List Loc) (ls : Array Slot), gS celM Γ ad N σ s H locs → lv_has ls 4 [(0, .ref (ad 0)), (1, .int a0)] → W p l e (gR 3 0 0) s m args below meth c H locs 0 0 (gQi celM Γ ad N r σ' below args s) (F0 m 18 ls [.int x2, .ref (ad 0)]) := by
    intro H locs ls S hl
    obtain ⟨σ5, hσ5, hf⟩ := g_s1 hf
    refine pfX10_35 X S hN hσ5 dX10_film_18 (fun H locs S => ?_)
    refine lv_aload_n hx hb dX10_film_21 rfl (lv_at hl 0 rfl) ?_
    refine gfX10_35 X S hN dX10_film_22 ?_
    refine lv_if_le (tgt := 30) hx hb dX10_film_25 (by decide) (fun c6 => ?_) (fun c6 => ?_)
    · have hf := (if_pos c6).symm.trans hf
      refine lv_aload_n hx hb dX10_film_30 rfl (lv_at hl 0 rfl) ?_
      refine gfX10_7 X S hN dX10_film_31 ?_
      refine lv_bipush (v := (7 : Int32)) hx hb dX10_film_34 (by decide) ?_
      refine g_ialdC X S (by omega) (ceM_a (rfl : gma 1 = true)) 7 (by decide) (by decide) dX10_film_36 ?_
      obtain ⟨x7, hr8, hf⟩ := g_s1 hf
      have J9 : ∀ (H : Heap) (locs : List Loc) (ls : Array Slot), gS celM Γ ad N σ5 s H locs → lv_has ls 4 [(0, .ref (ad 0)), (1, .int a0)] → W p l e (gR 3 0 0) s m args below meth c H locs 0 0 (gQi celM Γ ad N r σ' below args s) (F0 m 66 ls [.int x7]) := by
        intro H locs ls S hl
        refine lv_istore_n (lv' := [(2, .int x7), (0, .ref (ad 0)), (1, .int a0)]) hx hb dX10_film_66 rfl hl (by decide) rfl (fun ls hl => ?_)
        refine lv_iconst (v := (0 : Int32)) hx hb dX10_film_67 (by decide) ?_
        refine lv_istore_n (lv' := [(3, .int (0 : Int32)), (2, .int x7), (0, .ref (ad 0)), (1, .int a0)]) hx hb dX10_film_68 rfl hl (by decide) rfl (fun ls hl => ?_)
        obtain ⟨r12, hr23, hf⟩ := g_s1 hf
        refine w_X10_film_l1 hN X  FU _ _ _  hr23 (fun H locs ls S hl => ?_) _ _ _ S (lv_sub hl [0, 1, 2, 3] rfl)
        refine lv_iload_n hx hb dX10_film_122 rfl (lv_at hl 0 rfl) ?_
        refine lv_if_ne (tgt := 133) hx hb dX10_film_123 (by decide) (fun c24 => ?_) (fun c24 => ?_)
        · have hf := (if_neg c24).symm.trans hf
          refine lv_aload_n hx hb dX10_film_133 rfl (lv_at hl 1 rfl) ?_
          refine lv_aload_n hx hb dX10_film_134 rfl (lv_at hl 1 rfl) ?_
          refine gfX10_7 X S hN dX10_film_135 ?_
          obtain ⟨σ25, hσ25, hf⟩ := g_s1 hf
          refine g_kv S (g_runV (rest := []) X S (c_X10_changes l hN (by rfl : gma 1 = true) hσ25 _) cvX10_changes mlX10_78 (by omega) (ceM_10 _) rfl rfl rfl hl.1 (Nat.le_of_ble_eq_true rfl) ⟨⟨rfl, rfl⟩, ⟨Nat.le_of_ble_eq_true rfl, Nat.le_of_ble_eq_true rfl⟩, Nat.le_of_ble_eq_true rfl, Nat.le_of_ble_eq_true rfl⟩ dX10_film_138) (fun H locs S => ?_)
          refine lv_aload_n hx hb dX10_film_141 rfl (lv_at hl 1 rfl) ?_
          refine gfX10_7 X S hN dX10_film_142 ?_
          refine lv_iconst (v := (0 : Int32)) hx hb dX10_film_145 (by decide) ?_
          refine g_ialdC X S (by omega) (ceM_a (rfl : gma 1 = true)) 0 (by decide) (by decide) dX10_film_146 ?_
          refine lv_istore_n (lv' := [(3, .int (σ25 1 0)), (2, .int r12), (0, .ref (ad 0)), (1, .int a0)]) hx hb dX10_film_147 rfl hl (by decide) rfl (fun ls hl => ?_)
          refine lv_aload_n hx hb dX10_film_148 rfl (lv_at hl 2 rfl) ?_
          refine gfX10_7 X S hN dX10_film_149 ?_
          refine lv_iconst (v := (0 : Int32)) hx hb dX10_film_152 (by decide) ?_
          refine lv_iload_n hx hb dX10_film_153 rfl (lv_at hl 3 rfl) ?_
          obtain ⟨σ26, hσ26, hf⟩ := g_s1 hf
          refine g_iastC X S (by omega) (ceM_a (rfl : gma 1 = true)) 0 (by decide) (by decide) hσ26 dX10_film_154 (fun H locs S => ?_)
          refine lv_iload_n hx hb dX10_film_155 rfl (lv_at hl 0 rfl) ?_
          cases hf
          exact g_reti X S rfl dX10_film_156
        · have hf := (if_pos c24).symm.trans hf
          refine lv_aload_n hx hb dX10_film_126 rfl (lv_at hl 1 rfl) ?_
          refine lv_iconst (v := (2 : Int32)) hx hb dX10_film_127 (by decide) ?_
          refine lv_iconst (v := (1 : Int32)) hx hb dX10_film_128 (by decide) ?_
          obtain ⟨v27, σ28, hv27, hf⟩ := g_s2 hf
          refine g_ki S (g_runV (rest := []) X S (c_X10_refuses l hN  hv27 _) cvX10_refuses mlX10_75 (by omega) (ceM_10 _) rfl rfl rfl hl.1 (Nat.le_of_ble_eq_true rfl) ⟨⟨rfl, rfl⟩, ⟨Nat.le_of_ble_eq_true rfl, Nat.le_of_ble_eq_true rfl⟩, Nat.le_of_ble_eq_true rfl, Nat.le_of_ble_eq_true rfl⟩ dX10_film_129) (fun H locs S => ?_)
          cases hf
          exact g_reti X S rfl dX10_film_132
      replace hf := hr8
      refine lv_if_eq (tgt := 61) hx hb dX10_film_37 (by decide) (fun c29 => ?_) (fun c29 => ?_)
      · have hf := (if_pos c29).symm.trans hf
        refine lv_iconst (v := (1 : Int32)) hx hb dX10_film_61 (by decide) ?_
        refine lv_goto (tgt := 66) hx hb dX10_film_62 (by decide) ?_
        cases hf
        exact J9 _ _ _ S (lv_sub hl [0, 1] rfl)
      · have hf := (if_neg c29).symm.trans hf
        refine lv_aload_n hx hb dX10_film_40 rfl (lv_at hl 0 rfl) ?_
        refine gfX10_7 X S hN dX10_film_41 ?_
        refine lv_bipush (v := (8 : Int32)) hx hb dX10_film_44 (by decide) ?_
        refine lv_aload_n hx hb dX10_film_46 rfl (lv_at hl 0 rfl) ?_
        refine gfX10_7 X S hN dX10_film_47 ?_
        refine lv_bipush (v := (7 : Int32)) hx hb dX10_film_50 (by decide) ?_
        refine g_ialdC X S (by omega) (ceM_a (rfl : gma 1 = true)) 7 (by decide) (by decide) dX10_film_52 ?_
        refine lv_iadd hx hb dX10_film_53 ?_
        refine lv_iconst (v := (1 : Int32)) hx hb dX10_film_54 (by decide) ?_
        refine lv_isub hx hb dX10_film_55 ?_
        obtain ⟨v30, hv30, hf⟩ := g_s1 hf
        refine g_iald X S (by omega) (ceM_a (rfl : gma 1 = true)) hv30 dX10_film_56 ?_
        refine lv_iload_n hx hb dX10_film_57 rfl (lv_at hl 1 rfl) ?_
        refine lv_icmp_ge (tgt := 65) hx hb dX10_film_58 (by decide) (fun c31 => ?_) (fun c31 => ?_)
        · have hf := (if_pos c31).symm.trans hf
          refine lv_iconst (v := (0 : Int32)) hx hb dX10_film_65 (by decide) ?_
          cases hf
          exact J9 _ _ _ S (lv_sub hl [0, 1] rfl)
        · have hf := (if_neg c31).symm.trans hf
          refine lv_iconst (v := (1 : Int32)) hx hb dX10_film_61 (by decide) ?_
          refine lv_goto (tgt := 66) hx hb dX10_film_62 (by decide) ?_
          cases hf
          exact J9 _ _ _ S (lv_sub hl [0, 1] rfl)
    · have hf := (if_neg c6).symm.trans hf
      refine lv_iconst (v := (0 : Int32)) hx hb dX10_film_28 (by decide) ?_
      cases hf
      exact g_reti X S rfl dX10_film_29
  replace hf := hr3
  refine lv_if_eq (tgt := 17) hx hb dX10_film_10 (by decide) (fun c32 => ?_) (fun c32 => ?_)
  · have hf := (if_pos c32).symm.trans hf
    refine lv_iconst (v := (1 : Int32)) hx hb dX10_film_17 (by decide) ?_
    cases hf
    exact J4 _ _ _ S (lv_sub hl [0, 1] rfl)
  · have hf := (if_neg c32).symm.trans hf
    refine lv_iconst (v := (0 : Int32)) hx hb dX10_film_13 (by decide) ?_
    refine lv_goto (tgt := 18) hx hb dX10_film_14 (by decide) ?_
    cases hf
    exact J4 _ _ _ S (lv_sub hl [0, 1] rfl)

noncomputable def f_X10_maySet (σ : gSt) (a0 : Int32) (a1 : Int32) : Option (Int32) :=
  (if a0 = (0 : Int32) then (g_k1 (f_X10_in σ a1 (5 : Int32) (30 : Int32)) fun v2 => (g_k1 (gzb v2) fun v3 => some v3)) else (if a0 = (1 : Int32) then (g_k1 (f_X10_in σ a1 (0 : Int32) (12 : Int32)) fun v5 => (g_k1 (gzb v5) fun v6 => some v6)) else (if a0 = (2 : Int32) then (g_k1 (f_X10_in σ a1 (0 : Int32) (9 : Int32)) fun v8 => (g_k1 (gzb v8) fun v9 => some v9)) else (if a0 = (3 : Int32) then (g_k1 (f_X10_in σ a1 (0 : Int32) (25 : Int32)) fun v11 => (g_k1 (gzb v11) fun v12 => some v12)) else (if a0 = (4 : Int32) then (g_k1 (f_X10_in σ a1 (0 : Int32) (25 : Int32)) fun v14 => (g_k1 (gzb v14) fun v15 => some v15)) else (g_k1 (if a0 = (5 : Int32) then (g_k1 (f_X10_in σ a1 (5 : Int32) (24 : Int32)) fun v21 => (if v21 = 0 then some (0 : Int32) else some (1 : Int32))) else some (0 : Int32)) fun x16 => (g_k1 (gzb x16) fun v19 => some v19)))))))
set_option maxRecDepth 100000 in
set_option maxHeartbeats 4000000 in
theorem c_X10_maySet (l : Launch) {Γ : gG} {ad : Nat → Nat} {N : Nat} (hN : 8 ≤ N) {σ : gSt} {a0 : Int32} {a1 : Int32}  {r : Int32} (hf : f_X10_maySet σ a0 a1 = some r) : gMi l celM Γ ad N yX10_maySet cX10_maySet 2 (some .boolean) (gR 2 0 0) [.int a0, .int a1] σ r σ := by
  intro sz
  refine gOf (Qc := fun sz => gQci celM Γ ad N r σ sz) RX10 (by decide) rfl (Nat.le_of_ble_eq_true rfl) (fun p e s m args below meth c H locs ls X S hl => ?_)
  have hl : lv_has ls 2 [(0, .int a0), (1, .int a1)] := hl
  have hx := X.1
  have hb := X.2.1
  unfold f_X10_maySet at hf
  refine lv_iload_n hx hb dX10_maySet_0 rfl (lv_at hl 0 rfl) ?_
  by_cases c1 : a0 = (0 : Int32)
  · have hf := (if_pos c1).symm.trans hf
    refine lv_tableIn (off := 35) (tgt := 36) hx hb dX10_maySet_1 (by rw [c1]; decide) (by rw [c1]; decide) (by rw [c1]; decide) (by decide) ?_
    refine lv_iload_n hx hb dX10_maySet_36 rfl (lv_at hl 1 rfl) ?_
    refine lv_iconst (v := (5 : Int32)) hx hb dX10_maySet_37 (by decide) ?_
    refine lv_bipush (v := (30 : Int32)) hx hb dX10_maySet_38 (by decide) ?_
    obtain ⟨v2, hv2, hf⟩ := g_s1 hf
    refine g_ki S (g_runS (rest := []) X S (c_X10_in l hN  hv2 _) csX10_in mlX10_48 rfl rfl hl.1 (Nat.le_of_ble_eq_true rfl) ⟨⟨rfl, rfl⟩, ⟨Nat.le_of_ble_eq_true rfl, Nat.le_of_ble_eq_true rfl⟩, Nat.le_of_ble_eq_true rfl, Nat.le_of_ble_eq_true rfl⟩ dX10_maySet_40) (fun H locs S => ?_)
    obtain ⟨v3, hv3, hf⟩ := g_s1 hf
    obtain ⟨hnv3, rfl⟩ := gzb_some hv3
    cases hf
    exact g_reti X S hnv3 dX10_maySet_43
  replace hf := (if_neg c1).symm.trans hf
  by_cases c4 : a0 = (1 : Int32)
  · have hf := (if_pos c4).symm.trans hf
    refine lv_tableIn (off := 43) (tgt := 44) hx hb dX10_maySet_1 (by rw [c4]; decide) (by rw [c4]; decide) (by rw [c4]; decide) (by decide) ?_
    refine lv_iload_n hx hb dX10_maySet_44 rfl (lv_at hl 1 rfl) ?_
    refine lv_iconst (v := (0 : Int32)) hx hb dX10_maySet_45 (by decide) ?_
    refine lv_bipush (v := (12 : Int32)) hx hb dX10_maySet_46 (by decide) ?_
    obtain ⟨v5, hv5, hf⟩ := g_s1 hf
    refine g_ki S (g_runS (rest := []) X S (c_X10_in l hN  hv5 _) csX10_in mlX10_48 rfl rfl hl.1 (Nat.le_of_ble_eq_true rfl) ⟨⟨rfl, rfl⟩, ⟨Nat.le_of_ble_eq_true rfl, Nat.le_of_ble_eq_true rfl⟩, Nat.le_of_ble_eq_true rfl, Nat.le_of_ble_eq_true rfl⟩ dX10_maySet_48) (fun H locs S => ?_)
    obtain ⟨v6, hv6, hf⟩ := g_s1 hf
    obtain ⟨hnv6, rfl⟩ := gzb_some hv6
    cases hf
    exact g_reti X S hnv6 dX10_maySet_51
  replace hf := (if_neg c4).symm.trans hf
  by_cases c7 : a0 = (2 : Int32)
  · have hf := (if_pos c7).symm.trans hf
    refine lv_tableIn (off := 51) (tgt := 52) hx hb dX10_maySet_1 (by rw [c7]; decide) (by rw [c7]; decide) (by rw [c7]; decide) (by decide) ?_
    refine lv_iload_n hx hb dX10_maySet_52 rfl (lv_at hl 1 rfl) ?_
    refine lv_iconst (v := (0 : Int32)) hx hb dX10_maySet_53 (by decide) ?_
    refine lv_bipush (v := (9 : Int32)) hx hb dX10_maySet_54 (by decide) ?_
    obtain ⟨v8, hv8, hf⟩ := g_s1 hf
    refine g_ki S (g_runS (rest := []) X S (c_X10_in l hN  hv8 _) csX10_in mlX10_48 rfl rfl hl.1 (Nat.le_of_ble_eq_true rfl) ⟨⟨rfl, rfl⟩, ⟨Nat.le_of_ble_eq_true rfl, Nat.le_of_ble_eq_true rfl⟩, Nat.le_of_ble_eq_true rfl, Nat.le_of_ble_eq_true rfl⟩ dX10_maySet_56) (fun H locs S => ?_)
    obtain ⟨v9, hv9, hf⟩ := g_s1 hf
    obtain ⟨hnv9, rfl⟩ := gzb_some hv9
    cases hf
    exact g_reti X S hnv9 dX10_maySet_59
  replace hf := (if_neg c7).symm.trans hf
  by_cases c10 : a0 = (3 : Int32)
  · have hf := (if_pos c10).symm.trans hf
    refine lv_tableIn (off := 59) (tgt := 60) hx hb dX10_maySet_1 (by rw [c10]; decide) (by rw [c10]; decide) (by rw [c10]; decide) (by decide) ?_
    refine lv_iload_n hx hb dX10_maySet_60 rfl (lv_at hl 1 rfl) ?_
    refine lv_iconst (v := (0 : Int32)) hx hb dX10_maySet_61 (by decide) ?_
    refine lv_bipush (v := (25 : Int32)) hx hb dX10_maySet_62 (by decide) ?_
    obtain ⟨v11, hv11, hf⟩ := g_s1 hf
    refine g_ki S (g_runS (rest := []) X S (c_X10_in l hN  hv11 _) csX10_in mlX10_48 rfl rfl hl.1 (Nat.le_of_ble_eq_true rfl) ⟨⟨rfl, rfl⟩, ⟨Nat.le_of_ble_eq_true rfl, Nat.le_of_ble_eq_true rfl⟩, Nat.le_of_ble_eq_true rfl, Nat.le_of_ble_eq_true rfl⟩ dX10_maySet_64) (fun H locs S => ?_)
    obtain ⟨v12, hv12, hf⟩ := g_s1 hf
    obtain ⟨hnv12, rfl⟩ := gzb_some hv12
    cases hf
    exact g_reti X S hnv12 dX10_maySet_67
  replace hf := (if_neg c10).symm.trans hf
  by_cases c13 : a0 = (4 : Int32)
  · have hf := (if_pos c13).symm.trans hf
    refine lv_tableIn (off := 59) (tgt := 60) hx hb dX10_maySet_1 (by rw [c13]; decide) (by rw [c13]; decide) (by rw [c13]; decide) (by decide) ?_
    refine lv_iload_n hx hb dX10_maySet_60 rfl (lv_at hl 1 rfl) ?_
    refine lv_iconst (v := (0 : Int32)) hx hb dX10_maySet_61 (by decide) ?_
    refine lv_bipush (v := (25 : Int32)) hx hb dX10_maySet_62 (by decide) ?_
    obtain ⟨v14, hv14, hf⟩ := g_s1 hf
    refine g_ki S (g_runS (rest := []) X S (c_X10_in l hN  hv14 _) csX10_in mlX10_48 rfl rfl hl.1 (Nat.le_of_ble_eq_true rfl) ⟨⟨rfl, rfl⟩, ⟨Nat.le_of_ble_eq_true rfl, Nat.le_of_ble_eq_true rfl⟩, Nat.le_of_ble_eq_true rfl, Nat.le_of_ble_eq_true rfl⟩ dX10_maySet_64) (fun H locs S => ?_)
    obtain ⟨v15, hv15, hf⟩ := g_s1 hf
    obtain ⟨hnv15, rfl⟩ := gzb_some hv15
    cases hf
    exact g_reti X S hnv15 dX10_maySet_67
  replace hf := (if_neg c13).symm.trans hf
  refine lv_tableOut (tgt := 68) hx hb dX10_maySet_1 (g_swout0 (x := a0) (lo := 0) (n := 5) (fun j hj => by rcases (show j = 0 ∨ j = 1 ∨ j = 2 ∨ j = 3 ∨ j = 4 by omega) with rfl | rfl | rfl | rfl | rfl <;> (intro h9; first | exact c1 (Int32.toInt_inj.mp (h9.trans (by decide))) | exact c4 (Int32.toInt_inj.mp (h9.trans (by decide))) | exact c7 (Int32.toInt_inj.mp (h9.trans (by decide))) | exact c10 (Int32.toInt_inj.mp (h9.trans (by decide))) | exact c13 (Int32.toInt_inj.mp (h9.trans (by decide)))))) (by decide) ?_
  refine lv_iload_n hx hb dX10_maySet_68 rfl (lv_at hl 0 rfl) ?_
  refine lv_iconst (v := (5 : Int32)) hx hb dX10_maySet_69 (by decide) ?_
  obtain ⟨x16, hr17, hf⟩ := g_s1 hf
  have J18 : ∀ (H : Heap) (locs : List Loc) (ls : Array Slot), gS celM Γ ad N σ s H locs → lv_has ls 2 [] → W p l e (gR 2 0 0) s m args below meth c H locs 0 0 (gQi celM Γ ad N r σ below args s) (F0 m 88 ls [.int x16]) := by
    intro H locs ls S hl
    obtain ⟨v19, hv19, hf⟩ := g_s1 hf
    obtain ⟨hnv19, rfl⟩ := gzb_some hv19
    cases hf
    exact g_reti X S hnv19 dX10_maySet_88
  replace hf := hr17
  refine lv_icmp_ne (tgt := 87) hx hb dX10_maySet_70 (by decide) (fun c20 => ?_) (fun c20 => ?_)
  · have hf := (if_neg c20).symm.trans hf
    refine lv_iconst (v := (0 : Int32)) hx hb dX10_maySet_87 (by decide) ?_
    cases hf
    exact J18 _ _ _ S (lv_sub hl [] rfl)
  · have hf := (if_pos c20).symm.trans hf
    refine lv_iload_n hx hb dX10_maySet_73 rfl (lv_at hl 1 rfl) ?_
    refine lv_iconst (v := (5 : Int32)) hx hb dX10_maySet_74 (by decide) ?_
    refine lv_bipush (v := (24 : Int32)) hx hb dX10_maySet_75 (by decide) ?_
    obtain ⟨v21, hv21, hf⟩ := g_s1 hf
    refine g_ki S (g_runS (rest := []) X S (c_X10_in l hN  hv21 _) csX10_in mlX10_48 rfl rfl hl.1 (Nat.le_of_ble_eq_true rfl) ⟨⟨rfl, rfl⟩, ⟨Nat.le_of_ble_eq_true rfl, Nat.le_of_ble_eq_true rfl⟩, Nat.le_of_ble_eq_true rfl, Nat.le_of_ble_eq_true rfl⟩ dX10_maySet_77) (fun H locs S => ?_)
    refine lv_if_eq (tgt := 87) hx hb dX10_maySet_80 (by decide) (fun c22 => ?_) (fun c22 => ?_)
    · have hf := (if_pos c22).symm.trans hf
      refine lv_iconst (v := (0 : Int32)) hx hb dX10_maySet_87 (by decide) ?_
      cases hf
      exact J18 _ _ _ S (lv_sub hl [] rfl)
    · have hf := (if_neg c22).symm.trans hf
      refine lv_iconst (v := (1 : Int32)) hx hb dX10_maySet_83 (by decide) ?_
      refine lv_goto (tgt := 88) hx hb dX10_maySet_84 (by decide) ?_
      cases hf
      exact J18 _ _ _ S (lv_sub hl [] rfl)

noncomputable def f_X10_set (σ : gSt) (a0 : Int32) (a1 : Int32) : Option (Int32 × gSt) :=
  (g_k1 (f_X10_maySet σ a0 a1) fun v1 => (g_k1 (if v1 = 0 then some (1 : Int32) else some (0 : Int32)) fun x2 => (g_k1 (gset σ 0 10 x2) fun σ5 => (if (σ5 0 10) ≤ 0 then (g_k1 (f_X10_changes σ5 1) fun σ7 => (g_k1 (gald σ7 1 926 ((1 : Int32) + a0)) fun v8 => (g_k1 (gast σ7 1 926 ((1 : Int32) + a0) a1) fun σ9 => some (v8, σ9)))) else some ((0 : Int32), σ5)))))
set_option maxRecDepth 100000 in
set_option maxHeartbeats 4000000 in
theorem c_X10_set (l : Launch) {Γ : gG} {ad : Nat → Nat} {N : Nat} (hN : 8 ≤ N) {σ : gSt} {a0 : Int32} {a1 : Int32}  {r : Int32} {σ' : gSt} (hf : f_X10_set σ a0 a1 = some (r, σ')) : gMi l celM Γ ad N yX10_set cX10_set 4 (some .int) (gR 3 0 0) [.ref (ad 0), .int a0, .int a1] σ r σ' := by
  intro sz
  refine gOf (Qc := fun sz => gQci celM Γ ad N r σ' sz) RX10 (by decide) rfl (Nat.le_of_ble_eq_true rfl) (fun p e s m args below meth c H locs ls X S hl => ?_)
  have hl : lv_has ls 4 [(0, .ref (ad 0)), (1, .int a0), (2, .int a1)] := hl
  have hx := X.1
  have hb := X.2.1
  unfold f_X10_set at hf
  refine lv_aload_n hx hb dX10_set_0 rfl (lv_at hl 0 rfl) ?_
  refine lv_iload_n hx hb dX10_set_1 rfl (lv_at hl 1 rfl) ?_
  refine lv_iload_n hx hb dX10_set_2 rfl (lv_at hl 2 rfl) ?_
  obtain ⟨v1, hv1, hf⟩ := g_s1 hf
  refine g_ki S (g_runS (rest := [.ref (ad 0)]) X S (c_X10_maySet l hN  hv1 _) csX10_maySet mlX10_82 rfl rfl hl.1 (Nat.le_of_ble_eq_true rfl) ⟨⟨rfl, rfl⟩, ⟨Nat.le_of_ble_eq_true rfl, Nat.le_of_ble_eq_true rfl⟩, Nat.le_of_ble_eq_true rfl, Nat.le_of_ble_eq_true rfl⟩ dX10_set_3) (fun H locs S => ?_)
  obtain ⟨x2, hr3, hf⟩ := g_s1 hf
  have J4 : ∀ (H : Heap) (locs : List Loc) (ls : Array Slot), gS celM Γ ad N σ s H locs → lv_has ls 4 [(0, .ref (ad 0)), (1, .int a0), (2, .int a1)] → W p l e (gR 3 0 0) s m args below meth c H locs 0 0 (gQi celM Γ ad N r σ' below args s) (F0 m 14 ls [.int x2, .ref (ad 0)]) := by
    intro H locs ls S hl
    obtain ⟨σ5, hσ5, hf⟩ := g_s1 hf
    refine pfX10_35 X S hN hσ5 dX10_set_14 (fun H locs S => ?_)
    refine lv_aload_n hx hb dX10_set_17 rfl (lv_at hl 0 rfl) ?_
    refine gfX10_35 X S hN dX10_set_18 ?_
    refine lv_if_le (tgt := 26) hx hb dX10_set_21 (by decide) (fun c6 => ?_) (fun c6 => ?_)
    · have hf := (if_pos c6).symm.trans hf
      refine lv_aload_n hx hb dX10_set_26 rfl (lv_at hl 0 rfl) ?_
      refine lv_aload_n hx hb dX10_set_27 rfl (lv_at hl 0 rfl) ?_
      refine gfX10_7 X S hN dX10_set_28 ?_
      obtain ⟨σ7, hσ7, hf⟩ := g_s1 hf
      refine g_kv S (g_runV (rest := []) X S (c_X10_changes l hN (by rfl : gma 1 = true) hσ7 _) cvX10_changes mlX10_78 (by omega) (ceM_10 _) rfl rfl rfl hl.1 (Nat.le_of_ble_eq_true rfl) ⟨⟨rfl, rfl⟩, ⟨Nat.le_of_ble_eq_true rfl, Nat.le_of_ble_eq_true rfl⟩, Nat.le_of_ble_eq_true rfl, Nat.le_of_ble_eq_true rfl⟩ dX10_set_31) (fun H locs S => ?_)
      refine lv_aload_n hx hb dX10_set_34 rfl (lv_at hl 0 rfl) ?_
      refine gfX10_7 X S hN dX10_set_35 ?_
      refine lv_iconst (v := (1 : Int32)) hx hb dX10_set_38 (by decide) ?_
      refine lv_iload_n hx hb dX10_set_39 rfl (lv_at hl 1 rfl) ?_
      refine lv_iadd hx hb dX10_set_40 ?_
      obtain ⟨v8, hv8, hf⟩ := g_s1 hf
      refine g_iald X S (by omega) (ceM_a (rfl : gma 1 = true)) hv8 dX10_set_41 ?_
      refine lv_istore_n (lv' := [(3, .int v8), (0, .ref (ad 0)), (1, .int a0), (2, .int a1)]) hx hb dX10_set_42 rfl hl (by decide) rfl (fun ls hl => ?_)
      refine lv_aload_n hx hb dX10_set_43 rfl (lv_at hl 1 rfl) ?_
      refine gfX10_7 X S hN dX10_set_44 ?_
      refine lv_iconst (v := (1 : Int32)) hx hb dX10_set_47 (by decide) ?_
      refine lv_iload_n hx hb dX10_set_48 rfl (lv_at hl 2 rfl) ?_
      refine lv_iadd hx hb dX10_set_49 ?_
      refine lv_iload_n hx hb dX10_set_50 rfl (lv_at hl 3 rfl) ?_
      obtain ⟨σ9, hσ9, hf⟩ := g_s1 hf
      refine g_iast X S (by omega) (ceM_a (rfl : gma 1 = true)) hσ9 dX10_set_51 (fun H locs S => ?_)
      refine lv_iload_n hx hb dX10_set_52 rfl (lv_at hl 0 rfl) ?_
      cases hf
      exact g_reti X S rfl dX10_set_53
    · have hf := (if_neg c6).symm.trans hf
      refine lv_iconst (v := (0 : Int32)) hx hb dX10_set_24 (by decide) ?_
      cases hf
      exact g_reti X S rfl dX10_set_25
  replace hf := hr3
  refine lv_if_eq (tgt := 13) hx hb dX10_set_6 (by decide) (fun c10 => ?_) (fun c10 => ?_)
  · have hf := (if_pos c10).symm.trans hf
    refine lv_iconst (v := (1 : Int32)) hx hb dX10_set_13 (by decide) ?_
    cases hf
    exact J4 _ _ _ S (lv_sub hl [0, 1, 2] rfl)
  · have hf := (if_neg c10).symm.trans hf
    refine lv_iconst (v := (0 : Int32)) hx hb dX10_set_9 (by decide) ?_
    refine lv_goto (tgt := 14) hx hb dX10_set_10 (by decide) ?_
    cases hf
    exact J4 _ _ _ S (lv_sub hl [0, 1, 2] rfl)

noncomputable def f_X10_isCut_l1 (σ : gSt) (a0 : Int32) : Nat → Int32 → Option (Int32)
  | 0, _ => none
  | n + 1, i1 => (if (σ 1 7) ≤ i1 then some (0 : Int32) else (g_k1 (gald σ 1 926 ((8 : Int32) + i1)) fun v3 => (if v3 = a0 then some (1 : Int32) else (f_X10_isCut_l1 σ a0 n (i1 + 1)))))
set_option maxRecDepth 100000 in
set_option maxHeartbeats 4000000 in
theorem w_X10_isCut_l1 {l : Launch} {Γ : gG} {ad : Nat → Nat} {N : Nat} {p : Program} {e : Env} {s : State} {m : MethodId} {args : Array Value} {below : List Frame} {meth : Method} {c : Code} (hN : 8 ≤ N) (X : gX celM Γ ad N RX10 cX10_isCut 3 (some .boolean) p s m args meth c) {σ : gSt} {a0 : Int32}  : ∀ (n : Nat) (i1 : Int32) (r : Int32), f_X10_isCut_l1 σ a0 n i1 = some r → ∀ (H : Heap) (locs : List Loc) (ls : Array Slot), gS celM Γ ad N σ s H locs → lv_has ls 3 [(2, .int i1), (0, .ref (ad 0)), (1, .int a0)] → W p l e (gR 1 0 0) s m args below meth c H locs 0 0 (gQi celM Γ ad N r σ below args s) (F0 m 2 ls []) := by
  have hx := X.1
  have hb := X.2.1
  intro n
  induction n with
  | zero =>
    intro i1 r hf
    cases hf
  | succ n ih =>
    intro i1 r hf H locs ls S hl
    rw [f_X10_isCut_l1] at hf
    refine lv_iload_n hx hb dX10_isCut_2 rfl (lv_at hl 0 rfl) ?_
    refine lv_aload_n hx hb dX10_isCut_3 rfl (lv_at hl 1 rfl) ?_
    refine gfX10_7 X S hN dX10_isCut_4 ?_
    refine lv_bipush (v := (7 : Int32)) hx hb dX10_isCut_7 (by decide) ?_
    refine g_ialdC X S (by omega) (ceM_a (rfl : gma 1 = true)) 7 (by decide) (by decide) dX10_isCut_9 ?_
    refine lv_icmp_ge (tgt := 34) hx hb dX10_isCut_10 (by decide) (fun c2 => ?_) (fun c2 => ?_)
    · have hf := (if_pos c2).symm.trans hf
      refine lv_iconst (v := (0 : Int32)) hx hb dX10_isCut_34 (by decide) ?_
      cases hf
      exact g_reti X S (by decide +kernel) dX10_isCut_35
    · have hf := (if_neg c2).symm.trans hf
      refine lv_aload_n hx hb dX10_isCut_13 rfl (lv_at hl 1 rfl) ?_
      refine gfX10_7 X S hN dX10_isCut_14 ?_
      refine lv_bipush (v := (8 : Int32)) hx hb dX10_isCut_17 (by decide) ?_
      refine lv_iload_n hx hb dX10_isCut_19 rfl (lv_at hl 0 rfl) ?_
      refine lv_iadd hx hb dX10_isCut_20 ?_
      obtain ⟨v3, hv3, hf⟩ := g_s1 hf
      refine g_iald X S (by omega) (ceM_a (rfl : gma 1 = true)) hv3 dX10_isCut_21 ?_
      refine lv_iload_n hx hb dX10_isCut_22 rfl (lv_at hl 2 rfl) ?_
      refine lv_icmp_ne (tgt := 28) hx hb dX10_isCut_23 (by decide) (fun c4 => ?_) (fun c4 => ?_)
      · have hf := (if_neg c4).symm.trans hf
        refine lv_iinc (v := (i1 + 1)) (lv' := [(2, .int (i1 + 1)), (0, .ref (ad 0)), (1, .int a0)]) hx hb dX10_isCut_28 hl (k := 0) rfl rfl (by decide) rfl (fun ls hl => ?_)
        refine lv_goto (tgt := 2) hx hb dX10_isCut_31 (by decide) ?_
        exact ih _ _  hf _ _ _ S (lv_sub hl [0, 1, 2] rfl)
      · have hf := (if_pos c4).symm.trans hf
        refine lv_iconst (v := (1 : Int32)) hx hb dX10_isCut_26 (by decide) ?_
        cases hf
        exact g_reti X S (by decide +kernel) dX10_isCut_27
noncomputable def f_X10_isCut (σ : gSt) (a0 : Int32) : Option (Int32) :=
  (f_X10_isCut_l1 σ a0 FU (0 : Int32))
set_option maxRecDepth 100000 in
set_option maxHeartbeats 4000000 in
theorem c_X10_isCut (l : Launch) {Γ : gG} {ad : Nat → Nat} {N : Nat} (hN : 8 ≤ N) {σ : gSt} {a0 : Int32}  {r : Int32} (hf : f_X10_isCut σ a0 = some r) : gMi l celM Γ ad N yX10_isCut cX10_isCut 3 (some .boolean) (gR 1 0 0) [.ref (ad 0), .int a0] σ r σ := by
  intro sz
  refine gOf (Qc := fun sz => gQci celM Γ ad N r σ sz) RX10 (by decide) rfl (Nat.le_of_ble_eq_true rfl) (fun p e s m args below meth c H locs ls X S hl => ?_)
  have hl : lv_has ls 3 [(0, .ref (ad 0)), (1, .int a0)] := hl
  have hx := X.1
  have hb := X.2.1
  unfold f_X10_isCut at hf
  refine lv_iconst (v := (0 : Int32)) hx hb dX10_isCut_0 (by decide) ?_
  refine lv_istore_n (lv' := [(2, .int (0 : Int32)), (0, .ref (ad 0)), (1, .int a0)]) hx hb dX10_isCut_1 rfl hl (by decide) rfl (fun ls hl => ?_)
  exact w_X10_isCut_l1 hN X  FU _ _  hf _ _ _ S (lv_sub hl [0, 1, 2] rfl)

