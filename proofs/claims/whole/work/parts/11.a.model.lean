noncomputable def f_X10_thrown (σ : gSt)  : Option (Int32) :=
  some (σ 0 10)
set_option maxRecDepth 100000 in
set_option maxHeartbeats 4000000 in
theorem c_X10_thrown (l : Launch) {Γ : gG} {ad : Nat → Nat} {N : Nat} (hN : 8 ≤ N) {σ : gSt}   {r : Int32} (hf : f_X10_thrown σ  = some r) : gMi l celM Γ ad N yX10_thrown cX10_thrown 1 (some .int) (gR 1 0 0) [.ref (ad 0)] σ r σ := by
  intro sz
  refine gOf (Qc := fun sz => gQci celM Γ ad N r σ sz) RX10 (by decide) rfl (by decide) (fun p e s m args below meth c H locs ls X S hl => ?_)
  have hl : lv_has ls 1 [(0, .ref (ad 0))] := hl
  have hx := X.1
  have hb := X.2.1
  unfold f_X10_thrown at hf
  refine lv_aload_n hx hb dX10_thrown_0 rfl (lv_at hl 0 rfl) ?_
  refine gfX10_35 X S hN dX10_thrown_1 ?_
  cases hf
  exact g_reti X S rfl dX10_thrown_4

noncomputable def f_X10_fails (σ : gSt) (a0 : Int32) : Option (Int32 × gSt) :=
  (g_k1 (gset σ 0 10 a0) fun σ1 => some ((0 : Int32), σ1))
set_option maxRecDepth 100000 in
set_option maxHeartbeats 4000000 in
theorem c_X10_fails (l : Launch) {Γ : gG} {ad : Nat → Nat} {N : Nat} (hN : 8 ≤ N) {σ : gSt} {a0 : Int32}  {r : Int32} {σ' : gSt} (hf : f_X10_fails σ a0 = some (r, σ')) : gMi l celM Γ ad N yX10_fails cX10_fails 2 (some .int) (gR 1 0 0) [.ref (ad 0), .int a0] σ r σ' := by
  intro sz
  refine gOf (Qc := fun sz => gQci celM Γ ad N r σ' sz) RX10 (by decide) rfl (by decide) (fun p e s m args below meth c H locs ls X S hl => ?_)
  have hl : lv_has ls 2 [(0, .ref (ad 0)), (1, .int a0)] := hl
  have hx := X.1
  have hb := X.2.1
  unfold f_X10_fails at hf
  refine lv_aload_n hx hb dX10_fails_0 rfl (lv_at hl 0 rfl) ?_
  refine lv_iload_n hx hb dX10_fails_1 rfl (lv_at hl 1 rfl) ?_
  obtain ⟨σ1, hσ1, hf⟩ := g_s1 hf
  refine pfX10_35 X S hN hσ1 dX10_fails_2 (fun H locs S => ?_)
  refine lv_iconst (v := (0 : Int32)) hx hb dX10_fails_5 (by decide) ?_
  cases hf
  exact g_reti X S rfl dX10_fails_6

noncomputable def f_X10_refuses (σ : gSt) (a0 : Int32) (a1 : Int32) : Option (Int32 × gSt) :=
  (g_k1 (gset σ 0 7 a1) fun σ1 => (g_k1 (gset σ1 0 8 (0 : Int32)) fun σ2 => (g_k2 (f_X10_fails σ2 a0) fun v3 σ4 => some (v3, σ4))))
set_option maxRecDepth 100000 in
set_option maxHeartbeats 4000000 in
theorem c_X10_refuses (l : Launch) {Γ : gG} {ad : Nat → Nat} {N : Nat} (hN : 8 ≤ N) {σ : gSt} {a0 : Int32} {a1 : Int32}  {r : Int32} {σ' : gSt} (hf : f_X10_refuses σ a0 a1 = some (r, σ')) : gMi l celM Γ ad N yX10_refuses cX10_refuses 3 (some .int) (gR 2 0 0) [.ref (ad 0), .int a0, .int a1] σ r σ' := by
  intro sz
  refine gOf (Qc := fun sz => gQci celM Γ ad N r σ' sz) RX10 (by decide) rfl (by decide) (fun p e s m args below meth c H locs ls X S hl => ?_)
  have hl : lv_has ls 3 [(0, .ref (ad 0)), (1, .int a0), (2, .int a1)] := hl
  have hx := X.1
  have hb := X.2.1
  unfold f_X10_refuses at hf
  refine lv_aload_n hx hb dX10_refuses_0 rfl (lv_at hl 0 rfl) ?_
  refine lv_iload_n hx hb dX10_refuses_1 rfl (lv_at hl 2 rfl) ?_
  obtain ⟨σ1, hσ1, hf⟩ := g_s1 hf
  refine pfX10_38 X S hN hσ1 dX10_refuses_2 (fun H locs S => ?_)
  refine lv_aload_n hx hb dX10_refuses_5 rfl (lv_at hl 0 rfl) ?_
  refine lv_iconst (v := (0 : Int32)) hx hb dX10_refuses_6 (by decide) ?_
  obtain ⟨σ2, hσ2, hf⟩ := g_s1 hf
  refine pfX10_41 X S hN hσ2 dX10_refuses_7 (fun H locs S => ?_)
  refine lv_aload_n hx hb dX10_refuses_10 rfl (lv_at hl 0 rfl) ?_
  refine lv_iload_n hx hb dX10_refuses_11 rfl (lv_at hl 1 rfl) ?_
  obtain ⟨v3, σ4, hv3, hf⟩ := g_s2 hf
  refine g_ki S (g_runV (rest := []) X S (c_X10_fails l hN  hv3 _) cvX10_fails mlX10_44 (by omega) (ceM_10 _) rfl rfl rfl hl.1 (by decide) ⟨⟨rfl, rfl⟩, ⟨Nat.le_of_ble_eq_true rfl, Nat.le_of_ble_eq_true rfl⟩, Nat.le_of_ble_eq_true rfl, Nat.le_of_ble_eq_true rfl⟩ dX10_refuses_12) (fun H locs S => ?_)
  cases hf
  exact g_reti X S rfl dX10_refuses_15

noncomputable def f_X10_in (σ : gSt) (a0 : Int32) (a1 : Int32) (a2 : Int32) : Option (Int32) :=
  (g_k1 (if a0 < a1 then some (0 : Int32) else (if a2 < a0 then some (0 : Int32) else some (1 : Int32))) fun x1 => (g_k1 (gzb x1) fun v4 => some v4))
set_option maxRecDepth 100000 in
set_option maxHeartbeats 4000000 in
theorem c_X10_in (l : Launch) {Γ : gG} {ad : Nat → Nat} {N : Nat} (hN : 8 ≤ N) {σ : gSt} {a0 : Int32} {a1 : Int32} {a2 : Int32}  {r : Int32} (hf : f_X10_in σ a0 a1 a2 = some r) : gMi l celM Γ ad N yX10_in cX10_in 3 (some .boolean) (gR 1 0 0) [.int a0, .int a1, .int a2] σ r σ := by
  intro sz
  refine gOf (Qc := fun sz => gQci celM Γ ad N r σ sz) RX10 (by decide) rfl (by decide) (fun p e s m args below meth c H locs ls X S hl => ?_)
  have hl : lv_has ls 3 [(0, .int a0), (1, .int a1), (2, .int a2)] := hl
  have hx := X.1
  have hb := X.2.1
  unfold f_X10_in at hf
  refine lv_iload_n hx hb dX10_in_0 rfl (lv_at hl 0 rfl) ?_
  refine lv_iload_n hx hb dX10_in_1 rfl (lv_at hl 1 rfl) ?_
  obtain ⟨x1, hr2, hf⟩ := g_s1 hf
  have J3 : ∀ (H : Heap) (locs : List Loc) (ls : Array Slot), gS celM Γ ad N σ s H locs → lv_has ls 3 [] → W p l e (gR 1 0 0) s m args below meth c H locs 0 0 (gQi celM Γ ad N r σ below args s) (F0 m 15 ls [.int x1]) := by
    intro H locs ls S hl
    obtain ⟨v4, hv4, hf⟩ := g_s1 hf
    obtain ⟨hnv4, rfl⟩ := gzb_some hv4
    cases hf
    exact g_reti X S hnv4 dX10_in_15
  replace hf := hr2
  refine lv_icmp_lt (tgt := 14) hx hb dX10_in_2 (by decide) (fun c5 => ?_) (fun c5 => ?_)
  · have hf := (if_pos c5).symm.trans hf
    refine lv_iconst (v := (0 : Int32)) hx hb dX10_in_14 (by decide) ?_
    cases hf
    exact J3 _ _ _ S (lv_sub hl [] rfl)
  · have hf := (if_neg c5).symm.trans hf
    refine lv_iload_n hx hb dX10_in_5 rfl (lv_at hl 0 rfl) ?_
    refine lv_iload_n hx hb dX10_in_6 rfl (lv_at hl 2 rfl) ?_
    refine lv_icmp_gt (tgt := 14) hx hb dX10_in_7 (by decide) (fun c6 => ?_) (fun c6 => ?_)
    · have hf := (if_pos c6).symm.trans hf
      refine lv_iconst (v := (0 : Int32)) hx hb dX10_in_14 (by decide) ?_
      cases hf
      exact J3 _ _ _ S (lv_sub hl [] rfl)
    · have hf := (if_neg c6).symm.trans hf
      refine lv_iconst (v := (1 : Int32)) hx hb dX10_in_10 (by decide) ?_
      refine lv_goto (tgt := 15) hx hb dX10_in_11 (by decide) ?_
      cases hf
      exact J3 _ _ _ S (lv_sub hl [] rfl)

noncomputable def f_X10_isTrack (σ : gSt) (a0 : Int32) : Option (Int32) :=
  (g_k1 (f_X10_in σ a0 (0 : Int32) (1 : Int32)) fun v1 => (g_k1 (gzb v1) fun v2 => some v2))
set_option maxRecDepth 100000 in
set_option maxHeartbeats 4000000 in
theorem c_X10_isTrack (l : Launch) {Γ : gG} {ad : Nat → Nat} {N : Nat} (hN : 8 ≤ N) {σ : gSt} {a0 : Int32}  {r : Int32} (hf : f_X10_isTrack σ a0 = some r) : gMi l celM Γ ad N yX10_isTrack cX10_isTrack 1 (some .boolean) (gR 2 0 0) [.int a0] σ r σ := by
  intro sz
  refine gOf (Qc := fun sz => gQci celM Γ ad N r σ sz) RX10 (by decide) rfl (by decide) (fun p e s m args below meth c H locs ls X S hl => ?_)
  have hl : lv_has ls 1 [(0, .int a0)] := hl
  have hx := X.1
  have hb := X.2.1
  unfold f_X10_isTrack at hf
  refine lv_iload_n hx hb dX10_isTrack_0 rfl (lv_at hl 0 rfl) ?_
  refine lv_iconst (v := (0 : Int32)) hx hb dX10_isTrack_1 (by decide) ?_
  refine lv_iconst (v := (1 : Int32)) hx hb dX10_isTrack_2 (by decide) ?_
  obtain ⟨v1, hv1, hf⟩ := g_s1 hf
  refine g_ki S (g_runS (rest := []) X S (c_X10_in l hN  hv1 _) csX10_in mlX10_48 rfl rfl hl.1 (by decide) ⟨⟨rfl, rfl⟩, ⟨Nat.le_of_ble_eq_true rfl, Nat.le_of_ble_eq_true rfl⟩, Nat.le_of_ble_eq_true rfl, Nat.le_of_ble_eq_true rfl⟩ dX10_isTrack_3) (fun H locs S => ?_)
  obtain ⟨v2, hv2, hf⟩ := g_s1 hf
  obtain ⟨hnv2, rfl⟩ := gzb_some hv2
  cases hf
  exact g_reti X S hnv2 dX10_isTrack_6

noncomputable def f_X10_isCaption (σ : gSt) (a0 : Int32) (a1 : Int32) : Option (Int32) :=
  (g_k1 (f_X10_isTrack σ a0) fun v1 => (g_k1 (if v1 = 0 then some (0 : Int32) else (g_k1 (gald σ 1 926 ((28 : Int32) + a0)) fun v7 => (g_k1 (f_X10_in σ a1 (0 : Int32) (v7 - (1 : Int32))) fun v8 => (if v8 = 0 then some (0 : Int32) else some (1 : Int32))))) fun x2 => (g_k1 (gzb x2) fun v5 => some v5)))
set_option maxRecDepth 100000 in
set_option maxHeartbeats 4000000 in
theorem c_X10_isCaption (l : Launch) {Γ : gG} {ad : Nat → Nat} {N : Nat} (hN : 8 ≤ N) {σ : gSt} {a0 : Int32} {a1 : Int32}  {r : Int32} (hf : f_X10_isCaption σ a0 a1 = some r) : gMi l celM Γ ad N yX10_isCaption cX10_isCaption 3 (some .boolean) (gR 3 0 0) [.ref (ad 0), .int a0, .int a1] σ r σ := by
  intro sz
  refine gOf (Qc := fun sz => gQci celM Γ ad N r σ sz) RX10 (by decide) rfl (by decide) (fun p e s m args below meth c H locs ls X S hl => ?_)
  have hl : lv_has ls 3 [(0, .ref (ad 0)), (1, .int a0), (2, .int a1)] := hl
  have hx := X.1
  have hb := X.2.1
  unfold f_X10_isCaption at hf
  refine lv_iload_n hx hb dX10_isCaption_0 rfl (lv_at hl 1 rfl) ?_
  obtain ⟨v1, hv1, hf⟩ := g_s1 hf
  refine g_ki S (g_runS (rest := []) X S (c_X10_isTrack l hN  hv1 _) csX10_isTrack mlX10_52 rfl rfl hl.1 (by decide) ⟨⟨rfl, rfl⟩, ⟨Nat.le_of_ble_eq_true rfl, Nat.le_of_ble_eq_true rfl⟩, Nat.le_of_ble_eq_true rfl, Nat.le_of_ble_eq_true rfl⟩ dX10_isCaption_1) (fun H locs S => ?_)
  obtain ⟨x2, hr3, hf⟩ := g_s1 hf
  have J4 : ∀ (H : Heap) (locs : List Loc) (ls : Array Slot), gS celM Γ ad N σ s H locs → lv_has ls 3 [] → W p l e (gR 3 0 0) s m args below meth c H locs 0 0 (gQi celM Γ ad N r σ below args s) (F0 m 31 ls [.int x2]) := by
    intro H locs ls S hl
    obtain ⟨v5, hv5, hf⟩ := g_s1 hf
    obtain ⟨hnv5, rfl⟩ := gzb_some hv5
    cases hf
    exact g_reti X S hnv5 dX10_isCaption_31
  replace hf := hr3
  refine lv_if_eq (tgt := 30) hx hb dX10_isCaption_4 (by decide) (fun c6 => ?_) (fun c6 => ?_)
  · have hf := (if_pos c6).symm.trans hf
    refine lv_iconst (v := (0 : Int32)) hx hb dX10_isCaption_30 (by decide) ?_
    cases hf
    exact J4 _ _ _ S (lv_sub hl [] rfl)
  · have hf := (if_neg c6).symm.trans hf
    refine lv_iload_n hx hb dX10_isCaption_7 rfl (lv_at hl 2 rfl) ?_
    refine lv_iconst (v := (0 : Int32)) hx hb dX10_isCaption_8 (by decide) ?_
    refine lv_aload_n hx hb dX10_isCaption_9 rfl (lv_at hl 0 rfl) ?_
    refine gfX10_7 X S hN dX10_isCaption_10 ?_
    refine lv_bipush (v := (28 : Int32)) hx hb dX10_isCaption_13 (by decide) ?_
    refine lv_iload_n hx hb dX10_isCaption_15 rfl (lv_at hl 1 rfl) ?_
    refine lv_iadd hx hb dX10_isCaption_16 ?_
    obtain ⟨v7, hv7, hf⟩ := g_s1 hf
    refine g_iald X S (by omega) (ceM_a (rfl : gma 1 = true)) hv7 dX10_isCaption_17 ?_
    refine lv_iconst (v := (1 : Int32)) hx hb dX10_isCaption_18 (by decide) ?_
    refine lv_isub hx hb dX10_isCaption_19 ?_
    obtain ⟨v8, hv8, hf⟩ := g_s1 hf
    refine g_ki S (g_runS (rest := []) X S (c_X10_in l hN  hv8 _) csX10_in mlX10_48 rfl rfl hl.1 (by decide) ⟨⟨rfl, rfl⟩, ⟨Nat.le_of_ble_eq_true rfl, Nat.le_of_ble_eq_true rfl⟩, Nat.le_of_ble_eq_true rfl, Nat.le_of_ble_eq_true rfl⟩ dX10_isCaption_20) (fun H locs S => ?_)
    refine lv_if_eq (tgt := 30) hx hb dX10_isCaption_23 (by decide) (fun c9 => ?_) (fun c9 => ?_)
    · have hf := (if_pos c9).symm.trans hf
      refine lv_iconst (v := (0 : Int32)) hx hb dX10_isCaption_30 (by decide) ?_
      cases hf
      exact J4 _ _ _ S (lv_sub hl [] rfl)
    · have hf := (if_neg c9).symm.trans hf
      refine lv_iconst (v := (1 : Int32)) hx hb dX10_isCaption_26 (by decide) ?_
      refine lv_goto (tgt := 31) hx hb dX10_isCaption_27 (by decide) ?_
      cases hf
      exact J4 _ _ _ S (lv_sub hl [] rfl)

noncomputable def f_X10_at (σ : gSt) (a0 : Int32) (a1 : Int32) (a2 : Int32) : Option (Int32) :=
  some (((30 : Int32) + ((28 : Int32) * (((16 : Int32) * a0) + a1))) + a2)
set_option maxRecDepth 100000 in
set_option maxHeartbeats 4000000 in
theorem c_X10_at (l : Launch) {Γ : gG} {ad : Nat → Nat} {N : Nat} (hN : 8 ≤ N) {σ : gSt} {a0 : Int32} {a1 : Int32} {a2 : Int32}  {r : Int32} (hf : f_X10_at σ a0 a1 a2 = some r) : gMi l celM Γ ad N yX10_at cX10_at 3 (some .int) (gR 1 0 0) [.int a0, .int a1, .int a2] σ r σ := by
  intro sz
  refine gOf (Qc := fun sz => gQci celM Γ ad N r σ sz) RX10 (by decide) rfl (by decide) (fun p e s m args below meth c H locs ls X S hl => ?_)
  have hl : lv_has ls 3 [(0, .int a0), (1, .int a1), (2, .int a2)] := hl
  have hx := X.1
  have hb := X.2.1
  unfold f_X10_at at hf
  refine lv_bipush (v := (30 : Int32)) hx hb dX10_at_0 (by decide) ?_
  refine lv_bipush (v := (28 : Int32)) hx hb dX10_at_2 (by decide) ?_
  refine lv_bipush (v := (16 : Int32)) hx hb dX10_at_4 (by decide) ?_
  refine lv_iload_n hx hb dX10_at_6 rfl (lv_at hl 0 rfl) ?_
  refine lv_imul hx hb dX10_at_7 ?_
  refine lv_iload_n hx hb dX10_at_8 rfl (lv_at hl 1 rfl) ?_
  refine lv_iadd hx hb dX10_at_9 ?_
  refine lv_imul hx hb dX10_at_10 ?_
  refine lv_iadd hx hb dX10_at_11 ?_
  refine lv_iload_n hx hb dX10_at_12 rfl (lv_at hl 2 rfl) ?_
  refine lv_iadd hx hb dX10_at_13 ?_
  cases hf
  exact g_reti X S rfl dX10_at_14

noncomputable def f_X10_first (σ : gSt) (a0 : Int32) (a1 : Int32) : Option (Int32) :=
  (g_k1 (f_X10_at σ a0 a1 (0 : Int32)) fun v1 => (g_k1 (gald σ 1 926 v1) fun v2 => some v2))
set_option maxRecDepth 100000 in
set_option maxHeartbeats 4000000 in
theorem c_X10_first (l : Launch) {Γ : gG} {ad : Nat → Nat} {N : Nat} (hN : 8 ≤ N) {σ : gSt} {a0 : Int32} {a1 : Int32}  {r : Int32} (hf : f_X10_first σ a0 a1 = some r) : gMi l celM Γ ad N yX10_first cX10_first 3 (some .int) (gR 2 0 0) [.ref (ad 0), .int a0, .int a1] σ r σ := by
  intro sz
  refine gOf (Qc := fun sz => gQci celM Γ ad N r σ sz) RX10 (by decide) rfl (by decide) (fun p e s m args below meth c H locs ls X S hl => ?_)
  have hl : lv_has ls 3 [(0, .ref (ad 0)), (1, .int a0), (2, .int a1)] := hl
  have hx := X.1
  have hb := X.2.1
  unfold f_X10_first at hf
  refine lv_aload_n hx hb dX10_first_0 rfl (lv_at hl 0 rfl) ?_
  refine gfX10_7 X S hN dX10_first_1 ?_
  refine lv_iload_n hx hb dX10_first_4 rfl (lv_at hl 1 rfl) ?_
  refine lv_iload_n hx hb dX10_first_5 rfl (lv_at hl 2 rfl) ?_
  refine lv_iconst (v := (0 : Int32)) hx hb dX10_first_6 (by decide) ?_
  obtain ⟨v1, hv1, hf⟩ := g_s1 hf
  refine g_ki S (g_runS (rest := [.ref (ad 1)]) X S (c_X10_at l hN  hv1 _) csX10_at mlX10_56 rfl rfl hl.1 (by decide) ⟨⟨rfl, rfl⟩, ⟨Nat.le_of_ble_eq_true rfl, Nat.le_of_ble_eq_true rfl⟩, Nat.le_of_ble_eq_true rfl, Nat.le_of_ble_eq_true rfl⟩ dX10_first_7) (fun H locs S => ?_)
  obtain ⟨v2, hv2, hf⟩ := g_s1 hf
  refine g_iald X S (by omega) (ceM_a (rfl : gma 1 = true)) hv2 dX10_first_10 ?_
  cases hf
  exact g_reti X S rfl dX10_first_11

noncomputable def f_X10_end (σ : gSt) (a0 : Int32) (a1 : Int32) : Option (Int32) :=
  (g_k1 (f_X10_at σ a0 a1 (1 : Int32)) fun v1 => (g_k1 (gald σ 1 926 v1) fun v2 => some v2))
set_option maxRecDepth 100000 in
set_option maxHeartbeats 4000000 in
theorem c_X10_end (l : Launch) {Γ : gG} {ad : Nat → Nat} {N : Nat} (hN : 8 ≤ N) {σ : gSt} {a0 : Int32} {a1 : Int32}  {r : Int32} (hf : f_X10_end σ a0 a1 = some r) : gMi l celM Γ ad N yX10_end cX10_end 3 (some .int) (gR 2 0 0) [.ref (ad 0), .int a0, .int a1] σ r σ := by
  intro sz
  refine gOf (Qc := fun sz => gQci celM Γ ad N r σ sz) RX10 (by decide) rfl (by decide) (fun p e s m args below meth c H locs ls X S hl => ?_)
  have hl : lv_has ls 3 [(0, .ref (ad 0)), (1, .int a0), (2, .int a1)] := hl
  have hx := X.1
  have hb := X.2.1
  unfold f_X10_end at hf
  refine lv_aload_n hx hb dX10_end_0 rfl (lv_at hl 0 rfl) ?_
  refine gfX10_7 X S hN dX10_end_1 ?_
  refine lv_iload_n hx hb dX10_end_4 rfl (lv_at hl 1 rfl) ?_
  refine lv_iload_n hx hb dX10_end_5 rfl (lv_at hl 2 rfl) ?_
  refine lv_iconst (v := (1 : Int32)) hx hb dX10_end_6 (by decide) ?_
  obtain ⟨v1, hv1, hf⟩ := g_s1 hf
  refine g_ki S (g_runS (rest := [.ref (ad 1)]) X S (c_X10_at l hN  hv1 _) csX10_at mlX10_56 rfl rfl hl.1 (by decide) ⟨⟨rfl, rfl⟩, ⟨Nat.le_of_ble_eq_true rfl, Nat.le_of_ble_eq_true rfl⟩, Nat.le_of_ble_eq_true rfl, Nat.le_of_ble_eq_true rfl⟩ dX10_end_7) (fun H locs S => ?_)
  obtain ⟨v2, hv2, hf⟩ := g_s1 hf
  refine g_iald X S (by omega) (ceM_a (rfl : gma 1 = true)) hv2 dX10_end_10 ?_
  cases hf
  exact g_reti X S rfl dX10_end_11

noncomputable def f_X10_copies_l1 (σ : gSt) (a0 : Nat) (a1 : Int32) (a2 : Nat) (a3 : Int32) : Nat → Int32 → gSt → Option (gSt)
  | 0, _, _ => none
  | n + 1, i1, σ2 => (if (926 : Int32) ≤ i1 then some σ2 else (g_k1 (gald σ2 a0 (gml a0) (a1 + i1)) fun v5 => (g_k1 (gast σ2 a2 (gml a2) (a3 + i1) v5) fun σ6 => (f_X10_copies_l1 σ a0 a1 a2 a3 n (i1 + 1) σ6))))
set_option maxRecDepth 100000 in
set_option maxHeartbeats 4000000 in
theorem w_X10_copies_l1 {l : Launch} {Γ : gG} {ad : Nat → Nat} {N : Nat} {p : Program} {e : Env} {s : State} {m : MethodId} {args : Array Value} {below : List Frame} {meth : Method} {c : Code} {Q : State → Prop} (hN : 8 ≤ N) (X : gX celM Γ ad N RX10 cX10_copies 5 none p s m args meth c) {σ : gSt} {a0 : Nat} {a1 : Int32} {a2 : Nat} {a3 : Int32} (ha0 : gma a0 = true) (ha2 : gma a2 = true) : ∀ (n : Nat) (i1 : Int32) (σ2 : gSt) (σ3 : gSt), f_X10_copies_l1 σ a0 a1 a2 a3 n i1 σ2 = some σ3 → (∀ (H : Heap) (locs : List Loc) (ls : Array Slot), gS celM Γ ad N σ3 s H locs → lv_has ls 5 [] → W p l e (gR 1 0 0) s m args below meth c H locs 0 0 (Q) (F0 m 29 ls [])) → ∀ (H : Heap) (locs : List Loc) (ls : Array Slot), gS celM Γ ad N σ2 s H locs → lv_has ls 5 [(4, .int i1), (0, .ref (ad a0)), (1, .int a1), (2, .ref (ad a2)), (3, .int a3)] → W p l e (gR 1 0 0) s m args below meth c H locs 0 0 (Q) (F0 m 3 ls []) := by
  have hx := X.1
  have hb := X.2.1
  intro n
  induction n with
  | zero =>
    intro i1 σ2 σ3 hf
    cases hf
  | succ n ih =>
    intro i1 σ2 σ3 hf J H locs ls S hl
    rw [f_X10_copies_l1] at hf
    refine lv_iload hx hb dX10_copies_3 (lv_at hl 0 rfl) ?_
    refine lv_sipush (v := (926 : Int32)) hx hb dX10_copies_5 (by decide) ?_
    refine lv_icmp_ge (tgt := 29) hx hb dX10_copies_8 (by decide) (fun c4 => ?_) (fun c4 => ?_)
    · have hf := (if_pos c4).symm.trans hf
      cases hf
      exact J _ _ _ S (lv_sub hl [] rfl)
    · have hf := (if_neg c4).symm.trans hf
      refine lv_aload_n hx hb dX10_copies_11 rfl (lv_at hl 3 rfl) ?_
      refine lv_iload_n hx hb dX10_copies_12 rfl (lv_at hl 4 rfl) ?_
      refine lv_iload hx hb dX10_copies_13 (lv_at hl 0 rfl) ?_
      refine lv_iadd hx hb dX10_copies_15 ?_
      refine lv_aload_n hx hb dX10_copies_16 rfl (lv_at hl 1 rfl) ?_
      refine lv_iload_n hx hb dX10_copies_17 rfl (lv_at hl 2 rfl) ?_
      refine lv_iload hx hb dX10_copies_18 (lv_at hl 0 rfl) ?_
      refine lv_iadd hx hb dX10_copies_20 ?_
      obtain ⟨v5, hv5, hf⟩ := g_s1 hf
      refine g_iald X S (km_N ha0 hN) (ceM_a ha0) hv5 dX10_copies_21 ?_
      obtain ⟨σ6, hσ6, hf⟩ := g_s1 hf
      refine g_iast X S (km_N ha2 hN) (ceM_a ha2) hσ6 dX10_copies_22 (fun H locs S => ?_)
      refine lv_iinc (v := (i1 + 1)) (lv' := [(4, .int (i1 + 1)), (0, .ref (ad a0)), (1, .int a1), (2, .ref (ad a2)), (3, .int a3)]) hx hb dX10_copies_23 hl (k := 0) rfl rfl (by decide) rfl (fun ls hl => ?_)
      refine lv_goto (tgt := 3) hx hb dX10_copies_26 (by decide) ?_
      exact ih _ _ _  hf J _ _ _ S (lv_sub hl [0, 1, 2, 3, 4] rfl)
noncomputable def f_X10_copies (σ : gSt) (a0 : Nat) (a1 : Int32) (a2 : Nat) (a3 : Int32) : Option (gSt) :=
  (g_k1 (f_X10_copies_l1 σ a0 a1 a2 a3 FU (0 : Int32) σ) fun σ3 => some σ3)
set_option maxRecDepth 100000 in
set_option maxHeartbeats 4000000 in
theorem c_X10_copies (l : Launch) {Γ : gG} {ad : Nat → Nat} {N : Nat} (hN : 8 ≤ N) {σ : gSt} {a0 : Nat} {a1 : Int32} {a2 : Nat} {a3 : Int32} (ha0 : gma a0 = true) (ha2 : gma a2 = true) {σ' : gSt} (hf : f_X10_copies σ a0 a1 a2 a3 = some σ') : gMv l celM Γ ad N yX10_copies cX10_copies 5 none (gR 1 0 0) [.ref (ad a0), .int a1, .ref (ad a2), .int a3] σ σ' := by
  intro sz
  refine gOf (Qc := fun sz => gQcv celM Γ ad N σ' sz) RX10 (by decide) rfl (by decide) (fun p e s m args below meth c H locs ls X S hl => ?_)
  have hl : lv_has ls 5 [(4, .int (0 : Int32)), (0, .ref (ad a0)), (1, .int a1), (2, .ref (ad a2)), (3, .int a3)] := hl
  have hx := X.1
  have hb := X.2.1
  unfold f_X10_copies at hf
  refine lv_iconst (v := (0 : Int32)) hx hb dX10_copies_0 (by decide) ?_
  refine lv_istore (lv' := [(4, .int (0 : Int32)), (0, .ref (ad a0)), (1, .int a1), (2, .ref (ad a2)), (3, .int a3)]) hx hb dX10_copies_1 hl (by decide) rfl (fun ls hl => ?_)
  obtain ⟨σ3, hr7, hf⟩ := g_s1 hf
  refine w_X10_copies_l1 hN X ha0 ha2 FU _ _ _  hr7 (fun H locs ls S hl => ?_) _ _ _ S (lv_sub hl [0, 1, 2, 3, 4] rfl)
  cases hf
  exact g_retv X S dX10_copies_29

noncomputable def f_X10_changes_l1 (σ : gSt) (a0 : Nat) : Nat → Int32 → gSt → Option (gSt)
  | 0, _, _ => none
  | n + 1, i7, σ8 => (if (6482 : Int32) ≤ i7 then some σ8 else (g_k1 (gald σ8 4 7408 (i7 + (926 : Int32))) fun v11 => (g_k1 (gast σ8 4 7408 i7 v11) fun σ12 => (f_X10_changes_l1 σ a0 n (i7 + 1) σ12))))
set_option maxRecDepth 100000 in
set_option maxHeartbeats 4000000 in
theorem w_X10_changes_l1 {l : Launch} {Γ : gG} {ad : Nat → Nat} {N : Nat} {p : Program} {e : Env} {s : State} {m : MethodId} {args : Array Value} {below : List Frame} {meth : Method} {c : Code} {Q : State → Prop} (hN : 8 ≤ N) (X : gX celM Γ ad N RX10 cX10_changes 3 none p s m args meth c) {σ : gSt} {a0 : Nat} (ha0 : gma a0 = true) : ∀ (n : Nat) (i7 : Int32) (σ8 : gSt) (σ9 : gSt), f_X10_changes_l1 σ a0 n i7 σ8 = some σ9 → (∀ (H : Heap) (locs : List Loc) (ls : Array Slot), gS celM Γ ad N σ9 s H locs → lv_has ls 3 [(0, .ref (ad 0)), (1, .ref (ad a0))] → W p l e (gR 2 0 0) s m args below meth c H locs 0 0 (Q) (F0 m 40 ls [])) → ∀ (H : Heap) (locs : List Loc) (ls : Array Slot), gS celM Γ ad N σ8 s H locs → lv_has ls 3 [(2, .int i7), (0, .ref (ad 0)), (1, .ref (ad a0))] → W p l e (gR 2 0 0) s m args below meth c H locs 0 0 (Q) (F0 m 11 ls []) := by
  have hx := X.1
  have hb := X.2.1
  intro n
  induction n with
  | zero =>
    intro i7 σ8 σ9 hf
    cases hf
  | succ n ih =>
    intro i7 σ8 σ9 hf J H locs ls S hl
    rw [f_X10_changes_l1] at hf
    refine lv_iload_n hx hb dX10_changes_11 rfl (lv_at hl 0 rfl) ?_
    refine lv_sipush (v := (6482 : Int32)) hx hb dX10_changes_12 (by decide) ?_
    refine lv_icmp_ge (tgt := 40) hx hb dX10_changes_15 (by decide) (fun c10 => ?_) (fun c10 => ?_)
    · have hf := (if_pos c10).symm.trans hf
      cases hf
      exact J _ _ _ S (lv_sub hl [1, 2] rfl)
    · have hf := (if_neg c10).symm.trans hf
      refine lv_aload_n hx hb dX10_changes_18 rfl (lv_at hl 1 rfl) ?_
      refine gfX10_19 X S hN dX10_changes_19 ?_
      refine lv_iload_n hx hb dX10_changes_22 rfl (lv_at hl 0 rfl) ?_
      refine lv_aload_n hx hb dX10_changes_23 rfl (lv_at hl 1 rfl) ?_
      refine gfX10_19 X S hN dX10_changes_24 ?_
      refine lv_iload_n hx hb dX10_changes_27 rfl (lv_at hl 0 rfl) ?_
      refine lv_sipush (v := (926 : Int32)) hx hb dX10_changes_28 (by decide) ?_
      refine lv_iadd hx hb dX10_changes_31 ?_
      obtain ⟨v11, hv11, hf⟩ := g_s1 hf
      refine g_iald X S (by omega) (ceM_a (rfl : gma 4 = true)) hv11 dX10_changes_32 ?_
      obtain ⟨σ12, hσ12, hf⟩ := g_s1 hf
      refine g_iast X S (by omega) (ceM_a (rfl : gma 4 = true)) hσ12 dX10_changes_33 (fun H locs S => ?_)
      refine lv_iinc (v := (i7 + 1)) (lv' := [(2, .int (i7 + 1)), (0, .ref (ad 0)), (1, .ref (ad a0))]) hx hb dX10_changes_34 hl (k := 0) rfl rfl (by decide) rfl (fun ls hl => ?_)
      refine lv_goto (tgt := 11) hx hb dX10_changes_37 (by decide) ?_
      exact ih _ _ _  hf J _ _ _ S (lv_sub hl [0, 1, 2] rfl)
noncomputable def f_X10_changes (σ : gSt) (a0 : Nat) : Option (gSt) :=
  (g_k1 (if (σ 0 5) = (8 : Int32) then (g_k1 (f_X10_changes_l1 σ a0 FU (0 : Int32) σ) fun σ9 => (g_k1 (gset σ9 0 5 ((σ9 0 5) - (1 : Int32))) fun σ14 => some σ14)) else some σ) fun σ1 => (g_k1 (f_X10_copies σ1 a0 (0 : Int32) 4 ((926 : Int32) * (σ1 0 5))) fun σ4 => (g_k1 (gset σ4 0 5 ((σ4 0 5) + (1 : Int32))) fun σ5 => some σ5)))
set_option maxRecDepth 100000 in
set_option maxHeartbeats 4000000 in
theorem c_X10_changes (l : Launch) {Γ : gG} {ad : Nat → Nat} {N : Nat} (hN : 8 ≤ N) {σ : gSt} {a0 : Nat} (ha0 : gma a0 = true) {σ' : gSt} (hf : f_X10_changes σ a0 = some σ') : gMv l celM Γ ad N yX10_changes cX10_changes 3 none (gR 2 0 0) [.ref (ad 0), .ref (ad a0)] σ σ' := by
  intro sz
  refine gOf (Qc := fun sz => gQcv celM Γ ad N σ' sz) RX10 (by decide) rfl (by decide) (fun p e s m args below meth c H locs ls X S hl => ?_)
  have hl : lv_has ls 3 [(0, .ref (ad 0)), (1, .ref (ad a0))] := hl
  have hx := X.1
  have hb := X.2.1
  unfold f_X10_changes at hf
  refine lv_aload_n hx hb dX10_changes_0 rfl (lv_at hl 0 rfl) ?_
  refine gfX10_60 X S hN dX10_changes_1 ?_
  refine lv_bipush (v := (8 : Int32)) hx hb dX10_changes_4 (by decide) ?_
  obtain ⟨σ1, hr2, hf⟩ := g_s1 hf
  have J3 : ∀ (H : Heap) (locs : List Loc) (ls : Array Slot), gS celM Γ ad N σ1 s H locs → lv_has ls 3 [(0, .ref (ad 0)), (1, .ref (ad a0))] → W p l e (gR 2 0 0) s m args below meth c H locs 0 0 (gQv celM Γ ad N σ' below args s) (F0 m 50 ls []) := by
    intro H locs ls S hl
    refine lv_aload_n hx hb dX10_changes_50 rfl (lv_at hl 1 rfl) ?_
    refine lv_iconst (v := (0 : Int32)) hx hb dX10_changes_51 (by decide) ?_
    refine lv_aload_n hx hb dX10_changes_52 rfl (lv_at hl 0 rfl) ?_
    refine gfX10_19 X S hN dX10_changes_53 ?_
    refine lv_sipush (v := (926 : Int32)) hx hb dX10_changes_56 (by decide) ?_
    refine lv_aload_n hx hb dX10_changes_59 rfl (lv_at hl 0 rfl) ?_
    refine gfX10_60 X S hN dX10_changes_60 ?_
    refine lv_imul hx hb dX10_changes_63 ?_
    obtain ⟨σ4, hσ4, hf⟩ := g_s1 hf
    refine g_kv S (g_runS (rest := []) X S (c_X10_copies l hN ha0 (by rfl : gma 4 = true) hσ4 _) csX10_copies mlX10_63 rfl rfl hl.1 (by decide) ⟨⟨rfl, rfl⟩, ⟨Nat.le_of_ble_eq_true rfl, Nat.le_of_ble_eq_true rfl⟩, Nat.le_of_ble_eq_true rfl, Nat.le_of_ble_eq_true rfl⟩ dX10_changes_64) (fun H locs S => ?_)
    refine lv_aload_n hx hb dX10_changes_67 rfl (lv_at hl 0 rfl) ?_
    refine lv_dup hx hb dX10_changes_68 rfl ?_
    refine gfX10_60 X S hN dX10_changes_69 ?_
    refine lv_iconst (v := (1 : Int32)) hx hb dX10_changes_72 (by decide) ?_
    refine lv_iadd hx hb dX10_changes_73 ?_
    obtain ⟨σ5, hσ5, hf⟩ := g_s1 hf
    refine pfX10_60 X S hN hσ5 dX10_changes_74 (fun H locs S => ?_)
    cases hf
    exact g_retv X S dX10_changes_77
  replace hf := hr2
  refine lv_icmp_ne (tgt := 50) hx hb dX10_changes_6 (by decide) (fun c6 => ?_) (fun c6 => ?_)
  · have hf := (if_neg c6).symm.trans hf
    cases hf
    exact J3 _ _ _ S (lv_sub hl [0, 1] rfl)
  · have hf := (if_pos c6).symm.trans hf
    refine lv_iconst (v := (0 : Int32)) hx hb dX10_changes_9 (by decide) ?_
    refine lv_istore_n (lv' := [(2, .int (0 : Int32)), (0, .ref (ad 0)), (1, .ref (ad a0))]) hx hb dX10_changes_10 rfl hl (by decide) rfl (fun ls hl => ?_)
    obtain ⟨σ9, hr13, hf⟩ := g_s1 hf
    refine w_X10_changes_l1 hN X ha0 FU _ _ _  hr13 (fun H locs ls S hl => ?_) _ _ _ S (lv_sub hl [0, 1, 2] rfl)
    refine lv_aload_n hx hb dX10_changes_40 rfl (lv_at hl 0 rfl) ?_
    refine lv_dup hx hb dX10_changes_41 rfl ?_
    refine gfX10_60 X S hN dX10_changes_42 ?_
    refine lv_iconst (v := (1 : Int32)) hx hb dX10_changes_45 (by decide) ?_
    refine lv_isub hx hb dX10_changes_46 ?_
    obtain ⟨σ14, hσ14, hf⟩ := g_s1 hf
    refine pfX10_60 X S hN hσ14 dX10_changes_47 (fun H locs S => ?_)
    cases hf
    exact J3 _ _ _ S (lv_sub hl [0, 1] rfl)

noncomputable def f_X10_undo (σ : gSt)  : Option (Int32 × gSt) :=
  (g_k1 (if (σ 0 5) = 0 then some (1 : Int32) else some (0 : Int32)) fun x1 => (g_k1 (gset σ 0 10 x1) fun σ4 => (if (σ4 0 10) ≤ 0 then (g_k1 (gset σ4 0 5 ((σ4 0 5) - (1 : Int32))) fun σ6 => (g_k1 (f_X10_copies σ6 4 ((926 : Int32) * (σ6 0 5)) 1 (0 : Int32)) fun σ7 => some ((σ7 0 5), σ7))) else some ((0 : Int32), σ4))))
set_option maxRecDepth 100000 in
set_option maxHeartbeats 4000000 in
theorem c_X10_undo (l : Launch) {Γ : gG} {ad : Nat → Nat} {N : Nat} (hN : 8 ≤ N) {σ : gSt}   {r : Int32} {σ' : gSt} (hf : f_X10_undo σ  = some (r, σ')) : gMi l celM Γ ad N yX10_undo cX10_undo 1 (some .int) (gR 2 0 0) [.ref (ad 0)] σ r σ' := by
  intro sz
  refine gOf (Qc := fun sz => gQci celM Γ ad N r σ' sz) RX10 (by decide) rfl (by decide) (fun p e s m args below meth c H locs ls X S hl => ?_)
  have hl : lv_has ls 1 [(0, .ref (ad 0))] := hl
  have hx := X.1
  have hb := X.2.1
  unfold f_X10_undo at hf
  refine lv_aload_n hx hb dX10_undo_0 rfl (lv_at hl 0 rfl) ?_
  refine lv_aload_n hx hb dX10_undo_1 rfl (lv_at hl 0 rfl) ?_
  refine gfX10_60 X S hN dX10_undo_2 ?_
  obtain ⟨x1, hr2, hf⟩ := g_s1 hf
  have J3 : ∀ (H : Heap) (locs : List Loc) (ls : Array Slot), gS celM Γ ad N σ s H locs → lv_has ls 1 [(0, .ref (ad 0))] → W p l e (gR 2 0 0) s m args below meth c H locs 0 0 (gQi celM Γ ad N r σ' below args s) (F0 m 13 ls [.int x1, .ref (ad 0)]) := by
    intro H locs ls S hl
    obtain ⟨σ4, hσ4, hf⟩ := g_s1 hf
    refine pfX10_35 X S hN hσ4 dX10_undo_13 (fun H locs S => ?_)
    refine lv_aload_n hx hb dX10_undo_16 rfl (lv_at hl 0 rfl) ?_
    refine gfX10_35 X S hN dX10_undo_17 ?_
    refine lv_if_le (tgt := 25) hx hb dX10_undo_20 (by decide) (fun c5 => ?_) (fun c5 => ?_)
    · have hf := (if_pos c5).symm.trans hf
      refine lv_aload_n hx hb dX10_undo_25 rfl (lv_at hl 0 rfl) ?_
      refine lv_dup hx hb dX10_undo_26 rfl ?_
      refine gfX10_60 X S hN dX10_undo_27 ?_
      refine lv_iconst (v := (1 : Int32)) hx hb dX10_undo_30 (by decide) ?_
      refine lv_isub hx hb dX10_undo_31 ?_
      obtain ⟨σ6, hσ6, hf⟩ := g_s1 hf
      refine pfX10_60 X S hN hσ6 dX10_undo_32 (fun H locs S => ?_)
      refine lv_aload_n hx hb dX10_undo_35 rfl (lv_at hl 0 rfl) ?_
      refine gfX10_19 X S hN dX10_undo_36 ?_
      refine lv_sipush (v := (926 : Int32)) hx hb dX10_undo_39 (by decide) ?_
      refine lv_aload_n hx hb dX10_undo_42 rfl (lv_at hl 0 rfl) ?_
      refine gfX10_60 X S hN dX10_undo_43 ?_
      refine lv_imul hx hb dX10_undo_46 ?_
      refine lv_aload_n hx hb dX10_undo_47 rfl (lv_at hl 0 rfl) ?_
      refine gfX10_7 X S hN dX10_undo_48 ?_
      refine lv_iconst (v := (0 : Int32)) hx hb dX10_undo_51 (by decide) ?_
      obtain ⟨σ7, hσ7, hf⟩ := g_s1 hf
      refine g_kv S (g_runS (rest := []) X S (c_X10_copies l hN (by rfl : gma 4 = true) (by rfl : gma 1 = true) hσ7 _) csX10_copies mlX10_63 rfl rfl hl.1 (by decide) ⟨⟨rfl, rfl⟩, ⟨Nat.le_of_ble_eq_true rfl, Nat.le_of_ble_eq_true rfl⟩, Nat.le_of_ble_eq_true rfl, Nat.le_of_ble_eq_true rfl⟩ dX10_undo_52) (fun H locs S => ?_)
      refine lv_aload_n hx hb dX10_undo_55 rfl (lv_at hl 0 rfl) ?_
      refine gfX10_60 X S hN dX10_undo_56 ?_
      cases hf
      exact g_reti X S rfl dX10_undo_59
    · have hf := (if_neg c5).symm.trans hf
      refine lv_iconst (v := (0 : Int32)) hx hb dX10_undo_23 (by decide) ?_
      cases hf
      exact g_reti X S rfl dX10_undo_24
  replace hf := hr2
  refine lv_if_ne (tgt := 12) hx hb dX10_undo_5 (by decide) (fun c8 => ?_) (fun c8 => ?_)
  · have hf := (if_neg c8).symm.trans hf
    refine lv_iconst (v := (0 : Int32)) hx hb dX10_undo_12 (by decide) ?_
    cases hf
    exact J3 _ _ _ S (lv_sub hl [0] rfl)
  · have hf := (if_pos c8).symm.trans hf
    refine lv_iconst (v := (1 : Int32)) hx hb dX10_undo_8 (by decide) ?_
    refine lv_goto (tgt := 13) hx hb dX10_undo_9 (by decide) ?_
    cases hf
    exact J3 _ _ _ S (lv_sub hl [0] rfl)

noncomputable def f_X10_saveSnapshot (σ : gSt)  : Option (Int32 × gSt) :=
  (g_k1 (gset σ 0 10 (0 : Int32)) fun σ1 => (g_k1 (gset σ1 0 3 (1 : Int32)) fun σ2 => (g_k1 (f_X10_copies σ2 1 (0 : Int32) 2 (0 : Int32)) fun σ3 => some (((σ3 1 28) + (σ3 1 29)), σ3))))
set_option maxRecDepth 100000 in
set_option maxHeartbeats 4000000 in
theorem c_X10_saveSnapshot (l : Launch) {Γ : gG} {ad : Nat → Nat} {N : Nat} (hN : 8 ≤ N) {σ : gSt}   {r : Int32} {σ' : gSt} (hf : f_X10_saveSnapshot σ  = some (r, σ')) : gMi l celM Γ ad N yX10_saveSnapshot cX10_saveSnapshot 1 (some .int) (gR 2 0 0) [.ref (ad 0)] σ r σ' := by
  intro sz
  refine gOf (Qc := fun sz => gQci celM Γ ad N r σ' sz) RX10 (by decide) rfl (by decide) (fun p e s m args below meth c H locs ls X S hl => ?_)
  have hl : lv_has ls 1 [(0, .ref (ad 0))] := hl
  have hx := X.1
  have hb := X.2.1
  unfold f_X10_saveSnapshot at hf
  refine lv_aload_n hx hb dX10_saveSnapshot_0 rfl (lv_at hl 0 rfl) ?_
  refine lv_iconst (v := (0 : Int32)) hx hb dX10_saveSnapshot_1 (by decide) ?_
  obtain ⟨σ1, hσ1, hf⟩ := g_s1 hf
  refine pfX10_35 X S hN hσ1 dX10_saveSnapshot_2 (fun H locs S => ?_)
  refine lv_aload_n hx hb dX10_saveSnapshot_5 rfl (lv_at hl 0 rfl) ?_
  refine lv_iconst (v := (1 : Int32)) hx hb dX10_saveSnapshot_6 (by decide) ?_
  obtain ⟨σ2, hσ2, hf⟩ := g_s1 hf
  refine pfX10_67 X S hN (by decide +kernel) hσ2 dX10_saveSnapshot_7 (fun H locs S => ?_)
  refine lv_aload_n hx hb dX10_saveSnapshot_10 rfl (lv_at hl 0 rfl) ?_
  refine gfX10_7 X S hN dX10_saveSnapshot_11 ?_
  refine lv_iconst (v := (0 : Int32)) hx hb dX10_saveSnapshot_14 (by decide) ?_
  refine lv_aload_n hx hb dX10_saveSnapshot_15 rfl (lv_at hl 0 rfl) ?_
  refine gfX10_13 X S hN dX10_saveSnapshot_16 ?_
  refine lv_iconst (v := (0 : Int32)) hx hb dX10_saveSnapshot_19 (by decide) ?_
  obtain ⟨σ3, hσ3, hf⟩ := g_s1 hf
  refine g_kv S (g_runS (rest := []) X S (c_X10_copies l hN (by rfl : gma 1 = true) (by rfl : gma 2 = true) hσ3 _) csX10_copies mlX10_63 rfl rfl hl.1 (by decide) ⟨⟨rfl, rfl⟩, ⟨Nat.le_of_ble_eq_true rfl, Nat.le_of_ble_eq_true rfl⟩, Nat.le_of_ble_eq_true rfl, Nat.le_of_ble_eq_true rfl⟩ dX10_saveSnapshot_20) (fun H locs S => ?_)
  refine lv_aload_n hx hb dX10_saveSnapshot_23 rfl (lv_at hl 0 rfl) ?_
  refine gfX10_7 X S hN dX10_saveSnapshot_24 ?_
  refine lv_bipush (v := (28 : Int32)) hx hb dX10_saveSnapshot_27 (by decide) ?_
  refine g_ialdC X S (by omega) (ceM_a (rfl : gma 1 = true)) 28 (by decide) (by decide) dX10_saveSnapshot_29 ?_
  refine lv_aload_n hx hb dX10_saveSnapshot_30 rfl (lv_at hl 0 rfl) ?_
  refine gfX10_7 X S hN dX10_saveSnapshot_31 ?_
  refine lv_bipush (v := (29 : Int32)) hx hb dX10_saveSnapshot_34 (by decide) ?_
  refine g_ialdC X S (by omega) (ceM_a (rfl : gma 1 = true)) 29 (by decide) (by decide) dX10_saveSnapshot_36 ?_
  refine lv_iadd hx hb dX10_saveSnapshot_37 ?_
  cases hf
  exact g_reti X S rfl dX10_saveSnapshot_38

noncomputable def f_X10_restoreSnapshot (σ : gSt)  : Option (Int32 × gSt) :=
  (g_k1 (if (σ 0 3) = 0 then some (1 : Int32) else some (0 : Int32)) fun x1 => (g_k1 (gset σ 0 10 x1) fun σ4 => (if (σ4 0 3) = 0 then some ((0 : Int32), σ4) else (g_k1 (f_X10_copies σ4 2 (0 : Int32) 1 (0 : Int32)) fun σ6 => (g_k1 (gset σ6 0 5 (0 : Int32)) fun σ7 => some (((σ7 1 28) + (σ7 1 29)), σ7))))))
set_option maxRecDepth 100000 in
set_option maxHeartbeats 4000000 in
theorem c_X10_restoreSnapshot (l : Launch) {Γ : gG} {ad : Nat → Nat} {N : Nat} (hN : 8 ≤ N) {σ : gSt}   {r : Int32} {σ' : gSt} (hf : f_X10_restoreSnapshot σ  = some (r, σ')) : gMi l celM Γ ad N yX10_restoreSnapshot cX10_restoreSnapshot 1 (some .int) (gR 2 0 0) [.ref (ad 0)] σ r σ' := by
  intro sz
  refine gOf (Qc := fun sz => gQci celM Γ ad N r σ' sz) RX10 (by decide) rfl (by decide) (fun p e s m args below meth c H locs ls X S hl => ?_)
  have hl : lv_has ls 1 [(0, .ref (ad 0))] := hl
  have hx := X.1
  have hb := X.2.1
  unfold f_X10_restoreSnapshot at hf
  refine lv_aload_n hx hb dX10_restoreSnapshot_0 rfl (lv_at hl 0 rfl) ?_
  refine lv_aload_n hx hb dX10_restoreSnapshot_1 rfl (lv_at hl 0 rfl) ?_
  refine gfX10_67 X S hN dX10_restoreSnapshot_2 ?_
  obtain ⟨x1, hr2, hf⟩ := g_s1 hf
  have J3 : ∀ (H : Heap) (locs : List Loc) (ls : Array Slot), gS celM Γ ad N σ s H locs → lv_has ls 1 [(0, .ref (ad 0))] → W p l e (gR 2 0 0) s m args below meth c H locs 0 0 (gQi celM Γ ad N r σ' below args s) (F0 m 13 ls [.int x1, .ref (ad 0)]) := by
    intro H locs ls S hl
    obtain ⟨σ4, hσ4, hf⟩ := g_s1 hf
    refine pfX10_35 X S hN hσ4 dX10_restoreSnapshot_13 (fun H locs S => ?_)
    refine lv_aload_n hx hb dX10_restoreSnapshot_16 rfl (lv_at hl 0 rfl) ?_
    refine gfX10_67 X S hN dX10_restoreSnapshot_17 ?_
    refine lv_if_ne (tgt := 25) hx hb dX10_restoreSnapshot_20 (by decide) (fun c5 => ?_) (fun c5 => ?_)
    · have hf := (if_neg c5).symm.trans hf
      refine lv_aload_n hx hb dX10_restoreSnapshot_25 rfl (lv_at hl 0 rfl) ?_
      refine gfX10_13 X S hN dX10_restoreSnapshot_26 ?_
      refine lv_iconst (v := (0 : Int32)) hx hb dX10_restoreSnapshot_29 (by decide) ?_
      refine lv_aload_n hx hb dX10_restoreSnapshot_30 rfl (lv_at hl 0 rfl) ?_
      refine gfX10_7 X S hN dX10_restoreSnapshot_31 ?_
      refine lv_iconst (v := (0 : Int32)) hx hb dX10_restoreSnapshot_34 (by decide) ?_
      obtain ⟨σ6, hσ6, hf⟩ := g_s1 hf
      refine g_kv S (g_runS (rest := []) X S (c_X10_copies l hN (by rfl : gma 2 = true) (by rfl : gma 1 = true) hσ6 _) csX10_copies mlX10_63 rfl rfl hl.1 (by decide) ⟨⟨rfl, rfl⟩, ⟨Nat.le_of_ble_eq_true rfl, Nat.le_of_ble_eq_true rfl⟩, Nat.le_of_ble_eq_true rfl, Nat.le_of_ble_eq_true rfl⟩ dX10_restoreSnapshot_35) (fun H locs S => ?_)
      refine lv_aload_n hx hb dX10_restoreSnapshot_38 rfl (lv_at hl 0 rfl) ?_
      refine lv_iconst (v := (0 : Int32)) hx hb dX10_restoreSnapshot_39 (by decide) ?_
      obtain ⟨σ7, hσ7, hf⟩ := g_s1 hf
      refine pfX10_60 X S hN hσ7 dX10_restoreSnapshot_40 (fun H locs S => ?_)
      refine lv_aload_n hx hb dX10_restoreSnapshot_43 rfl (lv_at hl 0 rfl) ?_
      refine gfX10_7 X S hN dX10_restoreSnapshot_44 ?_
      refine lv_bipush (v := (28 : Int32)) hx hb dX10_restoreSnapshot_47 (by decide) ?_
      refine g_ialdC X S (by omega) (ceM_a (rfl : gma 1 = true)) 28 (by decide) (by decide) dX10_restoreSnapshot_49 ?_
      refine lv_aload_n hx hb dX10_restoreSnapshot_50 rfl (lv_at hl 0 rfl) ?_
      refine gfX10_7 X S hN dX10_restoreSnapshot_51 ?_
      refine lv_bipush (v := (29 : Int32)) hx hb dX10_restoreSnapshot_54 (by decide) ?_
      refine g_ialdC X S (by omega) (ceM_a (rfl : gma 1 = true)) 29 (by decide) (by decide) dX10_restoreSnapshot_56 ?_
      refine lv_iadd hx hb dX10_restoreSnapshot_57 ?_
      cases hf
      exact g_reti X S rfl dX10_restoreSnapshot_58
    · have hf := (if_pos c5).symm.trans hf
      refine lv_iconst (v := (0 : Int32)) hx hb dX10_restoreSnapshot_23 (by decide) ?_
      cases hf
      exact g_reti X S rfl dX10_restoreSnapshot_24
  replace hf := hr2
  refine lv_if_eq (tgt := 12) hx hb dX10_restoreSnapshot_5 (by decide) (fun c8 => ?_) (fun c8 => ?_)
  · have hf := (if_pos c8).symm.trans hf
    refine lv_iconst (v := (1 : Int32)) hx hb dX10_restoreSnapshot_12 (by decide) ?_
    cases hf
    exact J3 _ _ _ S (lv_sub hl [0] rfl)
  · have hf := (if_neg c8).symm.trans hf
    refine lv_iconst (v := (0 : Int32)) hx hb dX10_restoreSnapshot_8 (by decide) ?_
    refine lv_goto (tgt := 13) hx hb dX10_restoreSnapshot_9 (by decide) ?_
    cases hf
    exact J3 _ _ _ S (lv_sub hl [0] rfl)

noncomputable def f_X10_film_l1 (a0 : Int32) (σ5 : gSt) : Nat → Int32 → Int32 → Option (Int32)
  | 0, _, _ => none
  | n + 1, i10, i11 => (if (2 : Int32) ≤ i10 then some i11 else (g_k1 (if i11 = 0 then some (0 : Int32) else (g_k1 (gald σ5 1 926 ((28 : Int32) + i10)) fun v18 => (if v18 = 0 then some (1 : Int32) else (g_k1 (gald σ5 1 926 ((28 : Int32) + i10)) fun v20 => (g_k1 (f_X10_end σ5 i10 (v20 - (1 : Int32))) fun v21 => (if a0 < v21 then some (0 : Int32) else some (1 : Int32))))))) fun x14 => (f_X10_film_l1 a0 σ5 n (i10 + 1) x14)))
set_option maxRecDepth 100000 in
set_option maxHeartbeats 4000000 in
theorem w_X10_film_l1 {l : Launch} {Γ : gG} {ad : Nat → Nat} {N : Nat} {p : Program} {e : Env} {s : State} {m : MethodId} {args : Array Value} {below : List Frame} {meth : Method} {c : Code} {Q : State → Prop} (hN : 8 ≤ N) (X : gX celM Γ ad N RX10 cX10_film 4 (some .int) p s m args meth c) {a0 : Int32} {σ5 : gSt}  : ∀ (n : Nat) (i10 : Int32) (i11 : Int32) (r12 : Int32), f_X10_film_l1 a0 σ5 n i10 i11 = some r12 → (∀ (H : Heap) (locs : List Loc) (ls : Array Slot), gS celM Γ ad N σ5 s H locs → lv_has ls 4 [(2, .int r12), (0, .ref (ad 0)), (1, .int a0)] → W p l e (gR 3 0 0) s m args below meth c H locs 0 0 (Q) (F0 m 122 ls [])) → ∀ (H : Heap) (locs : List Loc) (ls : Array Slot), gS celM Γ ad N σ5 s H locs → lv_has ls 4 [(3, .int i10), (2, .int i11), (0, .ref (ad 0)), (1, .int a0)] → W p l e (gR 3 0 0) s m args below meth c H locs 0 0 (Q) (F0 m 69 ls []) := by
  have hx := X.1
  have hb := X.2.1
  intro n
  induction n with
  | zero =>
    intro i10 i11 r12 hf
    cases hf
  | succ n ih =>
    intro i10 i11 r12 hf J H locs ls S hl
    rw [f_X10_film_l1] at hf
    refine lv_iload_n hx hb dX10_film_69 rfl (lv_at hl 0 rfl) ?_
    refine lv_iconst (v := (2 : Int32)) hx hb dX10_film_70 (by decide) ?_
    refine lv_icmp_ge (tgt := 122) hx hb dX10_film_71 (by decide) (fun c13 => ?_) (fun c13 => ?_)
    · have hf := (if_pos c13).symm.trans hf
      cases hf
      exact J _ _ _ S (lv_sub hl [1, 2, 3] rfl)
    · have hf := (if_neg c13).symm.trans hf
      refine lv_iload_n hx hb dX10_film_74 rfl (lv_at hl 1 rfl) ?_
      obtain ⟨x14, hr15, hf⟩ := g_s1 hf
      have J16 : ∀ (H : Heap) (locs : List Loc) (ls : Array Slot), gS celM Γ ad N σ5 s H locs → lv_has ls 4 [(3, .int i10), (0, .ref (ad 0)), (1, .int a0)] → W p l e (gR 3 0 0) s m args below meth c H locs 0 0 (Q) (F0 m 115 ls [.int x14]) := by
        intro H locs ls S hl
        refine lv_istore_n (lv' := [(2, .int x14), (3, .int i10), (0, .ref (ad 0)), (1, .int a0)]) hx hb dX10_film_115 rfl hl (by decide) rfl (fun ls hl => ?_)
        refine lv_iinc (v := (i10 + 1)) (lv' := [(3, .int (i10 + 1)), (2, .int x14), (0, .ref (ad 0)), (1, .int a0)]) hx hb dX10_film_116 hl (k := 1) rfl rfl (by decide) rfl (fun ls hl => ?_)
        refine lv_goto (tgt := 69) hx hb dX10_film_119 (by decide) ?_
        exact ih _ _ _  hf J _ _ _ S (lv_sub hl [0, 1, 2, 3] rfl)
      replace hf := hr15
      refine lv_if_eq (tgt := 114) hx hb dX10_film_75 (by decide) (fun c17 => ?_) (fun c17 => ?_)
      · have hf := (if_pos c17).symm.trans hf
        refine lv_iconst (v := (0 : Int32)) hx hb dX10_film_114 (by decide) ?_
        cases hf
        exact J16 _ _ _ S (lv_sub hl [0, 2, 3] rfl)
      · have hf := (if_neg c17).symm.trans hf
        refine lv_aload_n hx hb dX10_film_78 rfl (lv_at hl 2 rfl) ?_
        refine gfX10_7 X S hN dX10_film_79 ?_
        refine lv_bipush (v := (28 : Int32)) hx hb dX10_film_82 (by decide) ?_
        refine lv_iload_n hx hb dX10_film_84 rfl (lv_at hl 0 rfl) ?_
        refine lv_iadd hx hb dX10_film_85 ?_
        obtain ⟨v18, hv18, hf⟩ := g_s1 hf
        refine g_iald X S (by omega) (ceM_a (rfl : gma 1 = true)) hv18 dX10_film_86 ?_
        refine lv_if_eq (tgt := 110) hx hb dX10_film_87 (by decide) (fun c19 => ?_) (fun c19 => ?_)
        · have hf := (if_pos c19).symm.trans hf
          refine lv_iconst (v := (1 : Int32)) hx hb dX10_film_110 (by decide) ?_
          refine lv_goto (tgt := 115) hx hb dX10_film_111 (by decide) ?_
          cases hf
          exact J16 _ _ _ S (lv_sub hl [0, 2, 3] rfl)
        · have hf := (if_neg c19).symm.trans hf
          refine lv_aload_n hx hb dX10_film_90 rfl (lv_at hl 2 rfl) ?_
          refine lv_iload_n hx hb dX10_film_91 rfl (lv_at hl 0 rfl) ?_
          refine lv_aload_n hx hb dX10_film_92 rfl (lv_at hl 2 rfl) ?_
          refine gfX10_7 X S hN dX10_film_93 ?_
          refine lv_bipush (v := (28 : Int32)) hx hb dX10_film_96 (by decide) ?_
          refine lv_iload_n hx hb dX10_film_98 rfl (lv_at hl 0 rfl) ?_
          refine lv_iadd hx hb dX10_film_99 ?_
          obtain ⟨v20, hv20, hf⟩ := g_s1 hf
          refine g_iald X S (by omega) (ceM_a (rfl : gma 1 = true)) hv20 dX10_film_100 ?_
          refine lv_iconst (v := (1 : Int32)) hx hb dX10_film_101 (by decide) ?_
          refine lv_isub hx hb dX10_film_102 ?_
          obtain ⟨v21, hv21, hf⟩ := g_s1 hf
          refine g_ki S (g_runV (rest := []) X S (c_X10_end l hN  hv21 _) cvX10_end mlX10_71 (by omega) (ceM_10 _) rfl rfl rfl hl.1 (by decide) ⟨⟨rfl, rfl⟩, ⟨Nat.le_of_ble_eq_true rfl, Nat.le_of_ble_eq_true rfl⟩, Nat.le_of_ble_eq_true rfl, Nat.le_of_ble_eq_true rfl⟩ dX10_film_103) (fun H locs S => ?_)
          refine lv_iload_n hx hb dX10_film_106 rfl (lv_at hl 3 rfl) ?_
          refine lv_icmp_gt (tgt := 114) hx hb dX10_film_107 (by decide) (fun c22 => ?_) (fun c22 => ?_)
          · have hf := (if_pos c22).symm.trans hf
            refine lv_iconst (v := (0 : Int32)) hx hb dX10_film_114 (by decide) ?_
            cases hf
            exact J16 _ _ _ S (lv_sub hl [0, 2, 3] rfl)
          · have hf := (if_neg c22).symm.trans hf
            refine lv_iconst (v := (1 : Int32)) hx hb dX10_film_110 (by decide) ?_
            refine lv_goto (tgt := 115) hx hb dX10_film_111 (by decide) ?_
            cases hf
            exact J16 _ _ _ S (lv_sub hl [0, 2, 3] rfl)
noncomputable def f_X10_film (σ : gSt) (a0 : Int32) : Option (Int32 × gSt) :=
  (g_k1 (f_X10_in σ a0 (100 : Int32) (9999 : Int32)) fun v1 => (g_k1 (if v1 = 0 then some (1 : Int32) else some (0 : Int32)) fun x2 => (g_k1 (gset σ 0 10 x2) fun σ5 => (if (σ5 0 10) ≤ 0 then (g_k1 (if (σ5 1 7) = 0 then some (1 : Int32) else (g_k1 (gald σ5 1 926 (((8 : Int32) + (σ5 1 7)) - (1 : Int32))) fun v30 => (if a0 ≤ v30 then some (0 : Int32) else some (1 : Int32)))) fun x7 => (g_k1 (f_X10_film_l1 a0 σ5 FU (0 : Int32) x7) fun r12 => (if r12 = 0 then (g_k2 (f_X10_refuses σ5 (2 : Int32) (1 : Int32)) fun v27 σ28 => some (v27, σ28)) else (g_k1 (f_X10_changes σ5 1) fun σ25 => (g_k1 (gset σ25 1 0 a0) fun σ26 => some ((σ25 1 0), σ26)))))) else some ((0 : Int32), σ5)))))
set_option maxRecDepth 100000 in
set_option maxHeartbeats 4000000 in
theorem c_X10_film (l : Launch) {Γ : gG} {ad : Nat → Nat} {N : Nat} (hN : 8 ≤ N) {σ : gSt} {a0 : Int32}  {r : Int32} {σ' : gSt} (hf : f_X10_film σ a0 = some (r, σ')) : gMi l celM Γ ad N yX10_film cX10_film 4 (some .int) (gR 3 0 0) [.ref (ad 0), .int a0] σ r σ' := by
  intro sz
  refine gOf (Qc := fun sz => gQci celM Γ ad N r σ' sz) RX10 (by decide) rfl (by decide) (fun p e s m args below meth c H locs ls X S hl => ?_)
  have hl : lv_has ls 4 [(0, .ref (ad 0)), (1, .int a0)] := hl
  have hx := X.1
  have hb := X.2.1
  unfold f_X10_film at hf
  refine lv_aload_n hx hb dX10_film_0 rfl (lv_at hl 0 rfl) ?_
  refine lv_iload_n hx hb dX10_film_1 rfl (lv_at hl 1 rfl) ?_
  refine lv_bipush (v := (100 : Int32)) hx hb dX10_film_2 (by decide) ?_
  refine lv_sipush (v := (9999 : Int32)) hx hb dX10_film_4 (by decide) ?_
  obtain ⟨v1, hv1, hf⟩ := g_s1 hf
  refine g_ki S (g_runS (rest := [.ref (ad 0)]) X S (c_X10_in l hN  hv1 _) csX10_in mlX10_48 rfl rfl hl.1 (by decide) ⟨⟨rfl, rfl⟩, ⟨Nat.le_of_ble_eq_true rfl, Nat.le_of_ble_eq_true rfl⟩, Nat.le_of_ble_eq_true rfl, Nat.le_of_ble_eq_true rfl⟩ dX10_film_7) (fun H locs S => ?_)
  obtain ⟨x2, hr3, hf⟩ := g_s1 hf
  have J4 : ∀ (H : Heap) (locs : List Loc) (ls : Array Slot), gS celM Γ ad N σ s H locs → lv_has ls 4 [(0, .ref (ad 0)), (1, .int a0)] → W p l e (gR 3 0 0) s m args below meth c H locs 0 0 (gQi celM Γ ad N r σ' below args s) (F0 m 18 ls [.int x2, .ref (ad 0)]) := by
    intro H locs ls S hl
    obtain ⟨σ5, hσ5, hf⟩ := g_s1 hf
    refine pfX10_35 X S hN hσ5 dX10_film_18 (fun H locs S => ?_)
    refine lv_aload_n hx hb dX10_film_21 rfl (lv_at hl 0 rfl) ?_
    refine gfX10_35 X S hN dX10_film_22 ?_
    refine lv_if_le (tgt := 30) hx hb dX10_film_25 (by decide) (fun c6 => ?_) (fun c6 => ?_)
    · have hf := (if_pos c6).symm.trans hf
      refine lv_aload_n hx hb dX10_film_30 rfl (lv_at hl 0 rfl) ?_
      refine gfX10_7 X S hN dX10_film_31 ?_
      refine lv_bipush (v := (7 : Int32)) hx hb dX10_film_34 (by decide) ?_
      refine g_ialdC X S (by omega) (ceM_a (rfl : gma 1 = true)) 7 (by decide) (by decide) dX10_film_36 ?_
      obtain ⟨x7, hr8, hf⟩ := g_s1 hf
      have J9 : ∀ (H : Heap) (locs : List Loc) (ls : Array Slot), gS celM Γ ad N σ5 s H locs → lv_has ls 4 [(0, .ref (ad 0)), (1, .int a0)] → W p l e (gR 3 0 0) s m args below meth c H locs 0 0 (gQi celM Γ ad N r σ' below args s) (F0 m 66 ls [.int x7]) := by
        intro H locs ls S hl
        refine lv_istore_n (lv' := [(2, .int x7), (0, .ref (ad 0)), (1, .int a0)]) hx hb dX10_film_66 rfl hl (by decide) rfl (fun ls hl => ?_)
        refine lv_iconst (v := (0 : Int32)) hx hb dX10_film_67 (by decide) ?_
        refine lv_istore_n (lv' := [(3, .int (0 : Int32)), (2, .int x7), (0, .ref (ad 0)), (1, .int a0)]) hx hb dX10_film_68 rfl hl (by decide) rfl (fun ls hl => ?_)
        obtain ⟨r12, hr23, hf⟩ := g_s1 hf
        refine w_X10_film_l1 hN X  FU _ _ _  hr23 (fun H locs ls S hl => ?_) _ _ _ S (lv_sub hl [0, 1, 2, 3] rfl)
        refine lv_iload_n hx hb dX10_film_122 rfl (lv_at hl 0 rfl) ?_
        refine lv_if_ne (tgt := 133) hx hb dX10_film_123 (by decide) (fun c24 => ?_) (fun c24 => ?_)
        · have hf := (if_neg c24).symm.trans hf
          refine lv_aload_n hx hb dX10_film_133 rfl (lv_at hl 1 rfl) ?_
          refine lv_aload_n hx hb dX10_film_134 rfl (lv_at hl 1 rfl) ?_
          refine gfX10_7 X S hN dX10_film_135 ?_
          obtain ⟨σ25, hσ25, hf⟩ := g_s1 hf
          refine g_kv S (g_runV (rest := []) X S (c_X10_changes l hN (by rfl : gma 1 = true) hσ25 _) cvX10_changes mlX10_78 (by omega) (ceM_10 _) rfl rfl rfl hl.1 (by decide) ⟨⟨rfl, rfl⟩, ⟨Nat.le_of_ble_eq_true rfl, Nat.le_of_ble_eq_true rfl⟩, Nat.le_of_ble_eq_true rfl, Nat.le_of_ble_eq_true rfl⟩ dX10_film_138) (fun H locs S => ?_)
          refine lv_aload_n hx hb dX10_film_141 rfl (lv_at hl 1 rfl) ?_
          refine gfX10_7 X S hN dX10_film_142 ?_
          refine lv_iconst (v := (0 : Int32)) hx hb dX10_film_145 (by decide) ?_
          refine g_ialdC X S (by omega) (ceM_a (rfl : gma 1 = true)) 0 (by decide) (by decide) dX10_film_146 ?_
          refine lv_istore_n (lv' := [(3, .int (σ25 1 0)), (2, .int r12), (0, .ref (ad 0)), (1, .int a0)]) hx hb dX10_film_147 rfl hl (by decide) rfl (fun ls hl => ?_)
          refine lv_aload_n hx hb dX10_film_148 rfl (lv_at hl 2 rfl) ?_
          refine gfX10_7 X S hN dX10_film_149 ?_
          refine lv_iconst (v := (0 : Int32)) hx hb dX10_film_152 (by decide) ?_
          refine lv_iload_n hx hb dX10_film_153 rfl (lv_at hl 3 rfl) ?_
          obtain ⟨σ26, hσ26, hf⟩ := g_s1 hf
          refine g_iastC X S (by omega) (ceM_a (rfl : gma 1 = true)) 0 (by decide) (by decide) hσ26 dX10_film_154 (fun H locs S => ?_)
          refine lv_iload_n hx hb dX10_film_155 rfl (lv_at hl 0 rfl) ?_
          cases hf
          exact g_reti X S rfl dX10_film_156
        · have hf := (if_pos c24).symm.trans hf
          refine lv_aload_n hx hb dX10_film_126 rfl (lv_at hl 1 rfl) ?_
          refine lv_iconst (v := (2 : Int32)) hx hb dX10_film_127 (by decide) ?_
          refine lv_iconst (v := (1 : Int32)) hx hb dX10_film_128 (by decide) ?_
          obtain ⟨v27, σ28, hv27, hf⟩ := g_s2 hf
          refine g_ki S (g_runV (rest := []) X S (c_X10_refuses l hN  hv27 _) cvX10_refuses mlX10_75 (by omega) (ceM_10 _) rfl rfl rfl hl.1 (by decide) ⟨⟨rfl, rfl⟩, ⟨Nat.le_of_ble_eq_true rfl, Nat.le_of_ble_eq_true rfl⟩, Nat.le_of_ble_eq_true rfl, Nat.le_of_ble_eq_true rfl⟩ dX10_film_129) (fun H locs S => ?_)
          cases hf
          exact g_reti X S rfl dX10_film_132
      replace hf := hr8
      refine lv_if_eq (tgt := 61) hx hb dX10_film_37 (by decide) (fun c29 => ?_) (fun c29 => ?_)
      · have hf := (if_pos c29).symm.trans hf
        refine lv_iconst (v := (1 : Int32)) hx hb dX10_film_61 (by decide) ?_
        refine lv_goto (tgt := 66) hx hb dX10_film_62 (by decide) ?_
        cases hf
        exact J9 _ _ _ S (lv_sub hl [0, 1] rfl)
      · have hf := (if_neg c29).symm.trans hf
        refine lv_aload_n hx hb dX10_film_40 rfl (lv_at hl 0 rfl) ?_
        refine gfX10_7 X S hN dX10_film_41 ?_
        refine lv_bipush (v := (8 : Int32)) hx hb dX10_film_44 (by decide) ?_
        refine lv_aload_n hx hb dX10_film_46 rfl (lv_at hl 0 rfl) ?_
        refine gfX10_7 X S hN dX10_film_47 ?_
        refine lv_bipush (v := (7 : Int32)) hx hb dX10_film_50 (by decide) ?_
        refine g_ialdC X S (by omega) (ceM_a (rfl : gma 1 = true)) 7 (by decide) (by decide) dX10_film_52 ?_
        refine lv_iadd hx hb dX10_film_53 ?_
        refine lv_iconst (v := (1 : Int32)) hx hb dX10_film_54 (by decide) ?_
        refine lv_isub hx hb dX10_film_55 ?_
        obtain ⟨v30, hv30, hf⟩ := g_s1 hf
        refine g_iald X S (by omega) (ceM_a (rfl : gma 1 = true)) hv30 dX10_film_56 ?_
        refine lv_iload_n hx hb dX10_film_57 rfl (lv_at hl 1 rfl) ?_
        refine lv_icmp_ge (tgt := 65) hx hb dX10_film_58 (by decide) (fun c31 => ?_) (fun c31 => ?_)
        · have hf := (if_pos c31).symm.trans hf
          refine lv_iconst (v := (0 : Int32)) hx hb dX10_film_65 (by decide) ?_
          cases hf
          exact J9 _ _ _ S (lv_sub hl [0, 1] rfl)
        · have hf := (if_neg c31).symm.trans hf
          refine lv_iconst (v := (1 : Int32)) hx hb dX10_film_61 (by decide) ?_
          refine lv_goto (tgt := 66) hx hb dX10_film_62 (by decide) ?_
          cases hf
          exact J9 _ _ _ S (lv_sub hl [0, 1] rfl)
    · have hf := (if_neg c6).symm.trans hf
      refine lv_iconst (v := (0 : Int32)) hx hb dX10_film_28 (by decide) ?_
      cases hf
      exact g_reti X S rfl dX10_film_29
  replace hf := hr3
  refine lv_if_eq (tgt := 17) hx hb dX10_film_10 (by decide) (fun c32 => ?_) (fun c32 => ?_)
  · have hf := (if_pos c32).symm.trans hf
    refine lv_iconst (v := (1 : Int32)) hx hb dX10_film_17 (by decide) ?_
    cases hf
    exact J4 _ _ _ S (lv_sub hl [0, 1] rfl)
  · have hf := (if_neg c32).symm.trans hf
    refine lv_iconst (v := (0 : Int32)) hx hb dX10_film_13 (by decide) ?_
    refine lv_goto (tgt := 18) hx hb dX10_film_14 (by decide) ?_
    cases hf
    exact J4 _ _ _ S (lv_sub hl [0, 1] rfl)

noncomputable def f_X10_maySet (σ : gSt) (a0 : Int32) (a1 : Int32) : Option (Int32) :=
  (if a0 = (0 : Int32) then (g_k1 (f_X10_in σ a1 (5 : Int32) (30 : Int32)) fun v2 => (g_k1 (gzb v2) fun v3 => some v3)) else (if a0 = (1 : Int32) then (g_k1 (f_X10_in σ a1 (0 : Int32) (12 : Int32)) fun v5 => (g_k1 (gzb v5) fun v6 => some v6)) else (if a0 = (2 : Int32) then (g_k1 (f_X10_in σ a1 (0 : Int32) (9 : Int32)) fun v8 => (g_k1 (gzb v8) fun v9 => some v9)) else (if a0 = (3 : Int32) then (g_k1 (f_X10_in σ a1 (0 : Int32) (25 : Int32)) fun v11 => (g_k1 (gzb v11) fun v12 => some v12)) else (if a0 = (4 : Int32) then (g_k1 (f_X10_in σ a1 (0 : Int32) (25 : Int32)) fun v14 => (g_k1 (gzb v14) fun v15 => some v15)) else (g_k1 (if a0 = (5 : Int32) then (g_k1 (f_X10_in σ a1 (5 : Int32) (24 : Int32)) fun v21 => (if v21 = 0 then some (0 : Int32) else some (1 : Int32))) else some (0 : Int32)) fun x16 => (g_k1 (gzb x16) fun v19 => some v19)))))))
set_option maxRecDepth 100000 in
set_option maxHeartbeats 4000000 in
theorem c_X10_maySet (l : Launch) {Γ : gG} {ad : Nat → Nat} {N : Nat} (hN : 8 ≤ N) {σ : gSt} {a0 : Int32} {a1 : Int32}  {r : Int32} (hf : f_X10_maySet σ a0 a1 = some r) : gMi l celM Γ ad N yX10_maySet cX10_maySet 2 (some .boolean) (gR 2 0 0) [.int a0, .int a1] σ r σ := by
  intro sz
  refine gOf (Qc := fun sz => gQci celM Γ ad N r σ sz) RX10 (by decide) rfl (by decide) (fun p e s m args below meth c H locs ls X S hl => ?_)
  have hl : lv_has ls 2 [(0, .int a0), (1, .int a1)] := hl
  have hx := X.1
  have hb := X.2.1
  unfold f_X10_maySet at hf
  refine lv_iload_n hx hb dX10_maySet_0 rfl (lv_at hl 0 rfl) ?_
  by_cases c1 : a0 = (0 : Int32)
  · have hf := (if_pos c1).symm.trans hf
    refine lv_tableIn (off := 35) (tgt := 36) hx hb dX10_maySet_1 (by rw [c1]; decide) (by rw [c1]; decide) (by rw [c1]; decide) (by decide) ?_
    refine lv_iload_n hx hb dX10_maySet_36 rfl (lv_at hl 1 rfl) ?_
    refine lv_iconst (v := (5 : Int32)) hx hb dX10_maySet_37 (by decide) ?_
    refine lv_bipush (v := (30 : Int32)) hx hb dX10_maySet_38 (by decide) ?_
    obtain ⟨v2, hv2, hf⟩ := g_s1 hf
    refine g_ki S (g_runS (rest := []) X S (c_X10_in l hN  hv2 _) csX10_in mlX10_48 rfl rfl hl.1 (by decide) ⟨⟨rfl, rfl⟩, ⟨Nat.le_of_ble_eq_true rfl, Nat.le_of_ble_eq_true rfl⟩, Nat.le_of_ble_eq_true rfl, Nat.le_of_ble_eq_true rfl⟩ dX10_maySet_40) (fun H locs S => ?_)
    obtain ⟨v3, hv3, hf⟩ := g_s1 hf
    obtain ⟨hnv3, rfl⟩ := gzb_some hv3
    cases hf
    exact g_reti X S hnv3 dX10_maySet_43
  replace hf := (if_neg c1).symm.trans hf
  by_cases c4 : a0 = (1 : Int32)
  · have hf := (if_pos c4).symm.trans hf
    refine lv_tableIn (off := 43) (tgt := 44) hx hb dX10_maySet_1 (by rw [c4]; decide) (by rw [c4]; decide) (by rw [c4]; decide) (by decide) ?_
    refine lv_iload_n hx hb dX10_maySet_44 rfl (lv_at hl 1 rfl) ?_
    refine lv_iconst (v := (0 : Int32)) hx hb dX10_maySet_45 (by decide) ?_
    refine lv_bipush (v := (12 : Int32)) hx hb dX10_maySet_46 (by decide) ?_
    obtain ⟨v5, hv5, hf⟩ := g_s1 hf
    refine g_ki S (g_runS (rest := []) X S (c_X10_in l hN  hv5 _) csX10_in mlX10_48 rfl rfl hl.1 (by decide) ⟨⟨rfl, rfl⟩, ⟨Nat.le_of_ble_eq_true rfl, Nat.le_of_ble_eq_true rfl⟩, Nat.le_of_ble_eq_true rfl, Nat.le_of_ble_eq_true rfl⟩ dX10_maySet_48) (fun H locs S => ?_)
    obtain ⟨v6, hv6, hf⟩ := g_s1 hf
    obtain ⟨hnv6, rfl⟩ := gzb_some hv6
    cases hf
    exact g_reti X S hnv6 dX10_maySet_51
  replace hf := (if_neg c4).symm.trans hf
  by_cases c7 : a0 = (2 : Int32)
  · have hf := (if_pos c7).symm.trans hf
    refine lv_tableIn (off := 51) (tgt := 52) hx hb dX10_maySet_1 (by rw [c7]; decide) (by rw [c7]; decide) (by rw [c7]; decide) (by decide) ?_
    refine lv_iload_n hx hb dX10_maySet_52 rfl (lv_at hl 1 rfl) ?_
    refine lv_iconst (v := (0 : Int32)) hx hb dX10_maySet_53 (by decide) ?_
    refine lv_bipush (v := (9 : Int32)) hx hb dX10_maySet_54 (by decide) ?_
    obtain ⟨v8, hv8, hf⟩ := g_s1 hf
    refine g_ki S (g_runS (rest := []) X S (c_X10_in l hN  hv8 _) csX10_in mlX10_48 rfl rfl hl.1 (by decide) ⟨⟨rfl, rfl⟩, ⟨Nat.le_of_ble_eq_true rfl, Nat.le_of_ble_eq_true rfl⟩, Nat.le_of_ble_eq_true rfl, Nat.le_of_ble_eq_true rfl⟩ dX10_maySet_56) (fun H locs S => ?_)
    obtain ⟨v9, hv9, hf⟩ := g_s1 hf
    obtain ⟨hnv9, rfl⟩ := gzb_some hv9
    cases hf
    exact g_reti X S hnv9 dX10_maySet_59
  replace hf := (if_neg c7).symm.trans hf
  by_cases c10 : a0 = (3 : Int32)
  · have hf := (if_pos c10).symm.trans hf
    refine lv_tableIn (off := 59) (tgt := 60) hx hb dX10_maySet_1 (by rw [c10]; decide) (by rw [c10]; decide) (by rw [c10]; decide) (by decide) ?_
    refine lv_iload_n hx hb dX10_maySet_60 rfl (lv_at hl 1 rfl) ?_
    refine lv_iconst (v := (0 : Int32)) hx hb dX10_maySet_61 (by decide) ?_
    refine lv_bipush (v := (25 : Int32)) hx hb dX10_maySet_62 (by decide) ?_
    obtain ⟨v11, hv11, hf⟩ := g_s1 hf
    refine g_ki S (g_runS (rest := []) X S (c_X10_in l hN  hv11 _) csX10_in mlX10_48 rfl rfl hl.1 (by decide) ⟨⟨rfl, rfl⟩, ⟨Nat.le_of_ble_eq_true rfl, Nat.le_of_ble_eq_true rfl⟩, Nat.le_of_ble_eq_true rfl, Nat.le_of_ble_eq_true rfl⟩ dX10_maySet_64) (fun H locs S => ?_)
    obtain ⟨v12, hv12, hf⟩ := g_s1 hf
    obtain ⟨hnv12, rfl⟩ := gzb_some hv12
    cases hf
    exact g_reti X S hnv12 dX10_maySet_67
  replace hf := (if_neg c10).symm.trans hf
  by_cases c13 : a0 = (4 : Int32)
  · have hf := (if_pos c13).symm.trans hf
    refine lv_tableIn (off := 59) (tgt := 60) hx hb dX10_maySet_1 (by rw [c13]; decide) (by rw [c13]; decide) (by rw [c13]; decide) (by decide) ?_
    refine lv_iload_n hx hb dX10_maySet_60 rfl (lv_at hl 1 rfl) ?_
    refine lv_iconst (v := (0 : Int32)) hx hb dX10_maySet_61 (by decide) ?_
    refine lv_bipush (v := (25 : Int32)) hx hb dX10_maySet_62 (by decide) ?_
    obtain ⟨v14, hv14, hf⟩ := g_s1 hf
    refine g_ki S (g_runS (rest := []) X S (c_X10_in l hN  hv14 _) csX10_in mlX10_48 rfl rfl hl.1 (by decide) ⟨⟨rfl, rfl⟩, ⟨Nat.le_of_ble_eq_true rfl, Nat.le_of_ble_eq_true rfl⟩, Nat.le_of_ble_eq_true rfl, Nat.le_of_ble_eq_true rfl⟩ dX10_maySet_64) (fun H locs S => ?_)
    obtain ⟨v15, hv15, hf⟩ := g_s1 hf
    obtain ⟨hnv15, rfl⟩ := gzb_some hv15
    cases hf
    exact g_reti X S hnv15 dX10_maySet_67
  replace hf := (if_neg c13).symm.trans hf
  refine lv_tableOut (tgt := 68) hx hb dX10_maySet_1 (g_swout0 (x := a0) (lo := 0) (n := 5) (fun j hj => by rcases (show j = 0 ∨ j = 1 ∨ j = 2 ∨ j = 3 ∨ j = 4 by omega) with rfl | rfl | rfl | rfl | rfl <;> (intro h9; first | exact c1 (Int32.toInt_inj.mp (h9.trans (by decide))) | exact c4 (Int32.toInt_inj.mp (h9.trans (by decide))) | exact c7 (Int32.toInt_inj.mp (h9.trans (by decide))) | exact c10 (Int32.toInt_inj.mp (h9.trans (by decide))) | exact c13 (Int32.toInt_inj.mp (h9.trans (by decide)))))) (by decide) ?_
  refine lv_iload_n hx hb dX10_maySet_68 rfl (lv_at hl 0 rfl) ?_
  refine lv_iconst (v := (5 : Int32)) hx hb dX10_maySet_69 (by decide) ?_
  obtain ⟨x16, hr17, hf⟩ := g_s1 hf
  have J18 : ∀ (H : Heap) (locs : List Loc) (ls : Array Slot), gS celM Γ ad N σ s H locs → lv_has ls 2 [] → W p l e (gR 2 0 0) s m args below meth c H locs 0 0 (gQi celM Γ ad N r σ below args s) (F0 m 88 ls [.int x16]) := by
    intro H locs ls S hl
    obtain ⟨v19, hv19, hf⟩ := g_s1 hf
    obtain ⟨hnv19, rfl⟩ := gzb_some hv19
    cases hf
    exact g_reti X S hnv19 dX10_maySet_88
  replace hf := hr17
  refine lv_icmp_ne (tgt := 87) hx hb dX10_maySet_70 (by decide) (fun c20 => ?_) (fun c20 => ?_)
  · have hf := (if_neg c20).symm.trans hf
    refine lv_iconst (v := (0 : Int32)) hx hb dX10_maySet_87 (by decide) ?_
    cases hf
    exact J18 _ _ _ S (lv_sub hl [] rfl)
  · have hf := (if_pos c20).symm.trans hf
    refine lv_iload_n hx hb dX10_maySet_73 rfl (lv_at hl 1 rfl) ?_
    refine lv_iconst (v := (5 : Int32)) hx hb dX10_maySet_74 (by decide) ?_
    refine lv_bipush (v := (24 : Int32)) hx hb dX10_maySet_75 (by decide) ?_
    obtain ⟨v21, hv21, hf⟩ := g_s1 hf
    refine g_ki S (g_runS (rest := []) X S (c_X10_in l hN  hv21 _) csX10_in mlX10_48 rfl rfl hl.1 (by decide) ⟨⟨rfl, rfl⟩, ⟨Nat.le_of_ble_eq_true rfl, Nat.le_of_ble_eq_true rfl⟩, Nat.le_of_ble_eq_true rfl, Nat.le_of_ble_eq_true rfl⟩ dX10_maySet_77) (fun H locs S => ?_)
    refine lv_if_eq (tgt := 87) hx hb dX10_maySet_80 (by decide) (fun c22 => ?_) (fun c22 => ?_)
    · have hf := (if_pos c22).symm.trans hf
      refine lv_iconst (v := (0 : Int32)) hx hb dX10_maySet_87 (by decide) ?_
      cases hf
      exact J18 _ _ _ S (lv_sub hl [] rfl)
    · have hf := (if_neg c22).symm.trans hf
      refine lv_iconst (v := (1 : Int32)) hx hb dX10_maySet_83 (by decide) ?_
      refine lv_goto (tgt := 88) hx hb dX10_maySet_84 (by decide) ?_
      cases hf
      exact J18 _ _ _ S (lv_sub hl [] rfl)

noncomputable def f_X10_set (σ : gSt) (a0 : Int32) (a1 : Int32) : Option (Int32 × gSt) :=
  (g_k1 (f_X10_maySet σ a0 a1) fun v1 => (g_k1 (if v1 = 0 then some (1 : Int32) else some (0 : Int32)) fun x2 => (g_k1 (gset σ 0 10 x2) fun σ5 => (if (σ5 0 10) ≤ 0 then (g_k1 (f_X10_changes σ5 1) fun σ7 => (g_k1 (gald σ7 1 926 ((1 : Int32) + a0)) fun v8 => (g_k1 (gast σ7 1 926 ((1 : Int32) + a0) a1) fun σ9 => some (v8, σ9)))) else some ((0 : Int32), σ5)))))
set_option maxRecDepth 100000 in
set_option maxHeartbeats 4000000 in
theorem c_X10_set (l : Launch) {Γ : gG} {ad : Nat → Nat} {N : Nat} (hN : 8 ≤ N) {σ : gSt} {a0 : Int32} {a1 : Int32}  {r : Int32} {σ' : gSt} (hf : f_X10_set σ a0 a1 = some (r, σ')) : gMi l celM Γ ad N yX10_set cX10_set 4 (some .int) (gR 3 0 0) [.ref (ad 0), .int a0, .int a1] σ r σ' := by
  intro sz
  refine gOf (Qc := fun sz => gQci celM Γ ad N r σ' sz) RX10 (by decide) rfl (by decide) (fun p e s m args below meth c H locs ls X S hl => ?_)
  have hl : lv_has ls 4 [(0, .ref (ad 0)), (1, .int a0), (2, .int a1)] := hl
  have hx := X.1
  have hb := X.2.1
  unfold f_X10_set at hf
  refine lv_aload_n hx hb dX10_set_0 rfl (lv_at hl 0 rfl) ?_
  refine lv_iload_n hx hb dX10_set_1 rfl (lv_at hl 1 rfl) ?_
  refine lv_iload_n hx hb dX10_set_2 rfl (lv_at hl 2 rfl) ?_
  obtain ⟨v1, hv1, hf⟩ := g_s1 hf
  refine g_ki S (g_runS (rest := [.ref (ad 0)]) X S (c_X10_maySet l hN  hv1 _) csX10_maySet mlX10_82 rfl rfl hl.1 (by decide) ⟨⟨rfl, rfl⟩, ⟨Nat.le_of_ble_eq_true rfl, Nat.le_of_ble_eq_true rfl⟩, Nat.le_of_ble_eq_true rfl, Nat.le_of_ble_eq_true rfl⟩ dX10_set_3) (fun H locs S => ?_)
  obtain ⟨x2, hr3, hf⟩ := g_s1 hf
  have J4 : ∀ (H : Heap) (locs : List Loc) (ls : Array Slot), gS celM Γ ad N σ s H locs → lv_has ls 4 [(0, .ref (ad 0)), (1, .int a0), (2, .int a1)] → W p l e (gR 3 0 0) s m args below meth c H locs 0 0 (gQi celM Γ ad N r σ' below args s) (F0 m 14 ls [.int x2, .ref (ad 0)]) := by
    intro H locs ls S hl
    obtain ⟨σ5, hσ5, hf⟩ := g_s1 hf
    refine pfX10_35 X S hN hσ5 dX10_set_14 (fun H locs S => ?_)
    refine lv_aload_n hx hb dX10_set_17 rfl (lv_at hl 0 rfl) ?_
    refine gfX10_35 X S hN dX10_set_18 ?_
    refine lv_if_le (tgt := 26) hx hb dX10_set_21 (by decide) (fun c6 => ?_) (fun c6 => ?_)
    · have hf := (if_pos c6).symm.trans hf
      refine lv_aload_n hx hb dX10_set_26 rfl (lv_at hl 0 rfl) ?_
      refine lv_aload_n hx hb dX10_set_27 rfl (lv_at hl 0 rfl) ?_
      refine gfX10_7 X S hN dX10_set_28 ?_
      obtain ⟨σ7, hσ7, hf⟩ := g_s1 hf
      refine g_kv S (g_runV (rest := []) X S (c_X10_changes l hN (by rfl : gma 1 = true) hσ7 _) cvX10_changes mlX10_78 (by omega) (ceM_10 _) rfl rfl rfl hl.1 (by decide) ⟨⟨rfl, rfl⟩, ⟨Nat.le_of_ble_eq_true rfl, Nat.le_of_ble_eq_true rfl⟩, Nat.le_of_ble_eq_true rfl, Nat.le_of_ble_eq_true rfl⟩ dX10_set_31) (fun H locs S => ?_)
      refine lv_aload_n hx hb dX10_set_34 rfl (lv_at hl 0 rfl) ?_
      refine gfX10_7 X S hN dX10_set_35 ?_
      refine lv_iconst (v := (1 : Int32)) hx hb dX10_set_38 (by decide) ?_
      refine lv_iload_n hx hb dX10_set_39 rfl (lv_at hl 1 rfl) ?_
      refine lv_iadd hx hb dX10_set_40 ?_
      obtain ⟨v8, hv8, hf⟩ := g_s1 hf
      refine g_iald X S (by omega) (ceM_a (rfl : gma 1 = true)) hv8 dX10_set_41 ?_
      refine lv_istore_n (lv' := [(3, .int v8), (0, .ref (ad 0)), (1, .int a0), (2, .int a1)]) hx hb dX10_set_42 rfl hl (by decide) rfl (fun ls hl => ?_)
      refine lv_aload_n hx hb dX10_set_43 rfl (lv_at hl 1 rfl) ?_
      refine gfX10_7 X S hN dX10_set_44 ?_
      refine lv_iconst (v := (1 : Int32)) hx hb dX10_set_47 (by decide) ?_
      refine lv_iload_n hx hb dX10_set_48 rfl (lv_at hl 2 rfl) ?_
      refine lv_iadd hx hb dX10_set_49 ?_
      refine lv_iload_n hx hb dX10_set_50 rfl (lv_at hl 3 rfl) ?_
      obtain ⟨σ9, hσ9, hf⟩ := g_s1 hf
      refine g_iast X S (by omega) (ceM_a (rfl : gma 1 = true)) hσ9 dX10_set_51 (fun H locs S => ?_)
      refine lv_iload_n hx hb dX10_set_52 rfl (lv_at hl 0 rfl) ?_
      cases hf
      exact g_reti X S rfl dX10_set_53
    · have hf := (if_neg c6).symm.trans hf
      refine lv_iconst (v := (0 : Int32)) hx hb dX10_set_24 (by decide) ?_
      cases hf
      exact g_reti X S rfl dX10_set_25
  replace hf := hr3
  refine lv_if_eq (tgt := 13) hx hb dX10_set_6 (by decide) (fun c10 => ?_) (fun c10 => ?_)
  · have hf := (if_pos c10).symm.trans hf
    refine lv_iconst (v := (1 : Int32)) hx hb dX10_set_13 (by decide) ?_
    cases hf
    exact J4 _ _ _ S (lv_sub hl [0, 1, 2] rfl)
  · have hf := (if_neg c10).symm.trans hf
    refine lv_iconst (v := (0 : Int32)) hx hb dX10_set_9 (by decide) ?_
    refine lv_goto (tgt := 14) hx hb dX10_set_10 (by decide) ?_
    cases hf
    exact J4 _ _ _ S (lv_sub hl [0, 1, 2] rfl)

noncomputable def f_X10_isCut_l1 (σ : gSt) (a0 : Int32) : Nat → Int32 → Option (Int32)
  | 0, _ => none
  | n + 1, i1 => (if (σ 1 7) ≤ i1 then some (0 : Int32) else (g_k1 (gald σ 1 926 ((8 : Int32) + i1)) fun v3 => (if v3 = a0 then some (1 : Int32) else (f_X10_isCut_l1 σ a0 n (i1 + 1)))))
set_option maxRecDepth 100000 in
set_option maxHeartbeats 4000000 in
theorem w_X10_isCut_l1 {l : Launch} {Γ : gG} {ad : Nat → Nat} {N : Nat} {p : Program} {e : Env} {s : State} {m : MethodId} {args : Array Value} {below : List Frame} {meth : Method} {c : Code} (hN : 8 ≤ N) (X : gX celM Γ ad N RX10 cX10_isCut 3 (some .boolean) p s m args meth c) {σ : gSt} {a0 : Int32}  : ∀ (n : Nat) (i1 : Int32) (r : Int32), f_X10_isCut_l1 σ a0 n i1 = some r → ∀ (H : Heap) (locs : List Loc) (ls : Array Slot), gS celM Γ ad N σ s H locs → lv_has ls 3 [(2, .int i1), (0, .ref (ad 0)), (1, .int a0)] → W p l e (gR 1 0 0) s m args below meth c H locs 0 0 (gQi celM Γ ad N r σ below args s) (F0 m 2 ls []) := by
  have hx := X.1
  have hb := X.2.1
  intro n
  induction n with
  | zero =>
    intro i1 r hf
    cases hf
  | succ n ih =>
    intro i1 r hf H locs ls S hl
    rw [f_X10_isCut_l1] at hf
    refine lv_iload_n hx hb dX10_isCut_2 rfl (lv_at hl 0 rfl) ?_
    refine lv_aload_n hx hb dX10_isCut_3 rfl (lv_at hl 1 rfl) ?_
    refine gfX10_7 X S hN dX10_isCut_4 ?_
    refine lv_bipush (v := (7 : Int32)) hx hb dX10_isCut_7 (by decide) ?_
    refine g_ialdC X S (by omega) (ceM_a (rfl : gma 1 = true)) 7 (by decide) (by decide) dX10_isCut_9 ?_
    refine lv_icmp_ge (tgt := 34) hx hb dX10_isCut_10 (by decide) (fun c2 => ?_) (fun c2 => ?_)
    · have hf := (if_pos c2).symm.trans hf
      refine lv_iconst (v := (0 : Int32)) hx hb dX10_isCut_34 (by decide) ?_
      cases hf
      exact g_reti X S (by decide +kernel) dX10_isCut_35
    · have hf := (if_neg c2).symm.trans hf
      refine lv_aload_n hx hb dX10_isCut_13 rfl (lv_at hl 1 rfl) ?_
      refine gfX10_7 X S hN dX10_isCut_14 ?_
      refine lv_bipush (v := (8 : Int32)) hx hb dX10_isCut_17 (by decide) ?_
      refine lv_iload_n hx hb dX10_isCut_19 rfl (lv_at hl 0 rfl) ?_
      refine lv_iadd hx hb dX10_isCut_20 ?_
      obtain ⟨v3, hv3, hf⟩ := g_s1 hf
      refine g_iald X S (by omega) (ceM_a (rfl : gma 1 = true)) hv3 dX10_isCut_21 ?_
      refine lv_iload_n hx hb dX10_isCut_22 rfl (lv_at hl 2 rfl) ?_
      refine lv_icmp_ne (tgt := 28) hx hb dX10_isCut_23 (by decide) (fun c4 => ?_) (fun c4 => ?_)
      · have hf := (if_neg c4).symm.trans hf
        refine lv_iinc (v := (i1 + 1)) (lv' := [(2, .int (i1 + 1)), (0, .ref (ad 0)), (1, .int a0)]) hx hb dX10_isCut_28 hl (k := 0) rfl rfl (by decide) rfl (fun ls hl => ?_)
        refine lv_goto (tgt := 2) hx hb dX10_isCut_31 (by decide) ?_
        exact ih _ _  hf _ _ _ S (lv_sub hl [0, 1, 2] rfl)
      · have hf := (if_pos c4).symm.trans hf
        refine lv_iconst (v := (1 : Int32)) hx hb dX10_isCut_26 (by decide) ?_
        cases hf
        exact g_reti X S (by decide +kernel) dX10_isCut_27
noncomputable def f_X10_isCut (σ : gSt) (a0 : Int32) : Option (Int32) :=
  (f_X10_isCut_l1 σ a0 FU (0 : Int32))
set_option maxRecDepth 100000 in
set_option maxHeartbeats 4000000 in
theorem c_X10_isCut (l : Launch) {Γ : gG} {ad : Nat → Nat} {N : Nat} (hN : 8 ≤ N) {σ : gSt} {a0 : Int32}  {r : Int32} (hf : f_X10_isCut σ a0 = some r) : gMi l celM Γ ad N yX10_isCut cX10_isCut 3 (some .boolean) (gR 1 0 0) [.ref (ad 0), .int a0] σ r σ := by
  intro sz
  refine gOf (Qc := fun sz => gQci celM Γ ad N r σ sz) RX10 (by decide) rfl (by decide) (fun p e s m args below meth c H locs ls X S hl => ?_)
  have hl : lv_has ls 3 [(2, .int (0 : Int32)), (0, .ref (ad 0)), (1, .int a0)] := hl
  have hx := X.1
  have hb := X.2.1
  unfold f_X10_isCut at hf
  refine lv_iconst (v := (0 : Int32)) hx hb dX10_isCut_0 (by decide) ?_
  refine lv_istore_n (lv' := [(2, .int (0 : Int32)), (0, .ref (ad 0)), (1, .int a0)]) hx hb dX10_isCut_1 rfl hl (by decide) rfl (fun ls hl => ?_)
  exact w_X10_isCut_l1 hN X  FU _ _  hf _ _ _ S (lv_sub hl [0, 1, 2] rfl)

noncomputable def f_X10_againstCut (σ : gSt) (a0 : Int32) (a1 : Int32) : Option (Int32) :=
  (g_k1 (f_X10_in σ a0 (1 : Int32) ((σ 1 0) - (1 : Int32))) fun v1 => (g_k1 (if v1 = 0 then some (1 : Int32) else (if a1 = 0 then some (0 : Int32) else (if (σ 1 7) = (20 : Int32) then (g_k1 (f_X10_isCut σ a0) fun v8 => (if v8 = 0 then some (8 : Int32) else some (0 : Int32))) else some (0 : Int32)))) fun x2 => some x2))
set_option maxRecDepth 100000 in
set_option maxHeartbeats 4000000 in
theorem c_X10_againstCut (l : Launch) {Γ : gG} {ad : Nat → Nat} {N : Nat} (hN : 8 ≤ N) {σ : gSt} {a0 : Int32} {a1 : Int32}  {r : Int32} (hf : f_X10_againstCut σ a0 a1 = some r) : gMi l celM Γ ad N yX10_againstCut cX10_againstCut 3 (some .int) (gR 2 0 0) [.ref (ad 0), .int a0, .int a1] σ r σ := by
  intro sz
  refine gOf (Qc := fun sz => gQci celM Γ ad N r σ sz) RX10 (by decide) rfl (by decide) (fun p e s m args below meth c H locs ls X S hl => ?_)
  have hl : lv_has ls 3 [(0, .ref (ad 0)), (1, .int a0), (2, .int a1)] := hl
  have hx := X.1
  have hb := X.2.1
  unfold f_X10_againstCut at hf
  refine lv_iload_n hx hb dX10_againstCut_0 rfl (lv_at hl 1 rfl) ?_
  refine lv_iconst (v := (1 : Int32)) hx hb dX10_againstCut_1 (by decide) ?_
  refine lv_aload_n hx hb dX10_againstCut_2 rfl (lv_at hl 0 rfl) ?_
  refine gfX10_7 X S hN dX10_againstCut_3 ?_
  refine lv_iconst (v := (0 : Int32)) hx hb dX10_againstCut_6 (by decide) ?_
  refine g_ialdC X S (by omega) (ceM_a (rfl : gma 1 = true)) 0 (by decide) (by decide) dX10_againstCut_7 ?_
  refine lv_iconst (v := (1 : Int32)) hx hb dX10_againstCut_8 (by decide) ?_
  refine lv_isub hx hb dX10_againstCut_9 ?_
  obtain ⟨v1, hv1, hf⟩ := g_s1 hf
  refine g_ki S (g_runS (rest := []) X S (c_X10_in l hN  hv1 _) csX10_in mlX10_48 rfl rfl hl.1 (by decide) ⟨⟨rfl, rfl⟩, ⟨Nat.le_of_ble_eq_true rfl, Nat.le_of_ble_eq_true rfl⟩, Nat.le_of_ble_eq_true rfl, Nat.le_of_ble_eq_true rfl⟩ dX10_againstCut_10) (fun H locs S => ?_)
  obtain ⟨x2, hr3, hf⟩ := g_s1 hf
  have J4 : ∀ (H : Heap) (locs : List Loc) (ls : Array Slot), gS celM Γ ad N σ s H locs → lv_has ls 3 [] → W p l e (gR 2 0 0) s m args below meth c H locs 0 0 (gQi celM Γ ad N r σ below args s) (F0 m 50 ls [.int x2]) := by
    intro H locs ls S hl
    cases hf
    exact g_reti X S rfl dX10_againstCut_50
  replace hf := hr3
  refine lv_if_ne (tgt := 20) hx hb dX10_againstCut_13 (by decide) (fun c5 => ?_) (fun c5 => ?_)
  · have hf := (if_neg c5).symm.trans hf
    refine lv_iload_n hx hb dX10_againstCut_20 rfl (lv_at hl 2 rfl) ?_
    refine lv_if_eq (tgt := 49) hx hb dX10_againstCut_21 (by decide) (fun c6 => ?_) (fun c6 => ?_)
    · have hf := (if_pos c6).symm.trans hf
      refine lv_iconst (v := (0 : Int32)) hx hb dX10_againstCut_49 (by decide) ?_
      cases hf
      exact J4 _ _ _ S (lv_sub hl [] rfl)
    · have hf := (if_neg c6).symm.trans hf
      refine lv_aload_n hx hb dX10_againstCut_24 rfl (lv_at hl 0 rfl) ?_
      refine gfX10_7 X S hN dX10_againstCut_25 ?_
      refine lv_bipush (v := (7 : Int32)) hx hb dX10_againstCut_28 (by decide) ?_
      refine g_ialdC X S (by omega) (ceM_a (rfl : gma 1 = true)) 7 (by decide) (by decide) dX10_againstCut_30 ?_
      refine lv_bipush (v := (20 : Int32)) hx hb dX10_againstCut_31 (by decide) ?_
      refine lv_icmp_ne (tgt := 49) hx hb dX10_againstCut_33 (by decide) (fun c7 => ?_) (fun c7 => ?_)
      · have hf := (if_neg c7).symm.trans hf
        refine lv_iconst (v := (0 : Int32)) hx hb dX10_againstCut_49 (by decide) ?_
        cases hf
        exact J4 _ _ _ S (lv_sub hl [] rfl)
      · have hf := (if_pos c7).symm.trans hf
        refine lv_aload_n hx hb dX10_againstCut_36 rfl (lv_at hl 0 rfl) ?_
        refine lv_iload_n hx hb dX10_againstCut_37 rfl (lv_at hl 1 rfl) ?_
        obtain ⟨v8, hv8, hf⟩ := g_s1 hf
        refine g_ki S (g_runV (rest := []) X S (c_X10_isCut l hN  hv8 _) cvX10_isCut mlX10_86 (by omega) (ceM_10 _) rfl rfl rfl hl.1 (by decide) ⟨⟨rfl, rfl⟩, ⟨Nat.le_of_ble_eq_true rfl, Nat.le_of_ble_eq_true rfl⟩, Nat.le_of_ble_eq_true rfl, Nat.le_of_ble_eq_true rfl⟩ dX10_againstCut_38) (fun H locs S => ?_)
        refine lv_if_ne (tgt := 49) hx hb dX10_againstCut_41 (by decide) (fun c9 => ?_) (fun c9 => ?_)
        · have hf := (if_neg c9).symm.trans hf
          refine lv_iconst (v := (0 : Int32)) hx hb dX10_againstCut_49 (by decide) ?_
          cases hf
          exact J4 _ _ _ S (lv_sub hl [] rfl)
        · have hf := (if_pos c9).symm.trans hf
          refine lv_bipush (v := (8 : Int32)) hx hb dX10_againstCut_44 (by decide) ?_
          refine lv_goto (tgt := 50) hx hb dX10_againstCut_46 (by decide) ?_
          cases hf
          exact J4 _ _ _ S (lv_sub hl [] rfl)
  · have hf := (if_pos c5).symm.trans hf
    refine lv_iconst (v := (1 : Int32)) hx hb dX10_againstCut_16 (by decide) ?_
    refine lv_goto (tgt := 50) hx hb dX10_againstCut_17 (by decide) ?_
    cases hf
    exact J4 _ _ _ S (lv_sub hl [] rfl)

noncomputable def f_X10_cuts_l1 (σ : gSt) (a0 : Int32) : Nat → Int32 → Option (Int32)
  | 0, _ => none
  | n + 1, i4 => (g_k1 (gald σ 1 926 ((8 : Int32) + i4)) fun v6 => (if v6 = a0 then some i4 else (f_X10_cuts_l1 σ a0 n (i4 + 1))))
set_option maxRecDepth 100000 in
set_option maxHeartbeats 4000000 in
theorem w_X10_cuts_l1 {l : Launch} {Γ : gG} {ad : Nat → Nat} {N : Nat} {p : Program} {e : Env} {s : State} {m : MethodId} {args : Array Value} {below : List Frame} {meth : Method} {c : Code} {Q : State → Prop} (hN : 8 ≤ N) (X : gX celM Γ ad N RX10 cX10_cuts 4 none p s m args meth c) {σ : gSt} {a0 : Int32}  : ∀ (n : Nat) (i4 : Int32) (r5 : Int32), f_X10_cuts_l1 σ a0 n i4 = some r5 → (∀ (H : Heap) (locs : List Loc) (ls : Array Slot), gS celM Γ ad N σ s H locs → lv_has ls 4 [(3, .int r5), (0, .ref (ad 0))] → W p l e (gR 2 0 0) s m args below meth c H locs 0 0 (Q) (F0 m 110 ls [])) → ∀ (H : Heap) (locs : List Loc) (ls : Array Slot), gS celM Γ ad N σ s H locs → lv_has ls 4 [(3, .int i4), (0, .ref (ad 0)), (1, .int a0)] → W p l e (gR 2 0 0) s m args below meth c H locs 0 0 (Q) (F0 m 91 ls []) := by
  have hx := X.1
  have hb := X.2.1
  intro n
  induction n with
  | zero =>
    intro i4 r5 hf
    cases hf
  | succ n ih =>
    intro i4 r5 hf J H locs ls S hl
    rw [f_X10_cuts_l1] at hf
    refine lv_aload_n hx hb dX10_cuts_91 rfl (lv_at hl 1 rfl) ?_
    refine gfX10_7 X S hN dX10_cuts_92 ?_
    refine lv_bipush (v := (8 : Int32)) hx hb dX10_cuts_95 (by decide) ?_
    refine lv_iload_n hx hb dX10_cuts_97 rfl (lv_at hl 0 rfl) ?_
    refine lv_iadd hx hb dX10_cuts_98 ?_
    obtain ⟨v6, hv6, hf⟩ := g_s1 hf
    refine g_iald X S (by omega) (ceM_a (rfl : gma 1 = true)) hv6 dX10_cuts_99 ?_
    refine lv_iload_n hx hb dX10_cuts_100 rfl (lv_at hl 2 rfl) ?_
    refine lv_icmp_eq (tgt := 110) hx hb dX10_cuts_101 (by decide) (fun c7 => ?_) (fun c7 => ?_)
    · have hf := (if_pos c7).symm.trans hf
      cases hf
      exact J _ _ _ S (lv_sub hl [0, 1] rfl)
    · have hf := (if_neg c7).symm.trans hf
      refine lv_iinc (v := (i4 + 1)) (lv' := [(3, .int (i4 + 1)), (0, .ref (ad 0)), (1, .int a0)]) hx hb dX10_cuts_104 hl (k := 0) rfl rfl (by decide) rfl (fun ls hl => ?_)
      refine lv_goto (tgt := 91) hx hb dX10_cuts_107 (by decide) ?_
      exact ih _ _  hf J _ _ _ S (lv_sub hl [0, 1, 2] rfl)
noncomputable def f_X10_cuts_l2 (σ9 : gSt) : Nat → Int32 → gSt → Option (gSt)
  | 0, _, _ => none
  | n + 1, i10, σ11 => (if (σ11 1 7) ≤ i10 then some σ11 else (g_k1 (gald σ11 1 926 (((8 : Int32) + i10) + (1 : Int32))) fun v14 => (g_k1 (gast σ11 1 926 ((8 : Int32) + i10) v14) fun σ15 => (f_X10_cuts_l2 σ9 n (i10 + 1) σ15))))
set_option maxRecDepth 100000 in
set_option maxHeartbeats 4000000 in
theorem w_X10_cuts_l2 {l : Launch} {Γ : gG} {ad : Nat → Nat} {N : Nat} {p : Program} {e : Env} {s : State} {m : MethodId} {args : Array Value} {below : List Frame} {meth : Method} {c : Code} {Q : State → Prop} (hN : 8 ≤ N) (X : gX celM Γ ad N RX10 cX10_cuts 4 none p s m args meth c) {σ9 : gSt}  : ∀ (n : Nat) (i10 : Int32) (σ11 : gSt) (σ12 : gSt), f_X10_cuts_l2 σ9 n i10 σ11 = some σ12 → (∀ (H : Heap) (locs : List Loc) (ls : Array Slot), gS celM Γ ad N σ12 s H locs → lv_has ls 4 [] → W p l e (gR 2 0 0) s m args below meth c H locs 0 0 (Q) (F0 m 158 ls [])) → ∀ (H : Heap) (locs : List Loc) (ls : Array Slot), gS celM Γ ad N σ11 s H locs → lv_has ls 4 [(3, .int i10), (0, .ref (ad 0))] → W p l e (gR 2 0 0) s m args below meth c H locs 0 0 (Q) (F0 m 121 ls []) := by
  have hx := X.1
  have hb := X.2.1
  intro n
  induction n with
  | zero =>
    intro i10 σ11 σ12 hf
    cases hf
  | succ n ih =>
    intro i10 σ11 σ12 hf J H locs ls S hl
    rw [f_X10_cuts_l2] at hf
    refine lv_iload_n hx hb dX10_cuts_121 rfl (lv_at hl 0 rfl) ?_
    refine lv_aload_n hx hb dX10_cuts_122 rfl (lv_at hl 1 rfl) ?_
    refine gfX10_7 X S hN dX10_cuts_123 ?_
    refine lv_bipush (v := (7 : Int32)) hx hb dX10_cuts_126 (by decide) ?_
    refine g_ialdC X S (by omega) (ceM_a (rfl : gma 1 = true)) 7 (by decide) (by decide) dX10_cuts_128 ?_
    refine lv_icmp_ge (tgt := 158) hx hb dX10_cuts_129 (by decide) (fun c13 => ?_) (fun c13 => ?_)
    · have hf := (if_pos c13).symm.trans hf
      cases hf
      exact J _ _ _ S (lv_sub hl [] rfl)
    · have hf := (if_neg c13).symm.trans hf
      refine lv_aload_n hx hb dX10_cuts_132 rfl (lv_at hl 1 rfl) ?_
      refine gfX10_7 X S hN dX10_cuts_133 ?_
      refine lv_bipush (v := (8 : Int32)) hx hb dX10_cuts_136 (by decide) ?_
      refine lv_iload_n hx hb dX10_cuts_138 rfl (lv_at hl 0 rfl) ?_
      refine lv_iadd hx hb dX10_cuts_139 ?_
      refine lv_aload_n hx hb dX10_cuts_140 rfl (lv_at hl 1 rfl) ?_
      refine gfX10_7 X S hN dX10_cuts_141 ?_
      refine lv_bipush (v := (8 : Int32)) hx hb dX10_cuts_144 (by decide) ?_
      refine lv_iload_n hx hb dX10_cuts_146 rfl (lv_at hl 0 rfl) ?_
      refine lv_iadd hx hb dX10_cuts_147 ?_
      refine lv_iconst (v := (1 : Int32)) hx hb dX10_cuts_148 (by decide) ?_
      refine lv_iadd hx hb dX10_cuts_149 ?_
      obtain ⟨v14, hv14, hf⟩ := g_s1 hf
      refine g_iald X S (by omega) (ceM_a (rfl : gma 1 = true)) hv14 dX10_cuts_150 ?_
      obtain ⟨σ15, hσ15, hf⟩ := g_s1 hf
      refine g_iast X S (by omega) (ceM_a (rfl : gma 1 = true)) hσ15 dX10_cuts_151 (fun H locs S => ?_)
      refine lv_iinc (v := (i10 + 1)) (lv' := [(3, .int (i10 + 1)), (0, .ref (ad 0))]) hx hb dX10_cuts_152 hl (k := 0) rfl rfl (by decide) rfl (fun ls hl => ?_)
      refine lv_goto (tgt := 121) hx hb dX10_cuts_155 (by decide) ?_
      exact ih _ _ _  hf J _ _ _ S (lv_sub hl [0, 1] rfl)
noncomputable def f_X10_cuts_l3 (σ : gSt) (a0 : Int32) : Nat → Int32 → gSt → Option (Int32 × gSt)
  | 0, _, _ => none
  | n + 1, i17, σ18 => (if i17 ≤ 0 then some (i17, σ18) else (g_k1 (gald σ18 1 926 (((8 : Int32) + i17) - (1 : Int32))) fun v22 => (if v22 ≤ a0 then some (i17, σ18) else (g_k1 (gald σ18 1 926 (((8 : Int32) + i17) - (1 : Int32))) fun v24 => (g_k1 (gast σ18 1 926 ((8 : Int32) + i17) v24) fun σ25 => (f_X10_cuts_l3 σ a0 n (i17 + (-1)) σ25))))))
set_option maxRecDepth 100000 in
set_option maxHeartbeats 4000000 in
theorem w_X10_cuts_l3 {l : Launch} {Γ : gG} {ad : Nat → Nat} {N : Nat} {p : Program} {e : Env} {s : State} {m : MethodId} {args : Array Value} {below : List Frame} {meth : Method} {c : Code} {Q : State → Prop} (hN : 8 ≤ N) (X : gX celM Γ ad N RX10 cX10_cuts 4 none p s m args meth c) {σ : gSt} {a0 : Int32}  : ∀ (n : Nat) (i17 : Int32) (σ18 : gSt) (r19 : Int32) (σ20 : gSt), f_X10_cuts_l3 σ a0 n i17 σ18 = some (r19, σ20) → (∀ (H : Heap) (locs : List Loc) (ls : Array Slot), gS celM Γ ad N σ20 s H locs → lv_has ls 4 [(3, .int r19), (0, .ref (ad 0)), (1, .int a0)] → W p l e (gR 2 0 0) s m args below meth c H locs 0 0 (Q) (F0 m 67 ls [])) → ∀ (H : Heap) (locs : List Loc) (ls : Array Slot), gS celM Γ ad N σ18 s H locs → lv_has ls 4 [(3, .int i17), (0, .ref (ad 0)), (1, .int a0)] → W p l e (gR 2 0 0) s m args below meth c H locs 0 0 (Q) (F0 m 22 ls []) := by
  have hx := X.1
  have hb := X.2.1
  intro n
  induction n with
  | zero =>
    intro i17 σ18 r19 σ20 hf
    cases hf
  | succ n ih =>
    intro i17 σ18 r19 σ20 hf J H locs ls S hl
    rw [f_X10_cuts_l3] at hf
    refine lv_iload_n hx hb dX10_cuts_22 rfl (lv_at hl 0 rfl) ?_
    refine lv_if_le (tgt := 67) hx hb dX10_cuts_23 (by decide) (fun c21 => ?_) (fun c21 => ?_)
    · have hf := (if_pos c21).symm.trans hf
      cases hf
      exact J _ _ _ S (lv_sub hl [0, 1, 2] rfl)
    · have hf := (if_neg c21).symm.trans hf
      refine lv_aload_n hx hb dX10_cuts_26 rfl (lv_at hl 1 rfl) ?_
      refine gfX10_7 X S hN dX10_cuts_27 ?_
      refine lv_bipush (v := (8 : Int32)) hx hb dX10_cuts_30 (by decide) ?_
      refine lv_iload_n hx hb dX10_cuts_32 rfl (lv_at hl 0 rfl) ?_
      refine lv_iadd hx hb dX10_cuts_33 ?_
      refine lv_iconst (v := (1 : Int32)) hx hb dX10_cuts_34 (by decide) ?_
      refine lv_isub hx hb dX10_cuts_35 ?_
      obtain ⟨v22, hv22, hf⟩ := g_s1 hf
      refine g_iald X S (by omega) (ceM_a (rfl : gma 1 = true)) hv22 dX10_cuts_36 ?_
      refine lv_iload_n hx hb dX10_cuts_37 rfl (lv_at hl 2 rfl) ?_
      refine lv_icmp_le (tgt := 67) hx hb dX10_cuts_38 (by decide) (fun c23 => ?_) (fun c23 => ?_)
      · have hf := (if_pos c23).symm.trans hf
        cases hf
        exact J _ _ _ S (lv_sub hl [0, 1, 2] rfl)
      · have hf := (if_neg c23).symm.trans hf
        refine lv_aload_n hx hb dX10_cuts_41 rfl (lv_at hl 1 rfl) ?_
        refine gfX10_7 X S hN dX10_cuts_42 ?_
        refine lv_bipush (v := (8 : Int32)) hx hb dX10_cuts_45 (by decide) ?_
        refine lv_iload_n hx hb dX10_cuts_47 rfl (lv_at hl 0 rfl) ?_
        refine lv_iadd hx hb dX10_cuts_48 ?_
        refine lv_aload_n hx hb dX10_cuts_49 rfl (lv_at hl 1 rfl) ?_
        refine gfX10_7 X S hN dX10_cuts_50 ?_
        refine lv_bipush (v := (8 : Int32)) hx hb dX10_cuts_53 (by decide) ?_
        refine lv_iload_n hx hb dX10_cuts_55 rfl (lv_at hl 0 rfl) ?_
        refine lv_iadd hx hb dX10_cuts_56 ?_
        refine lv_iconst (v := (1 : Int32)) hx hb dX10_cuts_57 (by decide) ?_
        refine lv_isub hx hb dX10_cuts_58 ?_
        obtain ⟨v24, hv24, hf⟩ := g_s1 hf
        refine g_iald X S (by omega) (ceM_a (rfl : gma 1 = true)) hv24 dX10_cuts_59 ?_
        obtain ⟨σ25, hσ25, hf⟩ := g_s1 hf
        refine g_iast X S (by omega) (ceM_a (rfl : gma 1 = true)) hσ25 dX10_cuts_60 (fun H locs S => ?_)
        refine lv_iinc (v := (i17 + (-1))) (lv' := [(3, .int (i17 + (-1))), (0, .ref (ad 0)), (1, .int a0)]) hx hb dX10_cuts_61 hl (k := 0) rfl rfl (by decide) rfl (fun ls hl => ?_)
        refine lv_goto (tgt := 22) hx hb dX10_cuts_64 (by decide) ?_
        exact ih _ _ _ _  hf J _ _ _ S (lv_sub hl [0, 1, 2] rfl)
noncomputable def f_X10_cuts (σ : gSt) (a0 : Int32) (a1 : Int32) : Option (gSt) :=
  (g_k1 (f_X10_isCut σ a0) fun v1 => (if v1 = a1 then some σ else (if a1 = 0 then (g_k1 (f_X10_cuts_l1 σ a0 FU (0 : Int32)) fun r5 => (g_k1 (gset σ 1 7 ((σ 1 7) - (1 : Int32))) fun σ9 => (g_k1 (f_X10_cuts_l2 σ9 FU r5 σ9) fun σ12 => some σ12))) else (g_k2 (f_X10_cuts_l3 σ a0 FU (σ 1 7) σ) fun r19 σ20 => (g_k1 (gast σ20 1 926 ((8 : Int32) + r19) a0) fun σ27 => (g_k1 (gset σ27 1 7 ((σ27 1 7) + (1 : Int32))) fun σ28 => some σ28))))))
set_option maxRecDepth 100000 in
set_option maxHeartbeats 4000000 in
theorem c_X10_cuts (l : Launch) {Γ : gG} {ad : Nat → Nat} {N : Nat} (hN : 8 ≤ N) {σ : gSt} {a0 : Int32} {a1 : Int32}  {σ' : gSt} (hf : f_X10_cuts σ a0 a1 = some σ') : gMv l celM Γ ad N yX10_cuts cX10_cuts 4 none (gR 2 0 0) [.ref (ad 0), .int a0, .int a1] σ σ' := by
  intro sz
  refine gOf (Qc := fun sz => gQcv celM Γ ad N σ' sz) RX10 (by decide) rfl (by decide) (fun p e s m args below meth c H locs ls X S hl => ?_)
  have hl : lv_has ls 4 [(0, .ref (ad 0)), (1, .int a0), (2, .int a1)] := hl
  have hx := X.1
  have hb := X.2.1
  unfold f_X10_cuts at hf
  refine lv_aload_n hx hb dX10_cuts_0 rfl (lv_at hl 0 rfl) ?_
  refine lv_iload_n hx hb dX10_cuts_1 rfl (lv_at hl 1 rfl) ?_
  obtain ⟨v1, hv1, hf⟩ := g_s1 hf
  refine g_ki S (g_runV (rest := []) X S (c_X10_isCut l hN  hv1 _) cvX10_isCut mlX10_86 (by omega) (ceM_10 _) rfl rfl rfl hl.1 (by decide) ⟨⟨rfl, rfl⟩, ⟨Nat.le_of_ble_eq_true rfl, Nat.le_of_ble_eq_true rfl⟩, Nat.le_of_ble_eq_true rfl, Nat.le_of_ble_eq_true rfl⟩ dX10_cuts_2) (fun H locs S => ?_)
  refine lv_iload_n hx hb dX10_cuts_5 rfl (lv_at hl 2 rfl) ?_
  refine lv_icmp_ne (tgt := 10) hx hb dX10_cuts_6 (by decide) (fun c2 => ?_) (fun c2 => ?_)
  · have hf := (if_neg c2).symm.trans hf
    refine lv_iload_n hx hb dX10_cuts_10 rfl (lv_at hl 2 rfl) ?_
    refine lv_if_eq (tgt := 89) hx hb dX10_cuts_11 (by decide) (fun c3 => ?_) (fun c3 => ?_)
    · have hf := (if_pos c3).symm.trans hf
      refine lv_iconst (v := (0 : Int32)) hx hb dX10_cuts_89 (by decide) ?_
      refine lv_istore_n (lv' := [(3, .int (0 : Int32)), (0, .ref (ad 0)), (1, .int a0), (2, .int a1)]) hx hb dX10_cuts_90 rfl hl (by decide) rfl (fun ls hl => ?_)
      obtain ⟨r5, hr8, hf⟩ := g_s1 hf
      refine w_X10_cuts_l1 hN X  FU _ _  hr8 (fun H locs ls S hl => ?_) _ _ _ S (lv_sub hl [0, 1, 2] rfl)
      refine lv_aload_n hx hb dX10_cuts_110 rfl (lv_at hl 1 rfl) ?_
      refine gfX10_7 X S hN dX10_cuts_111 ?_
      refine lv_bipush (v := (7 : Int32)) hx hb dX10_cuts_114 (by decide) ?_
      refine lv_dup2_11 hx hb dX10_cuts_116 rfl rfl ?_
      refine g_ialdC X S (by omega) (ceM_a (rfl : gma 1 = true)) 7 (by decide) (by decide) dX10_cuts_117 ?_
      refine lv_iconst (v := (1 : Int32)) hx hb dX10_cuts_118 (by decide) ?_
      refine lv_isub hx hb dX10_cuts_119 ?_
      obtain ⟨σ9, hσ9, hf⟩ := g_s1 hf
      refine g_iastC X S (by omega) (ceM_a (rfl : gma 1 = true)) 7 (by decide) (by decide) hσ9 dX10_cuts_120 (fun H locs S => ?_)
      obtain ⟨σ12, hr16, hf⟩ := g_s1 hf
      refine w_X10_cuts_l2 hN X  FU _ _ _  hr16 (fun H locs ls S hl => ?_) _ _ _ S (lv_sub hl [0, 1] rfl)
      cases hf
      exact g_retv X S dX10_cuts_158
    · have hf := (if_neg c3).symm.trans hf
      refine lv_aload_n hx hb dX10_cuts_14 rfl (lv_at hl 0 rfl) ?_
      refine gfX10_7 X S hN dX10_cuts_15 ?_
      refine lv_bipush (v := (7 : Int32)) hx hb dX10_cuts_18 (by decide) ?_
      refine g_ialdC X S (by omega) (ceM_a (rfl : gma 1 = true)) 7 (by decide) (by decide) dX10_cuts_20 ?_
      refine lv_istore_n (lv' := [(3, .int (σ 1 7)), (0, .ref (ad 0)), (1, .int a0), (2, .int a1)]) hx hb dX10_cuts_21 rfl hl (by decide) rfl (fun ls hl => ?_)
      obtain ⟨r19, σ20, hr26, hf⟩ := g_s2 hf
      refine w_X10_cuts_l3 hN X  FU _ _ _ _  hr26 (fun H locs ls S hl => ?_) _ _ _ S (lv_sub hl [0, 1, 2] rfl)
      refine lv_aload_n hx hb dX10_cuts_67 rfl (lv_at hl 1 rfl) ?_
      refine gfX10_7 X S hN dX10_cuts_68 ?_
      refine lv_bipush (v := (8 : Int32)) hx hb dX10_cuts_71 (by decide) ?_
      refine lv_iload_n hx hb dX10_cuts_73 rfl (lv_at hl 0 rfl) ?_
      refine lv_iadd hx hb dX10_cuts_74 ?_
      refine lv_iload_n hx hb dX10_cuts_75 rfl (lv_at hl 2 rfl) ?_
      obtain ⟨σ27, hσ27, hf⟩ := g_s1 hf
      refine g_iast X S (by omega) (ceM_a (rfl : gma 1 = true)) hσ27 dX10_cuts_76 (fun H locs S => ?_)
      refine lv_aload_n hx hb dX10_cuts_77 rfl (lv_at hl 1 rfl) ?_
      refine gfX10_7 X S hN dX10_cuts_78 ?_
      refine lv_bipush (v := (7 : Int32)) hx hb dX10_cuts_81 (by decide) ?_
      refine lv_dup2_11 hx hb dX10_cuts_83 rfl rfl ?_
      refine g_ialdC X S (by omega) (ceM_a (rfl : gma 1 = true)) 7 (by decide) (by decide) dX10_cuts_84 ?_
      refine lv_iconst (v := (1 : Int32)) hx hb dX10_cuts_85 (by decide) ?_
      refine lv_iadd hx hb dX10_cuts_86 ?_
      obtain ⟨σ28, hσ28, hf⟩ := g_s1 hf
      refine g_iastC X S (by omega) (ceM_a (rfl : gma 1 = true)) 7 (by decide) (by decide) hσ28 dX10_cuts_87 (fun H locs S => ?_)
      cases hf
      exact g_retv X S dX10_cuts_88
  · have hf := (if_pos c2).symm.trans hf
    cases hf
    exact g_retv X S dX10_cuts_9

noncomputable def f_X10_cut (σ : gSt) (a0 : Int32) (a1 : Int32) : Option (Int32 × gSt) :=
  (g_k1 (f_X10_againstCut σ a0 a1) fun v1 => (g_k1 (if v1 = (1 : Int32) then some (1 : Int32) else (if v1 = (8 : Int32) then some (2 : Int32) else some (0 : Int32))) fun x2 => (g_k1 (gset σ 0 10 x2) fun σ5 => (if (σ5 0 10) ≤ 0 then (g_k1 (f_X10_changes σ5 1) fun σ7 => (g_k1 (f_X10_cuts σ7 a0 a1) fun σ8 => some ((σ8 1 7), σ8))) else some ((0 : Int32), σ5)))))
set_option maxRecDepth 100000 in
set_option maxHeartbeats 4000000 in
theorem c_X10_cut (l : Launch) {Γ : gG} {ad : Nat → Nat} {N : Nat} (hN : 8 ≤ N) {σ : gSt} {a0 : Int32} {a1 : Int32}  {r : Int32} {σ' : gSt} (hf : f_X10_cut σ a0 a1 = some (r, σ')) : gMi l celM Γ ad N yX10_cut cX10_cut 4 (some .int) (gR 3 0 0) [.ref (ad 0), .int a0, .int a1] σ r σ' := by
  intro sz
  refine gOf (Qc := fun sz => gQci celM Γ ad N r σ' sz) RX10 (by decide) rfl (by decide) (fun p e s m args below meth c H locs ls X S hl => ?_)
  have hl : lv_has ls 4 [(3, .int v1), (0, .ref (ad 0)), (1, .int a0), (2, .int a1)] := hl
  have hx := X.1
  have hb := X.2.1
  unfold f_X10_cut at hf
  refine lv_aload_n hx hb dX10_cut_0 rfl (lv_at hl 0 rfl) ?_
  refine lv_iload_n hx hb dX10_cut_1 rfl (lv_at hl 1 rfl) ?_
  refine lv_iload_n hx hb dX10_cut_2 rfl (lv_at hl 2 rfl) ?_
  obtain ⟨v1, hv1, hf⟩ := g_s1 hf
  refine g_ki S (g_runV (rest := []) X S (c_X10_againstCut l hN  hv1 _) cvX10_againstCut mlX10_89 (by omega) (ceM_10 _) rfl rfl rfl hl.1 (by decide) ⟨⟨rfl, rfl⟩, ⟨Nat.le_of_ble_eq_true rfl, Nat.le_of_ble_eq_true rfl⟩, Nat.le_of_ble_eq_true rfl, Nat.le_of_ble_eq_true rfl⟩ dX10_cut_3) (fun H locs S => ?_)
  refine lv_istore_n (lv' := [(3, .int v1), (0, .ref (ad 0)), (1, .int a0), (2, .int a1)]) hx hb dX10_cut_6 rfl hl (by decide) rfl (fun ls hl => ?_)
  refine lv_aload_n hx hb dX10_cut_7 rfl (lv_at hl 1 rfl) ?_
  refine lv_iload_n hx hb dX10_cut_8 rfl (lv_at hl 0 rfl) ?_
  refine lv_iconst (v := (1 : Int32)) hx hb dX10_cut_9 (by decide) ?_
  obtain ⟨x2, hr3, hf⟩ := g_s1 hf
  have J4 : ∀ (H : Heap) (locs : List Loc) (ls : Array Slot), gS celM Γ ad N σ s H locs → lv_has ls 4 [(0, .ref (ad 0)), (1, .int a0), (2, .int a1)] → W p l e (gR 3 0 0) s m args below meth c H locs 0 0 (gQi celM Γ ad N r σ' below args s) (F0 m 28 ls [.int x2, .ref (ad 0)]) := by
    intro H locs ls S hl
    obtain ⟨σ5, hσ5, hf⟩ := g_s1 hf
    refine pfX10_35 X S hN hσ5 dX10_cut_28 (fun H locs S => ?_)
    refine lv_aload_n hx hb dX10_cut_31 rfl (lv_at hl 0 rfl) ?_
    refine gfX10_35 X S hN dX10_cut_32 ?_
    refine lv_if_le (tgt := 40) hx hb dX10_cut_35 (by decide) (fun c6 => ?_) (fun c6 => ?_)
    · have hf := (if_pos c6).symm.trans hf
      refine lv_aload_n hx hb dX10_cut_40 rfl (lv_at hl 0 rfl) ?_
      refine lv_aload_n hx hb dX10_cut_41 rfl (lv_at hl 0 rfl) ?_
      refine gfX10_7 X S hN dX10_cut_42 ?_
      obtain ⟨σ7, hσ7, hf⟩ := g_s1 hf
      refine g_kv S (g_runV (rest := []) X S (c_X10_changes l hN (by rfl : gma 1 = true) hσ7 _) cvX10_changes mlX10_78 (by omega) (ceM_10 _) rfl rfl rfl hl.1 (by decide) ⟨⟨rfl, rfl⟩, ⟨Nat.le_of_ble_eq_true rfl, Nat.le_of_ble_eq_true rfl⟩, Nat.le_of_ble_eq_true rfl, Nat.le_of_ble_eq_true rfl⟩ dX10_cut_45) (fun H locs S => ?_)
      refine lv_aload_n hx hb dX10_cut_48 rfl (lv_at hl 0 rfl) ?_
      refine lv_iload_n hx hb dX10_cut_49 rfl (lv_at hl 1 rfl) ?_
      refine lv_iload_n hx hb dX10_cut_50 rfl (lv_at hl 2 rfl) ?_
      obtain ⟨σ8, hσ8, hf⟩ := g_s1 hf
      refine g_kv S (g_runV (rest := []) X S (c_X10_cuts l hN  hσ8 _) cvX10_cuts mlX10_93 (by omega) (ceM_10 _) rfl rfl rfl hl.1 (by decide) ⟨⟨rfl, rfl⟩, ⟨Nat.le_of_ble_eq_true rfl, Nat.le_of_ble_eq_true rfl⟩, Nat.le_of_ble_eq_true rfl, Nat.le_of_ble_eq_true rfl⟩ dX10_cut_51) (fun H locs S => ?_)
      refine lv_aload_n hx hb dX10_cut_54 rfl (lv_at hl 0 rfl) ?_
      refine gfX10_7 X S hN dX10_cut_55 ?_
      refine lv_bipush (v := (7 : Int32)) hx hb dX10_cut_58 (by decide) ?_
      refine g_ialdC X S (by omega) (ceM_a (rfl : gma 1 = true)) 7 (by decide) (by decide) dX10_cut_60 ?_
      cases hf
      exact g_reti X S rfl dX10_cut_61
    · have hf := (if_neg c6).symm.trans hf
      refine lv_iconst (v := (0 : Int32)) hx hb dX10_cut_38 (by decide) ?_
      cases hf
      exact g_reti X S rfl dX10_cut_39
  replace hf := hr3
  refine lv_icmp_ne (tgt := 17) hx hb dX10_cut_10 (by decide) (fun c9 => ?_) (fun c9 => ?_)
  · have hf := (if_neg c9).symm.trans hf
    refine lv_iload_n hx hb dX10_cut_17 rfl (lv_at hl 0 rfl) ?_
    refine lv_bipush (v := (8 : Int32)) hx hb dX10_cut_18 (by decide) ?_
    refine lv_icmp_ne (tgt := 27) hx hb dX10_cut_20 (by decide) (fun c10 => ?_) (fun c10 => ?_)
    · have hf := (if_neg c10).symm.trans hf
      refine lv_iconst (v := (0 : Int32)) hx hb dX10_cut_27 (by decide) ?_
      cases hf
      exact J4 _ _ _ S (lv_sub hl [1, 2, 3] rfl)
    · have hf := (if_pos c10).symm.trans hf
      refine lv_iconst (v := (2 : Int32)) hx hb dX10_cut_23 (by decide) ?_
      refine lv_goto (tgt := 28) hx hb dX10_cut_24 (by decide) ?_
      cases hf
      exact J4 _ _ _ S (lv_sub hl [1, 2, 3] rfl)
  · have hf := (if_pos c9).symm.trans hf
    refine lv_iconst (v := (1 : Int32)) hx hb dX10_cut_13 (by decide) ?_
    refine lv_goto (tgt := 28) hx hb dX10_cut_14 (by decide) ?_
    cases hf
    exact J4 _ _ _ S (lv_sub hl [1, 2, 3] rfl)

noncomputable def f_X10_shot_l1 (a0 : Int32) (σ5 : gSt) : Nat → Int32 → Int32 → Option (Int32)
  | 0, _, _ => none
  | n + 1, i6, i7 => (if (σ5 1 7) ≤ i6 then some i7 else (if (σ5 0 10) = 0 then (g_k1 (gald σ5 1 926 ((8 : Int32) + i6)) fun v11 => (g_k1 (if a0 < v11 then some (0 : Int32) else some (1 : Int32)) fun x12 => (f_X10_shot_l1 a0 σ5 n (i6 + 1) (i7 + x12)))) else some i7))
set_option maxRecDepth 100000 in
set_option maxHeartbeats 4000000 in
theorem w_X10_shot_l1 {l : Launch} {Γ : gG} {ad : Nat → Nat} {N : Nat} {p : Program} {e : Env} {s : State} {m : MethodId} {args : Array Value} {below : List Frame} {meth : Method} {c : Code} {Q : State → Prop} (hN : 8 ≤ N) (X : gX celM Γ ad N RX10 cX10_shot 4 (some .int) p s m args meth c) {a0 : Int32} {σ5 : gSt}  : ∀ (n : Nat) (i6 : Int32) (i7 : Int32) (r8 : Int32), f_X10_shot_l1 a0 σ5 n i6 i7 = some r8 → (∀ (H : Heap) (locs : List Loc) (ls : Array Slot), gS celM Γ ad N σ5 s H locs → lv_has ls 4 [(2, .int r8)] → W p l e (gR 2 0 0) s m args below meth c H locs 0 0 (Q) (F0 m 74 ls [])) → ∀ (H : Heap) (locs : List Loc) (ls : Array Slot), gS celM Γ ad N σ5 s H locs → lv_has ls 4 [(3, .int i6), (2, .int i7), (0, .ref (ad 0)), (1, .int a0)] → W p l e (gR 2 0 0) s m args below meth c H locs 0 0 (Q) (F0 m 29 ls []) := by
  have hx := X.1
  have hb := X.2.1
  intro n
  induction n with
  | zero =>
    intro i6 i7 r8 hf
    cases hf
  | succ n ih =>
    intro i6 i7 r8 hf J H locs ls S hl
    rw [f_X10_shot_l1] at hf
    refine lv_iload_n hx hb dX10_shot_29 rfl (lv_at hl 0 rfl) ?_
    refine lv_aload_n hx hb dX10_shot_30 rfl (lv_at hl 2 rfl) ?_
    refine gfX10_7 X S hN dX10_shot_31 ?_
    refine lv_bipush (v := (7 : Int32)) hx hb dX10_shot_34 (by decide) ?_
    refine g_ialdC X S (by omega) (ceM_a (rfl : gma 1 = true)) 7 (by decide) (by decide) dX10_shot_36 ?_
    refine lv_icmp_ge (tgt := 74) hx hb dX10_shot_37 (by decide) (fun c9 => ?_) (fun c9 => ?_)
    · have hf := (if_pos c9).symm.trans hf
      cases hf
      exact J _ _ _ S (lv_sub hl [1] rfl)
    · have hf := (if_neg c9).symm.trans hf
      refine lv_aload_n hx hb dX10_shot_40 rfl (lv_at hl 2 rfl) ?_
      refine gfX10_35 X S hN dX10_shot_41 ?_
      refine lv_if_ne (tgt := 74) hx hb dX10_shot_44 (by decide) (fun c10 => ?_) (fun c10 => ?_)
      · have hf := (if_neg c10).symm.trans hf
        cases hf
        exact J _ _ _ S (lv_sub hl [1] rfl)
      · have hf := (if_pos c10).symm.trans hf
        refine lv_iload_n hx hb dX10_shot_47 rfl (lv_at hl 1 rfl) ?_
        refine lv_aload_n hx hb dX10_shot_48 rfl (lv_at hl 2 rfl) ?_
        refine gfX10_7 X S hN dX10_shot_49 ?_
        refine lv_bipush (v := (8 : Int32)) hx hb dX10_shot_52 (by decide) ?_
        refine lv_iload_n hx hb dX10_shot_54 rfl (lv_at hl 0 rfl) ?_
        refine lv_iadd hx hb dX10_shot_55 ?_
        obtain ⟨v11, hv11, hf⟩ := g_s1 hf
        refine g_iald X S (by omega) (ceM_a (rfl : gma 1 = true)) hv11 dX10_shot_56 ?_
        refine lv_iload_n hx hb dX10_shot_57 rfl (lv_at hl 3 rfl) ?_
        obtain ⟨x12, hr13, hf⟩ := g_s1 hf
        have J14 : ∀ (H : Heap) (locs : List Loc) (ls : Array Slot), gS celM Γ ad N σ5 s H locs → lv_has ls 4 [(3, .int i6), (0, .ref (ad 0)), (1, .int a0)] → W p l e (gR 2 0 0) s m args below meth c H locs 0 0 (Q) (F0 m 66 ls [.int x12, .int i7]) := by
          intro H locs ls S hl
          refine lv_iadd hx hb dX10_shot_66 ?_
          refine lv_istore_n (lv' := [(2, .int (i7 + x12)), (3, .int i6), (0, .ref (ad 0)), (1, .int a0)]) hx hb dX10_shot_67 rfl hl (by decide) rfl (fun ls hl => ?_)
          refine lv_iinc (v := (i6 + 1)) (lv' := [(3, .int (i6 + 1)), (2, .int (i7 + x12)), (0, .ref (ad 0)), (1, .int a0)]) hx hb dX10_shot_68 hl (k := 1) rfl rfl (by decide) rfl (fun ls hl => ?_)
          refine lv_goto (tgt := 29) hx hb dX10_shot_71 (by decide) ?_
          exact ih _ _ _  hf J _ _ _ S (lv_sub hl [0, 1, 2, 3] rfl)
        replace hf := hr13
        refine lv_icmp_gt (tgt := 65) hx hb dX10_shot_58 (by decide) (fun c15 => ?_) (fun c15 => ?_)
        · have hf := (if_pos c15).symm.trans hf
          refine lv_iconst (v := (0 : Int32)) hx hb dX10_shot_65 (by decide) ?_
          cases hf
          exact J14 _ _ _ S (lv_sub hl [0, 2, 3] rfl)
        · have hf := (if_neg c15).symm.trans hf
          refine lv_iconst (v := (1 : Int32)) hx hb dX10_shot_61 (by decide) ?_
          refine lv_goto (tgt := 66) hx hb dX10_shot_62 (by decide) ?_
          cases hf
          exact J14 _ _ _ S (lv_sub hl [0, 2, 3] rfl)
noncomputable def f_X10_shot (σ : gSt) (a0 : Int32) : Option (Int32 × gSt) :=
  (g_k1 (f_X10_in σ a0 (0 : Int32) ((σ 1 0) - (1 : Int32))) fun v1 => (g_k1 (if v1 = 0 then some (1 : Int32) else some (0 : Int32)) fun x2 => (g_k1 (gset σ 0 10 x2) fun σ5 => (g_k1 (f_X10_shot_l1 a0 σ5 FU (0 : Int32) (0 : Int32)) fun r8 => some (r8, σ5)))))
set_option maxRecDepth 100000 in
set_option maxHeartbeats 4000000 in
theorem c_X10_shot (l : Launch) {Γ : gG} {ad : Nat → Nat} {N : Nat} (hN : 8 ≤ N) {σ : gSt} {a0 : Int32}  {r : Int32} {σ' : gSt} (hf : f_X10_shot σ a0 = some (r, σ')) : gMi l celM Γ ad N yX10_shot cX10_shot 4 (some .int) (gR 2 0 0) [.ref (ad 0), .int a0] σ r σ' := by
  intro sz
  refine gOf (Qc := fun sz => gQci celM Γ ad N r σ' sz) RX10 (by decide) rfl (by decide) (fun p e s m args below meth c H locs ls X S hl => ?_)
  have hl : lv_has ls 4 [(0, .ref (ad 0)), (1, .int a0)] := hl
  have hx := X.1
  have hb := X.2.1
  unfold f_X10_shot at hf
  refine lv_aload_n hx hb dX10_shot_0 rfl (lv_at hl 0 rfl) ?_
  refine lv_iload_n hx hb dX10_shot_1 rfl (lv_at hl 1 rfl) ?_
  refine lv_iconst (v := (0 : Int32)) hx hb dX10_shot_2 (by decide) ?_
  refine lv_aload_n hx hb dX10_shot_3 rfl (lv_at hl 0 rfl) ?_
  refine gfX10_7 X S hN dX10_shot_4 ?_
  refine lv_iconst (v := (0 : Int32)) hx hb dX10_shot_7 (by decide) ?_
  refine g_ialdC X S (by omega) (ceM_a (rfl : gma 1 = true)) 0 (by decide) (by decide) dX10_shot_8 ?_
  refine lv_iconst (v := (1 : Int32)) hx hb dX10_shot_9 (by decide) ?_
  refine lv_isub hx hb dX10_shot_10 ?_
  obtain ⟨v1, hv1, hf⟩ := g_s1 hf
  refine g_ki S (g_runS (rest := [.ref (ad 0)]) X S (c_X10_in l hN  hv1 _) csX10_in mlX10_48 rfl rfl hl.1 (by decide) ⟨⟨rfl, rfl⟩, ⟨Nat.le_of_ble_eq_true rfl, Nat.le_of_ble_eq_true rfl⟩, Nat.le_of_ble_eq_true rfl, Nat.le_of_ble_eq_true rfl⟩ dX10_shot_11) (fun H locs S => ?_)
  obtain ⟨x2, hr3, hf⟩ := g_s1 hf
  have J4 : ∀ (H : Heap) (locs : List Loc) (ls : Array Slot), gS celM Γ ad N σ s H locs → lv_has ls 4 [(0, .ref (ad 0)), (1, .int a0)] → W p l e (gR 2 0 0) s m args below meth c H locs 0 0 (gQi celM Γ ad N r σ' below args s) (F0 m 22 ls [.int x2, .ref (ad 0)]) := by
    intro H locs ls S hl
    obtain ⟨σ5, hσ5, hf⟩ := g_s1 hf
    refine pfX10_35 X S hN hσ5 dX10_shot_22 (fun H locs S => ?_)
    refine lv_iconst (v := (0 : Int32)) hx hb dX10_shot_25 (by decide) ?_
    refine lv_istore_n (lv' := [(2, .int (0 : Int32)), (0, .ref (ad 0)), (1, .int a0)]) hx hb dX10_shot_26 rfl hl (by decide) rfl (fun ls hl => ?_)
    refine lv_iconst (v := (0 : Int32)) hx hb dX10_shot_27 (by decide) ?_
    refine lv_istore_n (lv' := [(3, .int (0 : Int32)), (2, .int (0 : Int32)), (0, .ref (ad 0)), (1, .int a0)]) hx hb dX10_shot_28 rfl hl (by decide) rfl (fun ls hl => ?_)
    obtain ⟨r8, hr16, hf⟩ := g_s1 hf
    refine w_X10_shot_l1 hN X  FU _ _ _  hr16 (fun H locs ls S hl => ?_) _ _ _ S (lv_sub hl [0, 1, 2, 3] rfl)
    refine lv_iload_n hx hb dX10_shot_74 rfl (lv_at hl 0 rfl) ?_
    cases hf
    exact g_reti X S rfl dX10_shot_75
  replace hf := hr3
  refine lv_if_eq (tgt := 21) hx hb dX10_shot_14 (by decide) (fun c17 => ?_) (fun c17 => ?_)
  · have hf := (if_pos c17).symm.trans hf
    refine lv_iconst (v := (1 : Int32)) hx hb dX10_shot_21 (by decide) ?_
    cases hf
    exact J4 _ _ _ S (lv_sub hl [0, 1] rfl)
  · have hf := (if_neg c17).symm.trans hf
    refine lv_iconst (v := (0 : Int32)) hx hb dX10_shot_17 (by decide) ?_
    refine lv_goto (tgt := 22) hx hb dX10_shot_18 (by decide) ?_
    cases hf
    exact J4 _ _ _ S (lv_sub hl [0, 1] rfl)

noncomputable def f_X10_isLoose_l1 (σ : gSt) (a0 : Int32) : Nat → Int32 → Int32 → Option (Int32)
  | 0, _, _ => none
  | n + 1, i1, i2 => (if (σ 1 7) ≤ i1 then some i2 else (g_k1 (if i2 = 0 then (g_k1 (gald σ 1 926 ((8 : Int32) + i1)) fun v9 => (g_k1 (f_X10_in σ (v9 - a0) (-(σ 1 2)) (σ 1 2)) fun v10 => (if v10 = 0 then some (0 : Int32) else some (1 : Int32)))) else some (1 : Int32)) fun x5 => (f_X10_isLoose_l1 σ a0 n (i1 + 1) x5)))
set_option maxRecDepth 100000 in
set_option maxHeartbeats 4000000 in
theorem w_X10_isLoose_l1 {l : Launch} {Γ : gG} {ad : Nat → Nat} {N : Nat} {p : Program} {e : Env} {s : State} {m : MethodId} {args : Array Value} {below : List Frame} {meth : Method} {c : Code} {Q : State → Prop} (hN : 8 ≤ N) (X : gX celM Γ ad N RX10 cX10_isLoose 4 (some .boolean) p s m args meth c) {σ : gSt} {a0 : Int32}  : ∀ (n : Nat) (i1 : Int32) (i2 : Int32) (r3 : Int32), f_X10_isLoose_l1 σ a0 n i1 i2 = some r3 → (∀ (H : Heap) (locs : List Loc) (ls : Array Slot), gS celM Γ ad N σ s H locs → lv_has ls 4 [(2, .int r3), (0, .ref (ad 0)), (1, .int a0)] → W p l e (gR 2 0 0) s m args below meth c H locs 0 0 (Q) (F0 m 61 ls [])) → ∀ (H : Heap) (locs : List Loc) (ls : Array Slot), gS celM Γ ad N σ s H locs → lv_has ls 4 [(3, .int i1), (2, .int i2), (0, .ref (ad 0)), (1, .int a0)] → W p l e (gR 2 0 0) s m args below meth c H locs 0 0 (Q) (F0 m 4 ls []) := by
  have hx := X.1
  have hb := X.2.1
  intro n
  induction n with
  | zero =>
    intro i1 i2 r3 hf
    cases hf
  | succ n ih =>
    intro i1 i2 r3 hf J H locs ls S hl
    rw [f_X10_isLoose_l1] at hf
    refine lv_iload_n hx hb dX10_isLoose_4 rfl (lv_at hl 0 rfl) ?_
    refine lv_aload_n hx hb dX10_isLoose_5 rfl (lv_at hl 2 rfl) ?_
    refine gfX10_7 X S hN dX10_isLoose_6 ?_
    refine lv_bipush (v := (7 : Int32)) hx hb dX10_isLoose_9 (by decide) ?_
    refine g_ialdC X S (by omega) (ceM_a (rfl : gma 1 = true)) 7 (by decide) (by decide) dX10_isLoose_11 ?_
    refine lv_icmp_ge (tgt := 61) hx hb dX10_isLoose_12 (by decide) (fun c4 => ?_) (fun c4 => ?_)
    · have hf := (if_pos c4).symm.trans hf
      cases hf
      exact J _ _ _ S (lv_sub hl [1, 2, 3] rfl)
    · have hf := (if_neg c4).symm.trans hf
      refine lv_iload_n hx hb dX10_isLoose_15 rfl (lv_at hl 1 rfl) ?_
      obtain ⟨x5, hr6, hf⟩ := g_s1 hf
      have J7 : ∀ (H : Heap) (locs : List Loc) (ls : Array Slot), gS celM Γ ad N σ s H locs → lv_has ls 4 [(3, .int i1), (0, .ref (ad 0)), (1, .int a0)] → W p l e (gR 2 0 0) s m args below meth c H locs 0 0 (Q) (F0 m 54 ls [.int x5]) := by
        intro H locs ls S hl
        refine lv_istore_n (lv' := [(2, .int x5), (3, .int i1), (0, .ref (ad 0)), (1, .int a0)]) hx hb dX10_isLoose_54 rfl hl (by decide) rfl (fun ls hl => ?_)
        refine lv_iinc (v := (i1 + 1)) (lv' := [(3, .int (i1 + 1)), (2, .int x5), (0, .ref (ad 0)), (1, .int a0)]) hx hb dX10_isLoose_55 hl (k := 1) rfl rfl (by decide) rfl (fun ls hl => ?_)
        refine lv_goto (tgt := 4) hx hb dX10_isLoose_58 (by decide) ?_
        exact ih _ _ _  hf J _ _ _ S (lv_sub hl [0, 1, 2, 3] rfl)
      replace hf := hr6
      refine lv_if_ne (tgt := 49) hx hb dX10_isLoose_16 (by decide) (fun c8 => ?_) (fun c8 => ?_)
      · have hf := (if_neg c8).symm.trans hf
        refine lv_iconst (v := (1 : Int32)) hx hb dX10_isLoose_49 (by decide) ?_
        refine lv_goto (tgt := 54) hx hb dX10_isLoose_50 (by decide) ?_
        cases hf
        exact J7 _ _ _ S (lv_sub hl [0, 2, 3] rfl)
      · have hf := (if_pos c8).symm.trans hf
        refine lv_aload_n hx hb dX10_isLoose_19 rfl (lv_at hl 2 rfl) ?_
        refine gfX10_7 X S hN dX10_isLoose_20 ?_
        refine lv_bipush (v := (8 : Int32)) hx hb dX10_isLoose_23 (by decide) ?_
        refine lv_iload_n hx hb dX10_isLoose_25 rfl (lv_at hl 0 rfl) ?_
        refine lv_iadd hx hb dX10_isLoose_26 ?_
        obtain ⟨v9, hv9, hf⟩ := g_s1 hf
        refine g_iald X S (by omega) (ceM_a (rfl : gma 1 = true)) hv9 dX10_isLoose_27 ?_
        refine lv_iload_n hx hb dX10_isLoose_28 rfl (lv_at hl 3 rfl) ?_
        refine lv_isub hx hb dX10_isLoose_29 ?_
        refine lv_aload_n hx hb dX10_isLoose_30 rfl (lv_at hl 2 rfl) ?_
        refine gfX10_7 X S hN dX10_isLoose_31 ?_
        refine lv_iconst (v := (2 : Int32)) hx hb dX10_isLoose_34 (by decide) ?_
        refine g_ialdC X S (by omega) (ceM_a (rfl : gma 1 = true)) 2 (by decide) (by decide) dX10_isLoose_35 ?_
        refine lv_ineg hx hb dX10_isLoose_36 ?_
        refine lv_aload_n hx hb dX10_isLoose_37 rfl (lv_at hl 2 rfl) ?_
        refine gfX10_7 X S hN dX10_isLoose_38 ?_
        refine lv_iconst (v := (2 : Int32)) hx hb dX10_isLoose_41 (by decide) ?_
        refine g_ialdC X S (by omega) (ceM_a (rfl : gma 1 = true)) 2 (by decide) (by decide) dX10_isLoose_42 ?_
        obtain ⟨v10, hv10, hf⟩ := g_s1 hf
        refine g_ki S (g_runS (rest := []) X S (c_X10_in l hN  hv10 _) csX10_in mlX10_48 rfl rfl hl.1 (by decide) ⟨⟨rfl, rfl⟩, ⟨Nat.le_of_ble_eq_true rfl, Nat.le_of_ble_eq_true rfl⟩, Nat.le_of_ble_eq_true rfl, Nat.le_of_ble_eq_true rfl⟩ dX10_isLoose_43) (fun H locs S => ?_)
        refine lv_if_eq (tgt := 53) hx hb dX10_isLoose_46 (by decide) (fun c11 => ?_) (fun c11 => ?_)
        · have hf := (if_pos c11).symm.trans hf
          refine lv_iconst (v := (0 : Int32)) hx hb dX10_isLoose_53 (by decide) ?_
          cases hf
          exact J7 _ _ _ S (lv_sub hl [0, 2, 3] rfl)
        · have hf := (if_neg c11).symm.trans hf
          refine lv_iconst (v := (1 : Int32)) hx hb dX10_isLoose_49 (by decide) ?_
          refine lv_goto (tgt := 54) hx hb dX10_isLoose_50 (by decide) ?_
          cases hf
          exact J7 _ _ _ S (lv_sub hl [0, 2, 3] rfl)
noncomputable def f_X10_isLoose (σ : gSt) (a0 : Int32) : Option (Int32) :=
  (g_k1 (f_X10_isLoose_l1 σ a0 FU (0 : Int32) (0 : Int32)) fun r3 => (g_k1 (if r3 = 0 then some (0 : Int32) else (g_k1 (f_X10_isCut σ a0) fun v18 => (if v18 = 0 then some (1 : Int32) else some (0 : Int32)))) fun x13 => (g_k1 (gzb x13) fun v16 => some v16)))
set_option maxRecDepth 100000 in
set_option maxHeartbeats 4000000 in
theorem c_X10_isLoose (l : Launch) {Γ : gG} {ad : Nat → Nat} {N : Nat} (hN : 8 ≤ N) {σ : gSt} {a0 : Int32}  {r : Int32} (hf : f_X10_isLoose σ a0 = some r) : gMi l celM Γ ad N yX10_isLoose cX10_isLoose 4 (some .boolean) (gR 2 0 0) [.ref (ad 0), .int a0] σ r σ := by
  intro sz
  refine gOf (Qc := fun sz => gQci celM Γ ad N r σ sz) RX10 (by decide) rfl (by decide) (fun p e s m args below meth c H locs ls X S hl => ?_)
  have hl : lv_has ls 4 [(3, .int (0 : Int32)), (2, .int (0 : Int32)), (0, .ref (ad 0)), (1, .int a0)] := hl
  have hx := X.1
  have hb := X.2.1
  unfold f_X10_isLoose at hf
  refine lv_iconst (v := (0 : Int32)) hx hb dX10_isLoose_0 (by decide) ?_
  refine lv_istore_n (lv' := [(2, .int (0 : Int32)), (0, .ref (ad 0)), (1, .int a0)]) hx hb dX10_isLoose_1 rfl hl (by decide) rfl (fun ls hl => ?_)
  refine lv_iconst (v := (0 : Int32)) hx hb dX10_isLoose_2 (by decide) ?_
  refine lv_istore_n (lv' := [(3, .int (0 : Int32)), (2, .int (0 : Int32)), (0, .ref (ad 0)), (1, .int a0)]) hx hb dX10_isLoose_3 rfl hl (by decide) rfl (fun ls hl => ?_)
  obtain ⟨r3, hr12, hf⟩ := g_s1 hf
  refine w_X10_isLoose_l1 hN X  FU _ _ _  hr12 (fun H locs ls S hl => ?_) _ _ _ S (lv_sub hl [0, 1, 2, 3] rfl)
  refine lv_iload_n hx hb dX10_isLoose_61 rfl (lv_at hl 0 rfl) ?_
  obtain ⟨x13, hr14, hf⟩ := g_s1 hf
  have J15 : ∀ (H : Heap) (locs : List Loc) (ls : Array Slot), gS celM Γ ad N σ s H locs → lv_has ls 4 [] → W p l e (gR 2 0 0) s m args below meth c H locs 0 0 (gQi celM Γ ad N r σ below args s) (F0 m 78 ls [.int x13]) := by
    intro H locs ls S hl
    obtain ⟨v16, hv16, hf⟩ := g_s1 hf
    obtain ⟨hnv16, rfl⟩ := gzb_some hv16
    cases hf
    exact g_reti X S hnv16 dX10_isLoose_78
  replace hf := hr14
  refine lv_if_eq (tgt := 77) hx hb dX10_isLoose_62 (by decide) (fun c17 => ?_) (fun c17 => ?_)
  · have hf := (if_pos c17).symm.trans hf
    refine lv_iconst (v := (0 : Int32)) hx hb dX10_isLoose_77 (by decide) ?_
    cases hf
    exact J15 _ _ _ S (lv_sub hl [] rfl)
  · have hf := (if_neg c17).symm.trans hf
    refine lv_aload_n hx hb dX10_isLoose_65 rfl (lv_at hl 1 rfl) ?_
    refine lv_iload_n hx hb dX10_isLoose_66 rfl (lv_at hl 2 rfl) ?_
    obtain ⟨v18, hv18, hf⟩ := g_s1 hf
    refine g_ki S (g_runV (rest := []) X S (c_X10_isCut l hN  hv18 _) cvX10_isCut mlX10_86 (by omega) (ceM_10 _) rfl rfl rfl hl.1 (by decide) ⟨⟨rfl, rfl⟩, ⟨Nat.le_of_ble_eq_true rfl, Nat.le_of_ble_eq_true rfl⟩, Nat.le_of_ble_eq_true rfl, Nat.le_of_ble_eq_true rfl⟩ dX10_isLoose_67) (fun H locs S => ?_)
    refine lv_if_ne (tgt := 77) hx hb dX10_isLoose_70 (by decide) (fun c19 => ?_) (fun c19 => ?_)
    · have hf := (if_neg c19).symm.trans hf
      refine lv_iconst (v := (0 : Int32)) hx hb dX10_isLoose_77 (by decide) ?_
      cases hf
      exact J15 _ _ _ S (lv_sub hl [] rfl)
    · have hf := (if_pos c19).symm.trans hf
      refine lv_iconst (v := (1 : Int32)) hx hb dX10_isLoose_73 (by decide) ?_
      refine lv_goto (tgt := 78) hx hb dX10_isLoose_74 (by decide) ?_
      cases hf
      exact J15 _ _ _ S (lv_sub hl [] rfl)

noncomputable def f_X10_far (σ : gSt) (a0 : Int32) (a1 : Int32) : Option (Int32) :=
  (g_k1 (if a0 ≤ a1 then some (a1 - a0) else some (a0 - a1)) fun x1 => some x1)
set_option maxRecDepth 100000 in
set_option maxHeartbeats 4000000 in
theorem c_X10_far (l : Launch) {Γ : gG} {ad : Nat → Nat} {N : Nat} (hN : 8 ≤ N) {σ : gSt} {a0 : Int32} {a1 : Int32}  {r : Int32} (hf : f_X10_far σ a0 a1 = some r) : gMi l celM Γ ad N yX10_far cX10_far 2 (some .int) (gR 1 0 0) [.int a0, .int a1] σ r σ := by
  intro sz
  refine gOf (Qc := fun sz => gQci celM Γ ad N r σ sz) RX10 (by decide) rfl (by decide) (fun p e s m args below meth c H locs ls X S hl => ?_)
  have hl : lv_has ls 2 [(0, .int a0), (1, .int a1)] := hl
  have hx := X.1
  have hb := X.2.1
  unfold f_X10_far at hf
  refine lv_iload_n hx hb dX10_far_0 rfl (lv_at hl 0 rfl) ?_
  refine lv_iload_n hx hb dX10_far_1 rfl (lv_at hl 1 rfl) ?_
  obtain ⟨x1, hr2, hf⟩ := g_s1 hf
  have J3 : ∀ (H : Heap) (locs : List Loc) (ls : Array Slot), gS celM Γ ad N σ s H locs → lv_has ls 2 [] → W p l e (gR 1 0 0) s m args below meth c H locs 0 0 (gQi celM Γ ad N r σ below args s) (F0 m 14 ls [.int x1]) := by
    intro H locs ls S hl
    cases hf
    exact g_reti X S rfl dX10_far_14
  replace hf := hr2
  refine lv_icmp_le (tgt := 11) hx hb dX10_far_2 (by decide) (fun c4 => ?_) (fun c4 => ?_)
  · have hf := (if_pos c4).symm.trans hf
    refine lv_iload_n hx hb dX10_far_11 rfl (lv_at hl 1 rfl) ?_
    refine lv_iload_n hx hb dX10_far_12 rfl (lv_at hl 0 rfl) ?_
    refine lv_isub hx hb dX10_far_13 ?_
    cases hf
    exact J3 _ _ _ S (lv_sub hl [] rfl)
  · have hf := (if_neg c4).symm.trans hf
    refine lv_iload_n hx hb dX10_far_5 rfl (lv_at hl 0 rfl) ?_
    refine lv_iload_n hx hb dX10_far_6 rfl (lv_at hl 1 rfl) ?_
    refine lv_isub hx hb dX10_far_7 ?_
    refine lv_goto (tgt := 14) hx hb dX10_far_8 (by decide) ?_
    cases hf
    exact J3 _ _ _ S (lv_sub hl [] rfl)

noncomputable def f_X10_nearest_l1 (σ : gSt) (a0 : Int32) : Nat → Int32 → Int32 → Option (Int32)
  | 0, _, _ => none
  | n + 1, i1, i2 => (if (σ 1 7) ≤ i1 then some i2 else (g_k1 (gald σ 1 926 ((8 : Int32) + i1)) fun v5 => (g_k1 (f_X10_far σ v5 a0) fun v6 => (g_k1 (f_X10_far σ i2 a0) fun v7 => (g_k1 (if v7 ≤ v6 then some i2 else (g_k1 (gald σ 1 926 ((8 : Int32) + i1)) fun v12 => some v12)) fun x8 => (f_X10_nearest_l1 σ a0 n (i1 + 1) x8))))))
set_option maxRecDepth 100000 in
set_option maxHeartbeats 4000000 in
theorem w_X10_nearest_l1 {l : Launch} {Γ : gG} {ad : Nat → Nat} {N : Nat} {p : Program} {e : Env} {s : State} {m : MethodId} {args : Array Value} {below : List Frame} {meth : Method} {c : Code} {Q : State → Prop} (hN : 8 ≤ N) (X : gX celM Γ ad N RX10 cX10_nearest 4 (some .int) p s m args meth c) {σ : gSt} {a0 : Int32}  : ∀ (n : Nat) (i1 : Int32) (i2 : Int32) (r3 : Int32), f_X10_nearest_l1 σ a0 n i1 i2 = some r3 → (∀ (H : Heap) (locs : List Loc) (ls : Array Slot), gS celM Γ ad N σ s H locs → lv_has ls 4 [(2, .int r3)] → W p l e (gR 2 0 0) s m args below meth c H locs 0 0 (Q) (F0 m 62 ls [])) → ∀ (H : Heap) (locs : List Loc) (ls : Array Slot), gS celM Γ ad N σ s H locs → lv_has ls 4 [(3, .int i1), (2, .int i2), (0, .ref (ad 0)), (1, .int a0)] → W p l e (gR 2 0 0) s m args below meth c H locs 0 0 (Q) (F0 m 10 ls []) := by
  have hx := X.1
  have hb := X.2.1
  intro n
  induction n with
  | zero =>
    intro i1 i2 r3 hf
    cases hf
  | succ n ih =>
    intro i1 i2 r3 hf J H locs ls S hl
    rw [f_X10_nearest_l1] at hf
    refine lv_iload_n hx hb dX10_nearest_10 rfl (lv_at hl 0 rfl) ?_
    refine lv_aload_n hx hb dX10_nearest_11 rfl (lv_at hl 2 rfl) ?_
    refine gfX10_7 X S hN dX10_nearest_12 ?_
    refine lv_bipush (v := (7 : Int32)) hx hb dX10_nearest_15 (by decide) ?_
    refine g_ialdC X S (by omega) (ceM_a (rfl : gma 1 = true)) 7 (by decide) (by decide) dX10_nearest_17 ?_
    refine lv_icmp_ge (tgt := 62) hx hb dX10_nearest_18 (by decide) (fun c4 => ?_) (fun c4 => ?_)
    · have hf := (if_pos c4).symm.trans hf
      cases hf
      exact J _ _ _ S (lv_sub hl [1] rfl)
    · have hf := (if_neg c4).symm.trans hf
      refine lv_aload_n hx hb dX10_nearest_21 rfl (lv_at hl 2 rfl) ?_
      refine gfX10_7 X S hN dX10_nearest_22 ?_
      refine lv_bipush (v := (8 : Int32)) hx hb dX10_nearest_25 (by decide) ?_
      refine lv_iload_n hx hb dX10_nearest_27 rfl (lv_at hl 0 rfl) ?_
      refine lv_iadd hx hb dX10_nearest_28 ?_
      obtain ⟨v5, hv5, hf⟩ := g_s1 hf
      refine g_iald X S (by omega) (ceM_a (rfl : gma 1 = true)) hv5 dX10_nearest_29 ?_
      refine lv_iload_n hx hb dX10_nearest_30 rfl (lv_at hl 3 rfl) ?_
      obtain ⟨v6, hv6, hf⟩ := g_s1 hf
      refine g_ki S (g_runS (rest := []) X S (c_X10_far l hN  hv6 _) csX10_far mlX10_97 rfl rfl hl.1 (by decide) ⟨⟨rfl, rfl⟩, ⟨Nat.le_of_ble_eq_true rfl, Nat.le_of_ble_eq_true rfl⟩, Nat.le_of_ble_eq_true rfl, Nat.le_of_ble_eq_true rfl⟩ dX10_nearest_31) (fun H locs S => ?_)
      refine lv_iload_n hx hb dX10_nearest_34 rfl (lv_at hl 1 rfl) ?_
      refine lv_iload_n hx hb dX10_nearest_35 rfl (lv_at hl 3 rfl) ?_
      obtain ⟨v7, hv7, hf⟩ := g_s1 hf
      refine g_ki S (g_runS (rest := [.int v6]) X S (c_X10_far l hN  hv7 _) csX10_far mlX10_97 rfl rfl hl.1 (by decide) ⟨⟨rfl, rfl⟩, ⟨Nat.le_of_ble_eq_true rfl, Nat.le_of_ble_eq_true rfl⟩, Nat.le_of_ble_eq_true rfl, Nat.le_of_ble_eq_true rfl⟩ dX10_nearest_36) (fun H locs S => ?_)
      obtain ⟨x8, hr9, hf⟩ := g_s1 hf
      have J10 : ∀ (H : Heap) (locs : List Loc) (ls : Array Slot), gS celM Γ ad N σ s H locs → lv_has ls 4 [(3, .int i1), (0, .ref (ad 0)), (1, .int a0)] → W p l e (gR 2 0 0) s m args below meth c H locs 0 0 (Q) (F0 m 55 ls [.int x8]) := by
        intro H locs ls S hl
        refine lv_istore_n (lv' := [(2, .int x8), (3, .int i1), (0, .ref (ad 0)), (1, .int a0)]) hx hb dX10_nearest_55 rfl hl (by decide) rfl (fun ls hl => ?_)
        refine lv_iinc (v := (i1 + 1)) (lv' := [(3, .int (i1 + 1)), (2, .int x8), (0, .ref (ad 0)), (1, .int a0)]) hx hb dX10_nearest_56 hl (k := 1) rfl rfl (by decide) rfl (fun ls hl => ?_)
        refine lv_goto (tgt := 10) hx hb dX10_nearest_59 (by decide) ?_
        exact ih _ _ _  hf J _ _ _ S (lv_sub hl [0, 1, 2, 3] rfl)
      replace hf := hr9
      refine lv_icmp_ge (tgt := 54) hx hb dX10_nearest_39 (by decide) (fun c11 => ?_) (fun c11 => ?_)
      · have hf := (if_pos c11).symm.trans hf
        refine lv_iload_n hx hb dX10_nearest_54 rfl (lv_at hl 1 rfl) ?_
        cases hf
        exact J10 _ _ _ S (lv_sub hl [0, 2, 3] rfl)
      · have hf := (if_neg c11).symm.trans hf
        refine lv_aload_n hx hb dX10_nearest_42 rfl (lv_at hl 2 rfl) ?_
        refine gfX10_7 X S hN dX10_nearest_43 ?_
        refine lv_bipush (v := (8 : Int32)) hx hb dX10_nearest_46 (by decide) ?_
        refine lv_iload_n hx hb dX10_nearest_48 rfl (lv_at hl 0 rfl) ?_
        refine lv_iadd hx hb dX10_nearest_49 ?_
        obtain ⟨v12, hv12, hf⟩ := g_s1 hf
        refine g_iald X S (by omega) (ceM_a (rfl : gma 1 = true)) hv12 dX10_nearest_50 ?_
        refine lv_goto (tgt := 55) hx hb dX10_nearest_51 (by decide) ?_
        cases hf
        exact J10 _ _ _ S (lv_sub hl [0, 2, 3] rfl)
noncomputable def f_X10_nearest (σ : gSt) (a0 : Int32) : Option (Int32) :=
  (g_k1 (f_X10_nearest_l1 σ a0 FU (1 : Int32) (σ 1 8)) fun r3 => some r3)
set_option maxRecDepth 100000 in
set_option maxHeartbeats 4000000 in
theorem c_X10_nearest (l : Launch) {Γ : gG} {ad : Nat → Nat} {N : Nat} (hN : 8 ≤ N) {σ : gSt} {a0 : Int32}  {r : Int32} (hf : f_X10_nearest σ a0 = some r) : gMi l celM Γ ad N yX10_nearest cX10_nearest 4 (some .int) (gR 2 0 0) [.ref (ad 0), .int a0] σ r σ := by
  intro sz
  refine gOf (Qc := fun sz => gQci celM Γ ad N r σ sz) RX10 (by decide) rfl (by decide) (fun p e s m args below meth c H locs ls X S hl => ?_)
  have hl : lv_has ls 4 [(3, .int (1 : Int32)), (2, .int (σ 1 8)), (0, .ref (ad 0)), (1, .int a0)] := hl
  have hx := X.1
  have hb := X.2.1
  unfold f_X10_nearest at hf
  refine lv_aload_n hx hb dX10_nearest_0 rfl (lv_at hl 0 rfl) ?_
  refine gfX10_7 X S hN dX10_nearest_1 ?_
  refine lv_bipush (v := (8 : Int32)) hx hb dX10_nearest_4 (by decide) ?_
  refine g_ialdC X S (by omega) (ceM_a (rfl : gma 1 = true)) 8 (by decide) (by decide) dX10_nearest_6 ?_
  refine lv_istore_n (lv' := [(2, .int (σ 1 8)), (0, .ref (ad 0)), (1, .int a0)]) hx hb dX10_nearest_7 rfl hl (by decide) rfl (fun ls hl => ?_)
  refine lv_iconst (v := (1 : Int32)) hx hb dX10_nearest_8 (by decide) ?_
  refine lv_istore_n (lv' := [(3, .int (1 : Int32)), (2, .int (σ 1 8)), (0, .ref (ad 0)), (1, .int a0)]) hx hb dX10_nearest_9 rfl hl (by decide) rfl (fun ls hl => ?_)
  obtain ⟨r3, hr13, hf⟩ := g_s1 hf
  refine w_X10_nearest_l1 hN X  FU _ _ _  hr13 (fun H locs ls S hl => ?_) _ _ _ S (lv_sub hl [0, 1, 2, 3] rfl)
  refine lv_iload_n hx hb dX10_nearest_62 rfl (lv_at hl 0 rfl) ?_
  cases hf
  exact g_reti X S rfl dX10_nearest_63

noncomputable def f_X10_isLetter (σ : gSt) (a0 : Int32) : Option (Int32) :=
  (g_k1 (f_X10_in σ a0 (97 : Int32) (122 : Int32)) fun v1 => (g_k1 (if v1 = 0 then (if a0 = (95 : Int32) then some (1 : Int32) else (if a0 = (124 : Int32) then some (1 : Int32) else some (0 : Int32))) else some (1 : Int32)) fun x2 => (g_k1 (gzb x2) fun v5 => some v5)))
set_option maxRecDepth 100000 in
set_option maxHeartbeats 4000000 in
theorem c_X10_isLetter (l : Launch) {Γ : gG} {ad : Nat → Nat} {N : Nat} (hN : 8 ≤ N) {σ : gSt} {a0 : Int32}  {r : Int32} (hf : f_X10_isLetter σ a0 = some r) : gMi l celM Γ ad N yX10_isLetter cX10_isLetter 1 (some .boolean) (gR 2 0 0) [.int a0] σ r σ := by
  intro sz
  refine gOf (Qc := fun sz => gQci celM Γ ad N r σ sz) RX10 (by decide) rfl (by decide) (fun p e s m args below meth c H locs ls X S hl => ?_)
  have hl : lv_has ls 1 [(0, .int a0)] := hl
  have hx := X.1
  have hb := X.2.1
  unfold f_X10_isLetter at hf
  refine lv_iload_n hx hb dX10_isLetter_0 rfl (lv_at hl 0 rfl) ?_
  refine lv_bipush (v := (97 : Int32)) hx hb dX10_isLetter_1 (by decide) ?_
  refine lv_bipush (v := (122 : Int32)) hx hb dX10_isLetter_3 (by decide) ?_
  obtain ⟨v1, hv1, hf⟩ := g_s1 hf
  refine g_ki S (g_runS (rest := []) X S (c_X10_in l hN  hv1 _) csX10_in mlX10_48 rfl rfl hl.1 (by decide) ⟨⟨rfl, rfl⟩, ⟨Nat.le_of_ble_eq_true rfl, Nat.le_of_ble_eq_true rfl⟩, Nat.le_of_ble_eq_true rfl, Nat.le_of_ble_eq_true rfl⟩ dX10_isLetter_5) (fun H locs S => ?_)
  obtain ⟨x2, hr3, hf⟩ := g_s1 hf
  have J4 : ∀ (H : Heap) (locs : List Loc) (ls : Array Slot), gS celM Γ ad N σ s H locs → lv_has ls 1 [] → W p l e (gR 2 0 0) s m args below meth c H locs 0 0 (gQi celM Γ ad N r σ below args s) (F0 m 28 ls [.int x2]) := by
    intro H locs ls S hl
    obtain ⟨v5, hv5, hf⟩ := g_s1 hf
    obtain ⟨hnv5, rfl⟩ := gzb_some hv5
    cases hf
    exact g_reti X S hnv5 dX10_isLetter_28
  replace hf := hr3
  refine lv_if_ne (tgt := 23) hx hb dX10_isLetter_8 (by decide) (fun c6 => ?_) (fun c6 => ?_)
  · have hf := (if_neg c6).symm.trans hf
    refine lv_iconst (v := (1 : Int32)) hx hb dX10_isLetter_23 (by decide) ?_
    refine lv_goto (tgt := 28) hx hb dX10_isLetter_24 (by decide) ?_
    cases hf
    exact J4 _ _ _ S (lv_sub hl [] rfl)
  · have hf := (if_pos c6).symm.trans hf
    refine lv_iload_n hx hb dX10_isLetter_11 rfl (lv_at hl 0 rfl) ?_
    refine lv_bipush (v := (95 : Int32)) hx hb dX10_isLetter_12 (by decide) ?_
    refine lv_icmp_eq (tgt := 23) hx hb dX10_isLetter_14 (by decide) (fun c7 => ?_) (fun c7 => ?_)
    · have hf := (if_pos c7).symm.trans hf
      refine lv_iconst (v := (1 : Int32)) hx hb dX10_isLetter_23 (by decide) ?_
      refine lv_goto (tgt := 28) hx hb dX10_isLetter_24 (by decide) ?_
      cases hf
      exact J4 _ _ _ S (lv_sub hl [] rfl)
    · have hf := (if_neg c7).symm.trans hf
      refine lv_iload_n hx hb dX10_isLetter_17 rfl (lv_at hl 0 rfl) ?_
      refine lv_bipush (v := (124 : Int32)) hx hb dX10_isLetter_18 (by decide) ?_
      refine lv_icmp_ne (tgt := 27) hx hb dX10_isLetter_20 (by decide) (fun c8 => ?_) (fun c8 => ?_)
      · have hf := (if_neg c8).symm.trans hf
        refine lv_iconst (v := (0 : Int32)) hx hb dX10_isLetter_27 (by decide) ?_
        cases hf
        exact J4 _ _ _ S (lv_sub hl [] rfl)
      · have hf := (if_pos c8).symm.trans hf
        refine lv_iconst (v := (1 : Int32)) hx hb dX10_isLetter_23 (by decide) ?_
        refine lv_goto (tgt := 28) hx hb dX10_isLetter_24 (by decide) ?_
        cases hf
        exact J4 _ _ _ S (lv_sub hl [] rfl)

noncomputable def f_X10_isText_l1 (σ : gSt) (a0 : Nat) (a1 : Int32) (a2 : Int32) : Nat → Int32 → Int32 → Option (Int32)
  | 0, _, _ => none
  | n + 1, i7, i8 => (if a2 ≤ i7 then (g_k1 (if (2 : Int32) ≤ i8 then some (0 : Int32) else some (1 : Int32)) fun x10 => (g_k1 (gzb x10) fun v13 => some v13)) else (g_k1 (gald σ a0 (gml a0) (a1 + i7)) fun v15 => (g_k1 (f_X10_isLetter σ v15) fun v16 => (if v16 = 0 then some (0 : Int32) else (g_k1 (gald σ a0 (gml a0) (a1 + i7)) fun v18 => (g_k1 (if v18 = (124 : Int32) then some (1 : Int32) else some (0 : Int32)) fun x19 => (f_X10_isText_l1 σ a0 a1 a2 n (i7 + 1) (i8 + x19))))))))
set_option maxRecDepth 100000 in
set_option maxHeartbeats 4000000 in
theorem w_X10_isText_l1 {l : Launch} {Γ : gG} {ad : Nat → Nat} {N : Nat} {p : Program} {e : Env} {s : State} {m : MethodId} {args : Array Value} {below : List Frame} {meth : Method} {c : Code} (hN : 8 ≤ N) (X : gX celM Γ ad N RX10 cX10_isText 5 (some .boolean) p s m args meth c) {σ : gSt} {a0 : Nat} {a1 : Int32} {a2 : Int32} (ha0 : gma a0 = true) : ∀ (n : Nat) (i7 : Int32) (i8 : Int32) (r : Int32), f_X10_isText_l1 σ a0 a1 a2 n i7 i8 = some r → ∀ (H : Heap) (locs : List Loc) (ls : Array Slot), gS celM Γ ad N σ s H locs → lv_has ls 5 [(4, .int i7), (3, .int i8), (0, .ref (ad a0)), (1, .int a1), (2, .int a2)] → W p l e (gR 3 0 0) s m args below meth c H locs 0 0 (gQi celM Γ ad N r σ below args s) (F0 m 37 ls []) := by
  have hx := X.1
  have hb := X.2.1
  intro n
  induction n with
  | zero =>
    intro i7 i8 r hf
    cases hf
  | succ n ih =>
    intro i7 i8 r hf H locs ls S hl
    rw [f_X10_isText_l1] at hf
    refine lv_iload hx hb dX10_isText_37 (lv_at hl 0 rfl) ?_
    refine lv_iload_n hx hb dX10_isText_39 rfl (lv_at hl 4 rfl) ?_
    refine lv_icmp_ge (tgt := 82) hx hb dX10_isText_40 (by decide) (fun c9 => ?_) (fun c9 => ?_)
    · have hf := (if_pos c9).symm.trans hf
      refine lv_iload_n hx hb dX10_isText_82 rfl (lv_at hl 1 rfl) ?_
      refine lv_iconst (v := (2 : Int32)) hx hb dX10_isText_83 (by decide) ?_
      obtain ⟨x10, hr11, hf⟩ := g_s1 hf
      have J12 : ∀ (H : Heap) (locs : List Loc) (ls : Array Slot), gS celM Γ ad N σ s H locs → lv_has ls 5 [] → W p l e (gR 3 0 0) s m args below meth c H locs 0 0 (gQi celM Γ ad N r σ below args s) (F0 m 92 ls [.int x10]) := by
        intro H locs ls S hl
        obtain ⟨v13, hv13, hf⟩ := g_s1 hf
        obtain ⟨hnv13, rfl⟩ := gzb_some hv13
        cases hf
        exact g_reti X S hnv13 dX10_isText_92
      replace hf := hr11
      refine lv_icmp_ge (tgt := 91) hx hb dX10_isText_84 (by decide) (fun c14 => ?_) (fun c14 => ?_)
      · have hf := (if_pos c14).symm.trans hf
        refine lv_iconst (v := (0 : Int32)) hx hb dX10_isText_91 (by decide) ?_
        cases hf
        exact J12 _ _ _ S (lv_sub hl [] rfl)
      · have hf := (if_neg c14).symm.trans hf
        refine lv_iconst (v := (1 : Int32)) hx hb dX10_isText_87 (by decide) ?_
        refine lv_goto (tgt := 92) hx hb dX10_isText_88 (by decide) ?_
        cases hf
        exact J12 _ _ _ S (lv_sub hl [] rfl)
    · have hf := (if_neg c9).symm.trans hf
      refine lv_aload_n hx hb dX10_isText_43 rfl (lv_at hl 2 rfl) ?_
      refine lv_iload_n hx hb dX10_isText_44 rfl (lv_at hl 3 rfl) ?_
      refine lv_iload hx hb dX10_isText_45 (lv_at hl 0 rfl) ?_
      refine lv_iadd hx hb dX10_isText_47 ?_
      obtain ⟨v15, hv15, hf⟩ := g_s1 hf
      refine g_iald X S (km_N ha0 hN) (ceM_a ha0) hv15 dX10_isText_48 ?_
      obtain ⟨v16, hv16, hf⟩ := g_s1 hf
      refine g_ki S (g_runS (rest := []) X S (c_X10_isLetter l hN  hv16 _) csX10_isLetter mlX10_100 rfl rfl hl.1 (by decide) ⟨⟨rfl, rfl⟩, ⟨Nat.le_of_ble_eq_true rfl, Nat.le_of_ble_eq_true rfl⟩, Nat.le_of_ble_eq_true rfl, Nat.le_of_ble_eq_true rfl⟩ dX10_isText_49) (fun H locs S => ?_)
      refine lv_if_ne (tgt := 57) hx hb dX10_isText_52 (by decide) (fun c17 => ?_) (fun c17 => ?_)
      · have hf := (if_neg c17).symm.trans hf
        refine lv_iload_n hx hb dX10_isText_57 rfl (lv_at hl 1 rfl) ?_
        refine lv_aload_n hx hb dX10_isText_58 rfl (lv_at hl 2 rfl) ?_
        refine lv_iload_n hx hb dX10_isText_59 rfl (lv_at hl 3 rfl) ?_
        refine lv_iload hx hb dX10_isText_60 (lv_at hl 0 rfl) ?_
        refine lv_iadd hx hb dX10_isText_62 ?_
        obtain ⟨v18, hv18, hf⟩ := g_s1 hf
        refine g_iald X S (km_N ha0 hN) (ceM_a ha0) hv18 dX10_isText_63 ?_
        refine lv_bipush (v := (124 : Int32)) hx hb dX10_isText_64 (by decide) ?_
        obtain ⟨x19, hr20, hf⟩ := g_s1 hf
        have J21 : ∀ (H : Heap) (locs : List Loc) (ls : Array Slot), gS celM Γ ad N σ s H locs → lv_has ls 5 [(4, .int i7), (0, .ref (ad a0)), (1, .int a1), (2, .int a2)] → W p l e (gR 3 0 0) s m args below meth c H locs 0 0 (gQi celM Γ ad N r σ below args s) (F0 m 74 ls [.int x19, .int i8]) := by
          intro H locs ls S hl
          refine lv_iadd hx hb dX10_isText_74 ?_
          refine lv_istore_n (lv' := [(3, .int (i8 + x19)), (4, .int i7), (0, .ref (ad a0)), (1, .int a1), (2, .int a2)]) hx hb dX10_isText_75 rfl hl (by decide) rfl (fun ls hl => ?_)
          refine lv_iinc (v := (i7 + 1)) (lv' := [(4, .int (i7 + 1)), (3, .int (i8 + x19)), (0, .ref (ad a0)), (1, .int a1), (2, .int a2)]) hx hb dX10_isText_76 hl (k := 1) rfl rfl (by decide) rfl (fun ls hl => ?_)
          refine lv_goto (tgt := 37) hx hb dX10_isText_79 (by decide) ?_
          exact ih _ _ _  hf _ _ _ S (lv_sub hl [0, 1, 2, 3, 4] rfl)
        replace hf := hr20
        refine lv_icmp_ne (tgt := 73) hx hb dX10_isText_66 (by decide) (fun c22 => ?_) (fun c22 => ?_)
        · have hf := (if_neg c22).symm.trans hf
          refine lv_iconst (v := (0 : Int32)) hx hb dX10_isText_73 (by decide) ?_
          cases hf
          exact J21 _ _ _ S (lv_sub hl [0, 2, 3, 4] rfl)
        · have hf := (if_pos c22).symm.trans hf
          refine lv_iconst (v := (1 : Int32)) hx hb dX10_isText_69 (by decide) ?_
          refine lv_goto (tgt := 74) hx hb dX10_isText_70 (by decide) ?_
          cases hf
          exact J21 _ _ _ S (lv_sub hl [0, 2, 3, 4] rfl)
      · have hf := (if_pos c17).symm.trans hf
        refine lv_iconst (v := (0 : Int32)) hx hb dX10_isText_55 (by decide) ?_
        cases hf
        exact g_reti X S (by decide +kernel) dX10_isText_56
noncomputable def f_X10_isText (σ : gSt) (a0 : Nat) (a1 : Int32) (a2 : Int32) : Option (Int32) :=
  (g_k1 (f_X10_in σ a2 (1 : Int32) (24 : Int32)) fun v1 => (if v1 = 0 then some (0 : Int32) else (g_k1 (gald σ a0 (gml a0) a1) fun v3 => (if v3 = (124 : Int32) then some (0 : Int32) else (g_k1 (gald σ a0 (gml a0) ((a1 + a2) - (1 : Int32))) fun v5 => (if v5 = (124 : Int32) then some (0 : Int32) else (f_X10_isText_l1 σ a0 a1 a2 FU (0 : Int32) (0 : Int32))))))))
set_option maxRecDepth 100000 in
set_option maxHeartbeats 4000000 in
theorem c_X10_isText (l : Launch) {Γ : gG} {ad : Nat → Nat} {N : Nat} (hN : 8 ≤ N) {σ : gSt} {a0 : Nat} {a1 : Int32} {a2 : Int32} (ha0 : gma a0 = true) {r : Int32} (hf : f_X10_isText σ a0 a1 a2 = some r) : gMi l celM Γ ad N yX10_isText cX10_isText 5 (some .boolean) (gR 3 0 0) [.ref (ad a0), .int a1, .int a2] σ r σ := by
  intro sz
  refine gOf (Qc := fun sz => gQci celM Γ ad N r σ sz) RX10 (by decide) rfl (by decide) (fun p e s m args below meth c H locs ls X S hl => ?_)
  have hl : lv_has ls 5 [(0, .ref (ad a0)), (1, .int a1), (2, .int a2)] := hl
  have hx := X.1
  have hb := X.2.1
  unfold f_X10_isText at hf
  refine lv_iload_n hx hb dX10_isText_0 rfl (lv_at hl 2 rfl) ?_
  refine lv_iconst (v := (1 : Int32)) hx hb dX10_isText_1 (by decide) ?_
  refine lv_bipush (v := (24 : Int32)) hx hb dX10_isText_2 (by decide) ?_
  obtain ⟨v1, hv1, hf⟩ := g_s1 hf
  refine g_ki S (g_runS (rest := []) X S (c_X10_in l hN  hv1 _) csX10_in mlX10_48 rfl rfl hl.1 (by decide) ⟨⟨rfl, rfl⟩, ⟨Nat.le_of_ble_eq_true rfl, Nat.le_of_ble_eq_true rfl⟩, Nat.le_of_ble_eq_true rfl, Nat.le_of_ble_eq_true rfl⟩ dX10_isText_4) (fun H locs S => ?_)
  refine lv_if_eq (tgt := 30) hx hb dX10_isText_7 (by decide) (fun c2 => ?_) (fun c2 => ?_)
  · have hf := (if_pos c2).symm.trans hf
    refine lv_iconst (v := (0 : Int32)) hx hb dX10_isText_30 (by decide) ?_
    cases hf
    exact g_reti X S (by decide +kernel) dX10_isText_31
  · have hf := (if_neg c2).symm.trans hf
    refine lv_aload_n hx hb dX10_isText_10 rfl (lv_at hl 0 rfl) ?_
    refine lv_iload_n hx hb dX10_isText_11 rfl (lv_at hl 1 rfl) ?_
    obtain ⟨v3, hv3, hf⟩ := g_s1 hf
    refine g_iald X S (km_N ha0 hN) (ceM_a ha0) hv3 dX10_isText_12 ?_
    refine lv_bipush (v := (124 : Int32)) hx hb dX10_isText_13 (by decide) ?_
    refine lv_icmp_eq (tgt := 30) hx hb dX10_isText_15 (by decide) (fun c4 => ?_) (fun c4 => ?_)
    · have hf := (if_pos c4).symm.trans hf
      refine lv_iconst (v := (0 : Int32)) hx hb dX10_isText_30 (by decide) ?_
      cases hf
      exact g_reti X S (by decide +kernel) dX10_isText_31
    · have hf := (if_neg c4).symm.trans hf
      refine lv_aload_n hx hb dX10_isText_18 rfl (lv_at hl 0 rfl) ?_
      refine lv_iload_n hx hb dX10_isText_19 rfl (lv_at hl 1 rfl) ?_
      refine lv_iload_n hx hb dX10_isText_20 rfl (lv_at hl 2 rfl) ?_
      refine lv_iadd hx hb dX10_isText_21 ?_
      refine lv_iconst (v := (1 : Int32)) hx hb dX10_isText_22 (by decide) ?_
      refine lv_isub hx hb dX10_isText_23 ?_
      obtain ⟨v5, hv5, hf⟩ := g_s1 hf
      refine g_iald X S (km_N ha0 hN) (ceM_a ha0) hv5 dX10_isText_24 ?_
      refine lv_bipush (v := (124 : Int32)) hx hb dX10_isText_25 (by decide) ?_
      refine lv_icmp_ne (tgt := 32) hx hb dX10_isText_27 (by decide) (fun c6 => ?_) (fun c6 => ?_)
      · have hf := (if_neg c6).symm.trans hf
        refine lv_iconst (v := (0 : Int32)) hx hb dX10_isText_32 (by decide) ?_
        refine lv_istore_n (lv' := [(3, .int (0 : Int32)), (0, .ref (ad a0)), (1, .int a1), (2, .int a2)]) hx hb dX10_isText_33 rfl hl (by decide) rfl (fun ls hl => ?_)
        refine lv_iconst (v := (0 : Int32)) hx hb dX10_isText_34 (by decide) ?_
        refine lv_istore (lv' := [(4, .int (0 : Int32)), (3, .int (0 : Int32)), (0, .ref (ad a0)), (1, .int a1), (2, .int a2)]) hx hb dX10_isText_35 hl (by decide) rfl (fun ls hl => ?_)
        exact w_X10_isText_l1 hN X ha0 FU _ _ _  hf _ _ _ S (lv_sub hl [0, 1, 2, 3, 4] rfl)
      · have hf := (if_pos c6).symm.trans hf
        refine lv_iconst (v := (0 : Int32)) hx hb dX10_isText_30 (by decide) ?_
        cases hf
        exact g_reti X S (by decide +kernel) dX10_isText_31

noncomputable def f_X10_bars_l1 (σ : gSt) (a0 : Nat) (a1 : Int32) (a2 : Int32) : Nat → Int32 → Int32 → Option (Int32)
  | 0, _, _ => none
  | n + 1, i1, i2 => (if a2 ≤ i1 then some i2 else (g_k1 (gald σ a0 (gml a0) (a1 + i1)) fun v5 => (g_k1 (if v5 = (124 : Int32) then some (1 : Int32) else some (0 : Int32)) fun x6 => (f_X10_bars_l1 σ a0 a1 a2 n (i1 + 1) (i2 + x6)))))
set_option maxRecDepth 100000 in
set_option maxHeartbeats 4000000 in
theorem w_X10_bars_l1 {l : Launch} {Γ : gG} {ad : Nat → Nat} {N : Nat} {p : Program} {e : Env} {s : State} {m : MethodId} {args : Array Value} {below : List Frame} {meth : Method} {c : Code} {Q : State → Prop} (hN : 8 ≤ N) (X : gX celM Γ ad N RX10 cX10_bars 5 (some .int) p s m args meth c) {σ : gSt} {a0 : Nat} {a1 : Int32} {a2 : Int32} (ha0 : gma a0 = true) : ∀ (n : Nat) (i1 : Int32) (i2 : Int32) (r3 : Int32), f_X10_bars_l1 σ a0 a1 a2 n i1 i2 = some r3 → (∀ (H : Heap) (locs : List Loc) (ls : Array Slot), gS celM Γ ad N σ s H locs → lv_has ls 5 [(3, .int r3)] → W p l e (gR 1 0 0) s m args below meth c H locs 0 0 (Q) (F0 m 36 ls [])) → ∀ (H : Heap) (locs : List Loc) (ls : Array Slot), gS celM Γ ad N σ s H locs → lv_has ls 5 [(4, .int i1), (3, .int i2), (0, .ref (ad a0)), (1, .int a1), (2, .int a2)] → W p l e (gR 1 0 0) s m args below meth c H locs 0 0 (Q) (F0 m 5 ls []) := by
  have hx := X.1
  have hb := X.2.1
  intro n
  induction n with
  | zero =>
    intro i1 i2 r3 hf
    cases hf
  | succ n ih =>
    intro i1 i2 r3 hf J H locs ls S hl
    rw [f_X10_bars_l1] at hf
    refine lv_iload hx hb dX10_bars_5 (lv_at hl 0 rfl) ?_
    refine lv_iload_n hx hb dX10_bars_7 rfl (lv_at hl 4 rfl) ?_
    refine lv_icmp_ge (tgt := 36) hx hb dX10_bars_8 (by decide) (fun c4 => ?_) (fun c4 => ?_)
    · have hf := (if_pos c4).symm.trans hf
      cases hf
      exact J _ _ _ S (lv_sub hl [1] rfl)
    · have hf := (if_neg c4).symm.trans hf
      refine lv_iload_n hx hb dX10_bars_11 rfl (lv_at hl 1 rfl) ?_
      refine lv_aload_n hx hb dX10_bars_12 rfl (lv_at hl 2 rfl) ?_
      refine lv_iload_n hx hb dX10_bars_13 rfl (lv_at hl 3 rfl) ?_
      refine lv_iload hx hb dX10_bars_14 (lv_at hl 0 rfl) ?_
      refine lv_iadd hx hb dX10_bars_16 ?_
      obtain ⟨v5, hv5, hf⟩ := g_s1 hf
      refine g_iald X S (km_N ha0 hN) (ceM_a ha0) hv5 dX10_bars_17 ?_
      refine lv_bipush (v := (124 : Int32)) hx hb dX10_bars_18 (by decide) ?_
      obtain ⟨x6, hr7, hf⟩ := g_s1 hf
      have J8 : ∀ (H : Heap) (locs : List Loc) (ls : Array Slot), gS celM Γ ad N σ s H locs → lv_has ls 5 [(4, .int i1), (0, .ref (ad a0)), (1, .int a1), (2, .int a2)] → W p l e (gR 1 0 0) s m args below meth c H locs 0 0 (Q) (F0 m 28 ls [.int x6, .int i2]) := by
        intro H locs ls S hl
        refine lv_iadd hx hb dX10_bars_28 ?_
        refine lv_istore_n (lv' := [(3, .int (i2 + x6)), (4, .int i1), (0, .ref (ad a0)), (1, .int a1), (2, .int a2)]) hx hb dX10_bars_29 rfl hl (by decide) rfl (fun ls hl => ?_)
        refine lv_iinc (v := (i1 + 1)) (lv' := [(4, .int (i1 + 1)), (3, .int (i2 + x6)), (0, .ref (ad a0)), (1, .int a1), (2, .int a2)]) hx hb dX10_bars_30 hl (k := 1) rfl rfl (by decide) rfl (fun ls hl => ?_)
        refine lv_goto (tgt := 5) hx hb dX10_bars_33 (by decide) ?_
        exact ih _ _ _  hf J _ _ _ S (lv_sub hl [0, 1, 2, 3, 4] rfl)
      replace hf := hr7
      refine lv_icmp_ne (tgt := 27) hx hb dX10_bars_20 (by decide) (fun c9 => ?_) (fun c9 => ?_)
      · have hf := (if_neg c9).symm.trans hf
        refine lv_iconst (v := (0 : Int32)) hx hb dX10_bars_27 (by decide) ?_
        cases hf
        exact J8 _ _ _ S (lv_sub hl [0, 2, 3, 4] rfl)
      · have hf := (if_pos c9).symm.trans hf
        refine lv_iconst (v := (1 : Int32)) hx hb dX10_bars_23 (by decide) ?_
        refine lv_goto (tgt := 28) hx hb dX10_bars_24 (by decide) ?_
        cases hf
        exact J8 _ _ _ S (lv_sub hl [0, 2, 3, 4] rfl)
noncomputable def f_X10_bars (σ : gSt) (a0 : Nat) (a1 : Int32) (a2 : Int32) : Option (Int32) :=
  (g_k1 (f_X10_bars_l1 σ a0 a1 a2 FU (0 : Int32) (0 : Int32)) fun r3 => some r3)
set_option maxRecDepth 100000 in
set_option maxHeartbeats 4000000 in
theorem c_X10_bars (l : Launch) {Γ : gG} {ad : Nat → Nat} {N : Nat} (hN : 8 ≤ N) {σ : gSt} {a0 : Nat} {a1 : Int32} {a2 : Int32} (ha0 : gma a0 = true) {r : Int32} (hf : f_X10_bars σ a0 a1 a2 = some r) : gMi l celM Γ ad N yX10_bars cX10_bars 5 (some .int) (gR 1 0 0) [.ref (ad a0), .int a1, .int a2] σ r σ := by
  intro sz
  refine gOf (Qc := fun sz => gQci celM Γ ad N r σ sz) RX10 (by decide) rfl (by decide) (fun p e s m args below meth c H locs ls X S hl => ?_)
  have hl : lv_has ls 5 [(4, .int (0 : Int32)), (3, .int (0 : Int32)), (0, .ref (ad a0)), (1, .int a1), (2, .int a2)] := hl
  have hx := X.1
  have hb := X.2.1
  unfold f_X10_bars at hf
  refine lv_iconst (v := (0 : Int32)) hx hb dX10_bars_0 (by decide) ?_
  refine lv_istore_n (lv' := [(3, .int (0 : Int32)), (0, .ref (ad a0)), (1, .int a1), (2, .int a2)]) hx hb dX10_bars_1 rfl hl (by decide) rfl (fun ls hl => ?_)
  refine lv_iconst (v := (0 : Int32)) hx hb dX10_bars_2 (by decide) ?_
  refine lv_istore (lv' := [(4, .int (0 : Int32)), (3, .int (0 : Int32)), (0, .ref (ad a0)), (1, .int a1), (2, .int a2)]) hx hb dX10_bars_3 hl (by decide) rfl (fun ls hl => ?_)
  obtain ⟨r3, hr10, hf⟩ := g_s1 hf
  refine w_X10_bars_l1 hN X ha0 FU _ _ _  hr10 (fun H locs ls S hl => ?_) _ _ _ S (lv_sub hl [0, 1, 2, 3, 4] rfl)
  refine lv_iload_n hx hb dX10_bars_36 rfl (lv_at hl 0 rfl) ?_
  cases hf
  exact g_reti X S rfl dX10_bars_37

noncomputable def f_X10_load (σ : gSt) (a0 : Int32) (a1 : Int32) : Option (Int32) :=
  (g_k1 (f_X10_at σ a0 a1 (3 : Int32)) fun v1 => (g_k1 (gald σ 1 926 v1) fun v2 => (g_k1 (f_X10_at σ a0 a1 (4 : Int32)) fun v3 => (g_k1 (f_X10_at σ a0 a1 (3 : Int32)) fun v4 => (g_k1 (gald σ 1 926 v4) fun v5 => (g_k1 (f_X10_bars σ 1 v3 v5) fun v6 => some (v2 - v6)))))))
set_option maxRecDepth 100000 in
set_option maxHeartbeats 4000000 in
theorem c_X10_load (l : Launch) {Γ : gG} {ad : Nat → Nat} {N : Nat} (hN : 8 ≤ N) {σ : gSt} {a0 : Int32} {a1 : Int32}  {r : Int32} (hf : f_X10_load σ a0 a1 = some r) : gMi l celM Γ ad N yX10_load cX10_load 3 (some .int) (gR 2 0 0) [.ref (ad 0), .int a0, .int a1] σ r σ := by
  intro sz
  refine gOf (Qc := fun sz => gQci celM Γ ad N r σ sz) RX10 (by decide) rfl (by decide) (fun p e s m args below meth c H locs ls X S hl => ?_)
  have hl : lv_has ls 3 [(0, .ref (ad 0)), (1, .int a0), (2, .int a1)] := hl
  have hx := X.1
  have hb := X.2.1
  unfold f_X10_load at hf
  refine lv_aload_n hx hb dX10_load_0 rfl (lv_at hl 0 rfl) ?_
  refine gfX10_7 X S hN dX10_load_1 ?_
  refine lv_iload_n hx hb dX10_load_4 rfl (lv_at hl 1 rfl) ?_
  refine lv_iload_n hx hb dX10_load_5 rfl (lv_at hl 2 rfl) ?_
  refine lv_iconst (v := (3 : Int32)) hx hb dX10_load_6 (by decide) ?_
  obtain ⟨v1, hv1, hf⟩ := g_s1 hf
  refine g_ki S (g_runS (rest := [.ref (ad 1)]) X S (c_X10_at l hN  hv1 _) csX10_at mlX10_56 rfl rfl hl.1 (by decide) ⟨⟨rfl, rfl⟩, ⟨Nat.le_of_ble_eq_true rfl, Nat.le_of_ble_eq_true rfl⟩, Nat.le_of_ble_eq_true rfl, Nat.le_of_ble_eq_true rfl⟩ dX10_load_7) (fun H locs S => ?_)
  obtain ⟨v2, hv2, hf⟩ := g_s1 hf
  refine g_iald X S (by omega) (ceM_a (rfl : gma 1 = true)) hv2 dX10_load_10 ?_
  refine lv_aload_n hx hb dX10_load_11 rfl (lv_at hl 0 rfl) ?_
  refine gfX10_7 X S hN dX10_load_12 ?_
  refine lv_iload_n hx hb dX10_load_15 rfl (lv_at hl 1 rfl) ?_
  refine lv_iload_n hx hb dX10_load_16 rfl (lv_at hl 2 rfl) ?_
  refine lv_iconst (v := (4 : Int32)) hx hb dX10_load_17 (by decide) ?_
  obtain ⟨v3, hv3, hf⟩ := g_s1 hf
  refine g_ki S (g_runS (rest := [.ref (ad 1), .int v2]) X S (c_X10_at l hN  hv3 _) csX10_at mlX10_56 rfl rfl hl.1 (by decide) ⟨⟨rfl, rfl⟩, ⟨Nat.le_of_ble_eq_true rfl, Nat.le_of_ble_eq_true rfl⟩, Nat.le_of_ble_eq_true rfl, Nat.le_of_ble_eq_true rfl⟩ dX10_load_18) (fun H locs S => ?_)
  refine lv_aload_n hx hb dX10_load_21 rfl (lv_at hl 0 rfl) ?_
  refine gfX10_7 X S hN dX10_load_22 ?_
  refine lv_iload_n hx hb dX10_load_25 rfl (lv_at hl 1 rfl) ?_
  refine lv_iload_n hx hb dX10_load_26 rfl (lv_at hl 2 rfl) ?_
  refine lv_iconst (v := (3 : Int32)) hx hb dX10_load_27 (by decide) ?_
  obtain ⟨v4, hv4, hf⟩ := g_s1 hf
  refine g_ki S (g_runS (rest := [.ref (ad 1), .int v3, .ref (ad 1), .int v2]) X S (c_X10_at l hN  hv4 _) csX10_at mlX10_56 rfl rfl hl.1 (by decide) ⟨⟨rfl, rfl⟩, ⟨Nat.le_of_ble_eq_true rfl, Nat.le_of_ble_eq_true rfl⟩, Nat.le_of_ble_eq_true rfl, Nat.le_of_ble_eq_true rfl⟩ dX10_load_28) (fun H locs S => ?_)
  obtain ⟨v5, hv5, hf⟩ := g_s1 hf
  refine g_iald X S (by omega) (ceM_a (rfl : gma 1 = true)) hv5 dX10_load_31 ?_
  obtain ⟨v6, hv6, hf⟩ := g_s1 hf
  refine g_ki S (g_runS (rest := [.int v2]) X S (c_X10_bars l hN (by rfl : gma 1 = true) hv6 _) csX10_bars mlX10_103 rfl rfl hl.1 (by decide) ⟨⟨rfl, rfl⟩, ⟨Nat.le_of_ble_eq_true rfl, Nat.le_of_ble_eq_true rfl⟩, Nat.le_of_ble_eq_true rfl, Nat.le_of_ble_eq_true rfl⟩ dX10_load_32) (fun H locs S => ?_)
  refine lv_isub hx hb dX10_load_35 ?_
  cases hf
  exact g_reti X S rfl dX10_load_36

noncomputable def f_X10_up (σ : gSt) (a0 : Int32) (a1 : Int32) : Option (Int32) :=
  (g_k1 (gdiv ((a0 + a1) - (1 : Int32)) a1) fun _ => some (((a0 + a1) - (1 : Int32)) / a1))
set_option maxRecDepth 100000 in
set_option maxHeartbeats 4000000 in
theorem c_X10_up (l : Launch) {Γ : gG} {ad : Nat → Nat} {N : Nat} (hN : 8 ≤ N) {σ : gSt} {a0 : Int32} {a1 : Int32}  {r : Int32} (hf : f_X10_up σ a0 a1 = some r) : gMi l celM Γ ad N yX10_up cX10_up 2 (some .int) (gR 1 0 0) [.int a0, .int a1] σ r σ := by
  intro sz
  refine gOf (Qc := fun sz => gQci celM Γ ad N r σ sz) RX10 (by decide) rfl (by decide) (fun p e s m args below meth c H locs ls X S hl => ?_)
  have hl : lv_has ls 2 [(0, .int a0), (1, .int a1)] := hl
  have hx := X.1
  have hb := X.2.1
  unfold f_X10_up at hf
  refine lv_iload_n hx hb dX10_up_0 rfl (lv_at hl 0 rfl) ?_
  refine lv_iload_n hx hb dX10_up_1 rfl (lv_at hl 1 rfl) ?_
  refine lv_iadd hx hb dX10_up_2 ?_
  refine lv_iconst (v := (1 : Int32)) hx hb dX10_up_3 (by decide) ?_
  refine lv_isub hx hb dX10_up_4 ?_
  refine lv_iload_n hx hb dX10_up_5 rfl (lv_at hl 1 rfl) ?_
  obtain ⟨v1, hv1, hf⟩ := g_s1 hf
  obtain ⟨hzv1, rfl⟩ := gdiv_some hv1
  refine lv_idiv hx hb dX10_up_6 hzv1 ?_
  cases hf
  exact g_reti X S rfl dX10_up_7

noncomputable def f_X10_needs (σ : gSt) (a0 : Int32) (a1 : Int32) : Option (Int32) :=
  (g_k1 (f_X10_at σ a0 a1 (2 : Int32)) fun v1 => (g_k1 (gald σ 1 926 v1) fun v2 => (g_k1 (if v2 = (2 : Int32) then some (20 : Int32) else some (25 : Int32)) fun x3 => (g_k1 (f_X10_load σ a0 a1) fun v6 => (g_k1 (f_X10_up σ (x3 * v6) (σ 1 1)) fun v7 => (g_k1 (if v2 = (1 : Int32) then (g_k1 (f_X10_up σ v7 (2 : Int32)) fun v12 => some v12) else some v7) fun x8 => some x8))))))
set_option maxRecDepth 100000 in
set_option maxHeartbeats 4000000 in
theorem c_X10_needs (l : Launch) {Γ : gG} {ad : Nat → Nat} {N : Nat} (hN : 8 ≤ N) {σ : gSt} {a0 : Int32} {a1 : Int32}  {r : Int32} (hf : f_X10_needs σ a0 a1 = some r) : gMi l celM Γ ad N yX10_needs cX10_needs 5 (some .int) (gR 3 0 0) [.ref (ad 0), .int a0, .int a1] σ r σ := by
  intro sz
  refine gOf (Qc := fun sz => gQci celM Γ ad N r σ sz) RX10 (by decide) rfl (by decide) (fun p e s m args below meth c H locs ls X S hl => ?_)
  have hl : lv_has ls 5 [(3, .int v2), (0, .ref (ad 0)), (1, .int a0), (2, .int a1)] := hl
  have hx := X.1
  have hb := X.2.1
  unfold f_X10_needs at hf
  refine lv_aload_n hx hb dX10_needs_0 rfl (lv_at hl 0 rfl) ?_
  refine gfX10_7 X S hN dX10_needs_1 ?_
  refine lv_iload_n hx hb dX10_needs_4 rfl (lv_at hl 1 rfl) ?_
  refine lv_iload_n hx hb dX10_needs_5 rfl (lv_at hl 2 rfl) ?_
  refine lv_iconst (v := (2 : Int32)) hx hb dX10_needs_6 (by decide) ?_
  obtain ⟨v1, hv1, hf⟩ := g_s1 hf
  refine g_ki S (g_runS (rest := [.ref (ad 1)]) X S (c_X10_at l hN  hv1 _) csX10_at mlX10_56 rfl rfl hl.1 (by decide) ⟨⟨rfl, rfl⟩, ⟨Nat.le_of_ble_eq_true rfl, Nat.le_of_ble_eq_true rfl⟩, Nat.le_of_ble_eq_true rfl, Nat.le_of_ble_eq_true rfl⟩ dX10_needs_7) (fun H locs S => ?_)
  obtain ⟨v2, hv2, hf⟩ := g_s1 hf
  refine g_iald X S (by omega) (ceM_a (rfl : gma 1 = true)) hv2 dX10_needs_10 ?_
  refine lv_istore_n (lv' := [(3, .int v2), (0, .ref (ad 0)), (1, .int a0), (2, .int a1)]) hx hb dX10_needs_11 rfl hl (by decide) rfl (fun ls hl => ?_)
  refine lv_iload_n hx hb dX10_needs_12 rfl (lv_at hl 0 rfl) ?_
  refine lv_iconst (v := (2 : Int32)) hx hb dX10_needs_13 (by decide) ?_
  obtain ⟨x3, hr4, hf⟩ := g_s1 hf
  have J5 : ∀ (H : Heap) (locs : List Loc) (ls : Array Slot), gS celM Γ ad N σ s H locs → lv_has ls 5 [(3, .int v2), (0, .ref (ad 0)), (1, .int a0), (2, .int a1)] → W p l e (gR 3 0 0) s m args below meth c H locs 0 0 (gQi celM Γ ad N r σ below args s) (F0 m 24 ls [.int x3]) := by
    intro H locs ls S hl
    refine lv_aload_n hx hb dX10_needs_24 rfl (lv_at hl 1 rfl) ?_
    refine lv_iload_n hx hb dX10_needs_25 rfl (lv_at hl 2 rfl) ?_
    refine lv_iload_n hx hb dX10_needs_26 rfl (lv_at hl 3 rfl) ?_
    obtain ⟨v6, hv6, hf⟩ := g_s1 hf
    refine g_ki S (g_runV (rest := [.int x3]) X S (c_X10_load l hN  hv6 _) cvX10_load mlX10_107 (by omega) (ceM_10 _) rfl rfl rfl hl.1 (by decide) ⟨⟨rfl, rfl⟩, ⟨Nat.le_of_ble_eq_true rfl, Nat.le_of_ble_eq_true rfl⟩, Nat.le_of_ble_eq_true rfl, Nat.le_of_ble_eq_true rfl⟩ dX10_needs_27) (fun H locs S => ?_)
    refine lv_imul hx hb dX10_needs_30 ?_
    refine lv_aload_n hx hb dX10_needs_31 rfl (lv_at hl 1 rfl) ?_
    refine gfX10_7 X S hN dX10_needs_32 ?_
    refine lv_iconst (v := (1 : Int32)) hx hb dX10_needs_35 (by decide) ?_
    refine g_ialdC X S (by omega) (ceM_a (rfl : gma 1 = true)) 1 (by decide) (by decide) dX10_needs_36 ?_
    obtain ⟨v7, hv7, hf⟩ := g_s1 hf
    refine g_ki S (g_runS (rest := []) X S (c_X10_up l hN  hv7 _) csX10_up mlX10_110 rfl rfl hl.1 (by decide) ⟨⟨rfl, rfl⟩, ⟨Nat.le_of_ble_eq_true rfl, Nat.le_of_ble_eq_true rfl⟩, Nat.le_of_ble_eq_true rfl, Nat.le_of_ble_eq_true rfl⟩ dX10_needs_37) (fun H locs S => ?_)
    refine lv_istore (lv' := [(4, .int v7), (3, .int v2), (0, .ref (ad 0)), (1, .int a0), (2, .int a1)]) hx hb dX10_needs_40 hl (by decide) rfl (fun ls hl => ?_)
    refine lv_iload_n hx hb dX10_needs_42 rfl (lv_at hl 1 rfl) ?_
    refine lv_iconst (v := (1 : Int32)) hx hb dX10_needs_43 (by decide) ?_
    obtain ⟨x8, hr9, hf⟩ := g_s1 hf
    have J10 : ∀ (H : Heap) (locs : List Loc) (ls : Array Slot), gS celM Γ ad N σ s H locs → lv_has ls 5 [] → W p l e (gR 3 0 0) s m args below meth c H locs 0 0 (gQi celM Γ ad N r σ below args s) (F0 m 58 ls [.int x8]) := by
      intro H locs ls S hl
      cases hf
      exact g_reti X S rfl dX10_needs_58
    replace hf := hr9
    refine lv_icmp_ne (tgt := 56) hx hb dX10_needs_44 (by decide) (fun c11 => ?_) (fun c11 => ?_)
    · have hf := (if_neg c11).symm.trans hf
      refine lv_iload hx hb dX10_needs_56 (lv_at hl 0 rfl) ?_
      cases hf
      exact J10 _ _ _ S (lv_sub hl [] rfl)
    · have hf := (if_pos c11).symm.trans hf
      refine lv_iload hx hb dX10_needs_47 (lv_at hl 0 rfl) ?_
      refine lv_iconst (v := (2 : Int32)) hx hb dX10_needs_49 (by decide) ?_
      obtain ⟨v12, hv12, hf⟩ := g_s1 hf
      refine g_ki S (g_runS (rest := []) X S (c_X10_up l hN  hv12 _) csX10_up mlX10_110 rfl rfl hl.1 (by decide) ⟨⟨rfl, rfl⟩, ⟨Nat.le_of_ble_eq_true rfl, Nat.le_of_ble_eq_true rfl⟩, Nat.le_of_ble_eq_true rfl, Nat.le_of_ble_eq_true rfl⟩ dX10_needs_50) (fun H locs S => ?_)
      refine lv_goto (tgt := 58) hx hb dX10_needs_53 (by decide) ?_
      cases hf
      exact J10 _ _ _ S (lv_sub hl [] rfl)
  replace hf := hr4
  refine lv_icmp_ne (tgt := 22) hx hb dX10_needs_14 (by decide) (fun c13 => ?_) (fun c13 => ?_)
  · have hf := (if_neg c13).symm.trans hf
    refine lv_bipush (v := (25 : Int32)) hx hb dX10_needs_22 (by decide) ?_
    cases hf
    exact J5 _ _ _ S (lv_sub hl [0, 1, 2, 3] rfl)
  · have hf := (if_pos c13).symm.trans hf
    refine lv_bipush (v := (20 : Int32)) hx hb dX10_needs_17 (by decide) ?_
    refine lv_goto (tgt := 24) hx hb dX10_needs_19 (by decide) ?_
    cases hf
    exact J5 _ _ _ S (lv_sub hl [0, 1, 2, 3] rfl)

noncomputable def f_X10_longest_l1 (σ : gSt) (a0 : Int32) (a1 : Int32) (v2 : Int32) : Nat → Int32 → Option (Int32)
  | 0, _ => none
  | n + 1, i3 => (if v2 ≤ i3 then some i3 else (g_k1 (f_X10_at σ a0 a1 ((4 : Int32) + i3)) fun v6 => (g_k1 (gald σ 1 926 v6) fun v7 => (if v7 = (124 : Int32) then some i3 else (f_X10_longest_l1 σ a0 a1 v2 n (i3 + 1))))))
set_option maxRecDepth 100000 in
set_option maxHeartbeats 4000000 in
theorem w_X10_longest_l1 {l : Launch} {Γ : gG} {ad : Nat → Nat} {N : Nat} {p : Program} {e : Env} {s : State} {m : MethodId} {args : Array Value} {below : List Frame} {meth : Method} {c : Code} {Q : State → Prop} (hN : 8 ≤ N) (X : gX celM Γ ad N RX10 cX10_longest 5 (some .int) p s m args meth c) {σ : gSt} {a0 : Int32} {a1 : Int32} {v2 : Int32}  : ∀ (n : Nat) (i3 : Int32) (r4 : Int32), f_X10_longest_l1 σ a0 a1 v2 n i3 = some r4 → (∀ (H : Heap) (locs : List Loc) (ls : Array Slot), gS celM Γ ad N σ s H locs → lv_has ls 5 [(4, .int r4), (3, .int v2)] → W p l e (gR 2 0 0) s m args below meth c H locs 0 0 (Q) (F0 m 46 ls [])) → ∀ (H : Heap) (locs : List Loc) (ls : Array Slot), gS celM Γ ad N σ s H locs → lv_has ls 5 [(4, .int i3), (3, .int v2), (0, .ref (ad 0)), (1, .int a0), (2, .int a1)] → W p l e (gR 2 0 0) s m args below meth c H locs 0 0 (Q) (F0 m 15 ls []) := by
  have hx := X.1
  have hb := X.2.1
  intro n
  induction n with
  | zero =>
    intro i3 r4 hf
    cases hf
  | succ n ih =>
    intro i3 r4 hf J H locs ls S hl
    rw [f_X10_longest_l1] at hf
    refine lv_iload hx hb dX10_longest_15 (lv_at hl 0 rfl) ?_
    refine lv_iload_n hx hb dX10_longest_17 rfl (lv_at hl 1 rfl) ?_
    refine lv_icmp_ge (tgt := 46) hx hb dX10_longest_18 (by decide) (fun c5 => ?_) (fun c5 => ?_)
    · have hf := (if_pos c5).symm.trans hf
      cases hf
      exact J _ _ _ S (lv_sub hl [0, 1] rfl)
    · have hf := (if_neg c5).symm.trans hf
      refine lv_aload_n hx hb dX10_longest_21 rfl (lv_at hl 2 rfl) ?_
      refine gfX10_7 X S hN dX10_longest_22 ?_
      refine lv_iload_n hx hb dX10_longest_25 rfl (lv_at hl 3 rfl) ?_
      refine lv_iload_n hx hb dX10_longest_26 rfl (lv_at hl 4 rfl) ?_
      refine lv_iconst (v := (4 : Int32)) hx hb dX10_longest_27 (by decide) ?_
      refine lv_iload hx hb dX10_longest_28 (lv_at hl 0 rfl) ?_
      refine lv_iadd hx hb dX10_longest_30 ?_
      obtain ⟨v6, hv6, hf⟩ := g_s1 hf
      refine g_ki S (g_runS (rest := [.ref (ad 1)]) X S (c_X10_at l hN  hv6 _) csX10_at mlX10_56 rfl rfl hl.1 (by decide) ⟨⟨rfl, rfl⟩, ⟨Nat.le_of_ble_eq_true rfl, Nat.le_of_ble_eq_true rfl⟩, Nat.le_of_ble_eq_true rfl, Nat.le_of_ble_eq_true rfl⟩ dX10_longest_31) (fun H locs S => ?_)
      obtain ⟨v7, hv7, hf⟩ := g_s1 hf
      refine g_iald X S (by omega) (ceM_a (rfl : gma 1 = true)) hv7 dX10_longest_34 ?_
      refine lv_bipush (v := (124 : Int32)) hx hb dX10_longest_35 (by decide) ?_
      refine lv_icmp_eq (tgt := 46) hx hb dX10_longest_37 (by decide) (fun c8 => ?_) (fun c8 => ?_)
      · have hf := (if_pos c8).symm.trans hf
        cases hf
        exact J _ _ _ S (lv_sub hl [0, 1] rfl)
      · have hf := (if_neg c8).symm.trans hf
        refine lv_iinc (v := (i3 + 1)) (lv' := [(4, .int (i3 + 1)), (3, .int v2), (0, .ref (ad 0)), (1, .int a0), (2, .int a1)]) hx hb dX10_longest_40 hl (k := 0) rfl rfl (by decide) rfl (fun ls hl => ?_)
        refine lv_goto (tgt := 15) hx hb dX10_longest_43 (by decide) ?_
        exact ih _ _  hf J _ _ _ S (lv_sub hl [0, 1, 2, 3, 4] rfl)
noncomputable def f_X10_longest (σ : gSt) (a0 : Int32) (a1 : Int32) : Option (Int32) :=
  (g_k1 (f_X10_at σ a0 a1 (3 : Int32)) fun v1 => (g_k1 (gald σ 1 926 v1) fun v2 => (g_k1 (f_X10_longest_l1 σ a0 a1 v2 FU (0 : Int32)) fun r4 => (g_k1 (if r4 = v2 then some r4 else (if r4 ≤ ((v2 - r4) - (1 : Int32)) then some ((v2 - r4) - (1 : Int32)) else some r4)) fun x10 => some x10))))
set_option maxRecDepth 100000 in
set_option maxHeartbeats 4000000 in
theorem c_X10_longest (l : Launch) {Γ : gG} {ad : Nat → Nat} {N : Nat} (hN : 8 ≤ N) {σ : gSt} {a0 : Int32} {a1 : Int32}  {r : Int32} (hf : f_X10_longest σ a0 a1 = some r) : gMi l celM Γ ad N yX10_longest cX10_longest 5 (some .int) (gR 2 0 0) [.ref (ad 0), .int a0, .int a1] σ r σ := by
  intro sz
  refine gOf (Qc := fun sz => gQci celM Γ ad N r σ sz) RX10 (by decide) rfl (by decide) (fun p e s m args below meth c H locs ls X S hl => ?_)
  have hl : lv_has ls 5 [(4, .int (0 : Int32)), (3, .int v2), (0, .ref (ad 0)), (1, .int a0), (2, .int a1)] := hl
  have hx := X.1
  have hb := X.2.1
  unfold f_X10_longest at hf
  refine lv_aload_n hx hb dX10_longest_0 rfl (lv_at hl 0 rfl) ?_
  refine gfX10_7 X S hN dX10_longest_1 ?_
  refine lv_iload_n hx hb dX10_longest_4 rfl (lv_at hl 1 rfl) ?_
  refine lv_iload_n hx hb dX10_longest_5 rfl (lv_at hl 2 rfl) ?_
  refine lv_iconst (v := (3 : Int32)) hx hb dX10_longest_6 (by decide) ?_
  obtain ⟨v1, hv1, hf⟩ := g_s1 hf
  refine g_ki S (g_runS (rest := [.ref (ad 1)]) X S (c_X10_at l hN  hv1 _) csX10_at mlX10_56 rfl rfl hl.1 (by decide) ⟨⟨rfl, rfl⟩, ⟨Nat.le_of_ble_eq_true rfl, Nat.le_of_ble_eq_true rfl⟩, Nat.le_of_ble_eq_true rfl, Nat.le_of_ble_eq_true rfl⟩ dX10_longest_7) (fun H locs S => ?_)
  obtain ⟨v2, hv2, hf⟩ := g_s1 hf
  refine g_iald X S (by omega) (ceM_a (rfl : gma 1 = true)) hv2 dX10_longest_10 ?_
  refine lv_istore_n (lv' := [(3, .int v2), (0, .ref (ad 0)), (1, .int a0), (2, .int a1)]) hx hb dX10_longest_11 rfl hl (by decide) rfl (fun ls hl => ?_)
  refine lv_iconst (v := (0 : Int32)) hx hb dX10_longest_12 (by decide) ?_
  refine lv_istore (lv' := [(4, .int (0 : Int32)), (3, .int v2), (0, .ref (ad 0)), (1, .int a0), (2, .int a1)]) hx hb dX10_longest_13 hl (by decide) rfl (fun ls hl => ?_)
  obtain ⟨r4, hr9, hf⟩ := g_s1 hf
  refine w_X10_longest_l1 hN X  FU _ _  hr9 (fun H locs ls S hl => ?_) _ _ _ S (lv_sub hl [0, 1, 2, 3, 4] rfl)
  refine lv_iload hx hb dX10_longest_46 (lv_at hl 0 rfl) ?_
  refine lv_iload_n hx hb dX10_longest_48 rfl (lv_at hl 1 rfl) ?_
  obtain ⟨x10, hr11, hf⟩ := g_s1 hf
  have J12 : ∀ (H : Heap) (locs : List Loc) (ls : Array Slot), gS celM Γ ad N σ s H locs → lv_has ls 5 [] → W p l e (gR 2 0 0) s m args below meth c H locs 0 0 (gQi celM Γ ad N r σ below args s) (F0 m 74 ls [.int x10]) := by
    intro H locs ls S hl
    cases hf
    exact g_reti X S rfl dX10_longest_74
  replace hf := hr11
  refine lv_icmp_eq (tgt := 63) hx hb dX10_longest_49 (by decide) (fun c13 => ?_) (fun c13 => ?_)
  · have hf := (if_pos c13).symm.trans hf
    refine lv_iload hx hb dX10_longest_63 (lv_at hl 0 rfl) ?_
    refine lv_goto (tgt := 74) hx hb dX10_longest_65 (by decide) ?_
    cases hf
    exact J12 _ _ _ S (lv_sub hl [] rfl)
  · have hf := (if_neg c13).symm.trans hf
    refine lv_iload hx hb dX10_longest_52 (lv_at hl 0 rfl) ?_
    refine lv_iload_n hx hb dX10_longest_54 rfl (lv_at hl 1 rfl) ?_
    refine lv_iload hx hb dX10_longest_55 (lv_at hl 0 rfl) ?_
    refine lv_isub hx hb dX10_longest_57 ?_
    refine lv_iconst (v := (1 : Int32)) hx hb dX10_longest_58 (by decide) ?_
    refine lv_isub hx hb dX10_longest_59 ?_
    refine lv_icmp_le (tgt := 68) hx hb dX10_longest_60 (by decide) (fun c14 => ?_) (fun c14 => ?_)
    · have hf := (if_pos c14).symm.trans hf
      refine lv_iload_n hx hb dX10_longest_68 rfl (lv_at hl 1 rfl) ?_
      refine lv_iload hx hb dX10_longest_69 (lv_at hl 0 rfl) ?_
      refine lv_isub hx hb dX10_longest_71 ?_
      refine lv_iconst (v := (1 : Int32)) hx hb dX10_longest_72 (by decide) ?_
      refine lv_isub hx hb dX10_longest_73 ?_
      cases hf
      exact J12 _ _ _ S (lv_sub hl [] rfl)
    · have hf := (if_neg c14).symm.trans hf
      refine lv_iload hx hb dX10_longest_63 (lv_at hl 0 rfl) ?_
      refine lv_goto (tgt := 74) hx hb dX10_longest_65 (by decide) ?_
      cases hf
      exact J12 _ _ _ S (lv_sub hl [] rfl)

noncomputable def f_X10_shared (σ : gSt) (a0 : Int32) (a1 : Int32) (a2 : Int32) : Option (Int32) :=
  (g_k1 (f_X10_first σ a0 a1) fun v1 => (g_k1 (f_X10_first σ ((1 : Int32) - a0) a2) fun v2 => (g_k1 (if v1 ≤ v2 then (g_k1 (f_X10_first σ ((1 : Int32) - a0) a2) fun v19 => some v19) else (g_k1 (f_X10_first σ a0 a1) fun v20 => some v20)) fun x3 => (g_k1 (f_X10_end σ a0 a1) fun v6 => (g_k1 (f_X10_end σ ((1 : Int32) - a0) a2) fun v7 => (g_k1 (if v7 ≤ v6 then (g_k1 (f_X10_end σ ((1 : Int32) - a0) a2) fun v16 => some v16) else (g_k1 (f_X10_end σ a0 a1) fun v17 => some v17)) fun x8 => (g_k1 (if x8 ≤ x3 then some (0 : Int32) else some (x8 - x3)) fun x11 => some x11)))))))
set_option maxRecDepth 100000 in
set_option maxHeartbeats 4000000 in
theorem c_X10_shared (l : Launch) {Γ : gG} {ad : Nat → Nat} {N : Nat} (hN : 8 ≤ N) {σ : gSt} {a0 : Int32} {a1 : Int32} {a2 : Int32}  {r : Int32} (hf : f_X10_shared σ a0 a1 a2 = some r) : gMi l celM Γ ad N yX10_shared cX10_shared 6 (some .int) (gR 3 0 0) [.ref (ad 0), .int a0, .int a1, .int a2] σ r σ := by
  intro sz
  refine gOf (Qc := fun sz => gQci celM Γ ad N r σ sz) RX10 (by decide) rfl (by decide) (fun p e s m args below meth c H locs ls X S hl => ?_)
  have hl : lv_has ls 6 [(0, .ref (ad 0)), (1, .int a0), (2, .int a1), (3, .int a2)] := hl
  have hx := X.1
  have hb := X.2.1
  unfold f_X10_shared at hf
  refine lv_aload_n hx hb dX10_shared_0 rfl (lv_at hl 0 rfl) ?_
  refine lv_iload_n hx hb dX10_shared_1 rfl (lv_at hl 1 rfl) ?_
  refine lv_iload_n hx hb dX10_shared_2 rfl (lv_at hl 2 rfl) ?_
  obtain ⟨v1, hv1, hf⟩ := g_s1 hf
  refine g_ki S (g_runV (rest := []) X S (c_X10_first l hN  hv1 _) cvX10_first mlX10_113 (by omega) (ceM_10 _) rfl rfl rfl hl.1 (by decide) ⟨⟨rfl, rfl⟩, ⟨Nat.le_of_ble_eq_true rfl, Nat.le_of_ble_eq_true rfl⟩, Nat.le_of_ble_eq_true rfl, Nat.le_of_ble_eq_true rfl⟩ dX10_shared_3) (fun H locs S => ?_)
  refine lv_aload_n hx hb dX10_shared_6 rfl (lv_at hl 0 rfl) ?_
  refine lv_iconst (v := (1 : Int32)) hx hb dX10_shared_7 (by decide) ?_
  refine lv_iload_n hx hb dX10_shared_8 rfl (lv_at hl 1 rfl) ?_
  refine lv_isub hx hb dX10_shared_9 ?_
  refine lv_iload_n hx hb dX10_shared_10 rfl (lv_at hl 3 rfl) ?_
  obtain ⟨v2, hv2, hf⟩ := g_s1 hf
  refine g_ki S (g_runV (rest := [.int v1]) X S (c_X10_first l hN  hv2 _) cvX10_first mlX10_113 (by omega) (ceM_10 _) rfl rfl rfl hl.1 (by decide) ⟨⟨rfl, rfl⟩, ⟨Nat.le_of_ble_eq_true rfl, Nat.le_of_ble_eq_true rfl⟩, Nat.le_of_ble_eq_true rfl, Nat.le_of_ble_eq_true rfl⟩ dX10_shared_11) (fun H locs S => ?_)
  obtain ⟨x3, hr4, hf⟩ := g_s1 hf
  have J5 : ∀ (H : Heap) (locs : List Loc) (ls : Array Slot), gS celM Γ ad N σ s H locs → lv_has ls 6 [(0, .ref (ad 0)), (1, .int a0), (2, .int a1), (3, .int a2)] → W p l e (gR 3 0 0) s m args below meth c H locs 0 0 (gQi celM Γ ad N r σ below args s) (F0 m 34 ls [.int x3]) := by
    intro H locs ls S hl
    refine lv_istore (lv' := [(4, .int x3), (0, .ref (ad 0)), (1, .int a0), (2, .int a1), (3, .int a2)]) hx hb dX10_shared_34 hl (by decide) rfl (fun ls hl => ?_)
    refine lv_aload_n hx hb dX10_shared_36 rfl (lv_at hl 1 rfl) ?_
    refine lv_iload_n hx hb dX10_shared_37 rfl (lv_at hl 2 rfl) ?_
    refine lv_iload_n hx hb dX10_shared_38 rfl (lv_at hl 3 rfl) ?_
    obtain ⟨v6, hv6, hf⟩ := g_s1 hf
    refine g_ki S (g_runV (rest := []) X S (c_X10_end l hN  hv6 _) cvX10_end mlX10_71 (by omega) (ceM_10 _) rfl rfl rfl hl.1 (by decide) ⟨⟨rfl, rfl⟩, ⟨Nat.le_of_ble_eq_true rfl, Nat.le_of_ble_eq_true rfl⟩, Nat.le_of_ble_eq_true rfl, Nat.le_of_ble_eq_true rfl⟩ dX10_shared_39) (fun H locs S => ?_)
    refine lv_aload_n hx hb dX10_shared_42 rfl (lv_at hl 1 rfl) ?_
    refine lv_iconst (v := (1 : Int32)) hx hb dX10_shared_43 (by decide) ?_
    refine lv_iload_n hx hb dX10_shared_44 rfl (lv_at hl 2 rfl) ?_
    refine lv_isub hx hb dX10_shared_45 ?_
    refine lv_iload_n hx hb dX10_shared_46 rfl (lv_at hl 4 rfl) ?_
    obtain ⟨v7, hv7, hf⟩ := g_s1 hf
    refine g_ki S (g_runV (rest := [.int v6]) X S (c_X10_end l hN  hv7 _) cvX10_end mlX10_71 (by omega) (ceM_10 _) rfl rfl rfl hl.1 (by decide) ⟨⟨rfl, rfl⟩, ⟨Nat.le_of_ble_eq_true rfl, Nat.le_of_ble_eq_true rfl⟩, Nat.le_of_ble_eq_true rfl, Nat.le_of_ble_eq_true rfl⟩ dX10_shared_47) (fun H locs S => ?_)
    obtain ⟨x8, hr9, hf⟩ := g_s1 hf
    have J10 : ∀ (H : Heap) (locs : List Loc) (ls : Array Slot), gS celM Γ ad N σ s H locs → lv_has ls 6 [(4, .int x3)] → W p l e (gR 3 0 0) s m args below meth c H locs 0 0 (gQi celM Γ ad N r σ below args s) (F0 m 70 ls [.int x8]) := by
      intro H locs ls S hl
      refine lv_istore (lv' := [(5, .int x8), (4, .int x3)]) hx hb dX10_shared_70 hl (by decide) rfl (fun ls hl => ?_)
      refine lv_iload hx hb dX10_shared_72 (lv_at hl 0 rfl) ?_
      refine lv_iload hx hb dX10_shared_74 (lv_at hl 1 rfl) ?_
      obtain ⟨x11, hr12, hf⟩ := g_s1 hf
      have J13 : ∀ (H : Heap) (locs : List Loc) (ls : Array Slot), gS celM Γ ad N σ s H locs → lv_has ls 6 [] → W p l e (gR 3 0 0) s m args below meth c H locs 0 0 (gQi celM Γ ad N r σ below args s) (F0 m 88 ls [.int x11]) := by
        intro H locs ls S hl
        cases hf
        exact g_reti X S rfl dX10_shared_88
      replace hf := hr12
      refine lv_icmp_le (tgt := 87) hx hb dX10_shared_76 (by decide) (fun c14 => ?_) (fun c14 => ?_)
      · have hf := (if_pos c14).symm.trans hf
        refine lv_iconst (v := (0 : Int32)) hx hb dX10_shared_87 (by decide) ?_
        cases hf
        exact J13 _ _ _ S (lv_sub hl [] rfl)
      · have hf := (if_neg c14).symm.trans hf
        refine lv_iload hx hb dX10_shared_79 (lv_at hl 0 rfl) ?_
        refine lv_iload hx hb dX10_shared_81 (lv_at hl 1 rfl) ?_
        refine lv_isub hx hb dX10_shared_83 ?_
        refine lv_goto (tgt := 88) hx hb dX10_shared_84 (by decide) ?_
        cases hf
        exact J13 _ _ _ S (lv_sub hl [] rfl)
    replace hf := hr9
    refine lv_icmp_ge (tgt := 62) hx hb dX10_shared_50 (by decide) (fun c15 => ?_) (fun c15 => ?_)
    · have hf := (if_pos c15).symm.trans hf
      refine lv_aload_n hx hb dX10_shared_62 rfl (lv_at hl 1 rfl) ?_
      refine lv_iconst (v := (1 : Int32)) hx hb dX10_shared_63 (by decide) ?_
      refine lv_iload_n hx hb dX10_shared_64 rfl (lv_at hl 2 rfl) ?_
      refine lv_isub hx hb dX10_shared_65 ?_
      refine lv_iload_n hx hb dX10_shared_66 rfl (lv_at hl 4 rfl) ?_
      obtain ⟨v16, hv16, hf⟩ := g_s1 hf
      refine g_ki S (g_runV (rest := []) X S (c_X10_end l hN  hv16 _) cvX10_end mlX10_71 (by omega) (ceM_10 _) rfl rfl rfl hl.1 (by decide) ⟨⟨rfl, rfl⟩, ⟨Nat.le_of_ble_eq_true rfl, Nat.le_of_ble_eq_true rfl⟩, Nat.le_of_ble_eq_true rfl, Nat.le_of_ble_eq_true rfl⟩ dX10_shared_67) (fun H locs S => ?_)
      cases hf
      exact J10 _ _ _ S (lv_sub hl [0] rfl)
    · have hf := (if_neg c15).symm.trans hf
      refine lv_aload_n hx hb dX10_shared_53 rfl (lv_at hl 1 rfl) ?_
      refine lv_iload_n hx hb dX10_shared_54 rfl (lv_at hl 2 rfl) ?_
      refine lv_iload_n hx hb dX10_shared_55 rfl (lv_at hl 3 rfl) ?_
      obtain ⟨v17, hv17, hf⟩ := g_s1 hf
      refine g_ki S (g_runV (rest := []) X S (c_X10_end l hN  hv17 _) cvX10_end mlX10_71 (by omega) (ceM_10 _) rfl rfl rfl hl.1 (by decide) ⟨⟨rfl, rfl⟩, ⟨Nat.le_of_ble_eq_true rfl, Nat.le_of_ble_eq_true rfl⟩, Nat.le_of_ble_eq_true rfl, Nat.le_of_ble_eq_true rfl⟩ dX10_shared_56) (fun H locs S => ?_)
      refine lv_goto (tgt := 70) hx hb dX10_shared_59 (by decide) ?_
      cases hf
      exact J10 _ _ _ S (lv_sub hl [0] rfl)
  replace hf := hr4
  refine lv_icmp_le (tgt := 26) hx hb dX10_shared_14 (by decide) (fun c18 => ?_) (fun c18 => ?_)
  · have hf := (if_pos c18).symm.trans hf
    refine lv_aload_n hx hb dX10_shared_26 rfl (lv_at hl 0 rfl) ?_
    refine lv_iconst (v := (1 : Int32)) hx hb dX10_shared_27 (by decide) ?_
    refine lv_iload_n hx hb dX10_shared_28 rfl (lv_at hl 1 rfl) ?_
    refine lv_isub hx hb dX10_shared_29 ?_
    refine lv_iload_n hx hb dX10_shared_30 rfl (lv_at hl 3 rfl) ?_
    obtain ⟨v19, hv19, hf⟩ := g_s1 hf
    refine g_ki S (g_runV (rest := []) X S (c_X10_first l hN  hv19 _) cvX10_first mlX10_113 (by omega) (ceM_10 _) rfl rfl rfl hl.1 (by decide) ⟨⟨rfl, rfl⟩, ⟨Nat.le_of_ble_eq_true rfl, Nat.le_of_ble_eq_true rfl⟩, Nat.le_of_ble_eq_true rfl, Nat.le_of_ble_eq_true rfl⟩ dX10_shared_31) (fun H locs S => ?_)
    cases hf
    exact J5 _ _ _ S (lv_sub hl [0, 1, 2, 3] rfl)
  · have hf := (if_neg c18).symm.trans hf
    refine lv_aload_n hx hb dX10_shared_17 rfl (lv_at hl 0 rfl) ?_
    refine lv_iload_n hx hb dX10_shared_18 rfl (lv_at hl 1 rfl) ?_
    refine lv_iload_n hx hb dX10_shared_19 rfl (lv_at hl 2 rfl) ?_
    obtain ⟨v20, hv20, hf⟩ := g_s1 hf
    refine g_ki S (g_runV (rest := []) X S (c_X10_first l hN  hv20 _) cvX10_first mlX10_113 (by omega) (ceM_10 _) rfl rfl rfl hl.1 (by decide) ⟨⟨rfl, rfl⟩, ⟨Nat.le_of_ble_eq_true rfl, Nat.le_of_ble_eq_true rfl⟩, Nat.le_of_ble_eq_true rfl, Nat.le_of_ble_eq_true rfl⟩ dX10_shared_20) (fun H locs S => ?_)
    refine lv_goto (tgt := 34) hx hb dX10_shared_23 (by decide) ?_
    cases hf
    exact J5 _ _ _ S (lv_sub hl [0, 1, 2, 3] rfl)

noncomputable def f_X10_partner_l1 (σ : gSt) (a0 : Int32) (a1 : Int32) : Nat → Int32 → Int32 → Option (Int32)
  | 0, _, _ => none
  | n + 1, i1, i2 => (g_k1 (gald σ 1 926 ((29 : Int32) - a0)) fun v4 => (if v4 ≤ i1 then some i2 else (g_k1 (f_X10_shared σ a0 a1 i1) fun v6 => (g_k1 (if 0 ≤ i2 then (g_k1 (f_X10_shared σ a0 a1 i2) fun v15 => some v15) else some (0 : Int32)) fun x7 => (g_k1 (if v6 ≤ x7 then some i2 else some i1) fun x10 => (f_X10_partner_l1 σ a0 a1 n (i1 + 1) x10))))))
set_option maxRecDepth 100000 in
set_option maxHeartbeats 4000000 in
theorem w_X10_partner_l1 {l : Launch} {Γ : gG} {ad : Nat → Nat} {N : Nat} {p : Program} {e : Env} {s : State} {m : MethodId} {args : Array Value} {below : List Frame} {meth : Method} {c : Code} {Q : State → Prop} (hN : 8 ≤ N) (X : gX celM Γ ad N RX10 cX10_partner 5 (some .int) p s m args meth c) {σ : gSt} {a0 : Int32} {a1 : Int32}  : ∀ (n : Nat) (i1 : Int32) (i2 : Int32) (r3 : Int32), f_X10_partner_l1 σ a0 a1 n i1 i2 = some r3 → (∀ (H : Heap) (locs : List Loc) (ls : Array Slot), gS celM Γ ad N σ s H locs → lv_has ls 5 [(3, .int r3)] → W p l e (gR 4 0 0) s m args below meth c H locs 0 0 (Q) (F0 m 58 ls [])) → ∀ (H : Heap) (locs : List Loc) (ls : Array Slot), gS celM Γ ad N σ s H locs → lv_has ls 5 [(4, .int i1), (3, .int i2), (0, .ref (ad 0)), (1, .int a0), (2, .int a1)] → W p l e (gR 4 0 0) s m args below meth c H locs 0 0 (Q) (F0 m 5 ls []) := by
  have hx := X.1
  have hb := X.2.1
  intro n
  induction n with
  | zero =>
    intro i1 i2 r3 hf
    cases hf
  | succ n ih =>
    intro i1 i2 r3 hf J H locs ls S hl
    rw [f_X10_partner_l1] at hf
    refine lv_iload hx hb dX10_partner_5 (lv_at hl 0 rfl) ?_
    refine lv_aload_n hx hb dX10_partner_7 rfl (lv_at hl 2 rfl) ?_
    refine gfX10_7 X S hN dX10_partner_8 ?_
    refine lv_bipush (v := (29 : Int32)) hx hb dX10_partner_11 (by decide) ?_
    refine lv_iload_n hx hb dX10_partner_13 rfl (lv_at hl 3 rfl) ?_
    refine lv_isub hx hb dX10_partner_14 ?_
    obtain ⟨v4, hv4, hf⟩ := g_s1 hf
    refine g_iald X S (by omega) (ceM_a (rfl : gma 1 = true)) hv4 dX10_partner_15 ?_
    refine lv_icmp_ge (tgt := 58) hx hb dX10_partner_16 (by decide) (fun c5 => ?_) (fun c5 => ?_)
    · have hf := (if_pos c5).symm.trans hf
      cases hf
      exact J _ _ _ S (lv_sub hl [1] rfl)
    · have hf := (if_neg c5).symm.trans hf
      refine lv_aload_n hx hb dX10_partner_19 rfl (lv_at hl 2 rfl) ?_
      refine lv_iload_n hx hb dX10_partner_20 rfl (lv_at hl 3 rfl) ?_
      refine lv_iload_n hx hb dX10_partner_21 rfl (lv_at hl 4 rfl) ?_
      refine lv_iload hx hb dX10_partner_22 (lv_at hl 0 rfl) ?_
      obtain ⟨v6, hv6, hf⟩ := g_s1 hf
      refine g_ki S (g_runV (rest := []) X S (c_X10_shared l hN  hv6 _) cvX10_shared mlX10_116 (by omega) (ceM_10 _) rfl rfl rfl hl.1 (by decide) ⟨⟨rfl, rfl⟩, ⟨Nat.le_of_ble_eq_true rfl, Nat.le_of_ble_eq_true rfl⟩, Nat.le_of_ble_eq_true rfl, Nat.le_of_ble_eq_true rfl⟩ dX10_partner_24) (fun H locs S => ?_)
      refine lv_iload_n hx hb dX10_partner_27 rfl (lv_at hl 1 rfl) ?_
      obtain ⟨x7, hr8, hf⟩ := g_s1 hf
      have J9 : ∀ (H : Heap) (locs : List Loc) (ls : Array Slot), gS celM Γ ad N σ s H locs → lv_has ls 5 [(4, .int i1), (3, .int i2), (0, .ref (ad 0)), (1, .int a0), (2, .int a1)] → W p l e (gR 4 0 0) s m args below meth c H locs 0 0 (Q) (F0 m 42 ls [.int x7, .int v6]) := by
        intro H locs ls S hl
        obtain ⟨x10, hr11, hf⟩ := g_s1 hf
        have J12 : ∀ (H : Heap) (locs : List Loc) (ls : Array Slot), gS celM Γ ad N σ s H locs → lv_has ls 5 [(4, .int i1), (0, .ref (ad 0)), (1, .int a0), (2, .int a1)] → W p l e (gR 4 0 0) s m args below meth c H locs 0 0 (Q) (F0 m 51 ls [.int x10]) := by
          intro H locs ls S hl
          refine lv_istore_n (lv' := [(3, .int x10), (4, .int i1), (0, .ref (ad 0)), (1, .int a0), (2, .int a1)]) hx hb dX10_partner_51 rfl hl (by decide) rfl (fun ls hl => ?_)
          refine lv_iinc (v := (i1 + 1)) (lv' := [(4, .int (i1 + 1)), (3, .int x10), (0, .ref (ad 0)), (1, .int a0), (2, .int a1)]) hx hb dX10_partner_52 hl (k := 1) rfl rfl (by decide) rfl (fun ls hl => ?_)
          refine lv_goto (tgt := 5) hx hb dX10_partner_55 (by decide) ?_
          exact ih _ _ _  hf J _ _ _ S (lv_sub hl [0, 1, 2, 3, 4] rfl)
        replace hf := hr11
        refine lv_icmp_le (tgt := 50) hx hb dX10_partner_42 (by decide) (fun c13 => ?_) (fun c13 => ?_)
        · have hf := (if_pos c13).symm.trans hf
          refine lv_iload_n hx hb dX10_partner_50 rfl (lv_at hl 1 rfl) ?_
          cases hf
          exact J12 _ _ _ S (lv_sub hl [0, 2, 3, 4] rfl)
        · have hf := (if_neg c13).symm.trans hf
          refine lv_iload hx hb dX10_partner_45 (lv_at hl 0 rfl) ?_
          refine lv_goto (tgt := 51) hx hb dX10_partner_47 (by decide) ?_
          cases hf
          exact J12 _ _ _ S (lv_sub hl [0, 2, 3, 4] rfl)
      replace hf := hr8
      refine lv_if_ge (tgt := 35) hx hb dX10_partner_28 (by decide) (fun c14 => ?_) (fun c14 => ?_)
      · have hf := (if_pos c14).symm.trans hf
        refine lv_aload_n hx hb dX10_partner_35 rfl (lv_at hl 2 rfl) ?_
        refine lv_iload_n hx hb dX10_partner_36 rfl (lv_at hl 3 rfl) ?_
        refine lv_iload_n hx hb dX10_partner_37 rfl (lv_at hl 4 rfl) ?_
        refine lv_iload_n hx hb dX10_partner_38 rfl (lv_at hl 1 rfl) ?_
        obtain ⟨v15, hv15, hf⟩ := g_s1 hf
        refine g_ki S (g_runV (rest := [.int v6]) X S (c_X10_shared l hN  hv15 _) cvX10_shared mlX10_116 (by omega) (ceM_10 _) rfl rfl rfl hl.1 (by decide) ⟨⟨rfl, rfl⟩, ⟨Nat.le_of_ble_eq_true rfl, Nat.le_of_ble_eq_true rfl⟩, Nat.le_of_ble_eq_true rfl, Nat.le_of_ble_eq_true rfl⟩ dX10_partner_39) (fun H locs S => ?_)
        cases hf
        exact J9 _ _ _ S (lv_sub hl [0, 1, 2, 3, 4] rfl)
      · have hf := (if_neg c14).symm.trans hf
        refine lv_iconst (v := (0 : Int32)) hx hb dX10_partner_31 (by decide) ?_
        refine lv_goto (tgt := 42) hx hb dX10_partner_32 (by decide) ?_
        cases hf
        exact J9 _ _ _ S (lv_sub hl [0, 1, 2, 3, 4] rfl)
noncomputable def f_X10_partner (σ : gSt) (a0 : Int32) (a1 : Int32) : Option (Int32) :=
  (g_k1 (f_X10_partner_l1 σ a0 a1 FU (0 : Int32) (-1 : Int32)) fun r3 => some r3)
set_option maxRecDepth 100000 in
set_option maxHeartbeats 4000000 in
theorem c_X10_partner (l : Launch) {Γ : gG} {ad : Nat → Nat} {N : Nat} (hN : 8 ≤ N) {σ : gSt} {a0 : Int32} {a1 : Int32}  {r : Int32} (hf : f_X10_partner σ a0 a1 = some r) : gMi l celM Γ ad N yX10_partner cX10_partner 5 (some .int) (gR 4 0 0) [.ref (ad 0), .int a0, .int a1] σ r σ := by
  intro sz
  refine gOf (Qc := fun sz => gQci celM Γ ad N r σ sz) RX10 (by decide) rfl (by decide) (fun p e s m args below meth c H locs ls X S hl => ?_)
  have hl : lv_has ls 5 [(4, .int (0 : Int32)), (3, .int (-1 : Int32)), (0, .ref (ad 0)), (1, .int a0), (2, .int a1)] := hl
  have hx := X.1
  have hb := X.2.1
  unfold f_X10_partner at hf
  refine lv_iconst (v := (-1 : Int32)) hx hb dX10_partner_0 (by decide) ?_
  refine lv_istore_n (lv' := [(3, .int (-1 : Int32)), (0, .ref (ad 0)), (1, .int a0), (2, .int a1)]) hx hb dX10_partner_1 rfl hl (by decide) rfl (fun ls hl => ?_)
  refine lv_iconst (v := (0 : Int32)) hx hb dX10_partner_2 (by decide) ?_
  refine lv_istore (lv' := [(4, .int (0 : Int32)), (3, .int (-1 : Int32)), (0, .ref (ad 0)), (1, .int a0), (2, .int a1)]) hx hb dX10_partner_3 hl (by decide) rfl (fun ls hl => ?_)
  obtain ⟨r3, hr16, hf⟩ := g_s1 hf
  refine w_X10_partner_l1 hN X  FU _ _ _  hr16 (fun H locs ls S hl => ?_) _ _ _ S (lv_sub hl [0, 1, 2, 3, 4] rfl)
  refine lv_iload_n hx hb dX10_partner_58 rfl (lv_at hl 0 rfl) ?_
  cases hf
  exact g_reti X S rfl dX10_partner_59

noncomputable def f_X10_isInStep (σ : gSt) (a0 : Int32) (a1 : Int32) : Option (Int32) :=
  (g_k1 (f_X10_partner σ a0 a1) fun v1 => (g_k1 (if v1 < 0 then some (0 : Int32) else (g_k1 (f_X10_first σ a0 a1) fun v7 => (g_k1 (f_X10_first σ ((1 : Int32) - a0) v1) fun v8 => (g_k1 (f_X10_far σ v7 v8) fun v9 => (if (σ 1 5) < v9 then some (0 : Int32) else (g_k1 (f_X10_end σ a0 a1) fun v11 => (g_k1 (f_X10_end σ ((1 : Int32) - a0) v1) fun v12 => (g_k1 (f_X10_far σ v11 v12) fun v13 => (if (σ 1 5) < v13 then some (0 : Int32) else some (1 : Int32)))))))))) fun x2 => (g_k1 (gzb x2) fun v5 => some v5)))
set_option maxRecDepth 100000 in
set_option maxHeartbeats 4000000 in
theorem c_X10_isInStep (l : Launch) {Γ : gG} {ad : Nat → Nat} {N : Nat} (hN : 8 ≤ N) {σ : gSt} {a0 : Int32} {a1 : Int32}  {r : Int32} (hf : f_X10_isInStep σ a0 a1 = some r) : gMi l celM Γ ad N yX10_isInStep cX10_isInStep 4 (some .boolean) (gR 5 0 0) [.ref (ad 0), .int a0, .int a1] σ r σ := by
  intro sz
  refine gOf (Qc := fun sz => gQci celM Γ ad N r σ sz) RX10 (by decide) rfl (by decide) (fun p e s m args below meth c H locs ls X S hl => ?_)
  have hl : lv_has ls 4 [(3, .int v1), (0, .ref (ad 0)), (1, .int a0), (2, .int a1)] := hl
  have hx := X.1
  have hb := X.2.1
  unfold f_X10_isInStep at hf
  refine lv_aload_n hx hb dX10_isInStep_0 rfl (lv_at hl 0 rfl) ?_
  refine lv_iload_n hx hb dX10_isInStep_1 rfl (lv_at hl 1 rfl) ?_
  refine lv_iload_n hx hb dX10_isInStep_2 rfl (lv_at hl 2 rfl) ?_
  obtain ⟨v1, hv1, hf⟩ := g_s1 hf
  refine g_ki S (g_runV (rest := []) X S (c_X10_partner l hN  hv1 _) cvX10_partner mlX10_119 (by omega) (ceM_10 _) rfl rfl rfl hl.1 (by decide) ⟨⟨rfl, rfl⟩, ⟨Nat.le_of_ble_eq_true rfl, Nat.le_of_ble_eq_true rfl⟩, Nat.le_of_ble_eq_true rfl, Nat.le_of_ble_eq_true rfl⟩ dX10_isInStep_3) (fun H locs S => ?_)
  refine lv_istore_n (lv' := [(3, .int v1), (0, .ref (ad 0)), (1, .int a0), (2, .int a1)]) hx hb dX10_isInStep_6 rfl hl (by decide) rfl (fun ls hl => ?_)
  refine lv_iload_n hx hb dX10_isInStep_7 rfl (lv_at hl 0 rfl) ?_
  obtain ⟨x2, hr3, hf⟩ := g_s1 hf
  have J4 : ∀ (H : Heap) (locs : List Loc) (ls : Array Slot), gS celM Γ ad N σ s H locs → lv_has ls 4 [] → W p l e (gR 5 0 0) s m args below meth c H locs 0 0 (gQi celM Γ ad N r σ below args s) (F0 m 68 ls [.int x2]) := by
    intro H locs ls S hl
    obtain ⟨v5, hv5, hf⟩ := g_s1 hf
    obtain ⟨hnv5, rfl⟩ := gzb_some hv5
    cases hf
    exact g_reti X S hnv5 dX10_isInStep_68
  replace hf := hr3
  refine lv_if_lt (tgt := 67) hx hb dX10_isInStep_8 (by decide) (fun c6 => ?_) (fun c6 => ?_)
  · have hf := (if_pos c6).symm.trans hf
    refine lv_iconst (v := (0 : Int32)) hx hb dX10_isInStep_67 (by decide) ?_
    cases hf
    exact J4 _ _ _ S (lv_sub hl [] rfl)
  · have hf := (if_neg c6).symm.trans hf
    refine lv_aload_n hx hb dX10_isInStep_11 rfl (lv_at hl 1 rfl) ?_
    refine lv_iload_n hx hb dX10_isInStep_12 rfl (lv_at hl 2 rfl) ?_
    refine lv_iload_n hx hb dX10_isInStep_13 rfl (lv_at hl 3 rfl) ?_
    obtain ⟨v7, hv7, hf⟩ := g_s1 hf
    refine g_ki S (g_runV (rest := []) X S (c_X10_first l hN  hv7 _) cvX10_first mlX10_113 (by omega) (ceM_10 _) rfl rfl rfl hl.1 (by decide) ⟨⟨rfl, rfl⟩, ⟨Nat.le_of_ble_eq_true rfl, Nat.le_of_ble_eq_true rfl⟩, Nat.le_of_ble_eq_true rfl, Nat.le_of_ble_eq_true rfl⟩ dX10_isInStep_14) (fun H locs S => ?_)
    refine lv_aload_n hx hb dX10_isInStep_17 rfl (lv_at hl 1 rfl) ?_
    refine lv_iconst (v := (1 : Int32)) hx hb dX10_isInStep_18 (by decide) ?_
    refine lv_iload_n hx hb dX10_isInStep_19 rfl (lv_at hl 2 rfl) ?_
    refine lv_isub hx hb dX10_isInStep_20 ?_
    refine lv_iload_n hx hb dX10_isInStep_21 rfl (lv_at hl 0 rfl) ?_
    obtain ⟨v8, hv8, hf⟩ := g_s1 hf
    refine g_ki S (g_runV (rest := [.int v7]) X S (c_X10_first l hN  hv8 _) cvX10_first mlX10_113 (by omega) (ceM_10 _) rfl rfl rfl hl.1 (by decide) ⟨⟨rfl, rfl⟩, ⟨Nat.le_of_ble_eq_true rfl, Nat.le_of_ble_eq_true rfl⟩, Nat.le_of_ble_eq_true rfl, Nat.le_of_ble_eq_true rfl⟩ dX10_isInStep_22) (fun H locs S => ?_)
    obtain ⟨v9, hv9, hf⟩ := g_s1 hf
    refine g_ki S (g_runS (rest := []) X S (c_X10_far l hN  hv9 _) csX10_far mlX10_97 rfl rfl hl.1 (by decide) ⟨⟨rfl, rfl⟩, ⟨Nat.le_of_ble_eq_true rfl, Nat.le_of_ble_eq_true rfl⟩, Nat.le_of_ble_eq_true rfl, Nat.le_of_ble_eq_true rfl⟩ dX10_isInStep_25) (fun H locs S => ?_)
    refine lv_aload_n hx hb dX10_isInStep_28 rfl (lv_at hl 1 rfl) ?_
    refine gfX10_7 X S hN dX10_isInStep_29 ?_
    refine lv_iconst (v := (5 : Int32)) hx hb dX10_isInStep_32 (by decide) ?_
    refine g_ialdC X S (by omega) (ceM_a (rfl : gma 1 = true)) 5 (by decide) (by decide) dX10_isInStep_33 ?_
    refine lv_icmp_gt (tgt := 67) hx hb dX10_isInStep_34 (by decide) (fun c10 => ?_) (fun c10 => ?_)
    · have hf := (if_pos c10).symm.trans hf
      refine lv_iconst (v := (0 : Int32)) hx hb dX10_isInStep_67 (by decide) ?_
      cases hf
      exact J4 _ _ _ S (lv_sub hl [] rfl)
    · have hf := (if_neg c10).symm.trans hf
      refine lv_aload_n hx hb dX10_isInStep_37 rfl (lv_at hl 1 rfl) ?_
      refine lv_iload_n hx hb dX10_isInStep_38 rfl (lv_at hl 2 rfl) ?_
      refine lv_iload_n hx hb dX10_isInStep_39 rfl (lv_at hl 3 rfl) ?_
      obtain ⟨v11, hv11, hf⟩ := g_s1 hf
      refine g_ki S (g_runV (rest := []) X S (c_X10_end l hN  hv11 _) cvX10_end mlX10_71 (by omega) (ceM_10 _) rfl rfl rfl hl.1 (by decide) ⟨⟨rfl, rfl⟩, ⟨Nat.le_of_ble_eq_true rfl, Nat.le_of_ble_eq_true rfl⟩, Nat.le_of_ble_eq_true rfl, Nat.le_of_ble_eq_true rfl⟩ dX10_isInStep_40) (fun H locs S => ?_)
      refine lv_aload_n hx hb dX10_isInStep_43 rfl (lv_at hl 1 rfl) ?_
      refine lv_iconst (v := (1 : Int32)) hx hb dX10_isInStep_44 (by decide) ?_
      refine lv_iload_n hx hb dX10_isInStep_45 rfl (lv_at hl 2 rfl) ?_
      refine lv_isub hx hb dX10_isInStep_46 ?_
      refine lv_iload_n hx hb dX10_isInStep_47 rfl (lv_at hl 0 rfl) ?_
      obtain ⟨v12, hv12, hf⟩ := g_s1 hf
      refine g_ki S (g_runV (rest := [.int v11]) X S (c_X10_end l hN  hv12 _) cvX10_end mlX10_71 (by omega) (ceM_10 _) rfl rfl rfl hl.1 (by decide) ⟨⟨rfl, rfl⟩, ⟨Nat.le_of_ble_eq_true rfl, Nat.le_of_ble_eq_true rfl⟩, Nat.le_of_ble_eq_true rfl, Nat.le_of_ble_eq_true rfl⟩ dX10_isInStep_48) (fun H locs S => ?_)
      obtain ⟨v13, hv13, hf⟩ := g_s1 hf
      refine g_ki S (g_runS (rest := []) X S (c_X10_far l hN  hv13 _) csX10_far mlX10_97 rfl rfl hl.1 (by decide) ⟨⟨rfl, rfl⟩, ⟨Nat.le_of_ble_eq_true rfl, Nat.le_of_ble_eq_true rfl⟩, Nat.le_of_ble_eq_true rfl, Nat.le_of_ble_eq_true rfl⟩ dX10_isInStep_51) (fun H locs S => ?_)
      refine lv_aload_n hx hb dX10_isInStep_54 rfl (lv_at hl 1 rfl) ?_
      refine gfX10_7 X S hN dX10_isInStep_55 ?_
      refine lv_iconst (v := (5 : Int32)) hx hb dX10_isInStep_58 (by decide) ?_
      refine g_ialdC X S (by omega) (ceM_a (rfl : gma 1 = true)) 5 (by decide) (by decide) dX10_isInStep_59 ?_
      refine lv_icmp_gt (tgt := 67) hx hb dX10_isInStep_60 (by decide) (fun c14 => ?_) (fun c14 => ?_)
      · have hf := (if_pos c14).symm.trans hf
        refine lv_iconst (v := (0 : Int32)) hx hb dX10_isInStep_67 (by decide) ?_
        cases hf
        exact J4 _ _ _ S (lv_sub hl [] rfl)
      · have hf := (if_neg c14).symm.trans hf
        refine lv_iconst (v := (1 : Int32)) hx hb dX10_isInStep_63 (by decide) ?_
        refine lv_goto (tgt := 68) hx hb dX10_isInStep_64 (by decide) ?_
        cases hf
        exact J4 _ _ _ S (lv_sub hl [] rfl)

noncomputable def f_X10_before (σ : gSt) (a0 : Int32) (a1 : Int32) : Option (Int32) :=
  (g_k1 (f_X10_first σ a0 a1) fun v1 => (g_k1 (f_X10_end σ a0 (a1 - (1 : Int32))) fun v2 => some (v1 - v2)))
set_option maxRecDepth 100000 in
set_option maxHeartbeats 4000000 in
theorem c_X10_before (l : Launch) {Γ : gG} {ad : Nat → Nat} {N : Nat} (hN : 8 ≤ N) {σ : gSt} {a0 : Int32} {a1 : Int32}  {r : Int32} (hf : f_X10_before σ a0 a1 = some r) : gMi l celM Γ ad N yX10_before cX10_before 3 (some .int) (gR 3 0 0) [.ref (ad 0), .int a0, .int a1] σ r σ := by
  intro sz
  refine gOf (Qc := fun sz => gQci celM Γ ad N r σ sz) RX10 (by decide) rfl (by decide) (fun p e s m args below meth c H locs ls X S hl => ?_)
  have hl : lv_has ls 3 [(0, .ref (ad 0)), (1, .int a0), (2, .int a1)] := hl
  have hx := X.1
  have hb := X.2.1
  unfold f_X10_before at hf
  refine lv_aload_n hx hb dX10_before_0 rfl (lv_at hl 0 rfl) ?_
  refine lv_iload_n hx hb dX10_before_1 rfl (lv_at hl 1 rfl) ?_
  refine lv_iload_n hx hb dX10_before_2 rfl (lv_at hl 2 rfl) ?_
  obtain ⟨v1, hv1, hf⟩ := g_s1 hf
  refine g_ki S (g_runV (rest := []) X S (c_X10_first l hN  hv1 _) cvX10_first mlX10_113 (by omega) (ceM_10 _) rfl rfl rfl hl.1 (by decide) ⟨⟨rfl, rfl⟩, ⟨Nat.le_of_ble_eq_true rfl, Nat.le_of_ble_eq_true rfl⟩, Nat.le_of_ble_eq_true rfl, Nat.le_of_ble_eq_true rfl⟩ dX10_before_3) (fun H locs S => ?_)
  refine lv_aload_n hx hb dX10_before_6 rfl (lv_at hl 0 rfl) ?_
  refine lv_iload_n hx hb dX10_before_7 rfl (lv_at hl 1 rfl) ?_
  refine lv_iload_n hx hb dX10_before_8 rfl (lv_at hl 2 rfl) ?_
  refine lv_iconst (v := (1 : Int32)) hx hb dX10_before_9 (by decide) ?_
  refine lv_isub hx hb dX10_before_10 ?_
  obtain ⟨v2, hv2, hf⟩ := g_s1 hf
  refine g_ki S (g_runV (rest := [.int v1]) X S (c_X10_end l hN  hv2 _) cvX10_end mlX10_71 (by omega) (ceM_10 _) rfl rfl rfl hl.1 (by decide) ⟨⟨rfl, rfl⟩, ⟨Nat.le_of_ble_eq_true rfl, Nat.le_of_ble_eq_true rfl⟩, Nat.le_of_ble_eq_true rfl, Nat.le_of_ble_eq_true rfl⟩ dX10_before_11) (fun H locs S => ?_)
  refine lv_isub hx hb dX10_before_14 ?_
  cases hf
  exact g_reti X S rfl dX10_before_15

noncomputable def f_X10_problems (σ : gSt) (a0 : Int32) (a1 : Int32) : Option (Int32) :=
  (g_k1 (f_X10_end σ a0 a1) fun v1 => (g_k1 (f_X10_first σ a0 a1) fun v2 => (g_k1 (f_X10_needs σ a0 a1) fun v3 => (g_k1 (if v3 ≤ (v1 - v2) then some (0 : Int32) else some (1 : Int32)) fun x4 => (g_k1 (f_X10_first σ a0 a1) fun v7 => (g_k1 (f_X10_isLoose σ v7) fun v8 => (g_k1 (if v8 = 0 then some (0 : Int32) else some (2 : Int32)) fun x9 => (g_k1 (f_X10_end σ a0 a1) fun v12 => (g_k1 (f_X10_isLoose σ v12) fun v13 => (g_k1 (if v13 = 0 then some (0 : Int32) else some (4 : Int32)) fun x14 => (g_k1 (if a1 ≤ 0 then some (0 : Int32) else (g_k1 (f_X10_before σ a0 a1) fun v34 => (g_k1 (f_X10_in σ v34 (1 : Int32) ((σ 1 3) - (1 : Int32))) fun v35 => (if v35 = 0 then some (0 : Int32) else some (8 : Int32))))) fun x17 => (g_k1 (f_X10_longest σ a0 a1) fun v20 => (g_k1 (if v20 ≤ (σ 1 6) then some (0 : Int32) else some (16 : Int32)) fun x21 => (g_k1 (f_X10_at σ a0 a1 (2 : Int32)) fun v24 => (g_k1 (gald σ 1 926 v24) fun v25 => (g_k1 (if v25 = (1 : Int32) then some (0 : Int32) else (g_k1 (f_X10_isInStep σ a0 a1) fun v30 => (if v30 = 0 then some (32 : Int32) else some (0 : Int32)))) fun x26 => some (((((x4 + x9) + x14) + x17) + x21) + x26)))))))))))))))))
set_option maxRecDepth 100000 in
set_option maxHeartbeats 4000000 in
theorem c_X10_problems (l : Launch) {Γ : gG} {ad : Nat → Nat} {N : Nat} (hN : 8 ≤ N) {σ : gSt} {a0 : Int32} {a1 : Int32}  {r : Int32} (hf : f_X10_problems σ a0 a1 = some r) : gMi l celM Γ ad N yX10_problems cX10_problems 4 (some .int) (gR 6 0 0) [.ref (ad 0), .int a0, .int a1] σ r σ := by
  intro sz
  refine gOf (Qc := fun sz => gQci celM Γ ad N r σ sz) RX10 (by decide) rfl (by decide) (fun p e s m args below meth c H locs ls X S hl => ?_)
  have hl : lv_has ls 4 [(0, .ref (ad 0)), (1, .int a0), (2, .int a1)] := hl
  have hx := X.1
  have hb := X.2.1
  unfold f_X10_problems at hf
  refine lv_aload_n hx hb dX10_problems_0 rfl (lv_at hl 0 rfl) ?_
  refine lv_iload_n hx hb dX10_problems_1 rfl (lv_at hl 1 rfl) ?_
  refine lv_iload_n hx hb dX10_problems_2 rfl (lv_at hl 2 rfl) ?_
  obtain ⟨v1, hv1, hf⟩ := g_s1 hf
  refine g_ki S (g_runV (rest := []) X S (c_X10_end l hN  hv1 _) cvX10_end mlX10_71 (by omega) (ceM_10 _) rfl rfl rfl hl.1 (by decide) ⟨⟨rfl, rfl⟩, ⟨Nat.le_of_ble_eq_true rfl, Nat.le_of_ble_eq_true rfl⟩, Nat.le_of_ble_eq_true rfl, Nat.le_of_ble_eq_true rfl⟩ dX10_problems_3) (fun H locs S => ?_)
  refine lv_aload_n hx hb dX10_problems_6 rfl (lv_at hl 0 rfl) ?_
  refine lv_iload_n hx hb dX10_problems_7 rfl (lv_at hl 1 rfl) ?_
  refine lv_iload_n hx hb dX10_problems_8 rfl (lv_at hl 2 rfl) ?_
  obtain ⟨v2, hv2, hf⟩ := g_s1 hf
  refine g_ki S (g_runV (rest := [.int v1]) X S (c_X10_first l hN  hv2 _) cvX10_first mlX10_113 (by omega) (ceM_10 _) rfl rfl rfl hl.1 (by decide) ⟨⟨rfl, rfl⟩, ⟨Nat.le_of_ble_eq_true rfl, Nat.le_of_ble_eq_true rfl⟩, Nat.le_of_ble_eq_true rfl, Nat.le_of_ble_eq_true rfl⟩ dX10_problems_9) (fun H locs S => ?_)
  refine lv_isub hx hb dX10_problems_12 ?_
  refine lv_aload_n hx hb dX10_problems_13 rfl (lv_at hl 0 rfl) ?_
  refine lv_iload_n hx hb dX10_problems_14 rfl (lv_at hl 1 rfl) ?_
  refine lv_iload_n hx hb dX10_problems_15 rfl (lv_at hl 2 rfl) ?_
  obtain ⟨v3, hv3, hf⟩ := g_s1 hf
  refine g_ki S (g_runV (rest := [.int (v1 - v2)]) X S (c_X10_needs l hN  hv3 _) cvX10_needs mlX10_122 (by omega) (ceM_10 _) rfl rfl rfl hl.1 (by decide) ⟨⟨rfl, rfl⟩, ⟨Nat.le_of_ble_eq_true rfl, Nat.le_of_ble_eq_true rfl⟩, Nat.le_of_ble_eq_true rfl, Nat.le_of_ble_eq_true rfl⟩ dX10_problems_16) (fun H locs S => ?_)
  obtain ⟨x4, hr5, hf⟩ := g_s1 hf
  have J6 : ∀ (H : Heap) (locs : List Loc) (ls : Array Slot), gS celM Γ ad N σ s H locs → lv_has ls 4 [(0, .ref (ad 0)), (1, .int a0), (2, .int a1)] → W p l e (gR 6 0 0) s m args below meth c H locs 0 0 (gQi celM Γ ad N r σ below args s) (F0 m 27 ls [.int x4]) := by
    intro H locs ls S hl
    refine lv_istore_n (lv' := [(3, .int x4), (0, .ref (ad 0)), (1, .int a0), (2, .int a1)]) hx hb dX10_problems_27 rfl hl (by decide) rfl (fun ls hl => ?_)
    refine lv_iload_n hx hb dX10_problems_28 rfl (lv_at hl 0 rfl) ?_
    refine lv_aload_n hx hb dX10_problems_29 rfl (lv_at hl 1 rfl) ?_
    refine lv_aload_n hx hb dX10_problems_30 rfl (lv_at hl 1 rfl) ?_
    refine lv_iload_n hx hb dX10_problems_31 rfl (lv_at hl 2 rfl) ?_
    refine lv_iload_n hx hb dX10_problems_32 rfl (lv_at hl 3 rfl) ?_
    obtain ⟨v7, hv7, hf⟩ := g_s1 hf
    refine g_ki S (g_runV (rest := [.ref (ad 0), .int x4]) X S (c_X10_first l hN  hv7 _) cvX10_first mlX10_113 (by omega) (ceM_10 _) rfl rfl rfl hl.1 (by decide) ⟨⟨rfl, rfl⟩, ⟨Nat.le_of_ble_eq_true rfl, Nat.le_of_ble_eq_true rfl⟩, Nat.le_of_ble_eq_true rfl, Nat.le_of_ble_eq_true rfl⟩ dX10_problems_33) (fun H locs S => ?_)
    obtain ⟨v8, hv8, hf⟩ := g_s1 hf
    refine g_ki S (g_runV (rest := [.int x4]) X S (c_X10_isLoose l hN  hv8 _) cvX10_isLoose mlX10_125 (by omega) (ceM_10 _) rfl rfl rfl hl.1 (by decide) ⟨⟨rfl, rfl⟩, ⟨Nat.le_of_ble_eq_true rfl, Nat.le_of_ble_eq_true rfl⟩, Nat.le_of_ble_eq_true rfl, Nat.le_of_ble_eq_true rfl⟩ dX10_problems_36) (fun H locs S => ?_)
    obtain ⟨x9, hr10, hf⟩ := g_s1 hf
    have J11 : ∀ (H : Heap) (locs : List Loc) (ls : Array Slot), gS celM Γ ad N σ s H locs → lv_has ls 4 [(0, .ref (ad 0)), (1, .int a0), (2, .int a1)] → W p l e (gR 6 0 0) s m args below meth c H locs 0 0 (gQi celM Γ ad N r σ below args s) (F0 m 47 ls [.int x9, .int x4]) := by
      intro H locs ls S hl
      refine lv_iadd hx hb dX10_problems_47 ?_
      refine lv_istore_n (lv' := [(3, .int (x4 + x9)), (0, .ref (ad 0)), (1, .int a0), (2, .int a1)]) hx hb dX10_problems_48 rfl hl (by decide) rfl (fun ls hl => ?_)
      refine lv_iload_n hx hb dX10_problems_49 rfl (lv_at hl 0 rfl) ?_
      refine lv_aload_n hx hb dX10_problems_50 rfl (lv_at hl 1 rfl) ?_
      refine lv_aload_n hx hb dX10_problems_51 rfl (lv_at hl 1 rfl) ?_
      refine lv_iload_n hx hb dX10_problems_52 rfl (lv_at hl 2 rfl) ?_
      refine lv_iload_n hx hb dX10_problems_53 rfl (lv_at hl 3 rfl) ?_
      obtain ⟨v12, hv12, hf⟩ := g_s1 hf
      refine g_ki S (g_runV (rest := [.ref (ad 0), .int (x4 + x9)]) X S (c_X10_end l hN  hv12 _) cvX10_end mlX10_71 (by omega) (ceM_10 _) rfl rfl rfl hl.1 (by decide) ⟨⟨rfl, rfl⟩, ⟨Nat.le_of_ble_eq_true rfl, Nat.le_of_ble_eq_true rfl⟩, Nat.le_of_ble_eq_true rfl, Nat.le_of_ble_eq_true rfl⟩ dX10_problems_54) (fun H locs S => ?_)
      obtain ⟨v13, hv13, hf⟩ := g_s1 hf
      refine g_ki S (g_runV (rest := [.int (x4 + x9)]) X S (c_X10_isLoose l hN  hv13 _) cvX10_isLoose mlX10_125 (by omega) (ceM_10 _) rfl rfl rfl hl.1 (by decide) ⟨⟨rfl, rfl⟩, ⟨Nat.le_of_ble_eq_true rfl, Nat.le_of_ble_eq_true rfl⟩, Nat.le_of_ble_eq_true rfl, Nat.le_of_ble_eq_true rfl⟩ dX10_problems_57) (fun H locs S => ?_)
      obtain ⟨x14, hr15, hf⟩ := g_s1 hf
      have J16 : ∀ (H : Heap) (locs : List Loc) (ls : Array Slot), gS celM Γ ad N σ s H locs → lv_has ls 4 [(0, .ref (ad 0)), (1, .int a0), (2, .int a1)] → W p l e (gR 6 0 0) s m args below meth c H locs 0 0 (gQi celM Γ ad N r σ below args s) (F0 m 68 ls [.int x14, .int (x4 + x9)]) := by
        intro H locs ls S hl
        refine lv_iadd hx hb dX10_problems_68 ?_
        refine lv_istore_n (lv' := [(3, .int ((x4 + x9) + x14)), (0, .ref (ad 0)), (1, .int a0), (2, .int a1)]) hx hb dX10_problems_69 rfl hl (by decide) rfl (fun ls hl => ?_)
        refine lv_iload_n hx hb dX10_problems_70 rfl (lv_at hl 0 rfl) ?_
        refine lv_iload_n hx hb dX10_problems_71 rfl (lv_at hl 3 rfl) ?_
        obtain ⟨x17, hr18, hf⟩ := g_s1 hf
        have J19 : ∀ (H : Heap) (locs : List Loc) (ls : Array Slot), gS celM Γ ad N σ s H locs → lv_has ls 4 [(0, .ref (ad 0)), (1, .int a0), (2, .int a1)] → W p l e (gR 6 0 0) s m args below meth c H locs 0 0 (gQi celM Γ ad N r σ below args s) (F0 m 102 ls [.int x17, .int ((x4 + x9) + x14)]) := by
          intro H locs ls S hl
          refine lv_iadd hx hb dX10_problems_102 ?_
          refine lv_istore_n (lv' := [(3, .int (((x4 + x9) + x14) + x17)), (0, .ref (ad 0)), (1, .int a0), (2, .int a1)]) hx hb dX10_problems_103 rfl hl (by decide) rfl (fun ls hl => ?_)
          refine lv_iload_n hx hb dX10_problems_104 rfl (lv_at hl 0 rfl) ?_
          refine lv_aload_n hx hb dX10_problems_105 rfl (lv_at hl 1 rfl) ?_
          refine lv_iload_n hx hb dX10_problems_106 rfl (lv_at hl 2 rfl) ?_
          refine lv_iload_n hx hb dX10_problems_107 rfl (lv_at hl 3 rfl) ?_
          obtain ⟨v20, hv20, hf⟩ := g_s1 hf
          refine g_ki S (g_runV (rest := [.int (((x4 + x9) + x14) + x17)]) X S (c_X10_longest l hN  hv20 _) cvX10_longest mlX10_131 (by omega) (ceM_10 _) rfl rfl rfl hl.1 (by decide) ⟨⟨rfl, rfl⟩, ⟨Nat.le_of_ble_eq_true rfl, Nat.le_of_ble_eq_true rfl⟩, Nat.le_of_ble_eq_true rfl, Nat.le_of_ble_eq_true rfl⟩ dX10_problems_108) (fun H locs S => ?_)
          refine lv_aload_n hx hb dX10_problems_111 rfl (lv_at hl 1 rfl) ?_
          refine gfX10_7 X S hN dX10_problems_112 ?_
          refine lv_bipush (v := (6 : Int32)) hx hb dX10_problems_115 (by decide) ?_
          refine g_ialdC X S (by omega) (ceM_a (rfl : gma 1 = true)) 6 (by decide) (by decide) dX10_problems_117 ?_
          obtain ⟨x21, hr22, hf⟩ := g_s1 hf
          have J23 : ∀ (H : Heap) (locs : List Loc) (ls : Array Slot), gS celM Γ ad N σ s H locs → lv_has ls 4 [(0, .ref (ad 0)), (1, .int a0), (2, .int a1)] → W p l e (gR 6 0 0) s m args below meth c H locs 0 0 (gQi celM Γ ad N r σ below args s) (F0 m 127 ls [.int x21, .int (((x4 + x9) + x14) + x17)]) := by
            intro H locs ls S hl
            refine lv_iadd hx hb dX10_problems_127 ?_
            refine lv_istore_n (lv' := [(3, .int ((((x4 + x9) + x14) + x17) + x21)), (0, .ref (ad 0)), (1, .int a0), (2, .int a1)]) hx hb dX10_problems_128 rfl hl (by decide) rfl (fun ls hl => ?_)
            refine lv_iload_n hx hb dX10_problems_129 rfl (lv_at hl 0 rfl) ?_
            refine lv_aload_n hx hb dX10_problems_130 rfl (lv_at hl 1 rfl) ?_
            refine gfX10_7 X S hN dX10_problems_131 ?_
            refine lv_iload_n hx hb dX10_problems_134 rfl (lv_at hl 2 rfl) ?_
            refine lv_iload_n hx hb dX10_problems_135 rfl (lv_at hl 3 rfl) ?_
            refine lv_iconst (v := (2 : Int32)) hx hb dX10_problems_136 (by decide) ?_
            obtain ⟨v24, hv24, hf⟩ := g_s1 hf
            refine g_ki S (g_runS (rest := [.ref (ad 1), .int ((((x4 + x9) + x14) + x17) + x21)]) X S (c_X10_at l hN  hv24 _) csX10_at mlX10_56 rfl rfl hl.1 (by decide) ⟨⟨rfl, rfl⟩, ⟨Nat.le_of_ble_eq_true rfl, Nat.le_of_ble_eq_true rfl⟩, Nat.le_of_ble_eq_true rfl, Nat.le_of_ble_eq_true rfl⟩ dX10_problems_137) (fun H locs S => ?_)
            obtain ⟨v25, hv25, hf⟩ := g_s1 hf
            refine g_iald X S (by omega) (ceM_a (rfl : gma 1 = true)) hv25 dX10_problems_140 ?_
            refine lv_iconst (v := (1 : Int32)) hx hb dX10_problems_141 (by decide) ?_
            obtain ⟨x26, hr27, hf⟩ := g_s1 hf
            have J28 : ∀ (H : Heap) (locs : List Loc) (ls : Array Slot), gS celM Γ ad N σ s H locs → lv_has ls 4 [] → W p l e (gR 6 0 0) s m args below meth c H locs 0 0 (gQi celM Γ ad N r σ below args s) (F0 m 160 ls [.int x26, .int ((((x4 + x9) + x14) + x17) + x21)]) := by
              intro H locs ls S hl
              refine lv_iadd hx hb dX10_problems_160 ?_
              cases hf
              exact g_reti X S rfl dX10_problems_161
            replace hf := hr27
            refine lv_icmp_eq (tgt := 159) hx hb dX10_problems_142 (by decide) (fun c29 => ?_) (fun c29 => ?_)
            · have hf := (if_pos c29).symm.trans hf
              refine lv_iconst (v := (0 : Int32)) hx hb dX10_problems_159 (by decide) ?_
              cases hf
              exact J28 _ _ _ S (lv_sub hl [] rfl)
            · have hf := (if_neg c29).symm.trans hf
              refine lv_aload_n hx hb dX10_problems_145 rfl (lv_at hl 1 rfl) ?_
              refine lv_iload_n hx hb dX10_problems_146 rfl (lv_at hl 2 rfl) ?_
              refine lv_iload_n hx hb dX10_problems_147 rfl (lv_at hl 3 rfl) ?_
              obtain ⟨v30, hv30, hf⟩ := g_s1 hf
              refine g_ki S (g_runV (rest := [.int ((((x4 + x9) + x14) + x17) + x21)]) X S (c_X10_isInStep l hN  hv30 _) cvX10_isInStep mlX10_134 (by omega) (ceM_10 _) rfl rfl rfl hl.1 (by decide) ⟨⟨rfl, rfl⟩, ⟨Nat.le_of_ble_eq_true rfl, Nat.le_of_ble_eq_true rfl⟩, Nat.le_of_ble_eq_true rfl, Nat.le_of_ble_eq_true rfl⟩ dX10_problems_148) (fun H locs S => ?_)
              refine lv_if_ne (tgt := 159) hx hb dX10_problems_151 (by decide) (fun c31 => ?_) (fun c31 => ?_)
              · have hf := (if_neg c31).symm.trans hf
                refine lv_iconst (v := (0 : Int32)) hx hb dX10_problems_159 (by decide) ?_
                cases hf
                exact J28 _ _ _ S (lv_sub hl [] rfl)
              · have hf := (if_pos c31).symm.trans hf
                refine lv_bipush (v := (32 : Int32)) hx hb dX10_problems_154 (by decide) ?_
                refine lv_goto (tgt := 160) hx hb dX10_problems_156 (by decide) ?_
                cases hf
                exact J28 _ _ _ S (lv_sub hl [] rfl)
          replace hf := hr22
          refine lv_icmp_le (tgt := 126) hx hb dX10_problems_118 (by decide) (fun c32 => ?_) (fun c32 => ?_)
          · have hf := (if_pos c32).symm.trans hf
            refine lv_iconst (v := (0 : Int32)) hx hb dX10_problems_126 (by decide) ?_
            cases hf
            exact J23 _ _ _ S (lv_sub hl [1, 2, 3] rfl)
          · have hf := (if_neg c32).symm.trans hf
            refine lv_bipush (v := (16 : Int32)) hx hb dX10_problems_121 (by decide) ?_
            refine lv_goto (tgt := 127) hx hb dX10_problems_123 (by decide) ?_
            cases hf
            exact J23 _ _ _ S (lv_sub hl [1, 2, 3] rfl)
        replace hf := hr18
        refine lv_if_le (tgt := 101) hx hb dX10_problems_72 (by decide) (fun c33 => ?_) (fun c33 => ?_)
        · have hf := (if_pos c33).symm.trans hf
          refine lv_iconst (v := (0 : Int32)) hx hb dX10_problems_101 (by decide) ?_
          cases hf
          exact J19 _ _ _ S (lv_sub hl [1, 2, 3] rfl)
        · have hf := (if_neg c33).symm.trans hf
          refine lv_aload_n hx hb dX10_problems_75 rfl (lv_at hl 1 rfl) ?_
          refine lv_iload_n hx hb dX10_problems_76 rfl (lv_at hl 2 rfl) ?_
          refine lv_iload_n hx hb dX10_problems_77 rfl (lv_at hl 3 rfl) ?_
          obtain ⟨v34, hv34, hf⟩ := g_s1 hf
          refine g_ki S (g_runV (rest := [.int ((x4 + x9) + x14)]) X S (c_X10_before l hN  hv34 _) cvX10_before mlX10_128 (by omega) (ceM_10 _) rfl rfl rfl hl.1 (by decide) ⟨⟨rfl, rfl⟩, ⟨Nat.le_of_ble_eq_true rfl, Nat.le_of_ble_eq_true rfl⟩, Nat.le_of_ble_eq_true rfl, Nat.le_of_ble_eq_true rfl⟩ dX10_problems_78) (fun H locs S => ?_)
          refine lv_iconst (v := (1 : Int32)) hx hb dX10_problems_81 (by decide) ?_
          refine lv_aload_n hx hb dX10_problems_82 rfl (lv_at hl 1 rfl) ?_
          refine gfX10_7 X S hN dX10_problems_83 ?_
          refine lv_iconst (v := (3 : Int32)) hx hb dX10_problems_86 (by decide) ?_
          refine g_ialdC X S (by omega) (ceM_a (rfl : gma 1 = true)) 3 (by decide) (by decide) dX10_problems_87 ?_
          refine lv_iconst (v := (1 : Int32)) hx hb dX10_problems_88 (by decide) ?_
          refine lv_isub hx hb dX10_problems_89 ?_
          obtain ⟨v35, hv35, hf⟩ := g_s1 hf
          refine g_ki S (g_runS (rest := [.int ((x4 + x9) + x14)]) X S (c_X10_in l hN  hv35 _) csX10_in mlX10_48 rfl rfl hl.1 (by decide) ⟨⟨rfl, rfl⟩, ⟨Nat.le_of_ble_eq_true rfl, Nat.le_of_ble_eq_true rfl⟩, Nat.le_of_ble_eq_true rfl, Nat.le_of_ble_eq_true rfl⟩ dX10_problems_90) (fun H locs S => ?_)
          refine lv_if_eq (tgt := 101) hx hb dX10_problems_93 (by decide) (fun c36 => ?_) (fun c36 => ?_)
          · have hf := (if_pos c36).symm.trans hf
            refine lv_iconst (v := (0 : Int32)) hx hb dX10_problems_101 (by decide) ?_
            cases hf
            exact J19 _ _ _ S (lv_sub hl [1, 2, 3] rfl)
          · have hf := (if_neg c36).symm.trans hf
            refine lv_bipush (v := (8 : Int32)) hx hb dX10_problems_96 (by decide) ?_
            refine lv_goto (tgt := 102) hx hb dX10_problems_98 (by decide) ?_
            cases hf
            exact J19 _ _ _ S (lv_sub hl [1, 2, 3] rfl)
      replace hf := hr15
      refine lv_if_eq (tgt := 67) hx hb dX10_problems_60 (by decide) (fun c37 => ?_) (fun c37 => ?_)
      · have hf := (if_pos c37).symm.trans hf
        refine lv_iconst (v := (0 : Int32)) hx hb dX10_problems_67 (by decide) ?_
        cases hf
        exact J16 _ _ _ S (lv_sub hl [1, 2, 3] rfl)
      · have hf := (if_neg c37).symm.trans hf
        refine lv_iconst (v := (4 : Int32)) hx hb dX10_problems_63 (by decide) ?_
        refine lv_goto (tgt := 68) hx hb dX10_problems_64 (by decide) ?_
        cases hf
        exact J16 _ _ _ S (lv_sub hl [1, 2, 3] rfl)
    replace hf := hr10
    refine lv_if_eq (tgt := 46) hx hb dX10_problems_39 (by decide) (fun c38 => ?_) (fun c38 => ?_)
    · have hf := (if_pos c38).symm.trans hf
      refine lv_iconst (v := (0 : Int32)) hx hb dX10_problems_46 (by decide) ?_
      cases hf
      exact J11 _ _ _ S (lv_sub hl [1, 2, 3] rfl)
    · have hf := (if_neg c38).symm.trans hf
      refine lv_iconst (v := (2 : Int32)) hx hb dX10_problems_42 (by decide) ?_
      refine lv_goto (tgt := 47) hx hb dX10_problems_43 (by decide) ?_
      cases hf
      exact J11 _ _ _ S (lv_sub hl [1, 2, 3] rfl)
  replace hf := hr5
  refine lv_icmp_ge (tgt := 26) hx hb dX10_problems_19 (by decide) (fun c39 => ?_) (fun c39 => ?_)
  · have hf := (if_pos c39).symm.trans hf
    refine lv_iconst (v := (0 : Int32)) hx hb dX10_problems_26 (by decide) ?_
    cases hf
    exact J6 _ _ _ S (lv_sub hl [0, 1, 2] rfl)
  · have hf := (if_neg c39).symm.trans hf
    refine lv_iconst (v := (1 : Int32)) hx hb dX10_problems_22 (by decide) ?_
    refine lv_goto (tgt := 27) hx hb dX10_problems_23 (by decide) ?_
    cases hf
    exact J6 _ _ _ S (lv_sub hl [0, 1, 2] rfl)

noncomputable def f_X10_cutsWithin_l1 (σ : gSt) (a0 : Int32) (a1 : Int32) : Nat → Int32 → Int32 → Option (Int32)
  | 0, _, _ => none
  | n + 1, i1, i2 => (if (σ 1 7) ≤ i1 then some i2 else (g_k1 (gald σ 1 926 ((8 : Int32) + i1)) fun v5 => (g_k1 (f_X10_first σ a0 a1) fun v6 => (g_k1 (f_X10_end σ a0 a1) fun v7 => (g_k1 (f_X10_in σ v5 (v6 + (1 : Int32)) (v7 - (1 : Int32))) fun v8 => (g_k1 (if v8 = 0 then some (0 : Int32) else some (1 : Int32)) fun x9 => (f_X10_cutsWithin_l1 σ a0 a1 n (i1 + 1) (i2 + x9))))))))
set_option maxRecDepth 100000 in
set_option maxHeartbeats 4000000 in
theorem w_X10_cutsWithin_l1 {l : Launch} {Γ : gG} {ad : Nat → Nat} {N : Nat} {p : Program} {e : Env} {s : State} {m : MethodId} {args : Array Value} {below : List Frame} {meth : Method} {c : Code} {Q : State → Prop} (hN : 8 ≤ N) (X : gX celM Γ ad N RX10 cX10_cutsWithin 5 (some .int) p s m args meth c) {σ : gSt} {a0 : Int32} {a1 : Int32}  : ∀ (n : Nat) (i1 : Int32) (i2 : Int32) (r3 : Int32), f_X10_cutsWithin_l1 σ a0 a1 n i1 i2 = some r3 → (∀ (H : Heap) (locs : List Loc) (ls : Array Slot), gS celM Γ ad N σ s H locs → lv_has ls 5 [(3, .int r3)] → W p l e (gR 3 0 0) s m args below meth c H locs 0 0 (Q) (F0 m 63 ls [])) → ∀ (H : Heap) (locs : List Loc) (ls : Array Slot), gS celM Γ ad N σ s H locs → lv_has ls 5 [(4, .int i1), (3, .int i2), (0, .ref (ad 0)), (1, .int a0), (2, .int a1)] → W p l e (gR 3 0 0) s m args below meth c H locs 0 0 (Q) (F0 m 5 ls []) := by
  have hx := X.1
  have hb := X.2.1
  intro n
  induction n with
  | zero =>
    intro i1 i2 r3 hf
    cases hf
  | succ n ih =>
    intro i1 i2 r3 hf J H locs ls S hl
    rw [f_X10_cutsWithin_l1] at hf
    refine lv_iload hx hb dX10_cutsWithin_5 (lv_at hl 0 rfl) ?_
    refine lv_aload_n hx hb dX10_cutsWithin_7 rfl (lv_at hl 2 rfl) ?_
    refine gfX10_7 X S hN dX10_cutsWithin_8 ?_
    refine lv_bipush (v := (7 : Int32)) hx hb dX10_cutsWithin_11 (by decide) ?_
    refine g_ialdC X S (by omega) (ceM_a (rfl : gma 1 = true)) 7 (by decide) (by decide) dX10_cutsWithin_13 ?_
    refine lv_icmp_ge (tgt := 63) hx hb dX10_cutsWithin_14 (by decide) (fun c4 => ?_) (fun c4 => ?_)
    · have hf := (if_pos c4).symm.trans hf
      cases hf
      exact J _ _ _ S (lv_sub hl [1] rfl)
    · have hf := (if_neg c4).symm.trans hf
      refine lv_iload_n hx hb dX10_cutsWithin_17 rfl (lv_at hl 1 rfl) ?_
      refine lv_aload_n hx hb dX10_cutsWithin_18 rfl (lv_at hl 2 rfl) ?_
      refine gfX10_7 X S hN dX10_cutsWithin_19 ?_
      refine lv_bipush (v := (8 : Int32)) hx hb dX10_cutsWithin_22 (by decide) ?_
      refine lv_iload hx hb dX10_cutsWithin_24 (lv_at hl 0 rfl) ?_
      refine lv_iadd hx hb dX10_cutsWithin_26 ?_
      obtain ⟨v5, hv5, hf⟩ := g_s1 hf
      refine g_iald X S (by omega) (ceM_a (rfl : gma 1 = true)) hv5 dX10_cutsWithin_27 ?_
      refine lv_aload_n hx hb dX10_cutsWithin_28 rfl (lv_at hl 2 rfl) ?_
      refine lv_iload_n hx hb dX10_cutsWithin_29 rfl (lv_at hl 3 rfl) ?_
      refine lv_iload_n hx hb dX10_cutsWithin_30 rfl (lv_at hl 4 rfl) ?_
      obtain ⟨v6, hv6, hf⟩ := g_s1 hf
      refine g_ki S (g_runV (rest := [.int v5, .int i2]) X S (c_X10_first l hN  hv6 _) cvX10_first mlX10_113 (by omega) (ceM_10 _) rfl rfl rfl hl.1 (by decide) ⟨⟨rfl, rfl⟩, ⟨Nat.le_of_ble_eq_true rfl, Nat.le_of_ble_eq_true rfl⟩, Nat.le_of_ble_eq_true rfl, Nat.le_of_ble_eq_true rfl⟩ dX10_cutsWithin_31) (fun H locs S => ?_)
      refine lv_iconst (v := (1 : Int32)) hx hb dX10_cutsWithin_34 (by decide) ?_
      refine lv_iadd hx hb dX10_cutsWithin_35 ?_
      refine lv_aload_n hx hb dX10_cutsWithin_36 rfl (lv_at hl 2 rfl) ?_
      refine lv_iload_n hx hb dX10_cutsWithin_37 rfl (lv_at hl 3 rfl) ?_
      refine lv_iload_n hx hb dX10_cutsWithin_38 rfl (lv_at hl 4 rfl) ?_
      obtain ⟨v7, hv7, hf⟩ := g_s1 hf
      refine g_ki S (g_runV (rest := [.int (v6 + (1 : Int32)), .int v5, .int i2]) X S (c_X10_end l hN  hv7 _) cvX10_end mlX10_71 (by omega) (ceM_10 _) rfl rfl rfl hl.1 (by decide) ⟨⟨rfl, rfl⟩, ⟨Nat.le_of_ble_eq_true rfl, Nat.le_of_ble_eq_true rfl⟩, Nat.le_of_ble_eq_true rfl, Nat.le_of_ble_eq_true rfl⟩ dX10_cutsWithin_39) (fun H locs S => ?_)
      refine lv_iconst (v := (1 : Int32)) hx hb dX10_cutsWithin_42 (by decide) ?_
      refine lv_isub hx hb dX10_cutsWithin_43 ?_
      obtain ⟨v8, hv8, hf⟩ := g_s1 hf
      refine g_ki S (g_runS (rest := [.int i2]) X S (c_X10_in l hN  hv8 _) csX10_in mlX10_48 rfl rfl hl.1 (by decide) ⟨⟨rfl, rfl⟩, ⟨Nat.le_of_ble_eq_true rfl, Nat.le_of_ble_eq_true rfl⟩, Nat.le_of_ble_eq_true rfl, Nat.le_of_ble_eq_true rfl⟩ dX10_cutsWithin_44) (fun H locs S => ?_)
      obtain ⟨x9, hr10, hf⟩ := g_s1 hf
      have J11 : ∀ (H : Heap) (locs : List Loc) (ls : Array Slot), gS celM Γ ad N σ s H locs → lv_has ls 5 [(4, .int i1), (0, .ref (ad 0)), (1, .int a0), (2, .int a1)] → W p l e (gR 3 0 0) s m args below meth c H locs 0 0 (Q) (F0 m 55 ls [.int x9, .int i2]) := by
        intro H locs ls S hl
        refine lv_iadd hx hb dX10_cutsWithin_55 ?_
        refine lv_istore_n (lv' := [(3, .int (i2 + x9)), (4, .int i1), (0, .ref (ad 0)), (1, .int a0), (2, .int a1)]) hx hb dX10_cutsWithin_56 rfl hl (by decide) rfl (fun ls hl => ?_)
        refine lv_iinc (v := (i1 + 1)) (lv' := [(4, .int (i1 + 1)), (3, .int (i2 + x9)), (0, .ref (ad 0)), (1, .int a0), (2, .int a1)]) hx hb dX10_cutsWithin_57 hl (k := 1) rfl rfl (by decide) rfl (fun ls hl => ?_)
        refine lv_goto (tgt := 5) hx hb dX10_cutsWithin_60 (by decide) ?_
        exact ih _ _ _  hf J _ _ _ S (lv_sub hl [0, 1, 2, 3, 4] rfl)
      replace hf := hr10
      refine lv_if_eq (tgt := 54) hx hb dX10_cutsWithin_47 (by decide) (fun c12 => ?_) (fun c12 => ?_)
      · have hf := (if_pos c12).symm.trans hf
        refine lv_iconst (v := (0 : Int32)) hx hb dX10_cutsWithin_54 (by decide) ?_
        cases hf
        exact J11 _ _ _ S (lv_sub hl [0, 2, 3, 4] rfl)
      · have hf := (if_neg c12).symm.trans hf
        refine lv_iconst (v := (1 : Int32)) hx hb dX10_cutsWithin_50 (by decide) ?_
        refine lv_goto (tgt := 55) hx hb dX10_cutsWithin_51 (by decide) ?_
        cases hf
        exact J11 _ _ _ S (lv_sub hl [0, 2, 3, 4] rfl)
noncomputable def f_X10_cutsWithin (σ : gSt) (a0 : Int32) (a1 : Int32) : Option (Int32) :=
  (g_k1 (f_X10_cutsWithin_l1 σ a0 a1 FU (0 : Int32) (0 : Int32)) fun r3 => some r3)
set_option maxRecDepth 100000 in
set_option maxHeartbeats 4000000 in
theorem c_X10_cutsWithin (l : Launch) {Γ : gG} {ad : Nat → Nat} {N : Nat} (hN : 8 ≤ N) {σ : gSt} {a0 : Int32} {a1 : Int32}  {r : Int32} (hf : f_X10_cutsWithin σ a0 a1 = some r) : gMi l celM Γ ad N yX10_cutsWithin cX10_cutsWithin 5 (some .int) (gR 3 0 0) [.ref (ad 0), .int a0, .int a1] σ r σ := by
  intro sz
  refine gOf (Qc := fun sz => gQci celM Γ ad N r σ sz) RX10 (by decide) rfl (by decide) (fun p e s m args below meth c H locs ls X S hl => ?_)
  have hl : lv_has ls 5 [(4, .int (0 : Int32)), (3, .int (0 : Int32)), (0, .ref (ad 0)), (1, .int a0), (2, .int a1)] := hl
  have hx := X.1
  have hb := X.2.1
  unfold f_X10_cutsWithin at hf
  refine lv_iconst (v := (0 : Int32)) hx hb dX10_cutsWithin_0 (by decide) ?_
  refine lv_istore_n (lv' := [(3, .int (0 : Int32)), (0, .ref (ad 0)), (1, .int a0), (2, .int a1)]) hx hb dX10_cutsWithin_1 rfl hl (by decide) rfl (fun ls hl => ?_)
  refine lv_iconst (v := (0 : Int32)) hx hb dX10_cutsWithin_2 (by decide) ?_
  refine lv_istore (lv' := [(4, .int (0 : Int32)), (3, .int (0 : Int32)), (0, .ref (ad 0)), (1, .int a0), (2, .int a1)]) hx hb dX10_cutsWithin_3 hl (by decide) rfl (fun ls hl => ?_)
  obtain ⟨r3, hr13, hf⟩ := g_s1 hf
  refine w_X10_cutsWithin_l1 hN X  FU _ _ _  hr13 (fun H locs ls S hl => ?_) _ _ _ S (lv_sub hl [0, 1, 2, 3, 4] rfl)
  refine lv_iload_n hx hb dX10_cutsWithin_63 rfl (lv_at hl 0 rfl) ?_
  cases hf
  exact g_reti X S rfl dX10_cutsWithin_64
