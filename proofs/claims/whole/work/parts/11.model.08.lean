noncomputable def f_X10_here (σ : gSt)  : Option (Int32) :=
  (g_k1 (if (σ 0 12) ≤ (σ 0 13) then some (-1 : Int32) else (g_k1 (gald σ 6 60 (σ 0 13)) fun v5 => some v5)) fun x1 => some x1)
set_option maxRecDepth 100000 in
set_option maxHeartbeats 4000000 in
theorem c_X10_here (l : Launch) {Γ : gG} {ad : Nat → Nat} {N : Nat} (hN : 8 ≤ N) {σ : gSt}   {r : Int32} (hf : f_X10_here σ  = some r) : gMi l celM Γ ad N yX10_here cX10_here 1 (some .int) (gR 1 0 0) [.ref (ad 0)] σ r σ := by
  intro sz
  refine gOf (Qc := fun sz => gQci celM Γ ad N r σ sz) RX10 (by decide) rfl (Nat.le_of_ble_eq_true rfl) (fun p e s m args below meth c H locs ls X S hl => ?_)
  have hl : lv_has ls 1 [(0, .ref (ad 0))] := hl
  have hx := X.1
  have hb := X.2.1
  unfold f_X10_here at hf
  refine lv_aload_n hx hb dX10_here_0 rfl (lv_at hl 0 rfl) ?_
  refine gfX10_211 X S hN dX10_here_1 ?_
  refine lv_aload_n hx hb dX10_here_4 rfl (lv_at hl 0 rfl) ?_
  refine gfX10_137 X S hN dX10_here_5 ?_
  obtain ⟨x1, hr2, hf⟩ := g_s1 hf
  have J3 : ∀ (H : Heap) (locs : List Loc) (ls : Array Slot), gS celM Γ ad N σ s H locs → lv_has ls 1 [] → W p l e (gR 1 0 0) s m args below meth c H locs 0 0 (gQi celM Γ ad N r σ below args s) (F0 m 24 ls [.int x1]) := by
    intro H locs ls S hl
    cases hf
    exact g_reti X S rfl dX10_here_24
  replace hf := hr2
  refine lv_icmp_ge (tgt := 23) hx hb dX10_here_8 (by decide) (fun c4 => ?_) (fun c4 => ?_)
  · have hf := (if_pos c4).symm.trans hf
    refine lv_iconst (v := (-1 : Int32)) hx hb dX10_here_23 (by decide) ?_
    cases hf
    exact J3 _ _ _ S (lv_sub hl [] rfl)
  · have hf := (if_neg c4).symm.trans hf
    refine lv_aload_n hx hb dX10_here_11 rfl (lv_at hl 0 rfl) ?_
    refine gfX10_29 X S hN dX10_here_12 ?_
    refine lv_aload_n hx hb dX10_here_15 rfl (lv_at hl 0 rfl) ?_
    refine gfX10_211 X S hN dX10_here_16 ?_
    obtain ⟨v5, hv5, hf⟩ := g_s1 hf
    refine g_iald X S (by omega) (ceM_a (rfl : gma 6 = true)) hv5 dX10_here_19 ?_
    refine lv_goto (tgt := 24) hx hb dX10_here_20 (by decide) ?_
    cases hf
    exact J3 _ _ _ S (lv_sub hl [] rfl)

noncomputable def f_X10_skips (σ : gSt) (a0 : Int32) : Option (Int32 × gSt) :=
  (g_k1 (f_X10_here σ ) fun v1 => (g_k1 (if v1 = a0 then some (1 : Int32) else some (0 : Int32)) fun x2 => (g_k1 (if x2 = 0 then some (0 : Int32) else some (1 : Int32)) fun x5 => (g_k1 (gset σ 0 13 ((σ 0 13) + x5)) fun σ8 => (g_k1 (gzb x2) fun v9 => some (v9, σ8))))))
set_option maxRecDepth 100000 in
set_option maxHeartbeats 4000000 in
theorem c_X10_skips (l : Launch) {Γ : gG} {ad : Nat → Nat} {N : Nat} (hN : 8 ≤ N) {σ : gSt} {a0 : Int32}  {r : Int32} {σ' : gSt} (hf : f_X10_skips σ a0 = some (r, σ')) : gMi l celM Γ ad N yX10_skips cX10_skips 3 (some .boolean) (gR 2 0 0) [.ref (ad 0), .int a0] σ r σ' := by
  intro sz
  refine gOf (Qc := fun sz => gQci celM Γ ad N r σ' sz) RX10 (by decide) rfl (Nat.le_of_ble_eq_true rfl) (fun p e s m args below meth c H locs ls X S hl => ?_)
  have hl : lv_has ls 3 [(0, .ref (ad 0)), (1, .int a0)] := hl
  have hx := X.1
  have hb := X.2.1
  unfold f_X10_skips at hf
  refine lv_aload_n hx hb dX10_skips_0 rfl (lv_at hl 0 rfl) ?_
  obtain ⟨v1, hv1, hf⟩ := g_s1 hf
  refine g_ki S (g_runV (rest := []) X S (c_X10_here l hN  hv1 _) cvX10_here mlX10_214 (by omega) (ceM_10 _) rfl rfl rfl hl.1 (Nat.le_of_ble_eq_true rfl) ⟨⟨rfl, rfl⟩, ⟨Nat.le_of_ble_eq_true rfl, Nat.le_of_ble_eq_true rfl⟩, Nat.le_of_ble_eq_true rfl, Nat.le_of_ble_eq_true rfl⟩ dX10_skips_1) (fun H locs S => ?_)
  refine lv_iload_n hx hb dX10_skips_4 rfl (lv_at hl 1 rfl) ?_
  obtain ⟨x2, hr3, hf⟩ := g_s1 hf
  have J4 : ∀ (H : Heap) (locs : List Loc) (ls : Array Slot), gS celM Γ ad N σ s H locs → lv_has ls 3 [(0, .ref (ad 0))] → W p l e (gR 2 0 0) s m args below meth c H locs 0 0 (gQi celM Γ ad N r σ' below args s) (F0 m 13 ls [.int x2]) := by
    intro H locs ls S hl
    refine lv_istore_n (lv' := [(2, .int x2), (0, .ref (ad 0))]) hx hb dX10_skips_13 rfl hl (by decide) rfl (fun ls hl => ?_)
    refine lv_aload_n hx hb dX10_skips_14 rfl (lv_at hl 1 rfl) ?_
    refine lv_dup hx hb dX10_skips_15 rfl ?_
    refine gfX10_211 X S hN dX10_skips_16 ?_
    refine lv_iload_n hx hb dX10_skips_19 rfl (lv_at hl 0 rfl) ?_
    obtain ⟨x5, hr6, hf⟩ := g_s1 hf
    have J7 : ∀ (H : Heap) (locs : List Loc) (ls : Array Slot), gS celM Γ ad N σ s H locs → lv_has ls 3 [(2, .int x2)] → W p l e (gR 2 0 0) s m args below meth c H locs 0 0 (gQi celM Γ ad N r σ' below args s) (F0 m 28 ls [.int x5, .int (σ 0 13), .ref (ad 0)]) := by
      intro H locs ls S hl
      refine lv_iadd hx hb dX10_skips_28 ?_
      obtain ⟨σ8, hσ8, hf⟩ := g_s1 hf
      refine pfX10_211 X S hN hσ8 dX10_skips_29 (fun H locs S => ?_)
      refine lv_iload_n hx hb dX10_skips_32 rfl (lv_at hl 0 rfl) ?_
      obtain ⟨v9, hv9, hf⟩ := g_s1 hf
      obtain ⟨hnv9, rfl⟩ := gzb_some hv9
      cases hf
      exact g_reti X S hnv9 dX10_skips_33
    replace hf := hr6
    refine lv_if_eq (tgt := 27) hx hb dX10_skips_20 (by decide) (fun c10 => ?_) (fun c10 => ?_)
    · have hf := (if_pos c10).symm.trans hf
      refine lv_iconst (v := (0 : Int32)) hx hb dX10_skips_27 (by decide) ?_
      cases hf
      exact J7 _ _ _ S (lv_sub hl [0] rfl)
    · have hf := (if_neg c10).symm.trans hf
      refine lv_iconst (v := (1 : Int32)) hx hb dX10_skips_23 (by decide) ?_
      refine lv_goto (tgt := 28) hx hb dX10_skips_24 (by decide) ?_
      cases hf
      exact J7 _ _ _ S (lv_sub hl [0] rfl)
  replace hf := hr3
  refine lv_icmp_ne (tgt := 12) hx hb dX10_skips_5 (by decide) (fun c11 => ?_) (fun c11 => ?_)
  · have hf := (if_neg c11).symm.trans hf
    refine lv_iconst (v := (0 : Int32)) hx hb dX10_skips_12 (by decide) ?_
    cases hf
    exact J4 _ _ _ S (lv_sub hl [0] rfl)
  · have hf := (if_pos c11).symm.trans hf
    refine lv_iconst (v := (1 : Int32)) hx hb dX10_skips_8 (by decide) ?_
    refine lv_goto (tgt := 13) hx hb dX10_skips_9 (by decide) ?_
    cases hf
    exact J4 _ _ _ S (lv_sub hl [0] rfl)

noncomputable def f_X10_digits_l1 (a0 : Int32) (σ4 : gSt) : Nat → Int32 → gSt → Option (gSt)
  | 0, _, _ => none
  | n + 1, i5, σ6 => (if (4 : Int32) ≤ i5 then some σ6 else (g_k1 (f_X10_here σ6 ) fun v9 => (g_k1 (f_X10_in σ6 v9 (48 : Int32) (57 : Int32)) fun v10 => (if v10 = 0 then some σ6 else (g_k1 (f_X10_here σ6 ) fun v12 => (g_k1 (gset σ6 0 14 ((((10 : Int32) * (σ6 0 14)) + v12) - (48 : Int32))) fun σ13 => (g_k1 (gset σ13 0 13 ((σ13 0 13) + (1 : Int32))) fun σ14 => (f_X10_digits_l1 a0 σ4 n (i5 + 1) σ14))))))))
set_option maxRecDepth 100000 in
set_option maxHeartbeats 4000000 in
theorem w_X10_digits_l1 {l : Launch} {Γ : gG} {ad : Nat → Nat} {N : Nat} {p : Program} {e : Env} {s : State} {m : MethodId} {args : Array Value} {below : List Frame} {meth : Method} {c : Code} {Q : State → Prop} (hN : 8 ≤ N) (X : gX celM Γ ad N RX10 cX10_digits 3 (some .boolean) p s m args meth c) {a0 : Int32} {σ4 : gSt}  : ∀ (n : Nat) (i5 : Int32) (σ6 : gSt) (σ7 : gSt), f_X10_digits_l1 a0 σ4 n i5 σ6 = some σ7 → (∀ (H : Heap) (locs : List Loc) (ls : Array Slot), gS celM Γ ad N σ7 s H locs → lv_has ls 3 [(0, .ref (ad 0)), (1, .int a0)] → W p l e (gR 2 0 0) s m args below meth c H locs 0 0 (Q) (F0 m 77 ls [])) → ∀ (H : Heap) (locs : List Loc) (ls : Array Slot), gS celM Γ ad N σ6 s H locs → lv_has ls 3 [(2, .int i5), (0, .ref (ad 0)), (1, .int a0)] → W p l e (gR 2 0 0) s m args below meth c H locs 0 0 (Q) (F0 m 23 ls []) := by
  have hx := X.1
  have hb := X.2.1
  intro n
  induction n with
  | zero =>
    intro i5 σ6 σ7 hf
    cases hf
  | succ n ih =>
    intro i5 σ6 σ7 hf J H locs ls S hl
    rw [f_X10_digits_l1] at hf
    refine lv_iload_n hx hb dX10_digits_23 rfl (lv_at hl 0 rfl) ?_
    refine lv_iconst (v := (4 : Int32)) hx hb dX10_digits_24 (by decide) ?_
    refine lv_icmp_ge (tgt := 77) hx hb dX10_digits_25 (by decide) (fun c8 => ?_) (fun c8 => ?_)
    · have hf := (if_pos c8).symm.trans hf
      cases hf
      exact J _ _ _ S (lv_sub hl [1, 2] rfl)
    · have hf := (if_neg c8).symm.trans hf
      refine lv_aload_n hx hb dX10_digits_28 rfl (lv_at hl 1 rfl) ?_
      obtain ⟨v9, hv9, hf⟩ := g_s1 hf
      refine g_ki S (g_runV (rest := []) X S (c_X10_here l hN  hv9 _) cvX10_here mlX10_214 (by omega) (ceM_10 _) rfl rfl rfl hl.1 (Nat.le_of_ble_eq_true rfl) ⟨⟨rfl, rfl⟩, ⟨Nat.le_of_ble_eq_true rfl, Nat.le_of_ble_eq_true rfl⟩, Nat.le_of_ble_eq_true rfl, Nat.le_of_ble_eq_true rfl⟩ dX10_digits_29) (fun H locs S => ?_)
      refine lv_bipush (v := (48 : Int32)) hx hb dX10_digits_32 (by decide) ?_
      refine lv_bipush (v := (57 : Int32)) hx hb dX10_digits_34 (by decide) ?_
      obtain ⟨v10, hv10, hf⟩ := g_s1 hf
      refine g_ki S (g_runS (rest := []) X S (c_X10_in l hN  hv10 _) csX10_in mlX10_48 rfl rfl hl.1 (Nat.le_of_ble_eq_true rfl) ⟨⟨rfl, rfl⟩, ⟨Nat.le_of_ble_eq_true rfl, Nat.le_of_ble_eq_true rfl⟩, Nat.le_of_ble_eq_true rfl, Nat.le_of_ble_eq_true rfl⟩ dX10_digits_36) (fun H locs S => ?_)
      refine lv_if_eq (tgt := 77) hx hb dX10_digits_39 (by decide) (fun c11 => ?_) (fun c11 => ?_)
      · have hf := (if_pos c11).symm.trans hf
        cases hf
        exact J _ _ _ S (lv_sub hl [1, 2] rfl)
      · have hf := (if_neg c11).symm.trans hf
        refine lv_aload_n hx hb dX10_digits_42 rfl (lv_at hl 1 rfl) ?_
        refine lv_bipush (v := (10 : Int32)) hx hb dX10_digits_43 (by decide) ?_
        refine lv_aload_n hx hb dX10_digits_45 rfl (lv_at hl 1 rfl) ?_
        refine gfX10_217 X S hN dX10_digits_46 ?_
        refine lv_imul hx hb dX10_digits_49 ?_
        refine lv_aload_n hx hb dX10_digits_50 rfl (lv_at hl 1 rfl) ?_
        obtain ⟨v12, hv12, hf⟩ := g_s1 hf
        refine g_ki S (g_runV (rest := [.int ((10 : Int32) * (σ6 0 14)), .ref (ad 0)]) X S (c_X10_here l hN  hv12 _) cvX10_here mlX10_214 (by omega) (ceM_10 _) rfl rfl rfl hl.1 (Nat.le_of_ble_eq_true rfl) ⟨⟨rfl, rfl⟩, ⟨Nat.le_of_ble_eq_true rfl, Nat.le_of_ble_eq_true rfl⟩, Nat.le_of_ble_eq_true rfl, Nat.le_of_ble_eq_true rfl⟩ dX10_digits_51) (fun H locs S => ?_)
        refine lv_iadd hx hb dX10_digits_54 ?_
        refine lv_bipush (v := (48 : Int32)) hx hb dX10_digits_55 (by decide) ?_
        refine lv_isub hx hb dX10_digits_57 ?_
        obtain ⟨σ13, hσ13, hf⟩ := g_s1 hf
        refine pfX10_217 X S hN hσ13 dX10_digits_58 (fun H locs S => ?_)
        refine lv_aload_n hx hb dX10_digits_61 rfl (lv_at hl 1 rfl) ?_
        refine lv_dup hx hb dX10_digits_62 rfl ?_
        refine gfX10_211 X S hN dX10_digits_63 ?_
        refine lv_iconst (v := (1 : Int32)) hx hb dX10_digits_66 (by decide) ?_
        refine lv_iadd hx hb dX10_digits_67 ?_
        obtain ⟨σ14, hσ14, hf⟩ := g_s1 hf
        refine pfX10_211 X S hN hσ14 dX10_digits_68 (fun H locs S => ?_)
        refine lv_iinc (v := (i5 + 1)) (lv' := [(2, .int (i5 + 1)), (0, .ref (ad 0)), (1, .int a0)]) hx hb dX10_digits_71 hl (k := 0) rfl rfl (by decide) rfl (fun ls hl => ?_)
        refine lv_goto (tgt := 23) hx hb dX10_digits_74 (by decide) ?_
        exact ih _ _ _  hf J _ _ _ S (lv_sub hl [0, 1, 2] rfl)
noncomputable def f_X10_digits (σ : gSt) (a0 : Int32) : Option (Int32 × gSt) :=
  (g_k1 (f_X10_here σ ) fun v1 => (g_k1 (f_X10_in σ v1 (48 : Int32) (57 : Int32)) fun v2 => (if v2 = 0 then some ((0 : Int32), σ) else (g_k1 (gset σ 0 14 (0 : Int32)) fun σ4 => (g_k1 (f_X10_digits_l1 a0 σ4 FU (0 : Int32) σ4) fun σ7 => (g_k1 (gast σ7 7 180 a0 (σ7 0 14)) fun σ16 => some ((1 : Int32), σ16)))))))
set_option maxRecDepth 100000 in
set_option maxHeartbeats 4000000 in
theorem c_X10_digits (l : Launch) {Γ : gG} {ad : Nat → Nat} {N : Nat} (hN : 8 ≤ N) {σ : gSt} {a0 : Int32}  {r : Int32} {σ' : gSt} (hf : f_X10_digits σ a0 = some (r, σ')) : gMi l celM Γ ad N yX10_digits cX10_digits 3 (some .boolean) (gR 2 0 0) [.ref (ad 0), .int a0] σ r σ' := by
  intro sz
  refine gOf (Qc := fun sz => gQci celM Γ ad N r σ' sz) RX10 (by decide) rfl (Nat.le_of_ble_eq_true rfl) (fun p e s m args below meth c H locs ls X S hl => ?_)
  have hl : lv_has ls 3 [(0, .ref (ad 0)), (1, .int a0)] := hl
  have hx := X.1
  have hb := X.2.1
  unfold f_X10_digits at hf
  refine lv_aload_n hx hb dX10_digits_0 rfl (lv_at hl 0 rfl) ?_
  obtain ⟨v1, hv1, hf⟩ := g_s1 hf
  refine g_ki S (g_runV (rest := []) X S (c_X10_here l hN  hv1 _) cvX10_here mlX10_214 (by omega) (ceM_10 _) rfl rfl rfl hl.1 (Nat.le_of_ble_eq_true rfl) ⟨⟨rfl, rfl⟩, ⟨Nat.le_of_ble_eq_true rfl, Nat.le_of_ble_eq_true rfl⟩, Nat.le_of_ble_eq_true rfl, Nat.le_of_ble_eq_true rfl⟩ dX10_digits_1) (fun H locs S => ?_)
  refine lv_bipush (v := (48 : Int32)) hx hb dX10_digits_4 (by decide) ?_
  refine lv_bipush (v := (57 : Int32)) hx hb dX10_digits_6 (by decide) ?_
  obtain ⟨v2, hv2, hf⟩ := g_s1 hf
  refine g_ki S (g_runS (rest := []) X S (c_X10_in l hN  hv2 _) csX10_in mlX10_48 rfl rfl hl.1 (Nat.le_of_ble_eq_true rfl) ⟨⟨rfl, rfl⟩, ⟨Nat.le_of_ble_eq_true rfl, Nat.le_of_ble_eq_true rfl⟩, Nat.le_of_ble_eq_true rfl, Nat.le_of_ble_eq_true rfl⟩ dX10_digits_8) (fun H locs S => ?_)
  refine lv_if_ne (tgt := 16) hx hb dX10_digits_11 (by decide) (fun c3 => ?_) (fun c3 => ?_)
  · have hf := (if_neg c3).symm.trans hf
    refine lv_aload_n hx hb dX10_digits_16 rfl (lv_at hl 0 rfl) ?_
    refine lv_iconst (v := (0 : Int32)) hx hb dX10_digits_17 (by decide) ?_
    obtain ⟨σ4, hσ4, hf⟩ := g_s1 hf
    refine pfX10_217 X S hN hσ4 dX10_digits_18 (fun H locs S => ?_)
    refine lv_iconst (v := (0 : Int32)) hx hb dX10_digits_21 (by decide) ?_
    refine lv_istore_n (lv' := [(2, .int (0 : Int32)), (0, .ref (ad 0)), (1, .int a0)]) hx hb dX10_digits_22 rfl hl (by decide) rfl (fun ls hl => ?_)
    obtain ⟨σ7, hr15, hf⟩ := g_s1 hf
    refine w_X10_digits_l1 hN X  FU _ _ _  hr15 (fun H locs ls S hl => ?_) _ _ _ S (lv_sub hl [0, 1, 2] rfl)
    refine lv_aload_n hx hb dX10_digits_77 rfl (lv_at hl 0 rfl) ?_
    refine gfX10_32 X S hN dX10_digits_78 ?_
    refine lv_iload_n hx hb dX10_digits_81 rfl (lv_at hl 1 rfl) ?_
    refine lv_aload_n hx hb dX10_digits_82 rfl (lv_at hl 0 rfl) ?_
    refine gfX10_217 X S hN dX10_digits_83 ?_
    obtain ⟨σ16, hσ16, hf⟩ := g_s1 hf
    refine g_iast X S (by omega) (ceM_a (rfl : gma 7 = true)) hσ16 dX10_digits_86 (fun H locs S => ?_)
    refine lv_iconst (v := (1 : Int32)) hx hb dX10_digits_87 (by decide) ?_
    cases hf
    exact g_reti X S (by decide +kernel) dX10_digits_88
  · have hf := (if_pos c3).symm.trans hf
    refine lv_iconst (v := (0 : Int32)) hx hb dX10_digits_14 (by decide) ?_
    cases hf
    exact g_reti X S (by decide +kernel) dX10_digits_15

noncomputable def f_X10_words_l1 (a0 : Int32) (σ1 : gSt) : Nat → gSt → Option (gSt)
  | 0, _ => none
  | n + 1, σ2 => (g_k1 (f_X10_here σ2 ) fun v4 => (g_k1 (f_X10_isLetter σ2 v4) fun v5 => (if v5 = 0 then some σ2 else (g_k1 (gald σ2 7 180 (a0 + (4 : Int32))) fun v7 => (if (24 : Int32) ≤ ((σ2 0 13) - v7) then some σ2 else (g_k1 (gset σ2 0 13 ((σ2 0 13) + (1 : Int32))) fun σ9 => (f_X10_words_l1 a0 σ1 n σ9)))))))
set_option maxRecDepth 100000 in
set_option maxHeartbeats 4000000 in
theorem w_X10_words_l1 {l : Launch} {Γ : gG} {ad : Nat → Nat} {N : Nat} {p : Program} {e : Env} {s : State} {m : MethodId} {args : Array Value} {below : List Frame} {meth : Method} {c : Code} {Q : State → Prop} (hN : 8 ≤ N) (X : gX celM Γ ad N RX10 cX10_words 2 (some .boolean) p s m args meth c) {a0 : Int32} {σ1 : gSt}  : ∀ (n : Nat) (σ2 : gSt) (σ3 : gSt), f_X10_words_l1 a0 σ1 n σ2 = some σ3 → (∀ (H : Heap) (locs : List Loc) (ls : Array Slot), gS celM Γ ad N σ3 s H locs → lv_has ls 2 [(0, .ref (ad 0)), (1, .int a0)] → W p l e (gR 3 0 0) s m args below meth c H locs 0 0 (Q) (F0 m 53 ls [])) → ∀ (H : Heap) (locs : List Loc) (ls : Array Slot), gS celM Γ ad N σ2 s H locs → lv_has ls 2 [(0, .ref (ad 0)), (1, .int a0)] → W p l e (gR 3 0 0) s m args below meth c H locs 0 0 (Q) (F0 m 12 ls []) := by
  have hx := X.1
  have hb := X.2.1
  intro n
  induction n with
  | zero =>
    intro σ2 σ3 hf
    cases hf
  | succ n ih =>
    intro σ2 σ3 hf J H locs ls S hl
    rw [f_X10_words_l1] at hf
    refine lv_aload_n hx hb dX10_words_12 rfl (lv_at hl 0 rfl) ?_
    obtain ⟨v4, hv4, hf⟩ := g_s1 hf
    refine g_ki S (g_runV (rest := []) X S (c_X10_here l hN  hv4 _) cvX10_here mlX10_214 (by omega) (ceM_10 _) rfl rfl rfl hl.1 (Nat.le_of_ble_eq_true rfl) ⟨⟨rfl, rfl⟩, ⟨Nat.le_of_ble_eq_true rfl, Nat.le_of_ble_eq_true rfl⟩, Nat.le_of_ble_eq_true rfl, Nat.le_of_ble_eq_true rfl⟩ dX10_words_13) (fun H locs S => ?_)
    obtain ⟨v5, hv5, hf⟩ := g_s1 hf
    refine g_ki S (g_runS (rest := []) X S (c_X10_isLetter l hN  hv5 _) csX10_isLetter mlX10_100 rfl rfl hl.1 (Nat.le_of_ble_eq_true rfl) ⟨⟨rfl, rfl⟩, ⟨Nat.le_of_ble_eq_true rfl, Nat.le_of_ble_eq_true rfl⟩, Nat.le_of_ble_eq_true rfl, Nat.le_of_ble_eq_true rfl⟩ dX10_words_16) (fun H locs S => ?_)
    refine lv_if_eq (tgt := 53) hx hb dX10_words_19 (by decide) (fun c6 => ?_) (fun c6 => ?_)
    · have hf := (if_pos c6).symm.trans hf
      cases hf
      exact J _ _ _ S (lv_sub hl [0, 1] rfl)
    · have hf := (if_neg c6).symm.trans hf
      refine lv_aload_n hx hb dX10_words_22 rfl (lv_at hl 0 rfl) ?_
      refine gfX10_211 X S hN dX10_words_23 ?_
      refine lv_aload_n hx hb dX10_words_26 rfl (lv_at hl 0 rfl) ?_
      refine gfX10_32 X S hN dX10_words_27 ?_
      refine lv_iload_n hx hb dX10_words_30 rfl (lv_at hl 1 rfl) ?_
      refine lv_iconst (v := (4 : Int32)) hx hb dX10_words_31 (by decide) ?_
      refine lv_iadd hx hb dX10_words_32 ?_
      obtain ⟨v7, hv7, hf⟩ := g_s1 hf
      refine g_iald X S (by omega) (ceM_a (rfl : gma 7 = true)) hv7 dX10_words_33 ?_
      refine lv_isub hx hb dX10_words_34 ?_
      refine lv_bipush (v := (24 : Int32)) hx hb dX10_words_35 (by decide) ?_
      refine lv_icmp_ge (tgt := 53) hx hb dX10_words_37 (by decide) (fun c8 => ?_) (fun c8 => ?_)
      · have hf := (if_pos c8).symm.trans hf
        cases hf
        exact J _ _ _ S (lv_sub hl [0, 1] rfl)
      · have hf := (if_neg c8).symm.trans hf
        refine lv_aload_n hx hb dX10_words_40 rfl (lv_at hl 0 rfl) ?_
        refine lv_dup hx hb dX10_words_41 rfl ?_
        refine gfX10_211 X S hN dX10_words_42 ?_
        refine lv_iconst (v := (1 : Int32)) hx hb dX10_words_45 (by decide) ?_
        refine lv_iadd hx hb dX10_words_46 ?_
        obtain ⟨σ9, hσ9, hf⟩ := g_s1 hf
        refine pfX10_211 X S hN hσ9 dX10_words_47 (fun H locs S => ?_)
        refine lv_goto (tgt := 12) hx hb dX10_words_50 (by decide) ?_
        exact ih _ _  hf J _ _ _ S (lv_sub hl [0, 1] rfl)
noncomputable def f_X10_words (σ : gSt) (a0 : Int32) : Option (Int32 × gSt) :=
  (g_k1 (gast σ 7 180 (a0 + (4 : Int32)) (σ 0 13)) fun σ1 => (g_k1 (f_X10_words_l1 a0 σ1 FU σ1) fun σ3 => (g_k1 (gald σ3 7 180 (a0 + (4 : Int32))) fun v11 => (g_k1 (gast σ3 7 180 (a0 + (5 : Int32)) ((σ3 0 13) - v11)) fun σ12 => (g_k1 (gald σ12 7 180 (a0 + (5 : Int32))) fun v13 => (g_k1 (if v13 ≤ 0 then some (0 : Int32) else some (1 : Int32)) fun x14 => (g_k1 (gzb x14) fun v17 => some (v17, σ12))))))))
set_option maxRecDepth 100000 in
set_option maxHeartbeats 4000000 in
theorem c_X10_words (l : Launch) {Γ : gG} {ad : Nat → Nat} {N : Nat} (hN : 8 ≤ N) {σ : gSt} {a0 : Int32}  {r : Int32} {σ' : gSt} (hf : f_X10_words σ a0 = some (r, σ')) : gMi l celM Γ ad N yX10_words cX10_words 2 (some .boolean) (gR 3 0 0) [.ref (ad 0), .int a0] σ r σ' := by
  intro sz
  refine gOf (Qc := fun sz => gQci celM Γ ad N r σ' sz) RX10 (by decide) rfl (Nat.le_of_ble_eq_true rfl) (fun p e s m args below meth c H locs ls X S hl => ?_)
  have hl : lv_has ls 2 [(0, .ref (ad 0)), (1, .int a0)] := hl
  have hx := X.1
  have hb := X.2.1
  unfold f_X10_words at hf
  refine lv_aload_n hx hb dX10_words_0 rfl (lv_at hl 0 rfl) ?_
  refine gfX10_32 X S hN dX10_words_1 ?_
  refine lv_iload_n hx hb dX10_words_4 rfl (lv_at hl 1 rfl) ?_
  refine lv_iconst (v := (4 : Int32)) hx hb dX10_words_5 (by decide) ?_
  refine lv_iadd hx hb dX10_words_6 ?_
  refine lv_aload_n hx hb dX10_words_7 rfl (lv_at hl 0 rfl) ?_
  refine gfX10_211 X S hN dX10_words_8 ?_
  obtain ⟨σ1, hσ1, hf⟩ := g_s1 hf
  refine g_iast X S (by omega) (ceM_a (rfl : gma 7 = true)) hσ1 dX10_words_11 (fun H locs S => ?_)
  obtain ⟨σ3, hr10, hf⟩ := g_s1 hf
  refine w_X10_words_l1 hN X  FU _ _  hr10 (fun H locs ls S hl => ?_) _ _ _ S (lv_sub hl [0, 1] rfl)
  refine lv_aload_n hx hb dX10_words_53 rfl (lv_at hl 0 rfl) ?_
  refine gfX10_32 X S hN dX10_words_54 ?_
  refine lv_iload_n hx hb dX10_words_57 rfl (lv_at hl 1 rfl) ?_
  refine lv_iconst (v := (5 : Int32)) hx hb dX10_words_58 (by decide) ?_
  refine lv_iadd hx hb dX10_words_59 ?_
  refine lv_aload_n hx hb dX10_words_60 rfl (lv_at hl 0 rfl) ?_
  refine gfX10_211 X S hN dX10_words_61 ?_
  refine lv_aload_n hx hb dX10_words_64 rfl (lv_at hl 0 rfl) ?_
  refine gfX10_32 X S hN dX10_words_65 ?_
  refine lv_iload_n hx hb dX10_words_68 rfl (lv_at hl 1 rfl) ?_
  refine lv_iconst (v := (4 : Int32)) hx hb dX10_words_69 (by decide) ?_
  refine lv_iadd hx hb dX10_words_70 ?_
  obtain ⟨v11, hv11, hf⟩ := g_s1 hf
  refine g_iald X S (by omega) (ceM_a (rfl : gma 7 = true)) hv11 dX10_words_71 ?_
  refine lv_isub hx hb dX10_words_72 ?_
  obtain ⟨σ12, hσ12, hf⟩ := g_s1 hf
  refine g_iast X S (by omega) (ceM_a (rfl : gma 7 = true)) hσ12 dX10_words_73 (fun H locs S => ?_)
  refine lv_aload_n hx hb dX10_words_74 rfl (lv_at hl 0 rfl) ?_
  refine gfX10_32 X S hN dX10_words_75 ?_
  refine lv_iload_n hx hb dX10_words_78 rfl (lv_at hl 1 rfl) ?_
  refine lv_iconst (v := (5 : Int32)) hx hb dX10_words_79 (by decide) ?_
  refine lv_iadd hx hb dX10_words_80 ?_
  obtain ⟨v13, hv13, hf⟩ := g_s1 hf
  refine g_iald X S (by omega) (ceM_a (rfl : gma 7 = true)) hv13 dX10_words_81 ?_
  obtain ⟨x14, hr15, hf⟩ := g_s1 hf
  have J16 : ∀ (H : Heap) (locs : List Loc) (ls : Array Slot), gS celM Γ ad N σ12 s H locs → lv_has ls 2 [] → W p l e (gR 3 0 0) s m args below meth c H locs 0 0 (gQi celM Γ ad N r σ' below args s) (F0 m 90 ls [.int x14]) := by
    intro H locs ls S hl
    obtain ⟨v17, hv17, hf⟩ := g_s1 hf
    obtain ⟨hnv17, rfl⟩ := gzb_some hv17
    cases hf
    exact g_reti X S hnv17 dX10_words_90
  replace hf := hr15
  refine lv_if_le (tgt := 89) hx hb dX10_words_82 (by decide) (fun c18 => ?_) (fun c18 => ?_)
  · have hf := (if_pos c18).symm.trans hf
    refine lv_iconst (v := (0 : Int32)) hx hb dX10_words_89 (by decide) ?_
    cases hf
    exact J16 _ _ _ S (lv_sub hl [] rfl)
  · have hf := (if_neg c18).symm.trans hf
    refine lv_iconst (v := (1 : Int32)) hx hb dX10_words_85 (by decide) ?_
    refine lv_goto (tgt := 90) hx hb dX10_words_86 (by decide) ?_
    cases hf
    exact J16 _ _ _ S (lv_sub hl [] rfl)

noncomputable def f_X10_item_b1 (b3 : Int32) (b4 : Int32) (σ5 : gSt) : Option (Int32 × gSt) :=
  (g_k1 (gast σ5 7 180 b4 b3) fun σ6 => (g_k1 (gset σ6 0 13 ((σ6 0 13) + (1 : Int32))) fun σ7 => (g_k1 (gset σ7 0 16 ((σ7 0 16) + (1 : Int32))) fun σ8 => (if b3 = (99 : Int32) then (g_k2 (f_X10_digits σ8 (b4 + (2 : Int32))) fun v10 σ11 => (g_k1 (gzb v10) fun v12 => some (v12, σ11))) else (if b3 = (117 : Int32) then (g_k2 (f_X10_digits σ8 (b4 + (2 : Int32))) fun v46 σ47 => (g_k1 (gzb v46) fun v48 => some (v48, σ47))) else (g_k1 (f_X10_here σ8 ) fun v14 => (g_k1 (if v14 = (46 : Int32) then some (0 : Int32) else (g_k1 (f_X10_here σ8 ) fun v42 => (if v42 = (33 : Int32) then some (1 : Int32) else (g_k1 (f_X10_here σ8 ) fun v44 => (if v44 = (42 : Int32) then some (2 : Int32) else some (-1 : Int32)))))) fun x15 => (if 0 ≤ x15 then (g_k1 (gast σ8 7 180 (b4 + (1 : Int32)) x15) fun σ19 => (g_k1 (gset σ19 0 13 ((σ19 0 13) + (1 : Int32))) fun σ20 => (g_k2 (f_X10_digits σ20 (b4 + (2 : Int32))) fun v21 σ22 => (g_k2 (if v21 = 0 then some ((0 : Int32), σ22) else (g_k2 (f_X10_skips σ22 (45 : Int32)) fun v29 σ30 => (if v29 = 0 then some ((0 : Int32), σ30) else (g_k2 (f_X10_digits σ30 (b4 + (3 : Int32))) fun v32 σ33 => (if v32 = 0 then some ((0 : Int32), σ33) else (g_k2 (f_X10_skips σ33 (58 : Int32)) fun v35 σ36 => (if v35 = 0 then some ((0 : Int32), σ36) else (g_k2 (f_X10_words σ36 b4) fun v38 σ39 => (if v38 = 0 then some ((0 : Int32), σ39) else some ((1 : Int32), σ39)))))))))) fun x23 σ24 => (g_k1 (gzb x23) fun v27 => some (v27, σ24)))))) else some ((0 : Int32), σ8)))))))))
set_option maxRecDepth 100000 in
set_option maxHeartbeats 4000000 in
theorem w_X10_item_b1 {l : Launch} {Γ : gG} {ad : Nat → Nat} {N : Nat} {p : Program} {e : Env} {s : State} {m : MethodId} {args : Array Value} {below : List Frame} {meth : Method} {c : Code} (hN : 8 ≤ N) (X : gX celM Γ ad N RX10 cX10_item 4 (some .boolean) p s m args meth c) {b3 : Int32} {b4 : Int32} {σ5 : gSt}  {r : Int32} {σ' : gSt} (hf : f_X10_item_b1 b3 b4 σ5 = some (r, σ')) (H : Heap) (locs : List Loc) (ls : Array Slot) (S : gS celM Γ ad N σ5 s H locs) (hl : lv_has ls 4 [(2, .int b3), (1, .int b4), (0, .ref (ad 0))]) : W p l e (gR 4 0 0) s m args below meth c H locs 0 0 (gQi celM Γ ad N r σ' below args s) (F0 m 39 ls []) := by
  have hx := X.1
  have hb := X.2.1
  unfold f_X10_item_b1 at hf
  refine lv_aload_n hx hb dX10_item_39 rfl (lv_at hl 2 rfl) ?_
  refine gfX10_32 X S hN dX10_item_40 ?_
  refine lv_iload_n hx hb dX10_item_43 rfl (lv_at hl 1 rfl) ?_
  refine lv_iload_n hx hb dX10_item_44 rfl (lv_at hl 0 rfl) ?_
  obtain ⟨σ6, hσ6, hf⟩ := g_s1 hf
  refine g_iast X S (by omega) (ceM_a (rfl : gma 7 = true)) hσ6 dX10_item_45 (fun H locs S => ?_)
  refine lv_aload_n hx hb dX10_item_46 rfl (lv_at hl 2 rfl) ?_
  refine lv_dup hx hb dX10_item_47 rfl ?_
  refine gfX10_211 X S hN dX10_item_48 ?_
  refine lv_iconst (v := (1 : Int32)) hx hb dX10_item_51 (by decide) ?_
  refine lv_iadd hx hb dX10_item_52 ?_
  obtain ⟨σ7, hσ7, hf⟩ := g_s1 hf
  refine pfX10_211 X S hN hσ7 dX10_item_53 (fun H locs S => ?_)
  refine lv_aload_n hx hb dX10_item_56 rfl (lv_at hl 2 rfl) ?_
  refine lv_dup hx hb dX10_item_57 rfl ?_
  refine gfX10_220 X S hN dX10_item_58 ?_
  refine lv_iconst (v := (1 : Int32)) hx hb dX10_item_61 (by decide) ?_
  refine lv_iadd hx hb dX10_item_62 ?_
  obtain ⟨σ8, hσ8, hf⟩ := g_s1 hf
  refine pfX10_220 X S hN hσ8 dX10_item_63 (fun H locs S => ?_)
  refine lv_iload_n hx hb dX10_item_66 rfl (lv_at hl 0 rfl) ?_
  refine lv_bipush (v := (99 : Int32)) hx hb dX10_item_67 (by decide) ?_
  refine lv_icmp_eq (tgt := 78) hx hb dX10_item_69 (by decide) (fun c9 => ?_) (fun c9 => ?_)
  · have hf := (if_pos c9).symm.trans hf
    refine lv_aload_n hx hb dX10_item_78 rfl (lv_at hl 2 rfl) ?_
    refine lv_iload_n hx hb dX10_item_79 rfl (lv_at hl 1 rfl) ?_
    refine lv_iconst (v := (2 : Int32)) hx hb dX10_item_80 (by decide) ?_
    refine lv_iadd hx hb dX10_item_81 ?_
    obtain ⟨v10, σ11, hv10, hf⟩ := g_s2 hf
    refine g_ki S (g_runV (rest := []) X S (c_X10_digits l hN  hv10 _) cvX10_digits mlX10_223 (by omega) (ceM_10 _) rfl rfl rfl hl.1 (Nat.le_of_ble_eq_true rfl) ⟨⟨rfl, rfl⟩, ⟨Nat.le_of_ble_eq_true rfl, Nat.le_of_ble_eq_true rfl⟩, Nat.le_of_ble_eq_true rfl, Nat.le_of_ble_eq_true rfl⟩ dX10_item_82) (fun H locs S => ?_)
    obtain ⟨v12, hv12, hf⟩ := g_s1 hf
    obtain ⟨hnv12, rfl⟩ := gzb_some hv12
    cases hf
    exact g_reti X S hnv12 dX10_item_85
  · have hf := (if_neg c9).symm.trans hf
    refine lv_iload_n hx hb dX10_item_72 rfl (lv_at hl 0 rfl) ?_
    refine lv_bipush (v := (117 : Int32)) hx hb dX10_item_73 (by decide) ?_
    refine lv_icmp_ne (tgt := 86) hx hb dX10_item_75 (by decide) (fun c13 => ?_) (fun c13 => ?_)
    · have hf := (if_neg c13).symm.trans hf
      refine lv_aload_n hx hb dX10_item_86 rfl (lv_at hl 2 rfl) ?_
      obtain ⟨v14, hv14, hf⟩ := g_s1 hf
      refine g_ki S (g_runV (rest := []) X S (c_X10_here l hN  hv14 _) cvX10_here mlX10_214 (by omega) (ceM_10 _) rfl rfl rfl hl.1 (Nat.le_of_ble_eq_true rfl) ⟨⟨rfl, rfl⟩, ⟨Nat.le_of_ble_eq_true rfl, Nat.le_of_ble_eq_true rfl⟩, Nat.le_of_ble_eq_true rfl, Nat.le_of_ble_eq_true rfl⟩ dX10_item_87) (fun H locs S => ?_)
      refine lv_bipush (v := (46 : Int32)) hx hb dX10_item_90 (by decide) ?_
      obtain ⟨x15, hr16, hf⟩ := g_s1 hf
      have J17 : ∀ (H : Heap) (locs : List Loc) (ls : Array Slot), gS celM Γ ad N σ8 s H locs → lv_has ls 4 [(1, .int b4), (0, .ref (ad 0))] → W p l e (gR 4 0 0) s m args below meth c H locs 0 0 (gQi celM Γ ad N r σ' below args s) (F0 m 126 ls [.int x15]) := by
        intro H locs ls S hl
        refine lv_istore_n (lv' := [(3, .int x15), (1, .int b4), (0, .ref (ad 0))]) hx hb dX10_item_126 rfl hl (by decide) rfl (fun ls hl => ?_)
        refine lv_iload_n hx hb dX10_item_127 rfl (lv_at hl 0 rfl) ?_
        refine lv_if_ge (tgt := 133) hx hb dX10_item_128 (by decide) (fun c18 => ?_) (fun c18 => ?_)
        · have hf := (if_pos c18).symm.trans hf
          refine lv_aload_n hx hb dX10_item_133 rfl (lv_at hl 2 rfl) ?_
          refine gfX10_32 X S hN dX10_item_134 ?_
          refine lv_iload_n hx hb dX10_item_137 rfl (lv_at hl 1 rfl) ?_
          refine lv_iconst (v := (1 : Int32)) hx hb dX10_item_138 (by decide) ?_
          refine lv_iadd hx hb dX10_item_139 ?_
          refine lv_iload_n hx hb dX10_item_140 rfl (lv_at hl 0 rfl) ?_
          obtain ⟨σ19, hσ19, hf⟩ := g_s1 hf
          refine g_iast X S (by omega) (ceM_a (rfl : gma 7 = true)) hσ19 dX10_item_141 (fun H locs S => ?_)
          refine lv_aload_n hx hb dX10_item_142 rfl (lv_at hl 2 rfl) ?_
          refine lv_dup hx hb dX10_item_143 rfl ?_
          refine gfX10_211 X S hN dX10_item_144 ?_
          refine lv_iconst (v := (1 : Int32)) hx hb dX10_item_147 (by decide) ?_
          refine lv_iadd hx hb dX10_item_148 ?_
          obtain ⟨σ20, hσ20, hf⟩ := g_s1 hf
          refine pfX10_211 X S hN hσ20 dX10_item_149 (fun H locs S => ?_)
          refine lv_aload_n hx hb dX10_item_152 rfl (lv_at hl 2 rfl) ?_
          refine lv_iload_n hx hb dX10_item_153 rfl (lv_at hl 1 rfl) ?_
          refine lv_iconst (v := (2 : Int32)) hx hb dX10_item_154 (by decide) ?_
          refine lv_iadd hx hb dX10_item_155 ?_
          obtain ⟨v21, σ22, hv21, hf⟩ := g_s2 hf
          refine g_ki S (g_runV (rest := []) X S (c_X10_digits l hN  hv21 _) cvX10_digits mlX10_223 (by omega) (ceM_10 _) rfl rfl rfl hl.1 (Nat.le_of_ble_eq_true rfl) ⟨⟨rfl, rfl⟩, ⟨Nat.le_of_ble_eq_true rfl, Nat.le_of_ble_eq_true rfl⟩, Nat.le_of_ble_eq_true rfl, Nat.le_of_ble_eq_true rfl⟩ dX10_item_156) (fun H locs S => ?_)
          obtain ⟨x23, σ24, hr25, hf⟩ := g_s2 hf
          have J26 : ∀ (H : Heap) (locs : List Loc) (ls : Array Slot), gS celM Γ ad N σ24 s H locs → lv_has ls 4 [] → W p l e (gR 4 0 0) s m args below meth c H locs 0 0 (gQi celM Γ ad N r σ' below args s) (F0 m 203 ls [.int x23]) := by
            intro H locs ls S hl
            obtain ⟨v27, hv27, hf⟩ := g_s1 hf
            obtain ⟨hnv27, rfl⟩ := gzb_some hv27
            cases hf
            exact g_reti X S hnv27 dX10_item_203
          replace hf := hr25
          refine lv_if_eq (tgt := 202) hx hb dX10_item_159 (by decide) (fun c28 => ?_) (fun c28 => ?_)
          · have hf := (if_pos c28).symm.trans hf
            refine lv_iconst (v := (0 : Int32)) hx hb dX10_item_202 (by decide) ?_
            cases hf
            exact J26 _ _ _ S (lv_sub hl [] rfl)
          · have hf := (if_neg c28).symm.trans hf
            refine lv_aload_n hx hb dX10_item_162 rfl (lv_at hl 2 rfl) ?_
            refine lv_bipush (v := (45 : Int32)) hx hb dX10_item_163 (by decide) ?_
            obtain ⟨v29, σ30, hv29, hf⟩ := g_s2 hf
            refine g_ki S (g_runV (rest := []) X S (c_X10_skips l hN  hv29 _) cvX10_skips mlX10_226 (by omega) (ceM_10 _) rfl rfl rfl hl.1 (Nat.le_of_ble_eq_true rfl) ⟨⟨rfl, rfl⟩, ⟨Nat.le_of_ble_eq_true rfl, Nat.le_of_ble_eq_true rfl⟩, Nat.le_of_ble_eq_true rfl, Nat.le_of_ble_eq_true rfl⟩ dX10_item_165) (fun H locs S => ?_)
            refine lv_if_eq (tgt := 202) hx hb dX10_item_168 (by decide) (fun c31 => ?_) (fun c31 => ?_)
            · have hf := (if_pos c31).symm.trans hf
              refine lv_iconst (v := (0 : Int32)) hx hb dX10_item_202 (by decide) ?_
              cases hf
              exact J26 _ _ _ S (lv_sub hl [] rfl)
            · have hf := (if_neg c31).symm.trans hf
              refine lv_aload_n hx hb dX10_item_171 rfl (lv_at hl 2 rfl) ?_
              refine lv_iload_n hx hb dX10_item_172 rfl (lv_at hl 1 rfl) ?_
              refine lv_iconst (v := (3 : Int32)) hx hb dX10_item_173 (by decide) ?_
              refine lv_iadd hx hb dX10_item_174 ?_
              obtain ⟨v32, σ33, hv32, hf⟩ := g_s2 hf
              refine g_ki S (g_runV (rest := []) X S (c_X10_digits l hN  hv32 _) cvX10_digits mlX10_223 (by omega) (ceM_10 _) rfl rfl rfl hl.1 (Nat.le_of_ble_eq_true rfl) ⟨⟨rfl, rfl⟩, ⟨Nat.le_of_ble_eq_true rfl, Nat.le_of_ble_eq_true rfl⟩, Nat.le_of_ble_eq_true rfl, Nat.le_of_ble_eq_true rfl⟩ dX10_item_175) (fun H locs S => ?_)
              refine lv_if_eq (tgt := 202) hx hb dX10_item_178 (by decide) (fun c34 => ?_) (fun c34 => ?_)
              · have hf := (if_pos c34).symm.trans hf
                refine lv_iconst (v := (0 : Int32)) hx hb dX10_item_202 (by decide) ?_
                cases hf
                exact J26 _ _ _ S (lv_sub hl [] rfl)
              · have hf := (if_neg c34).symm.trans hf
                refine lv_aload_n hx hb dX10_item_181 rfl (lv_at hl 2 rfl) ?_
                refine lv_bipush (v := (58 : Int32)) hx hb dX10_item_182 (by decide) ?_
                obtain ⟨v35, σ36, hv35, hf⟩ := g_s2 hf
                refine g_ki S (g_runV (rest := []) X S (c_X10_skips l hN  hv35 _) cvX10_skips mlX10_226 (by omega) (ceM_10 _) rfl rfl rfl hl.1 (Nat.le_of_ble_eq_true rfl) ⟨⟨rfl, rfl⟩, ⟨Nat.le_of_ble_eq_true rfl, Nat.le_of_ble_eq_true rfl⟩, Nat.le_of_ble_eq_true rfl, Nat.le_of_ble_eq_true rfl⟩ dX10_item_184) (fun H locs S => ?_)
                refine lv_if_eq (tgt := 202) hx hb dX10_item_187 (by decide) (fun c37 => ?_) (fun c37 => ?_)
                · have hf := (if_pos c37).symm.trans hf
                  refine lv_iconst (v := (0 : Int32)) hx hb dX10_item_202 (by decide) ?_
                  cases hf
                  exact J26 _ _ _ S (lv_sub hl [] rfl)
                · have hf := (if_neg c37).symm.trans hf
                  refine lv_aload_n hx hb dX10_item_190 rfl (lv_at hl 2 rfl) ?_
                  refine lv_iload_n hx hb dX10_item_191 rfl (lv_at hl 1 rfl) ?_
                  obtain ⟨v38, σ39, hv38, hf⟩ := g_s2 hf
                  refine g_ki S (g_runV (rest := []) X S (c_X10_words l hN  hv38 _) cvX10_words mlX10_229 (by omega) (ceM_10 _) rfl rfl rfl hl.1 (Nat.le_of_ble_eq_true rfl) ⟨⟨rfl, rfl⟩, ⟨Nat.le_of_ble_eq_true rfl, Nat.le_of_ble_eq_true rfl⟩, Nat.le_of_ble_eq_true rfl, Nat.le_of_ble_eq_true rfl⟩ dX10_item_192) (fun H locs S => ?_)
                  refine lv_if_eq (tgt := 202) hx hb dX10_item_195 (by decide) (fun c40 => ?_) (fun c40 => ?_)
                  · have hf := (if_pos c40).symm.trans hf
                    refine lv_iconst (v := (0 : Int32)) hx hb dX10_item_202 (by decide) ?_
                    cases hf
                    exact J26 _ _ _ S (lv_sub hl [] rfl)
                  · have hf := (if_neg c40).symm.trans hf
                    refine lv_iconst (v := (1 : Int32)) hx hb dX10_item_198 (by decide) ?_
                    refine lv_goto (tgt := 203) hx hb dX10_item_199 (by decide) ?_
                    cases hf
                    exact J26 _ _ _ S (lv_sub hl [] rfl)
        · have hf := (if_neg c18).symm.trans hf
          refine lv_iconst (v := (0 : Int32)) hx hb dX10_item_131 (by decide) ?_
          cases hf
          exact g_reti X S (by decide +kernel) dX10_item_132
      replace hf := hr16
      refine lv_icmp_ne (tgt := 99) hx hb dX10_item_92 (by decide) (fun c41 => ?_) (fun c41 => ?_)
      · have hf := (if_neg c41).symm.trans hf
        refine lv_aload_n hx hb dX10_item_99 rfl (lv_at hl 2 rfl) ?_
        obtain ⟨v42, hv42, hf⟩ := g_s1 hf
        refine g_ki S (g_runV (rest := []) X S (c_X10_here l hN  hv42 _) cvX10_here mlX10_214 (by omega) (ceM_10 _) rfl rfl rfl hl.1 (Nat.le_of_ble_eq_true rfl) ⟨⟨rfl, rfl⟩, ⟨Nat.le_of_ble_eq_true rfl, Nat.le_of_ble_eq_true rfl⟩, Nat.le_of_ble_eq_true rfl, Nat.le_of_ble_eq_true rfl⟩ dX10_item_100) (fun H locs S => ?_)
        refine lv_bipush (v := (33 : Int32)) hx hb dX10_item_103 (by decide) ?_
        refine lv_icmp_ne (tgt := 112) hx hb dX10_item_105 (by decide) (fun c43 => ?_) (fun c43 => ?_)
        · have hf := (if_neg c43).symm.trans hf
          refine lv_aload_n hx hb dX10_item_112 rfl (lv_at hl 2 rfl) ?_
          obtain ⟨v44, hv44, hf⟩ := g_s1 hf
          refine g_ki S (g_runV (rest := []) X S (c_X10_here l hN  hv44 _) cvX10_here mlX10_214 (by omega) (ceM_10 _) rfl rfl rfl hl.1 (Nat.le_of_ble_eq_true rfl) ⟨⟨rfl, rfl⟩, ⟨Nat.le_of_ble_eq_true rfl, Nat.le_of_ble_eq_true rfl⟩, Nat.le_of_ble_eq_true rfl, Nat.le_of_ble_eq_true rfl⟩ dX10_item_113) (fun H locs S => ?_)
          refine lv_bipush (v := (42 : Int32)) hx hb dX10_item_116 (by decide) ?_
          refine lv_icmp_ne (tgt := 125) hx hb dX10_item_118 (by decide) (fun c45 => ?_) (fun c45 => ?_)
          · have hf := (if_neg c45).symm.trans hf
            refine lv_iconst (v := (-1 : Int32)) hx hb dX10_item_125 (by decide) ?_
            cases hf
            exact J17 _ _ _ S (lv_sub hl [1, 2] rfl)
          · have hf := (if_pos c45).symm.trans hf
            refine lv_iconst (v := (2 : Int32)) hx hb dX10_item_121 (by decide) ?_
            refine lv_goto (tgt := 126) hx hb dX10_item_122 (by decide) ?_
            cases hf
            exact J17 _ _ _ S (lv_sub hl [1, 2] rfl)
        · have hf := (if_pos c43).symm.trans hf
          refine lv_iconst (v := (1 : Int32)) hx hb dX10_item_108 (by decide) ?_
          refine lv_goto (tgt := 126) hx hb dX10_item_109 (by decide) ?_
          cases hf
          exact J17 _ _ _ S (lv_sub hl [1, 2] rfl)
      · have hf := (if_pos c41).symm.trans hf
        refine lv_iconst (v := (0 : Int32)) hx hb dX10_item_95 (by decide) ?_
        refine lv_goto (tgt := 126) hx hb dX10_item_96 (by decide) ?_
        cases hf
        exact J17 _ _ _ S (lv_sub hl [1, 2] rfl)
    · have hf := (if_pos c13).symm.trans hf
      refine lv_aload_n hx hb dX10_item_78 rfl (lv_at hl 2 rfl) ?_
      refine lv_iload_n hx hb dX10_item_79 rfl (lv_at hl 1 rfl) ?_
      refine lv_iconst (v := (2 : Int32)) hx hb dX10_item_80 (by decide) ?_
      refine lv_iadd hx hb dX10_item_81 ?_
      obtain ⟨v46, σ47, hv46, hf⟩ := g_s2 hf
      refine g_ki S (g_runV (rest := []) X S (c_X10_digits l hN  hv46 _) cvX10_digits mlX10_223 (by omega) (ceM_10 _) rfl rfl rfl hl.1 (Nat.le_of_ble_eq_true rfl) ⟨⟨rfl, rfl⟩, ⟨Nat.le_of_ble_eq_true rfl, Nat.le_of_ble_eq_true rfl⟩, Nat.le_of_ble_eq_true rfl, Nat.le_of_ble_eq_true rfl⟩ dX10_item_82) (fun H locs S => ?_)
      obtain ⟨v48, hv48, hf⟩ := g_s1 hf
      obtain ⟨hnv48, rfl⟩ := gzb_some hv48
      cases hf
      exact g_reti X S hnv48 dX10_item_85
noncomputable def f_X10_item (σ : gSt)  : Option (Int32 × gSt) :=
  (g_k1 (f_X10_here σ ) fun v1 => (if v1 = (97 : Int32) then (f_X10_item_b1 v1 ((6 : Int32) * (σ 0 16)) σ) else (if v1 = (98 : Int32) then (f_X10_item_b1 v1 ((6 : Int32) * (σ 0 16)) σ) else (if v1 = (99 : Int32) then (f_X10_item_b1 v1 ((6 : Int32) * (σ 0 16)) σ) else (if v1 = (117 : Int32) then (f_X10_item_b1 v1 ((6 : Int32) * (σ 0 16)) σ) else some ((0 : Int32), σ))))))
set_option maxRecDepth 100000 in
set_option maxHeartbeats 4000000 in
theorem c_X10_item (l : Launch) {Γ : gG} {ad : Nat → Nat} {N : Nat} (hN : 8 ≤ N) {σ : gSt}   {r : Int32} {σ' : gSt} (hf : f_X10_item σ  = some (r, σ')) : gMi l celM Γ ad N yX10_item cX10_item 4 (some .boolean) (gR 4 0 0) [.ref (ad 0)] σ r σ' := by
  intro sz
  refine gOf (Qc := fun sz => gQci celM Γ ad N r σ' sz) RX10 (by decide) rfl (Nat.le_of_ble_eq_true rfl) (fun p e s m args below meth c H locs ls X S hl => ?_)
  have hl : lv_has ls 4 [(0, .ref (ad 0))] := hl
  have hx := X.1
  have hb := X.2.1
  unfold f_X10_item at hf
  refine lv_bipush (v := (6 : Int32)) hx hb dX10_item_0 (by decide) ?_
  refine lv_aload_n hx hb dX10_item_2 rfl (lv_at hl 0 rfl) ?_
  refine gfX10_220 X S hN dX10_item_3 ?_
  refine lv_imul hx hb dX10_item_6 ?_
  refine lv_istore_n (lv' := [(1, .int ((6 : Int32) * (σ 0 16))), (0, .ref (ad 0))]) hx hb dX10_item_7 rfl hl (by decide) rfl (fun ls hl => ?_)
  refine lv_aload_n hx hb dX10_item_8 rfl (lv_at hl 1 rfl) ?_
  obtain ⟨v1, hv1, hf⟩ := g_s1 hf
  refine g_ki S (g_runV (rest := []) X S (c_X10_here l hN  hv1 _) cvX10_here mlX10_214 (by omega) (ceM_10 _) rfl rfl rfl hl.1 (Nat.le_of_ble_eq_true rfl) ⟨⟨rfl, rfl⟩, ⟨Nat.le_of_ble_eq_true rfl, Nat.le_of_ble_eq_true rfl⟩, Nat.le_of_ble_eq_true rfl, Nat.le_of_ble_eq_true rfl⟩ dX10_item_9) (fun H locs S => ?_)
  refine lv_istore_n (lv' := [(2, .int v1), (1, .int ((6 : Int32) * (σ 0 16))), (0, .ref (ad 0))]) hx hb dX10_item_12 rfl hl (by decide) rfl (fun ls hl => ?_)
  refine lv_iload_n hx hb dX10_item_13 rfl (lv_at hl 0 rfl) ?_
  refine lv_bipush (v := (97 : Int32)) hx hb dX10_item_14 (by decide) ?_
  refine lv_icmp_eq (tgt := 39) hx hb dX10_item_16 (by decide) (fun c2 => ?_) (fun c2 => ?_)
  · have hf := (if_pos c2).symm.trans hf
    exact w_X10_item_b1 hN X  hf _ _ _ S (lv_sub hl [0, 1, 2] rfl)
  · have hf := (if_neg c2).symm.trans hf
    refine lv_iload_n hx hb dX10_item_19 rfl (lv_at hl 0 rfl) ?_
    refine lv_bipush (v := (98 : Int32)) hx hb dX10_item_20 (by decide) ?_
    refine lv_icmp_eq (tgt := 39) hx hb dX10_item_22 (by decide) (fun c49 => ?_) (fun c49 => ?_)
    · have hf := (if_pos c49).symm.trans hf
      exact w_X10_item_b1 hN X  hf _ _ _ S (lv_sub hl [0, 1, 2] rfl)
    · have hf := (if_neg c49).symm.trans hf
      refine lv_iload_n hx hb dX10_item_25 rfl (lv_at hl 0 rfl) ?_
      refine lv_bipush (v := (99 : Int32)) hx hb dX10_item_26 (by decide) ?_
      refine lv_icmp_eq (tgt := 39) hx hb dX10_item_28 (by decide) (fun c50 => ?_) (fun c50 => ?_)
      · have hf := (if_pos c50).symm.trans hf
        exact w_X10_item_b1 hN X  hf _ _ _ S (lv_sub hl [0, 1, 2] rfl)
      · have hf := (if_neg c50).symm.trans hf
        refine lv_iload_n hx hb dX10_item_31 rfl (lv_at hl 0 rfl) ?_
        refine lv_bipush (v := (117 : Int32)) hx hb dX10_item_32 (by decide) ?_
        refine lv_icmp_eq (tgt := 39) hx hb dX10_item_34 (by decide) (fun c51 => ?_) (fun c51 => ?_)
        · have hf := (if_pos c51).symm.trans hf
          exact w_X10_item_b1 hN X  hf _ _ _ S (lv_sub hl [0, 1, 2] rfl)
        · have hf := (if_neg c51).symm.trans hf
          refine lv_iconst (v := (0 : Int32)) hx hb dX10_item_37 (by decide) ?_
          cases hf
          exact g_reti X S (by decide +kernel) dX10_item_38

noncomputable def f_X10_isItems_l1 (σ2 : gSt) : Nat → gSt → Option (Int32 × gSt)
  | 0, _ => none
  | n + 1, σ3 => (g_k2 (f_X10_item σ3 ) fun v4 σ5 => (if v4 = 0 then some ((0 : Int32), σ5) else (g_k2 (f_X10_skips σ5 (59 : Int32)) fun v7 σ8 => (if v7 = 0 then (g_k1 (if (σ8 0 13) = (σ8 0 12) then some (1 : Int32) else some (0 : Int32)) fun x10 => (g_k1 (gzb x10) fun v13 => some (v13, σ8))) else (f_X10_isItems_l1 σ2 n σ8)))))
set_option maxRecDepth 100000 in
set_option maxHeartbeats 4000000 in
theorem w_X10_isItems_l1 {l : Launch} {Γ : gG} {ad : Nat → Nat} {N : Nat} {p : Program} {e : Env} {s : State} {m : MethodId} {args : Array Value} {below : List Frame} {meth : Method} {c : Code} (hN : 8 ≤ N) (X : gX celM Γ ad N RX10 cX10_isItems 1 (some .boolean) p s m args meth c) {σ2 : gSt}  : ∀ (n : Nat) (σ3 : gSt) (r : Int32) (σ' : gSt), f_X10_isItems_l1 σ2 n σ3 = some (r, σ') → ∀ (H : Heap) (locs : List Loc) (ls : Array Slot), gS celM Γ ad N σ3 s H locs → lv_has ls 1 [(0, .ref (ad 0))] → W p l e (gR 5 0 0) s m args below meth c H locs 0 0 (gQi celM Γ ad N r σ' below args s) (F0 m 10 ls []) := by
  have hx := X.1
  have hb := X.2.1
  intro n
  induction n with
  | zero =>
    intro σ3 r σ' hf
    cases hf
  | succ n ih =>
    intro σ3 r σ' hf H locs ls S hl
    rw [f_X10_isItems_l1] at hf
    refine lv_aload_n hx hb dX10_isItems_10 rfl (lv_at hl 0 rfl) ?_
    obtain ⟨v4, σ5, hv4, hf⟩ := g_s2 hf
    refine g_ki S (g_runV (rest := []) X S (c_X10_item l hN  hv4 _) cvX10_item mlX10_232 (by omega) (ceM_10 _) rfl rfl rfl hl.1 (Nat.le_of_ble_eq_true rfl) ⟨⟨rfl, rfl⟩, ⟨Nat.le_of_ble_eq_true rfl, Nat.le_of_ble_eq_true rfl⟩, Nat.le_of_ble_eq_true rfl, Nat.le_of_ble_eq_true rfl⟩ dX10_isItems_11) (fun H locs S => ?_)
    refine lv_if_ne (tgt := 19) hx hb dX10_isItems_14 (by decide) (fun c6 => ?_) (fun c6 => ?_)
    · have hf := (if_neg c6).symm.trans hf
      refine lv_aload_n hx hb dX10_isItems_19 rfl (lv_at hl 0 rfl) ?_
      refine lv_bipush (v := (59 : Int32)) hx hb dX10_isItems_20 (by decide) ?_
      obtain ⟨v7, σ8, hv7, hf⟩ := g_s2 hf
      refine g_ki S (g_runV (rest := []) X S (c_X10_skips l hN  hv7 _) cvX10_skips mlX10_226 (by omega) (ceM_10 _) rfl rfl rfl hl.1 (Nat.le_of_ble_eq_true rfl) ⟨⟨rfl, rfl⟩, ⟨Nat.le_of_ble_eq_true rfl, Nat.le_of_ble_eq_true rfl⟩, Nat.le_of_ble_eq_true rfl, Nat.le_of_ble_eq_true rfl⟩ dX10_isItems_22) (fun H locs S => ?_)
      refine lv_if_ne (tgt := 10) hx hb dX10_isItems_25 (by decide) (fun c9 => ?_) (fun c9 => ?_)
      · have hf := (if_neg c9).symm.trans hf
        exact ih _ _ _  hf _ _ _ S (lv_sub hl [0] rfl)
      · have hf := (if_pos c9).symm.trans hf
        refine lv_aload_n hx hb dX10_isItems_28 rfl (lv_at hl 0 rfl) ?_
        refine gfX10_211 X S hN dX10_isItems_29 ?_
        refine lv_aload_n hx hb dX10_isItems_32 rfl (lv_at hl 0 rfl) ?_
        refine gfX10_137 X S hN dX10_isItems_33 ?_
        obtain ⟨x10, hr11, hf⟩ := g_s1 hf
        have J12 : ∀ (H : Heap) (locs : List Loc) (ls : Array Slot), gS celM Γ ad N σ8 s H locs → lv_has ls 1 [] → W p l e (gR 5 0 0) s m args below meth c H locs 0 0 (gQi celM Γ ad N r σ' below args s) (F0 m 44 ls [.int x10]) := by
          intro H locs ls S hl
          obtain ⟨v13, hv13, hf⟩ := g_s1 hf
          obtain ⟨hnv13, rfl⟩ := gzb_some hv13
          cases hf
          exact g_reti X S hnv13 dX10_isItems_44
        replace hf := hr11
        refine lv_icmp_ne (tgt := 43) hx hb dX10_isItems_36 (by decide) (fun c14 => ?_) (fun c14 => ?_)
        · have hf := (if_neg c14).symm.trans hf
          refine lv_iconst (v := (0 : Int32)) hx hb dX10_isItems_43 (by decide) ?_
          cases hf
          exact J12 _ _ _ S (lv_sub hl [] rfl)
        · have hf := (if_pos c14).symm.trans hf
          refine lv_iconst (v := (1 : Int32)) hx hb dX10_isItems_39 (by decide) ?_
          refine lv_goto (tgt := 44) hx hb dX10_isItems_40 (by decide) ?_
          cases hf
          exact J12 _ _ _ S (lv_sub hl [] rfl)
    · have hf := (if_pos c6).symm.trans hf
      refine lv_iconst (v := (0 : Int32)) hx hb dX10_isItems_17 (by decide) ?_
      cases hf
      exact g_reti X S (by decide +kernel) dX10_isItems_18
noncomputable def f_X10_isItems (σ : gSt)  : Option (Int32 × gSt) :=
  (g_k1 (gset σ 0 13 (0 : Int32)) fun σ1 => (g_k1 (gset σ1 0 16 (0 : Int32)) fun σ2 => (f_X10_isItems_l1 σ2 FU σ2)))
set_option maxRecDepth 100000 in
set_option maxHeartbeats 4000000 in
theorem c_X10_isItems (l : Launch) {Γ : gG} {ad : Nat → Nat} {N : Nat} (hN : 8 ≤ N) {σ : gSt}   {r : Int32} {σ' : gSt} (hf : f_X10_isItems σ  = some (r, σ')) : gMi l celM Γ ad N yX10_isItems cX10_isItems 1 (some .boolean) (gR 5 0 0) [.ref (ad 0)] σ r σ' := by
  intro sz
  refine gOf (Qc := fun sz => gQci celM Γ ad N r σ' sz) RX10 (by decide) rfl (Nat.le_of_ble_eq_true rfl) (fun p e s m args below meth c H locs ls X S hl => ?_)
  have hl : lv_has ls 1 [(0, .ref (ad 0))] := hl
  have hx := X.1
  have hb := X.2.1
  unfold f_X10_isItems at hf
  refine lv_aload_n hx hb dX10_isItems_0 rfl (lv_at hl 0 rfl) ?_
  refine lv_iconst (v := (0 : Int32)) hx hb dX10_isItems_1 (by decide) ?_
  obtain ⟨σ1, hσ1, hf⟩ := g_s1 hf
  refine pfX10_211 X S hN hσ1 dX10_isItems_2 (fun H locs S => ?_)
  refine lv_aload_n hx hb dX10_isItems_5 rfl (lv_at hl 0 rfl) ?_
  refine lv_iconst (v := (0 : Int32)) hx hb dX10_isItems_6 (by decide) ?_
  obtain ⟨σ2, hσ2, hf⟩ := g_s1 hf
  refine pfX10_220 X S hN hσ2 dX10_isItems_7 (fun H locs S => ?_)
  exact w_X10_isItems_l1 hN X  FU _ _ _  hf _ _ _ S (lv_sub hl [0] rfl)

noncomputable def f_X10_does_b1 (a0 : Int32) (b3 : Int32) (σ4 : gSt) : Option (Int32 × gSt) :=
  (g_k1 (gald σ4 7 180 (b3 + (2 : Int32))) fun v5 => (g_k1 (gald σ4 7 180 b3) fun v6 => (g_k1 (if v6 = (99 : Int32) then some (1 : Int32) else some (0 : Int32)) fun x7 => (g_k1 (f_X10_againstCut σ4 v5 x7) fun v10 => (g_k1 (if v10 = 0 then (g_k1 (gald σ4 7 180 (b3 + (2 : Int32))) fun v15 => (g_k1 (gald σ4 7 180 b3) fun v16 => (g_k1 (if v16 = (99 : Int32) then some (1 : Int32) else some (0 : Int32)) fun x17 => (g_k1 (f_X10_cuts σ4 v15 x17) fun σ20 => some σ20)))) else some σ4) fun σ11 => some (v10, σ11))))))
set_option maxRecDepth 100000 in
set_option maxHeartbeats 4000000 in
theorem w_X10_does_b1 {l : Launch} {Γ : gG} {ad : Nat → Nat} {N : Nat} {p : Program} {e : Env} {s : State} {m : MethodId} {args : Array Value} {below : List Frame} {meth : Method} {c : Code} (hN : 8 ≤ N) (X : gX celM Γ ad N RX10 cX10_does 5 (some .int) p s m args meth c) {a0 : Int32} {b3 : Int32} {σ4 : gSt}  {r : Int32} {σ' : gSt} (hf : f_X10_does_b1 a0 b3 σ4 = some (r, σ')) (H : Heap) (locs : List Loc) (ls : Array Slot) (S : gS celM Γ ad N σ4 s H locs) (hl : lv_has ls 5 [(2, .int b3), (0, .ref (ad 0))]) : W p l e (gR 5 0 0) s m args below meth c H locs 0 0 (gQi celM Γ ad N r σ' below args s) (F0 m 27 ls []) := by
  have hx := X.1
  have hb := X.2.1
  unfold f_X10_does_b1 at hf
  refine lv_aload_n hx hb dX10_does_27 rfl (lv_at hl 1 rfl) ?_
  refine lv_aload_n hx hb dX10_does_28 rfl (lv_at hl 1 rfl) ?_
  refine gfX10_32 X S hN dX10_does_29 ?_
  refine lv_iload_n hx hb dX10_does_32 rfl (lv_at hl 0 rfl) ?_
  refine lv_iconst (v := (2 : Int32)) hx hb dX10_does_33 (by decide) ?_
  refine lv_iadd hx hb dX10_does_34 ?_
  obtain ⟨v5, hv5, hf⟩ := g_s1 hf
  refine g_iald X S (by omega) (ceM_a (rfl : gma 7 = true)) hv5 dX10_does_35 ?_
  refine lv_aload_n hx hb dX10_does_36 rfl (lv_at hl 1 rfl) ?_
  refine gfX10_32 X S hN dX10_does_37 ?_
  refine lv_iload_n hx hb dX10_does_40 rfl (lv_at hl 0 rfl) ?_
  obtain ⟨v6, hv6, hf⟩ := g_s1 hf
  refine g_iald X S (by omega) (ceM_a (rfl : gma 7 = true)) hv6 dX10_does_41 ?_
  refine lv_bipush (v := (99 : Int32)) hx hb dX10_does_42 (by decide) ?_
  obtain ⟨x7, hr8, hf⟩ := g_s1 hf
  have J9 : ∀ (H : Heap) (locs : List Loc) (ls : Array Slot), gS celM Γ ad N σ4 s H locs → lv_has ls 5 [(2, .int b3), (0, .ref (ad 0))] → W p l e (gR 5 0 0) s m args below meth c H locs 0 0 (gQi celM Γ ad N r σ' below args s) (F0 m 52 ls [.int x7, .int v5, .ref (ad 0)]) := by
    intro H locs ls S hl
    obtain ⟨v10, hv10, hf⟩ := g_s1 hf
    refine g_ki S (g_runV (rest := []) X S (c_X10_againstCut l hN  hv10 _) cvX10_againstCut mlX10_89 (by omega) (ceM_10 _) rfl rfl rfl hl.1 (Nat.le_of_ble_eq_true rfl) ⟨⟨rfl, rfl⟩, ⟨Nat.le_of_ble_eq_true rfl, Nat.le_of_ble_eq_true rfl⟩, Nat.le_of_ble_eq_true rfl, Nat.le_of_ble_eq_true rfl⟩ dX10_does_52) (fun H locs S => ?_)
    refine lv_istore_n (lv' := [(3, .int v10), (2, .int b3), (0, .ref (ad 0))]) hx hb dX10_does_55 rfl hl (by decide) rfl (fun ls hl => ?_)
    refine lv_iload_n hx hb dX10_does_56 rfl (lv_at hl 0 rfl) ?_
    obtain ⟨σ11, hr12, hf⟩ := g_s1 hf
    have J13 : ∀ (H : Heap) (locs : List Loc) (ls : Array Slot), gS celM Γ ad N σ11 s H locs → lv_has ls 5 [(3, .int v10)] → W p l e (gR 5 0 0) s m args below meth c H locs 0 0 (gQi celM Γ ad N r σ' below args s) (F0 m 88 ls []) := by
      intro H locs ls S hl
      refine lv_iload_n hx hb dX10_does_88 rfl (lv_at hl 0 rfl) ?_
      cases hf
      exact g_reti X S rfl dX10_does_89
    replace hf := hr12
    refine lv_if_ne (tgt := 88) hx hb dX10_does_57 (by decide) (fun c14 => ?_) (fun c14 => ?_)
    · have hf := (if_neg c14).symm.trans hf
      cases hf
      exact J13 _ _ _ S (lv_sub hl [0] rfl)
    · have hf := (if_pos c14).symm.trans hf
      refine lv_aload_n hx hb dX10_does_60 rfl (lv_at hl 2 rfl) ?_
      refine lv_aload_n hx hb dX10_does_61 rfl (lv_at hl 2 rfl) ?_
      refine gfX10_32 X S hN dX10_does_62 ?_
      refine lv_iload_n hx hb dX10_does_65 rfl (lv_at hl 1 rfl) ?_
      refine lv_iconst (v := (2 : Int32)) hx hb dX10_does_66 (by decide) ?_
      refine lv_iadd hx hb dX10_does_67 ?_
      obtain ⟨v15, hv15, hf⟩ := g_s1 hf
      refine g_iald X S (by omega) (ceM_a (rfl : gma 7 = true)) hv15 dX10_does_68 ?_
      refine lv_aload_n hx hb dX10_does_69 rfl (lv_at hl 2 rfl) ?_
      refine gfX10_32 X S hN dX10_does_70 ?_
      refine lv_iload_n hx hb dX10_does_73 rfl (lv_at hl 1 rfl) ?_
      obtain ⟨v16, hv16, hf⟩ := g_s1 hf
      refine g_iald X S (by omega) (ceM_a (rfl : gma 7 = true)) hv16 dX10_does_74 ?_
      refine lv_bipush (v := (99 : Int32)) hx hb dX10_does_75 (by decide) ?_
      obtain ⟨x17, hr18, hf⟩ := g_s1 hf
      have J19 : ∀ (H : Heap) (locs : List Loc) (ls : Array Slot), gS celM Γ ad N σ4 s H locs → lv_has ls 5 [(3, .int v10)] → W p l e (gR 5 0 0) s m args below meth c H locs 0 0 (gQi celM Γ ad N r σ' below args s) (F0 m 85 ls [.int x17, .int v15, .ref (ad 0)]) := by
        intro H locs ls S hl
        obtain ⟨σ20, hσ20, hf⟩ := g_s1 hf
        refine g_kv S (g_runV (rest := []) X S (c_X10_cuts l hN  hσ20 _) cvX10_cuts mlX10_93 (by omega) (ceM_10 _) rfl rfl rfl hl.1 (Nat.le_of_ble_eq_true rfl) ⟨⟨rfl, rfl⟩, ⟨Nat.le_of_ble_eq_true rfl, Nat.le_of_ble_eq_true rfl⟩, Nat.le_of_ble_eq_true rfl, Nat.le_of_ble_eq_true rfl⟩ dX10_does_85) (fun H locs S => ?_)
        cases hf
        exact J13 _ _ _ S (lv_sub hl [0] rfl)
      replace hf := hr18
      refine lv_icmp_ne (tgt := 84) hx hb dX10_does_77 (by decide) (fun c21 => ?_) (fun c21 => ?_)
      · have hf := (if_neg c21).symm.trans hf
        refine lv_iconst (v := (0 : Int32)) hx hb dX10_does_84 (by decide) ?_
        cases hf
        exact J19 _ _ _ S (lv_sub hl [0] rfl)
      · have hf := (if_pos c21).symm.trans hf
        refine lv_iconst (v := (1 : Int32)) hx hb dX10_does_80 (by decide) ?_
        refine lv_goto (tgt := 85) hx hb dX10_does_81 (by decide) ?_
        cases hf
        exact J19 _ _ _ S (lv_sub hl [0] rfl)
  replace hf := hr8
  refine lv_icmp_ne (tgt := 51) hx hb dX10_does_44 (by decide) (fun c22 => ?_) (fun c22 => ?_)
  · have hf := (if_neg c22).symm.trans hf
    refine lv_iconst (v := (0 : Int32)) hx hb dX10_does_51 (by decide) ?_
    cases hf
    exact J9 _ _ _ S (lv_sub hl [0, 1] rfl)
  · have hf := (if_pos c22).symm.trans hf
    refine lv_iconst (v := (1 : Int32)) hx hb dX10_does_47 (by decide) ?_
    refine lv_goto (tgt := 52) hx hb dX10_does_48 (by decide) ?_
    cases hf
    exact J9 _ _ _ S (lv_sub hl [0, 1] rfl)
noncomputable def f_X10_does (σ : gSt) (a0 : Int32) : Option (Int32 × gSt) :=
  (g_k1 (gald σ 7 180 ((6 : Int32) * a0)) fun v1 => (if v1 = (99 : Int32) then (f_X10_does_b1 a0 ((6 : Int32) * a0) σ) else (g_k1 (gald σ 7 180 ((6 : Int32) * a0)) fun v23 => (if v23 = (117 : Int32) then (f_X10_does_b1 a0 ((6 : Int32) * a0) σ) else (g_k1 (gald σ 7 180 ((6 : Int32) * a0)) fun v25 => (g_k1 (gald σ 7 180 (((6 : Int32) * a0) + (2 : Int32))) fun v26 => (g_k1 (gald σ 7 180 (((6 : Int32) * a0) + (3 : Int32))) fun v27 => (g_k1 (gald σ 7 180 (((6 : Int32) * a0) + (4 : Int32))) fun v28 => (g_k1 (gald σ 7 180 (((6 : Int32) * a0) + (5 : Int32))) fun v29 => (g_k1 (f_X10_againstAdd σ (v25 - (97 : Int32)) v26 v27 v28 v29) fun v30 => (g_k1 (if v30 = 0 then (g_k1 (gald σ 7 180 (((6 : Int32) * a0) + (1 : Int32))) fun v35 => (g_k1 (gald σ 7 180 (((6 : Int32) * a0) + (2 : Int32))) fun v36 => (g_k1 (gald σ 7 180 (((6 : Int32) * a0) + (3 : Int32))) fun v37 => (g_k1 (gald σ 7 180 (((6 : Int32) * a0) + (4 : Int32))) fun v38 => (g_k1 (gald σ 7 180 (((6 : Int32) * a0) + (5 : Int32))) fun v39 => (g_k2 (f_X10_adds σ (v25 - (97 : Int32)) v35 v36 v37 v38 v39) fun v40 σ41 => some σ41)))))) else some σ) fun σ31 => some (v30, σ31))))))))))))
set_option maxRecDepth 100000 in
set_option maxHeartbeats 4000000 in
theorem c_X10_does (l : Launch) {Γ : gG} {ad : Nat → Nat} {N : Nat} (hN : 8 ≤ N) {σ : gSt} {a0 : Int32}  {r : Int32} {σ' : gSt} (hf : f_X10_does σ a0 = some (r, σ')) : gMi l celM Γ ad N yX10_does cX10_does 5 (some .int) (gR 5 0 0) [.ref (ad 0), .int a0] σ r σ' := by
  intro sz
  refine gOf (Qc := fun sz => gQci celM Γ ad N r σ' sz) RX10 (by decide) rfl (Nat.le_of_ble_eq_true rfl) (fun p e s m args below meth c H locs ls X S hl => ?_)
  have hl : lv_has ls 5 [(0, .ref (ad 0)), (1, .int a0)] := hl
  have hx := X.1
  have hb := X.2.1
  unfold f_X10_does at hf
  refine lv_bipush (v := (6 : Int32)) hx hb dX10_does_0 (by decide) ?_
  refine lv_iload_n hx hb dX10_does_2 rfl (lv_at hl 1 rfl) ?_
  refine lv_imul hx hb dX10_does_3 ?_
  refine lv_istore_n (lv' := [(2, .int ((6 : Int32) * a0)), (0, .ref (ad 0)), (1, .int a0)]) hx hb dX10_does_4 rfl hl (by decide) rfl (fun ls hl => ?_)
  refine lv_aload_n hx hb dX10_does_5 rfl (lv_at hl 1 rfl) ?_
  refine gfX10_32 X S hN dX10_does_6 ?_
  refine lv_iload_n hx hb dX10_does_9 rfl (lv_at hl 0 rfl) ?_
  obtain ⟨v1, hv1, hf⟩ := g_s1 hf
  refine g_iald X S (by omega) (ceM_a (rfl : gma 7 = true)) hv1 dX10_does_10 ?_
  refine lv_bipush (v := (99 : Int32)) hx hb dX10_does_11 (by decide) ?_
  refine lv_icmp_eq (tgt := 27) hx hb dX10_does_13 (by decide) (fun c2 => ?_) (fun c2 => ?_)
  · have hf := (if_pos c2).symm.trans hf
    exact w_X10_does_b1 hN X  hf _ _ _ S (lv_sub hl [0, 1] rfl)
  · have hf := (if_neg c2).symm.trans hf
    refine lv_aload_n hx hb dX10_does_16 rfl (lv_at hl 1 rfl) ?_
    refine gfX10_32 X S hN dX10_does_17 ?_
    refine lv_iload_n hx hb dX10_does_20 rfl (lv_at hl 0 rfl) ?_
    obtain ⟨v23, hv23, hf⟩ := g_s1 hf
    refine g_iald X S (by omega) (ceM_a (rfl : gma 7 = true)) hv23 dX10_does_21 ?_
    refine lv_bipush (v := (117 : Int32)) hx hb dX10_does_22 (by decide) ?_
    refine lv_icmp_ne (tgt := 90) hx hb dX10_does_24 (by decide) (fun c24 => ?_) (fun c24 => ?_)
    · have hf := (if_neg c24).symm.trans hf
      refine lv_aload_n hx hb dX10_does_90 rfl (lv_at hl 1 rfl) ?_
      refine gfX10_32 X S hN dX10_does_91 ?_
      refine lv_iload_n hx hb dX10_does_94 rfl (lv_at hl 0 rfl) ?_
      obtain ⟨v25, hv25, hf⟩ := g_s1 hf
      refine g_iald X S (by omega) (ceM_a (rfl : gma 7 = true)) hv25 dX10_does_95 ?_
      refine lv_bipush (v := (97 : Int32)) hx hb dX10_does_96 (by decide) ?_
      refine lv_isub hx hb dX10_does_98 ?_
      refine lv_istore_n (lv' := [(3, .int (v25 - (97 : Int32))), (2, .int ((6 : Int32) * a0)), (0, .ref (ad 0)), (1, .int a0)]) hx hb dX10_does_99 rfl hl (by decide) rfl (fun ls hl => ?_)
      refine lv_aload_n hx hb dX10_does_100 rfl (lv_at hl 2 rfl) ?_
      refine lv_iload_n hx hb dX10_does_101 rfl (lv_at hl 0 rfl) ?_
      refine lv_aload_n hx hb dX10_does_102 rfl (lv_at hl 2 rfl) ?_
      refine gfX10_32 X S hN dX10_does_103 ?_
      refine lv_iload_n hx hb dX10_does_106 rfl (lv_at hl 1 rfl) ?_
      refine lv_iconst (v := (2 : Int32)) hx hb dX10_does_107 (by decide) ?_
      refine lv_iadd hx hb dX10_does_108 ?_
      obtain ⟨v26, hv26, hf⟩ := g_s1 hf
      refine g_iald X S (by omega) (ceM_a (rfl : gma 7 = true)) hv26 dX10_does_109 ?_
      refine lv_aload_n hx hb dX10_does_110 rfl (lv_at hl 2 rfl) ?_
      refine gfX10_32 X S hN dX10_does_111 ?_
      refine lv_iload_n hx hb dX10_does_114 rfl (lv_at hl 1 rfl) ?_
      refine lv_iconst (v := (3 : Int32)) hx hb dX10_does_115 (by decide) ?_
      refine lv_iadd hx hb dX10_does_116 ?_
      obtain ⟨v27, hv27, hf⟩ := g_s1 hf
      refine g_iald X S (by omega) (ceM_a (rfl : gma 7 = true)) hv27 dX10_does_117 ?_
      refine lv_aload_n hx hb dX10_does_118 rfl (lv_at hl 2 rfl) ?_
      refine gfX10_32 X S hN dX10_does_119 ?_
      refine lv_iload_n hx hb dX10_does_122 rfl (lv_at hl 1 rfl) ?_
      refine lv_iconst (v := (4 : Int32)) hx hb dX10_does_123 (by decide) ?_
      refine lv_iadd hx hb dX10_does_124 ?_
      obtain ⟨v28, hv28, hf⟩ := g_s1 hf
      refine g_iald X S (by omega) (ceM_a (rfl : gma 7 = true)) hv28 dX10_does_125 ?_
      refine lv_aload_n hx hb dX10_does_126 rfl (lv_at hl 2 rfl) ?_
      refine gfX10_32 X S hN dX10_does_127 ?_
      refine lv_iload_n hx hb dX10_does_130 rfl (lv_at hl 1 rfl) ?_
      refine lv_iconst (v := (5 : Int32)) hx hb dX10_does_131 (by decide) ?_
      refine lv_iadd hx hb dX10_does_132 ?_
      obtain ⟨v29, hv29, hf⟩ := g_s1 hf
      refine g_iald X S (by omega) (ceM_a (rfl : gma 7 = true)) hv29 dX10_does_133 ?_
      obtain ⟨v30, hv30, hf⟩ := g_s1 hf
      refine g_ki S (g_runV (rest := []) X S (c_X10_againstAdd l hN  hv30 _) cvX10_againstAdd mlX10_151 (by omega) (ceM_10 _) rfl rfl rfl hl.1 (Nat.le_of_ble_eq_true rfl) ⟨⟨rfl, rfl⟩, ⟨Nat.le_of_ble_eq_true rfl, Nat.le_of_ble_eq_true rfl⟩, Nat.le_of_ble_eq_true rfl, Nat.le_of_ble_eq_true rfl⟩ dX10_does_134) (fun H locs S => ?_)
      refine lv_istore (lv' := [(4, .int v30), (3, .int (v25 - (97 : Int32))), (2, .int ((6 : Int32) * a0)), (0, .ref (ad 0)), (1, .int a0)]) hx hb dX10_does_137 hl (by decide) rfl (fun ls hl => ?_)
      refine lv_iload hx hb dX10_does_139 (lv_at hl 0 rfl) ?_
      obtain ⟨σ31, hr32, hf⟩ := g_s1 hf
      have J33 : ∀ (H : Heap) (locs : List Loc) (ls : Array Slot), gS celM Γ ad N σ31 s H locs → lv_has ls 5 [(4, .int v30)] → W p l e (gR 5 0 0) s m args below meth c H locs 0 0 (gQi celM Γ ad N r σ' below args s) (F0 m 190 ls []) := by
        intro H locs ls S hl
        refine lv_iload hx hb dX10_does_190 (lv_at hl 0 rfl) ?_
        cases hf
        exact g_reti X S rfl dX10_does_192
      replace hf := hr32
      refine lv_if_ne (tgt := 190) hx hb dX10_does_141 (by decide) (fun c34 => ?_) (fun c34 => ?_)
      · have hf := (if_neg c34).symm.trans hf
        cases hf
        exact J33 _ _ _ S (lv_sub hl [0] rfl)
      · have hf := (if_pos c34).symm.trans hf
        refine lv_aload_n hx hb dX10_does_144 rfl (lv_at hl 3 rfl) ?_
        refine lv_iload_n hx hb dX10_does_145 rfl (lv_at hl 1 rfl) ?_
        refine lv_aload_n hx hb dX10_does_146 rfl (lv_at hl 3 rfl) ?_
        refine gfX10_32 X S hN dX10_does_147 ?_
        refine lv_iload_n hx hb dX10_does_150 rfl (lv_at hl 2 rfl) ?_
        refine lv_iconst (v := (1 : Int32)) hx hb dX10_does_151 (by decide) ?_
        refine lv_iadd hx hb dX10_does_152 ?_
        obtain ⟨v35, hv35, hf⟩ := g_s1 hf
        refine g_iald X S (by omega) (ceM_a (rfl : gma 7 = true)) hv35 dX10_does_153 ?_
        refine lv_aload_n hx hb dX10_does_154 rfl (lv_at hl 3 rfl) ?_
        refine gfX10_32 X S hN dX10_does_155 ?_
        refine lv_iload_n hx hb dX10_does_158 rfl (lv_at hl 2 rfl) ?_
        refine lv_iconst (v := (2 : Int32)) hx hb dX10_does_159 (by decide) ?_
        refine lv_iadd hx hb dX10_does_160 ?_
        obtain ⟨v36, hv36, hf⟩ := g_s1 hf
        refine g_iald X S (by omega) (ceM_a (rfl : gma 7 = true)) hv36 dX10_does_161 ?_
        refine lv_aload_n hx hb dX10_does_162 rfl (lv_at hl 3 rfl) ?_
        refine gfX10_32 X S hN dX10_does_163 ?_
        refine lv_iload_n hx hb dX10_does_166 rfl (lv_at hl 2 rfl) ?_
        refine lv_iconst (v := (3 : Int32)) hx hb dX10_does_167 (by decide) ?_
        refine lv_iadd hx hb dX10_does_168 ?_
        obtain ⟨v37, hv37, hf⟩ := g_s1 hf
        refine g_iald X S (by omega) (ceM_a (rfl : gma 7 = true)) hv37 dX10_does_169 ?_
        refine lv_aload_n hx hb dX10_does_170 rfl (lv_at hl 3 rfl) ?_
        refine gfX10_32 X S hN dX10_does_171 ?_
        refine lv_iload_n hx hb dX10_does_174 rfl (lv_at hl 2 rfl) ?_
        refine lv_iconst (v := (4 : Int32)) hx hb dX10_does_175 (by decide) ?_
        refine lv_iadd hx hb dX10_does_176 ?_
        obtain ⟨v38, hv38, hf⟩ := g_s1 hf
        refine g_iald X S (by omega) (ceM_a (rfl : gma 7 = true)) hv38 dX10_does_177 ?_
        refine lv_aload_n hx hb dX10_does_178 rfl (lv_at hl 3 rfl) ?_
        refine gfX10_32 X S hN dX10_does_179 ?_
        refine lv_iload_n hx hb dX10_does_182 rfl (lv_at hl 2 rfl) ?_
        refine lv_iconst (v := (5 : Int32)) hx hb dX10_does_183 (by decide) ?_
        refine lv_iadd hx hb dX10_does_184 ?_
        obtain ⟨v39, hv39, hf⟩ := g_s1 hf
        refine g_iald X S (by omega) (ceM_a (rfl : gma 7 = true)) hv39 dX10_does_185 ?_
        obtain ⟨v40, σ41, hv40, hf⟩ := g_s2 hf
        refine g_ki S (g_runV (rest := []) X S (c_X10_adds l hN  hv40 _) cvX10_adds mlX10_155 (by omega) (ceM_10 _) rfl rfl rfl hl.1 (Nat.le_of_ble_eq_true rfl) ⟨⟨rfl, rfl⟩, ⟨Nat.le_of_ble_eq_true rfl, Nat.le_of_ble_eq_true rfl⟩, Nat.le_of_ble_eq_true rfl, Nat.le_of_ble_eq_true rfl⟩ dX10_does_186) (fun H locs S => ?_)
        refine lv_pop hx hb dX10_does_189 rfl ?_
        cases hf
        exact J33 _ _ _ S (lv_sub hl [0] rfl)
    · have hf := (if_pos c24).symm.trans hf
      exact w_X10_does_b1 hN X  hf _ _ _ S (lv_sub hl [0, 1] rfl)

noncomputable def f_X10_read_l1 (σ6 : gSt) : Nat → Int32 → gSt → Option (Int32 × gSt)
  | 0, _, _ => none
  | n + 1, i7, σ8 => (if (σ8 0 16) ≤ i7 then (g_k1 (f_X10_changes σ8 3) fun σ10 => some ((σ10 0 16), σ10)) else (g_k2 (f_X10_does σ8 i7) fun v11 σ12 => (if v11 ≤ 0 then (f_X10_read_l1 σ6 n (i7 + 1) σ12) else (g_k1 (f_X10_copies σ12 3 (0 : Int32) 1 (0 : Int32)) fun σ14 => (g_k2 (f_X10_refuses σ14 (2 : Int32) v11) fun v15 σ16 => (g_k1 (gset σ16 0 8 i7) fun σ17 => some ((0 : Int32), σ17)))))))
set_option maxRecDepth 100000 in
set_option maxHeartbeats 4000000 in
theorem w_X10_read_l1 {l : Launch} {Γ : gG} {ad : Nat → Nat} {N : Nat} {p : Program} {e : Env} {s : State} {m : MethodId} {args : Array Value} {below : List Frame} {meth : Method} {c : Code} (hN : 8 ≤ N) (X : gX celM Γ ad N RX10 cX10_read 4 (some .int) p s m args meth c) {σ6 : gSt}  : ∀ (n : Nat) (i7 : Int32) (σ8 : gSt) (r : Int32) (σ' : gSt), f_X10_read_l1 σ6 n i7 σ8 = some (r, σ') → ∀ (H : Heap) (locs : List Loc) (ls : Array Slot), gS celM Γ ad N σ8 s H locs → lv_has ls 4 [(2, .int i7), (0, .ref (ad 0))] → W p l e (gR 6 0 0) s m args below meth c H locs 0 0 (gQi celM Γ ad N r σ' below args s) (F0 m 48 ls []) := by
  have hx := X.1
  have hb := X.2.1
  intro n
  induction n with
  | zero =>
    intro i7 σ8 r σ' hf
    cases hf
  | succ n ih =>
    intro i7 σ8 r σ' hf H locs ls S hl
    rw [f_X10_read_l1] at hf
    refine lv_iload_n hx hb dX10_read_48 rfl (lv_at hl 0 rfl) ?_
    refine lv_aload_n hx hb dX10_read_49 rfl (lv_at hl 1 rfl) ?_
    refine gfX10_220 X S hN dX10_read_50 ?_
    refine lv_icmp_ge (tgt := 99) hx hb dX10_read_53 (by decide) (fun c9 => ?_) (fun c9 => ?_)
    · have hf := (if_pos c9).symm.trans hf
      refine lv_aload_n hx hb dX10_read_99 rfl (lv_at hl 1 rfl) ?_
      refine lv_aload_n hx hb dX10_read_100 rfl (lv_at hl 1 rfl) ?_
      refine gfX10_16 X S hN dX10_read_101 ?_
      obtain ⟨σ10, hσ10, hf⟩ := g_s1 hf
      refine g_kv S (g_runV (rest := []) X S (c_X10_changes l hN (by rfl : gma 3 = true) hσ10 _) cvX10_changes mlX10_78 (by omega) (ceM_10 _) rfl rfl rfl hl.1 (Nat.le_of_ble_eq_true rfl) ⟨⟨rfl, rfl⟩, ⟨Nat.le_of_ble_eq_true rfl, Nat.le_of_ble_eq_true rfl⟩, Nat.le_of_ble_eq_true rfl, Nat.le_of_ble_eq_true rfl⟩ dX10_read_104) (fun H locs S => ?_)
      refine lv_aload_n hx hb dX10_read_107 rfl (lv_at hl 1 rfl) ?_
      refine gfX10_220 X S hN dX10_read_108 ?_
      cases hf
      exact g_reti X S rfl dX10_read_111
    · have hf := (if_neg c9).symm.trans hf
      refine lv_aload_n hx hb dX10_read_56 rfl (lv_at hl 1 rfl) ?_
      refine lv_iload_n hx hb dX10_read_57 rfl (lv_at hl 0 rfl) ?_
      obtain ⟨v11, σ12, hv11, hf⟩ := g_s2 hf
      refine g_ki S (g_runV (rest := []) X S (c_X10_does l hN  hv11 _) cvX10_does mlX10_239 (by omega) (ceM_10 _) rfl rfl rfl hl.1 (Nat.le_of_ble_eq_true rfl) ⟨⟨rfl, rfl⟩, ⟨Nat.le_of_ble_eq_true rfl, Nat.le_of_ble_eq_true rfl⟩, Nat.le_of_ble_eq_true rfl, Nat.le_of_ble_eq_true rfl⟩ dX10_read_58) (fun H locs S => ?_)
      refine lv_istore_n (lv' := [(3, .int v11), (2, .int i7), (0, .ref (ad 0))]) hx hb dX10_read_61 rfl hl (by decide) rfl (fun ls hl => ?_)
      refine lv_iload_n hx hb dX10_read_62 rfl (lv_at hl 0 rfl) ?_
      refine lv_if_le (tgt := 93) hx hb dX10_read_63 (by decide) (fun c13 => ?_) (fun c13 => ?_)
      · have hf := (if_pos c13).symm.trans hf
        refine lv_iinc (v := (i7 + 1)) (lv' := [(2, .int (i7 + 1)), (3, .int v11), (0, .ref (ad 0))]) hx hb dX10_read_93 hl (k := 1) rfl rfl (by decide) rfl (fun ls hl => ?_)
        refine lv_goto (tgt := 48) hx hb dX10_read_96 (by decide) ?_
        exact ih _ _ _ _  hf _ _ _ S (lv_sub hl [0, 2] rfl)
      · have hf := (if_neg c13).symm.trans hf
        refine lv_aload_n hx hb dX10_read_66 rfl (lv_at hl 2 rfl) ?_
        refine gfX10_16 X S hN dX10_read_67 ?_
        refine lv_iconst (v := (0 : Int32)) hx hb dX10_read_70 (by decide) ?_
        refine lv_aload_n hx hb dX10_read_71 rfl (lv_at hl 2 rfl) ?_
        refine gfX10_7 X S hN dX10_read_72 ?_
        refine lv_iconst (v := (0 : Int32)) hx hb dX10_read_75 (by decide) ?_
        obtain ⟨σ14, hσ14, hf⟩ := g_s1 hf
        refine g_kv S (g_runS (rest := []) X S (c_X10_copies l hN (by rfl : gma 3 = true) (by rfl : gma 1 = true) hσ14 _) csX10_copies mlX10_63 rfl rfl hl.1 (Nat.le_of_ble_eq_true rfl) ⟨⟨rfl, rfl⟩, ⟨Nat.le_of_ble_eq_true rfl, Nat.le_of_ble_eq_true rfl⟩, Nat.le_of_ble_eq_true rfl, Nat.le_of_ble_eq_true rfl⟩ dX10_read_76) (fun H locs S => ?_)
        refine lv_aload_n hx hb dX10_read_79 rfl (lv_at hl 2 rfl) ?_
        refine lv_iconst (v := (2 : Int32)) hx hb dX10_read_80 (by decide) ?_
        refine lv_iload_n hx hb dX10_read_81 rfl (lv_at hl 0 rfl) ?_
        obtain ⟨v15, σ16, hv15, hf⟩ := g_s2 hf
        refine g_ki S (g_runV (rest := []) X S (c_X10_refuses l hN  hv15 _) cvX10_refuses mlX10_75 (by omega) (ceM_10 _) rfl rfl rfl hl.1 (Nat.le_of_ble_eq_true rfl) ⟨⟨rfl, rfl⟩, ⟨Nat.le_of_ble_eq_true rfl, Nat.le_of_ble_eq_true rfl⟩, Nat.le_of_ble_eq_true rfl, Nat.le_of_ble_eq_true rfl⟩ dX10_read_82) (fun H locs S => ?_)
        refine lv_pop hx hb dX10_read_85 rfl ?_
        refine lv_aload_n hx hb dX10_read_86 rfl (lv_at hl 2 rfl) ?_
        refine lv_iload_n hx hb dX10_read_87 rfl (lv_at hl 1 rfl) ?_
        obtain ⟨σ17, hσ17, hf⟩ := g_s1 hf
        refine pfX10_41 X S hN hσ17 dX10_read_88 (fun H locs S => ?_)
        refine lv_iconst (v := (0 : Int32)) hx hb dX10_read_91 (by decide) ?_
        cases hf
        exact g_reti X S rfl dX10_read_92
noncomputable def f_X10_read (σ : gSt)  : Option (Int32 × gSt) :=
  (g_k1 (gset σ 0 10 (0 : Int32)) fun σ1 => (g_k2 (f_X10_isItems σ1 ) fun v2 σ3 => (g_k1 (gset σ3 0 12 (0 : Int32)) fun σ4 => (if v2 = 0 then (g_k1 (gset σ4 0 9 (σ4 0 13)) fun σ18 => (g_k2 (f_X10_fails σ18 (1 : Int32)) fun v19 σ20 => some (v19, σ20))) else (g_k1 (f_X10_copies σ4 1 (0 : Int32) 3 (0 : Int32)) fun σ6 => (f_X10_read_l1 σ6 FU (0 : Int32) σ6))))))
set_option maxRecDepth 100000 in
set_option maxHeartbeats 4000000 in
theorem c_X10_read (l : Launch) {Γ : gG} {ad : Nat → Nat} {N : Nat} (hN : 8 ≤ N) {σ : gSt}   {r : Int32} {σ' : gSt} (hf : f_X10_read σ  = some (r, σ')) : gMi l celM Γ ad N yX10_read cX10_read 4 (some .int) (gR 6 0 0) [.ref (ad 0)] σ r σ' := by
  intro sz
  refine gOf (Qc := fun sz => gQci celM Γ ad N r σ' sz) RX10 (by decide) rfl (Nat.le_of_ble_eq_true rfl) (fun p e s m args below meth c H locs ls X S hl => ?_)
  have hl : lv_has ls 4 [(0, .ref (ad 0))] := hl
  have hx := X.1
  have hb := X.2.1
  unfold f_X10_read at hf
  refine lv_aload_n hx hb dX10_read_0 rfl (lv_at hl 0 rfl) ?_
  refine lv_iconst (v := (0 : Int32)) hx hb dX10_read_1 (by decide) ?_
  obtain ⟨σ1, hσ1, hf⟩ := g_s1 hf
  refine pfX10_35 X S hN hσ1 dX10_read_2 (fun H locs S => ?_)
  refine lv_aload_n hx hb dX10_read_5 rfl (lv_at hl 0 rfl) ?_
  obtain ⟨v2, σ3, hv2, hf⟩ := g_s2 hf
  refine g_ki S (g_runV (rest := []) X S (c_X10_isItems l hN  hv2 _) cvX10_isItems mlX10_236 (by omega) (ceM_10 _) rfl rfl rfl hl.1 (Nat.le_of_ble_eq_true rfl) ⟨⟨rfl, rfl⟩, ⟨Nat.le_of_ble_eq_true rfl, Nat.le_of_ble_eq_true rfl⟩, Nat.le_of_ble_eq_true rfl, Nat.le_of_ble_eq_true rfl⟩ dX10_read_6) (fun H locs S => ?_)
  refine lv_istore_n (lv' := [(1, .int v2), (0, .ref (ad 0))]) hx hb dX10_read_9 rfl hl (by decide) rfl (fun ls hl => ?_)
  refine lv_aload_n hx hb dX10_read_10 rfl (lv_at hl 1 rfl) ?_
  refine lv_iconst (v := (0 : Int32)) hx hb dX10_read_11 (by decide) ?_
  obtain ⟨σ4, hσ4, hf⟩ := g_s1 hf
  refine pfX10_137 X S hN hσ4 dX10_read_12 (fun H locs S => ?_)
  refine lv_iload_n hx hb dX10_read_15 rfl (lv_at hl 0 rfl) ?_
  refine lv_if_ne (tgt := 33) hx hb dX10_read_16 (by decide) (fun c5 => ?_) (fun c5 => ?_)
  · have hf := (if_neg c5).symm.trans hf
    refine lv_aload_n hx hb dX10_read_33 rfl (lv_at hl 1 rfl) ?_
    refine gfX10_7 X S hN dX10_read_34 ?_
    refine lv_iconst (v := (0 : Int32)) hx hb dX10_read_37 (by decide) ?_
    refine lv_aload_n hx hb dX10_read_38 rfl (lv_at hl 1 rfl) ?_
    refine gfX10_16 X S hN dX10_read_39 ?_
    refine lv_iconst (v := (0 : Int32)) hx hb dX10_read_42 (by decide) ?_
    obtain ⟨σ6, hσ6, hf⟩ := g_s1 hf
    refine g_kv S (g_runS (rest := []) X S (c_X10_copies l hN (by rfl : gma 1 = true) (by rfl : gma 3 = true) hσ6 _) csX10_copies mlX10_63 rfl rfl hl.1 (Nat.le_of_ble_eq_true rfl) ⟨⟨rfl, rfl⟩, ⟨Nat.le_of_ble_eq_true rfl, Nat.le_of_ble_eq_true rfl⟩, Nat.le_of_ble_eq_true rfl, Nat.le_of_ble_eq_true rfl⟩ dX10_read_43) (fun H locs S => ?_)
    refine lv_iconst (v := (0 : Int32)) hx hb dX10_read_46 (by decide) ?_
    refine lv_istore_n (lv' := [(2, .int (0 : Int32)), (1, .int v2), (0, .ref (ad 0))]) hx hb dX10_read_47 rfl hl (by decide) rfl (fun ls hl => ?_)
    exact w_X10_read_l1 hN X  FU _ _ _ _  hf _ _ _ S (lv_sub hl [0, 2] rfl)
  · have hf := (if_pos c5).symm.trans hf
    refine lv_aload_n hx hb dX10_read_19 rfl (lv_at hl 1 rfl) ?_
    refine lv_aload_n hx hb dX10_read_20 rfl (lv_at hl 1 rfl) ?_
    refine gfX10_211 X S hN dX10_read_21 ?_
    obtain ⟨σ18, hσ18, hf⟩ := g_s1 hf
    refine pfX10_25 X S hN hσ18 dX10_read_24 (fun H locs S => ?_)
    refine lv_aload_n hx hb dX10_read_27 rfl (lv_at hl 1 rfl) ?_
    refine lv_iconst (v := (1 : Int32)) hx hb dX10_read_28 (by decide) ?_
    obtain ⟨v19, σ20, hv19, hf⟩ := g_s2 hf
    refine g_ki S (g_runV (rest := []) X S (c_X10_fails l hN  hv19 _) cvX10_fails mlX10_44 (by omega) (ceM_10 _) rfl rfl rfl hl.1 (Nat.le_of_ble_eq_true rfl) ⟨⟨rfl, rfl⟩, ⟨Nat.le_of_ble_eq_true rfl, Nat.le_of_ble_eq_true rfl⟩, Nat.le_of_ble_eq_true rfl, Nat.le_of_ble_eq_true rfl⟩ dX10_read_29) (fun H locs S => ?_)
    cases hf
    exact g_reti X S rfl dX10_read_32

