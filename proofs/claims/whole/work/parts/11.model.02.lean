noncomputable def f_X10_up (σ : gSt) (a0 : Int32) (a1 : Int32) : Option (Int32) :=
  (g_k1 (gdiv ((a0 + a1) - (1 : Int32)) a1) fun _ => some (((a0 + a1) - (1 : Int32)) / a1))
set_option maxRecDepth 100000 in
set_option maxHeartbeats 4000000 in
theorem c_X10_up (l : Launch) {Γ : gG} {ad : Nat → Nat} {N : Nat} (hN : 8 ≤ N) {σ : gSt} {a0 : Int32} {a1 : Int32}  {r : Int32} (hf : f_X10_up σ a0 a1 = some r) : gMi l celM Γ ad N yX10_up cX10_up 2 (some .int) (gR 1 0 0) [.int a0, .int a1] σ r σ := by
  intro sz
  refine gOf (Qc := fun sz => gQci celM Γ ad N r σ sz) RX10 (by decide) rfl (Nat.le_of_ble_eq_true rfl) (fun p e s m args below meth c H locs ls X S hl => ?_)
  have hl : lv_has ls 2 [(0, .int a0), (1, .int a1)] := hl
  have hx := X.1
  have hb := X.2.1
  unfold f_X10_up at hf
  refine lv_iload_n hx hb dX10_up_0 rfl (lv_at hl 0 rfl) ?_
  refine lv_iload_n hx hb dX10_up_1 rfl (lv_at hl 1 rfl) ?_
  refine lv_iadd hx hb dX10_up_2 ?_
  refine lv_iconst (v := (1 : Int32)) hx hb dX10_up_3 (by decide) ?_
  refine lv_isub hx hb dX10_up_4 ?_
  refine lv_iload_n hx hb dX10_up_5 rfl (lv_at hl 1 rfl) ?_
  obtain ⟨v1, hv1, hf⟩ := g_s1 hf
  obtain ⟨hzv1, rfl⟩ := gdiv_some hv1
  refine lv_idiv hx hb dX10_up_6 hzv1 ?_
  cases hf
  exact g_reti X S rfl dX10_up_7

noncomputable def f_X10_needs (σ : gSt) (a0 : Int32) (a1 : Int32) : Option (Int32) :=
  (g_k1 (f_X10_at σ a0 a1 (2 : Int32)) fun v1 => (g_k1 (gald σ 1 926 v1) fun v2 => (g_k1 (if v2 = (2 : Int32) then some (20 : Int32) else some (25 : Int32)) fun x3 => (g_k1 (f_X10_load σ a0 a1) fun v6 => (g_k1 (f_X10_up σ (x3 * v6) (σ 1 1)) fun v7 => (g_k1 (if v2 = (1 : Int32) then (g_k1 (f_X10_up σ v7 (2 : Int32)) fun v12 => some v12) else some v7) fun x8 => some x8))))))
set_option maxRecDepth 100000 in
set_option maxHeartbeats 4000000 in
theorem c_X10_needs (l : Launch) {Γ : gG} {ad : Nat → Nat} {N : Nat} (hN : 8 ≤ N) {σ : gSt} {a0 : Int32} {a1 : Int32}  {r : Int32} (hf : f_X10_needs σ a0 a1 = some r) : gMi l celM Γ ad N yX10_needs cX10_needs 5 (some .int) (gR 3 0 0) [.ref (ad 0), .int a0, .int a1] σ r σ := by
  intro sz
  refine gOf (Qc := fun sz => gQci celM Γ ad N r σ sz) RX10 (by decide) rfl (Nat.le_of_ble_eq_true rfl) (fun p e s m args below meth c H locs ls X S hl => ?_)
  have hl : lv_has ls 5 [(0, .ref (ad 0)), (1, .int a0), (2, .int a1)] := hl
  have hx := X.1
  have hb := X.2.1
  unfold f_X10_needs at hf
  refine lv_aload_n hx hb dX10_needs_0 rfl (lv_at hl 0 rfl) ?_
  refine gfX10_7 X S hN dX10_needs_1 ?_
  refine lv_iload_n hx hb dX10_needs_4 rfl (lv_at hl 1 rfl) ?_
  refine lv_iload_n hx hb dX10_needs_5 rfl (lv_at hl 2 rfl) ?_
  refine lv_iconst (v := (2 : Int32)) hx hb dX10_needs_6 (by decide) ?_
  obtain ⟨v1, hv1, hf⟩ := g_s1 hf
  refine g_ki S (g_runS (rest := [.ref (ad 1)]) X S (c_X10_at l hN  hv1 _) csX10_at mlX10_56 rfl rfl hl.1 (Nat.le_of_ble_eq_true rfl) ⟨⟨rfl, rfl⟩, ⟨Nat.le_of_ble_eq_true rfl, Nat.le_of_ble_eq_true rfl⟩, Nat.le_of_ble_eq_true rfl, Nat.le_of_ble_eq_true rfl⟩ dX10_needs_7) (fun H locs S => ?_)
  obtain ⟨v2, hv2, hf⟩ := g_s1 hf
  refine g_iald X S (by omega) (ceM_a (rfl : gma 1 = true)) hv2 dX10_needs_10 ?_
  refine lv_istore_n (lv' := [(3, .int v2), (0, .ref (ad 0)), (1, .int a0), (2, .int a1)]) hx hb dX10_needs_11 rfl hl (by decide) rfl (fun ls hl => ?_)
  refine lv_iload_n hx hb dX10_needs_12 rfl (lv_at hl 0 rfl) ?_
  refine lv_iconst (v := (2 : Int32)) hx hb dX10_needs_13 (by decide) ?_
  obtain ⟨x3, hr4, hf⟩ := g_s1 hf
  have J5 : ∀ (H : Heap) (locs : List Loc) (ls : Array Slot), gS celM Γ ad N σ s H locs → lv_has ls 5 [(3, .int v2), (0, .ref (ad 0)), (1, .int a0), (2, .int a1)] → W p l e (gR 3 0 0) s m args below meth c H locs 0 0 (gQi celM Γ ad N r σ below args s) (F0 m 24 ls [.int x3]) := by
    intro H locs ls S hl
    refine lv_aload_n hx hb dX10_needs_24 rfl (lv_at hl 1 rfl) ?_
    refine lv_iload_n hx hb dX10_needs_25 rfl (lv_at hl 2 rfl) ?_
    refine lv_iload_n hx hb dX10_needs_26 rfl (lv_at hl 3 rfl) ?_
    obtain ⟨v6, hv6, hf⟩ := g_s1 hf
    refine g_ki S (g_runV (rest := [.int x3]) X S (c_X10_load l hN  hv6 _) cvX10_load mlX10_107 (by omega) (ceM_10 _) rfl rfl rfl hl.1 (Nat.le_of_ble_eq_true rfl) ⟨⟨rfl, rfl⟩, ⟨Nat.le_of_ble_eq_true rfl, Nat.le_of_ble_eq_true rfl⟩, Nat.le_of_ble_eq_true rfl, Nat.le_of_ble_eq_true rfl⟩ dX10_needs_27) (fun H locs S => ?_)
    refine lv_imul hx hb dX10_needs_30 ?_
    refine lv_aload_n hx hb dX10_needs_31 rfl (lv_at hl 1 rfl) ?_
    refine gfX10_7 X S hN dX10_needs_32 ?_
    refine lv_iconst (v := (1 : Int32)) hx hb dX10_needs_35 (by decide) ?_
    refine g_ialdC X S (by omega) (ceM_a (rfl : gma 1 = true)) 1 (by decide) (by decide) dX10_needs_36 ?_
    obtain ⟨v7, hv7, hf⟩ := g_s1 hf
    refine g_ki S (g_runS (rest := []) X S (c_X10_up l hN  hv7 _) csX10_up mlX10_110 rfl rfl hl.1 (Nat.le_of_ble_eq_true rfl) ⟨⟨rfl, rfl⟩, ⟨Nat.le_of_ble_eq_true rfl, Nat.le_of_ble_eq_true rfl⟩, Nat.le_of_ble_eq_true rfl, Nat.le_of_ble_eq_true rfl⟩ dX10_needs_37) (fun H locs S => ?_)
    refine lv_istore (lv' := [(4, .int v7), (3, .int v2), (0, .ref (ad 0)), (1, .int a0), (2, .int a1)]) hx hb dX10_needs_40 hl (by decide) rfl (fun ls hl => ?_)
    refine lv_iload_n hx hb dX10_needs_42 rfl (lv_at hl 1 rfl) ?_
    refine lv_iconst (v := (1 : Int32)) hx hb dX10_needs_43 (by decide) ?_
    obtain ⟨x8, hr9, hf⟩ := g_s1 hf
    have J10 : ∀ (H : Heap) (locs : List Loc) (ls : Array Slot), gS celM Γ ad N σ s H locs → lv_has ls 5 [] → W p l e (gR 3 0 0) s m args below meth c H locs 0 0 (gQi celM Γ ad N r σ below args s) (F0 m 58 ls [.int x8]) := by
      intro H locs ls S hl
      cases hf
      exact g_reti X S rfl dX10_needs_58
    replace hf := hr9
    refine lv_icmp_ne (tgt := 56) hx hb dX10_needs_44 (by decide) (fun c11 => ?_) (fun c11 => ?_)
    · have hf := (if_neg c11).symm.trans hf
      refine lv_iload hx hb dX10_needs_56 (lv_at hl 0 rfl) ?_
      cases hf
      exact J10 _ _ _ S (lv_sub hl [] rfl)
    · have hf := (if_pos c11).symm.trans hf
      refine lv_iload hx hb dX10_needs_47 (lv_at hl 0 rfl) ?_
      refine lv_iconst (v := (2 : Int32)) hx hb dX10_needs_49 (by decide) ?_
      obtain ⟨v12, hv12, hf⟩ := g_s1 hf
      refine g_ki S (g_runS (rest := []) X S (c_X10_up l hN  hv12 _) csX10_up mlX10_110 rfl rfl hl.1 (Nat.le_of_ble_eq_true rfl) ⟨⟨rfl, rfl⟩, ⟨Nat.le_of_ble_eq_true rfl, Nat.le_of_ble_eq_true rfl⟩, Nat.le_of_ble_eq_true rfl, Nat.le_of_ble_eq_true rfl⟩ dX10_needs_50) (fun H locs S => ?_)
      refine lv_goto (tgt := 58) hx hb dX10_needs_53 (by decide) ?_
      cases hf
      exact J10 _ _ _ S (lv_sub hl [] rfl)
  replace hf := hr4
  refine lv_icmp_ne (tgt := 22) hx hb dX10_needs_14 (by decide) (fun c13 => ?_) (fun c13 => ?_)
  · have hf := (if_neg c13).symm.trans hf
    refine lv_bipush (v := (25 : Int32)) hx hb dX10_needs_22 (by decide) ?_
    cases hf
    exact J5 _ _ _ S (lv_sub hl [0, 1, 2, 3] rfl)
  · have hf := (if_pos c13).symm.trans hf
    refine lv_bipush (v := (20 : Int32)) hx hb dX10_needs_17 (by decide) ?_
    refine lv_goto (tgt := 24) hx hb dX10_needs_19 (by decide) ?_
    cases hf
    exact J5 _ _ _ S (lv_sub hl [0, 1, 2, 3] rfl)

noncomputable def f_X10_longest_l1 (σ : gSt) (a0 : Int32) (a1 : Int32) (v2 : Int32) : Nat → Int32 → Option (Int32)
  | 0, _ => none
  | n + 1, i3 => (if v2 ≤ i3 then some i3 else (g_k1 (f_X10_at σ a0 a1 ((4 : Int32) + i3)) fun v6 => (g_k1 (gald σ 1 926 v6) fun v7 => (if v7 = (124 : Int32) then some i3 else (f_X10_longest_l1 σ a0 a1 v2 n (i3 + 1))))))
set_option maxRecDepth 100000 in
set_option maxHeartbeats 4000000 in
theorem w_X10_longest_l1 {l : Launch} {Γ : gG} {ad : Nat → Nat} {N : Nat} {p : Program} {e : Env} {s : State} {m : MethodId} {args : Array Value} {below : List Frame} {meth : Method} {c : Code} {Q : State → Prop} (hN : 8 ≤ N) (X : gX celM Γ ad N RX10 cX10_longest 5 (some .int) p s m args meth c) {σ : gSt} {a0 : Int32} {a1 : Int32} {v2 : Int32}  : ∀ (n : Nat) (i3 : Int32) (r4 : Int32), f_X10_longest_l1 σ a0 a1 v2 n i3 = some r4 → (∀ (H : Heap) (locs : List Loc) (ls : Array Slot), gS celM Γ ad N σ s H locs → lv_has ls 5 [(4, .int r4), (3, .int v2)] → W p l e (gR 2 0 0) s m args below meth c H locs 0 0 (Q) (F0 m 46 ls [])) → ∀ (H : Heap) (locs : List Loc) (ls : Array Slot), gS celM Γ ad N σ s H locs → lv_has ls 5 [(4, .int i3), (3, .int v2), (0, .ref (ad 0)), (1, .int a0), (2, .int a1)] → W p l e (gR 2 0 0) s m args below meth c H locs 0 0 (Q) (F0 m 15 ls []) := by
  have hx := X.1
  have hb := X.2.1
  intro n
  induction n with
  | zero =>
    intro i3 r4 hf
    cases hf
  | succ n ih =>
    intro i3 r4 hf J H locs ls S hl
    rw [f_X10_longest_l1] at hf
    refine lv_iload hx hb dX10_longest_15 (lv_at hl 0 rfl) ?_
    refine lv_iload_n hx hb dX10_longest_17 rfl (lv_at hl 1 rfl) ?_
    refine lv_icmp_ge (tgt := 46) hx hb dX10_longest_18 (by decide) (fun c5 => ?_) (fun c5 => ?_)
    · have hf := (if_pos c5).symm.trans hf
      cases hf
      exact J _ _ _ S (lv_sub hl [0, 1] rfl)
    · have hf := (if_neg c5).symm.trans hf
      refine lv_aload_n hx hb dX10_longest_21 rfl (lv_at hl 2 rfl) ?_
      refine gfX10_7 X S hN dX10_longest_22 ?_
      refine lv_iload_n hx hb dX10_longest_25 rfl (lv_at hl 3 rfl) ?_
      refine lv_iload_n hx hb dX10_longest_26 rfl (lv_at hl 4 rfl) ?_
      refine lv_iconst (v := (4 : Int32)) hx hb dX10_longest_27 (by decide) ?_
      refine lv_iload hx hb dX10_longest_28 (lv_at hl 0 rfl) ?_
      refine lv_iadd hx hb dX10_longest_30 ?_
      obtain ⟨v6, hv6, hf⟩ := g_s1 hf
      refine g_ki S (g_runS (rest := [.ref (ad 1)]) X S (c_X10_at l hN  hv6 _) csX10_at mlX10_56 rfl rfl hl.1 (Nat.le_of_ble_eq_true rfl) ⟨⟨rfl, rfl⟩, ⟨Nat.le_of_ble_eq_true rfl, Nat.le_of_ble_eq_true rfl⟩, Nat.le_of_ble_eq_true rfl, Nat.le_of_ble_eq_true rfl⟩ dX10_longest_31) (fun H locs S => ?_)
      obtain ⟨v7, hv7, hf⟩ := g_s1 hf
      refine g_iald X S (by omega) (ceM_a (rfl : gma 1 = true)) hv7 dX10_longest_34 ?_
      refine lv_bipush (v := (124 : Int32)) hx hb dX10_longest_35 (by decide) ?_
      refine lv_icmp_eq (tgt := 46) hx hb dX10_longest_37 (by decide) (fun c8 => ?_) (fun c8 => ?_)
      · have hf := (if_pos c8).symm.trans hf
        cases hf
        exact J _ _ _ S (lv_sub hl [0, 1] rfl)
      · have hf := (if_neg c8).symm.trans hf
        refine lv_iinc (v := (i3 + 1)) (lv' := [(4, .int (i3 + 1)), (3, .int v2), (0, .ref (ad 0)), (1, .int a0), (2, .int a1)]) hx hb dX10_longest_40 hl (k := 0) rfl rfl (by decide) rfl (fun ls hl => ?_)
        refine lv_goto (tgt := 15) hx hb dX10_longest_43 (by decide) ?_
        exact ih _ _  hf J _ _ _ S (lv_sub hl [0, 1, 2, 3, 4] rfl)
noncomputable def f_X10_longest (σ : gSt) (a0 : Int32) (a1 : Int32) : Option (Int32) :=
  (g_k1 (f_X10_at σ a0 a1 (3 : Int32)) fun v1 => (g_k1 (gald σ 1 926 v1) fun v2 => (g_k1 (f_X10_longest_l1 σ a0 a1 v2 FU (0 : Int32)) fun r4 => (g_k1 (if r4 = v2 then some r4 else (if r4 ≤ ((v2 - r4) - (1 : Int32)) then some ((v2 - r4) - (1 : Int32)) else some r4)) fun x10 => some x10))))
set_option maxRecDepth 100000 in
set_option maxHeartbeats 4000000 in
theorem c_X10_longest (l : Launch) {Γ : gG} {ad : Nat → Nat} {N : Nat} (hN : 8 ≤ N) {σ : gSt} {a0 : Int32} {a1 : Int32}  {r : Int32} (hf : f_X10_longest σ a0 a1 = some r) : gMi l celM Γ ad N yX10_longest cX10_longest 5 (some .int) (gR 2 0 0) [.ref (ad 0), .int a0, .int a1] σ r σ := by
  intro sz
  refine gOf (Qc := fun sz => gQci celM Γ ad N r σ sz) RX10 (by decide) rfl (Nat.le_of_ble_eq_true rfl) (fun p e s m args below meth c H locs ls X S hl => ?_)
  have hl : lv_has ls 5 [(0, .ref (ad 0)), (1, .int a0), (2, .int a1)] := hl
  have hx := X.1
  have hb := X.2.1
  unfold f_X10_longest at hf
  refine lv_aload_n hx hb dX10_longest_0 rfl (lv_at hl 0 rfl) ?_
  refine gfX10_7 X S hN dX10_longest_1 ?_
  refine lv_iload_n hx hb dX10_longest_4 rfl (lv_at hl 1 rfl) ?_
  refine lv_iload_n hx hb dX10_longest_5 rfl (lv_at hl 2 rfl) ?_
  refine lv_iconst (v := (3 : Int32)) hx hb dX10_longest_6 (by decide) ?_
  obtain ⟨v1, hv1, hf⟩ := g_s1 hf
  refine g_ki S (g_runS (rest := [.ref (ad 1)]) X S (c_X10_at l hN  hv1 _) csX10_at mlX10_56 rfl rfl hl.1 (Nat.le_of_ble_eq_true rfl) ⟨⟨rfl, rfl⟩, ⟨Nat.le_of_ble_eq_true rfl, Nat.le_of_ble_eq_true rfl⟩, Nat.le_of_ble_eq_true rfl, Nat.le_of_ble_eq_true rfl⟩ dX10_longest_7) (fun H locs S => ?_)
  obtain ⟨v2, hv2, hf⟩ := g_s1 hf
  refine g_iald X S (by omega) (ceM_a (rfl : gma 1 = true)) hv2 dX10_longest_10 ?_
  refine lv_istore_n (lv' := [(3, .int v2), (0, .ref (ad 0)), (1, .int a0), (2, .int a1)]) hx hb dX10_longest_11 rfl hl (by decide) rfl (fun ls hl => ?_)
  refine lv_iconst (v := (0 : Int32)) hx hb dX10_longest_12 (by decide) ?_
  refine lv_istore (lv' := [(4, .int (0 : Int32)), (3, .int v2), (0, .ref (ad 0)), (1, .int a0), (2, .int a1)]) hx hb dX10_longest_13 hl (by decide) rfl (fun ls hl => ?_)
  obtain ⟨r4, hr9, hf⟩ := g_s1 hf
  refine w_X10_longest_l1 hN X  FU _ _  hr9 (fun H locs ls S hl => ?_) _ _ _ S (lv_sub hl [0, 1, 2, 3, 4] rfl)
  refine lv_iload hx hb dX10_longest_46 (lv_at hl 0 rfl) ?_
  refine lv_iload_n hx hb dX10_longest_48 rfl (lv_at hl 1 rfl) ?_
  obtain ⟨x10, hr11, hf⟩ := g_s1 hf
  have J12 : ∀ (H : Heap) (locs : List Loc) (ls : Array Slot), gS celM Γ ad N σ s H locs → lv_has ls 5 [] → W p l e (gR 2 0 0) s m args below meth c H locs 0 0 (gQi celM Γ ad N r σ below args s) (F0 m 74 ls [.int x10]) := by
    intro H locs ls S hl
    cases hf
    exact g_reti X S rfl dX10_longest_74
  replace hf := hr11
  refine lv_icmp_eq (tgt := 63) hx hb dX10_longest_49 (by decide) (fun c13 => ?_) (fun c13 => ?_)
  · have hf := (if_pos c13).symm.trans hf
    refine lv_iload hx hb dX10_longest_63 (lv_at hl 0 rfl) ?_
    refine lv_goto (tgt := 74) hx hb dX10_longest_65 (by decide) ?_
    cases hf
    exact J12 _ _ _ S (lv_sub hl [] rfl)
  · have hf := (if_neg c13).symm.trans hf
    refine lv_iload hx hb dX10_longest_52 (lv_at hl 0 rfl) ?_
    refine lv_iload_n hx hb dX10_longest_54 rfl (lv_at hl 1 rfl) ?_
    refine lv_iload hx hb dX10_longest_55 (lv_at hl 0 rfl) ?_
    refine lv_isub hx hb dX10_longest_57 ?_
    refine lv_iconst (v := (1 : Int32)) hx hb dX10_longest_58 (by decide) ?_
    refine lv_isub hx hb dX10_longest_59 ?_
    refine lv_icmp_le (tgt := 68) hx hb dX10_longest_60 (by decide) (fun c14 => ?_) (fun c14 => ?_)
    · have hf := (if_pos c14).symm.trans hf
      refine lv_iload_n hx hb dX10_longest_68 rfl (lv_at hl 1 rfl) ?_
      refine lv_iload hx hb dX10_longest_69 (lv_at hl 0 rfl) ?_
      refine lv_isub hx hb dX10_longest_71 ?_
      refine lv_iconst (v := (1 : Int32)) hx hb dX10_longest_72 (by decide) ?_
      refine lv_isub hx hb dX10_longest_73 ?_
      cases hf
      exact J12 _ _ _ S (lv_sub hl [] rfl)
    · have hf := (if_neg c14).symm.trans hf
      refine lv_iload hx hb dX10_longest_63 (lv_at hl 0 rfl) ?_
      refine lv_goto (tgt := 74) hx hb dX10_longest_65 (by decide) ?_
      cases hf
      exact J12 _ _ _ S (lv_sub hl [] rfl)

noncomputable def f_X10_shared (σ : gSt) (a0 : Int32) (a1 : Int32) (a2 : Int32) : Option (Int32) :=
  (g_k1 (f_X10_first σ a0 a1) fun v1 => (g_k1 (f_X10_first σ ((1 : Int32) - a0) a2) fun v2 => (g_k1 (if v1 ≤ v2 then (g_k1 (f_X10_first σ ((1 : Int32) - a0) a2) fun v19 => some v19) else (g_k1 (f_X10_first σ a0 a1) fun v20 => some v20)) fun x3 => (g_k1 (f_X10_end σ a0 a1) fun v6 => (g_k1 (f_X10_end σ ((1 : Int32) - a0) a2) fun v7 => (g_k1 (if v7 ≤ v6 then (g_k1 (f_X10_end σ ((1 : Int32) - a0) a2) fun v16 => some v16) else (g_k1 (f_X10_end σ a0 a1) fun v17 => some v17)) fun x8 => (g_k1 (if x8 ≤ x3 then some (0 : Int32) else some (x8 - x3)) fun x11 => some x11)))))))
set_option maxRecDepth 100000 in
set_option maxHeartbeats 4000000 in
theorem c_X10_shared (l : Launch) {Γ : gG} {ad : Nat → Nat} {N : Nat} (hN : 8 ≤ N) {σ : gSt} {a0 : Int32} {a1 : Int32} {a2 : Int32}  {r : Int32} (hf : f_X10_shared σ a0 a1 a2 = some r) : gMi l celM Γ ad N yX10_shared cX10_shared 6 (some .int) (gR 3 0 0) [.ref (ad 0), .int a0, .int a1, .int a2] σ r σ := by
  intro sz
  refine gOf (Qc := fun sz => gQci celM Γ ad N r σ sz) RX10 (by decide) rfl (Nat.le_of_ble_eq_true rfl) (fun p e s m args below meth c H locs ls X S hl => ?_)
  have hl : lv_has ls 6 [(0, .ref (ad 0)), (1, .int a0), (2, .int a1), (3, .int a2)] := hl
  have hx := X.1
  have hb := X.2.1
  unfold f_X10_shared at hf
  refine lv_aload_n hx hb dX10_shared_0 rfl (lv_at hl 0 rfl) ?_
  refine lv_iload_n hx hb dX10_shared_1 rfl (lv_at hl 1 rfl) ?_
  refine lv_iload_n hx hb dX10_shared_2 rfl (lv_at hl 2 rfl) ?_
  obtain ⟨v1, hv1, hf⟩ := g_s1 hf
  refine g_ki S (g_runV (rest := []) X S (c_X10_first l hN  hv1 _) cvX10_first mlX10_113 (by omega) (ceM_10 _) rfl rfl rfl hl.1 (Nat.le_of_ble_eq_true rfl) ⟨⟨rfl, rfl⟩, ⟨Nat.le_of_ble_eq_true rfl, Nat.le_of_ble_eq_true rfl⟩, Nat.le_of_ble_eq_true rfl, Nat.le_of_ble_eq_true rfl⟩ dX10_shared_3) (fun H locs S => ?_)
  refine lv_aload_n hx hb dX10_shared_6 rfl (lv_at hl 0 rfl) ?_
  refine lv_iconst (v := (1 : Int32)) hx hb dX10_shared_7 (by decide) ?_
  refine lv_iload_n hx hb dX10_shared_8 rfl (lv_at hl 1 rfl) ?_
  refine lv_isub hx hb dX10_shared_9 ?_
  refine lv_iload_n hx hb dX10_shared_10 rfl (lv_at hl 3 rfl) ?_
  obtain ⟨v2, hv2, hf⟩ := g_s1 hf
  refine g_ki S (g_runV (rest := [.int v1]) X S (c_X10_first l hN  hv2 _) cvX10_first mlX10_113 (by omega) (ceM_10 _) rfl rfl rfl hl.1 (Nat.le_of_ble_eq_true rfl) ⟨⟨rfl, rfl⟩, ⟨Nat.le_of_ble_eq_true rfl, Nat.le_of_ble_eq_true rfl⟩, Nat.le_of_ble_eq_true rfl, Nat.le_of_ble_eq_true rfl⟩ dX10_shared_11) (fun H locs S => ?_)
  obtain ⟨x3, hr4, hf⟩ := g_s1 hf
  have J5 : ∀ (H : Heap) (locs : List Loc) (ls : Array Slot), gS celM Γ ad N σ s H locs → lv_has ls 6 [(0, .ref (ad 0)), (1, .int a0), (2, .int a1), (3, .int a2)] → W p l e (gR 3 0 0) s m args below meth c H locs 0 0 (gQi celM Γ ad N r σ below args s) (F0 m 34 ls [.int x3]) := by
    intro H locs ls S hl
    refine lv_istore (lv' := [(4, .int x3), (0, .ref (ad 0)), (1, .int a0), (2, .int a1), (3, .int a2)]) hx hb dX10_shared_34 hl (by decide) rfl (fun ls hl => ?_)
    refine lv_aload_n hx hb dX10_shared_36 rfl (lv_at hl 1 rfl) ?_
    refine lv_iload_n hx hb dX10_shared_37 rfl (lv_at hl 2 rfl) ?_
    refine lv_iload_n hx hb dX10_shared_38 rfl (lv_at hl 3 rfl) ?_
    obtain ⟨v6, hv6, hf⟩ := g_s1 hf
    refine g_ki S (g_runV (rest := []) X S (c_X10_end l hN  hv6 _) cvX10_end mlX10_71 (by omega) (ceM_10 _) rfl rfl rfl hl.1 (Nat.le_of_ble_eq_true rfl) ⟨⟨rfl, rfl⟩, ⟨Nat.le_of_ble_eq_true rfl, Nat.le_of_ble_eq_true rfl⟩, Nat.le_of_ble_eq_true rfl, Nat.le_of_ble_eq_true rfl⟩ dX10_shared_39) (fun H locs S => ?_)
    refine lv_aload_n hx hb dX10_shared_42 rfl (lv_at hl 1 rfl) ?_
    refine lv_iconst (v := (1 : Int32)) hx hb dX10_shared_43 (by decide) ?_
    refine lv_iload_n hx hb dX10_shared_44 rfl (lv_at hl 2 rfl) ?_
    refine lv_isub hx hb dX10_shared_45 ?_
    refine lv_iload_n hx hb dX10_shared_46 rfl (lv_at hl 4 rfl) ?_
    obtain ⟨v7, hv7, hf⟩ := g_s1 hf
    refine g_ki S (g_runV (rest := [.int v6]) X S (c_X10_end l hN  hv7 _) cvX10_end mlX10_71 (by omega) (ceM_10 _) rfl rfl rfl hl.1 (Nat.le_of_ble_eq_true rfl) ⟨⟨rfl, rfl⟩, ⟨Nat.le_of_ble_eq_true rfl, Nat.le_of_ble_eq_true rfl⟩, Nat.le_of_ble_eq_true rfl, Nat.le_of_ble_eq_true rfl⟩ dX10_shared_47) (fun H locs S => ?_)
    obtain ⟨x8, hr9, hf⟩ := g_s1 hf
    have J10 : ∀ (H : Heap) (locs : List Loc) (ls : Array Slot), gS celM Γ ad N σ s H locs → lv_has ls 6 [(4, .int x3)] → W p l e (gR 3 0 0) s m args below meth c H locs 0 0 (gQi celM Γ ad N r σ below args s) (F0 m 70 ls [.int x8]) := by
      intro H locs ls S hl
      refine lv_istore (lv' := [(5, .int x8), (4, .int x3)]) hx hb dX10_shared_70 hl (by decide) rfl (fun ls hl => ?_)
      refine lv_iload hx hb dX10_shared_72 (lv_at hl 0 rfl) ?_
      refine lv_iload hx hb dX10_shared_74 (lv_at hl 1 rfl) ?_
      obtain ⟨x11, hr12, hf⟩ := g_s1 hf
      have J13 : ∀ (H : Heap) (locs : List Loc) (ls : Array Slot), gS celM Γ ad N σ s H locs → lv_has ls 6 [] → W p l e (gR 3 0 0) s m args below meth c H locs 0 0 (gQi celM Γ ad N r σ below args s) (F0 m 88 ls [.int x11]) := by
        intro H locs ls S hl
        cases hf
        exact g_reti X S rfl dX10_shared_88
      replace hf := hr12
      refine lv_icmp_le (tgt := 87) hx hb dX10_shared_76 (by decide) (fun c14 => ?_) (fun c14 => ?_)
      · have hf := (if_pos c14).symm.trans hf
        refine lv_iconst (v := (0 : Int32)) hx hb dX10_shared_87 (by decide) ?_
        cases hf
        exact J13 _ _ _ S (lv_sub hl [] rfl)
      · have hf := (if_neg c14).symm.trans hf
        refine lv_iload hx hb dX10_shared_79 (lv_at hl 0 rfl) ?_
        refine lv_iload hx hb dX10_shared_81 (lv_at hl 1 rfl) ?_
        refine lv_isub hx hb dX10_shared_83 ?_
        refine lv_goto (tgt := 88) hx hb dX10_shared_84 (by decide) ?_
        cases hf
        exact J13 _ _ _ S (lv_sub hl [] rfl)
    replace hf := hr9
    refine lv_icmp_ge (tgt := 62) hx hb dX10_shared_50 (by decide) (fun c15 => ?_) (fun c15 => ?_)
    · have hf := (if_pos c15).symm.trans hf
      refine lv_aload_n hx hb dX10_shared_62 rfl (lv_at hl 1 rfl) ?_
      refine lv_iconst (v := (1 : Int32)) hx hb dX10_shared_63 (by decide) ?_
      refine lv_iload_n hx hb dX10_shared_64 rfl (lv_at hl 2 rfl) ?_
      refine lv_isub hx hb dX10_shared_65 ?_
      refine lv_iload_n hx hb dX10_shared_66 rfl (lv_at hl 4 rfl) ?_
      obtain ⟨v16, hv16, hf⟩ := g_s1 hf
      refine g_ki S (g_runV (rest := []) X S (c_X10_end l hN  hv16 _) cvX10_end mlX10_71 (by omega) (ceM_10 _) rfl rfl rfl hl.1 (Nat.le_of_ble_eq_true rfl) ⟨⟨rfl, rfl⟩, ⟨Nat.le_of_ble_eq_true rfl, Nat.le_of_ble_eq_true rfl⟩, Nat.le_of_ble_eq_true rfl, Nat.le_of_ble_eq_true rfl⟩ dX10_shared_67) (fun H locs S => ?_)
      cases hf
      exact J10 _ _ _ S (lv_sub hl [0] rfl)
    · have hf := (if_neg c15).symm.trans hf
      refine lv_aload_n hx hb dX10_shared_53 rfl (lv_at hl 1 rfl) ?_
      refine lv_iload_n hx hb dX10_shared_54 rfl (lv_at hl 2 rfl) ?_
      refine lv_iload_n hx hb dX10_shared_55 rfl (lv_at hl 3 rfl) ?_
      obtain ⟨v17, hv17, hf⟩ := g_s1 hf
      refine g_ki S (g_runV (rest := []) X S (c_X10_end l hN  hv17 _) cvX10_end mlX10_71 (by omega) (ceM_10 _) rfl rfl rfl hl.1 (Nat.le_of_ble_eq_true rfl) ⟨⟨rfl, rfl⟩, ⟨Nat.le_of_ble_eq_true rfl, Nat.le_of_ble_eq_true rfl⟩, Nat.le_of_ble_eq_true rfl, Nat.le_of_ble_eq_true rfl⟩ dX10_shared_56) (fun H locs S => ?_)
      refine lv_goto (tgt := 70) hx hb dX10_shared_59 (by decide) ?_
      cases hf
      exact J10 _ _ _ S (lv_sub hl [0] rfl)
  replace hf := hr4
  refine lv_icmp_le (tgt := 26) hx hb dX10_shared_14 (by decide) (fun c18 => ?_) (fun c18 => ?_)
  · have hf := (if_pos c18).symm.trans hf
    refine lv_aload_n hx hb dX10_shared_26 rfl (lv_at hl 0 rfl) ?_
    refine lv_iconst (v := (1 : Int32)) hx hb dX10_shared_27 (by decide) ?_
    refine lv_iload_n hx hb dX10_shared_28 rfl (lv_at hl 1 rfl) ?_
    refine lv_isub hx hb dX10_shared_29 ?_
    refine lv_iload_n hx hb dX10_shared_30 rfl (lv_at hl 3 rfl) ?_
    obtain ⟨v19, hv19, hf⟩ := g_s1 hf
    refine g_ki S (g_runV (rest := []) X S (c_X10_first l hN  hv19 _) cvX10_first mlX10_113 (by omega) (ceM_10 _) rfl rfl rfl hl.1 (Nat.le_of_ble_eq_true rfl) ⟨⟨rfl, rfl⟩, ⟨Nat.le_of_ble_eq_true rfl, Nat.le_of_ble_eq_true rfl⟩, Nat.le_of_ble_eq_true rfl, Nat.le_of_ble_eq_true rfl⟩ dX10_shared_31) (fun H locs S => ?_)
    cases hf
    exact J5 _ _ _ S (lv_sub hl [0, 1, 2, 3] rfl)
  · have hf := (if_neg c18).symm.trans hf
    refine lv_aload_n hx hb dX10_shared_17 rfl (lv_at hl 0 rfl) ?_
    refine lv_iload_n hx hb dX10_shared_18 rfl (lv_at hl 1 rfl) ?_
    refine lv_iload_n hx hb dX10_shared_19 rfl (lv_at hl 2 rfl) ?_
    obtain ⟨v20, hv20, hf⟩ := g_s1 hf
    refine g_ki S (g_runV (rest := []) X S (c_X10_first l hN  hv20 _) cvX10_first mlX10_113 (by omega) (ceM_10 _) rfl rfl rfl hl.1 (Nat.le_of_ble_eq_true rfl) ⟨⟨rfl, rfl⟩, ⟨Nat.le_of_ble_eq_true rfl, Nat.le_of_ble_eq_true rfl⟩, Nat.le_of_ble_eq_true rfl, Nat.le_of_ble_eq_true rfl⟩ dX10_shared_20) (fun H locs S => ?_)
    refine lv_goto (tgt := 34) hx hb dX10_shared_23 (by decide) ?_
    cases hf
    exact J5 _ _ _ S (lv_sub hl [0, 1, 2, 3] rfl)

noncomputable def f_X10_partner_l1 (σ : gSt) (a0 : Int32) (a1 : Int32) : Nat → Int32 → Int32 → Option (Int32)
  | 0, _, _ => none
  | n + 1, i1, i2 => (g_k1 (gald σ 1 926 ((29 : Int32) - a0)) fun v4 => (if v4 ≤ i1 then some i2 else (g_k1 (f_X10_shared σ a0 a1 i1) fun v6 => (g_k1 (if 0 ≤ i2 then (g_k1 (f_X10_shared σ a0 a1 i2) fun v15 => some v15) else some (0 : Int32)) fun x7 => (g_k1 (if v6 ≤ x7 then some i2 else some i1) fun x10 => (f_X10_partner_l1 σ a0 a1 n (i1 + 1) x10))))))
set_option maxRecDepth 100000 in
set_option maxHeartbeats 4000000 in
theorem w_X10_partner_l1 {l : Launch} {Γ : gG} {ad : Nat → Nat} {N : Nat} {p : Program} {e : Env} {s : State} {m : MethodId} {args : Array Value} {below : List Frame} {meth : Method} {c : Code} {Q : State → Prop} (hN : 8 ≤ N) (X : gX celM Γ ad N RX10 cX10_partner 5 (some .int) p s m args meth c) {σ : gSt} {a0 : Int32} {a1 : Int32}  : ∀ (n : Nat) (i1 : Int32) (i2 : Int32) (r3 : Int32), f_X10_partner_l1 σ a0 a1 n i1 i2 = some r3 → (∀ (H : Heap) (locs : List Loc) (ls : Array Slot), gS celM Γ ad N σ s H locs → lv_has ls 5 [(3, .int r3)] → W p l e (gR 4 0 0) s m args below meth c H locs 0 0 (Q) (F0 m 58 ls [])) → ∀ (H : Heap) (locs : List Loc) (ls : Array Slot), gS celM Γ ad N σ s H locs → lv_has ls 5 [(4, .int i1), (3, .int i2), (0, .ref (ad 0)), (1, .int a0), (2, .int a1)] → W p l e (gR 4 0 0) s m args below meth c H locs 0 0 (Q) (F0 m 5 ls []) := by
  have hx := X.1
  have hb := X.2.1
  intro n
  induction n with
  | zero =>
    intro i1 i2 r3 hf
    cases hf
  | succ n ih =>
    intro i1 i2 r3 hf J H locs ls S hl
    rw [f_X10_partner_l1] at hf
    refine lv_iload hx hb dX10_partner_5 (lv_at hl 0 rfl) ?_
    refine lv_aload_n hx hb dX10_partner_7 rfl (lv_at hl 2 rfl) ?_
    refine gfX10_7 X S hN dX10_partner_8 ?_
    refine lv_bipush (v := (29 : Int32)) hx hb dX10_partner_11 (by decide) ?_
    refine lv_iload_n hx hb dX10_partner_13 rfl (lv_at hl 3 rfl) ?_
    refine lv_isub hx hb dX10_partner_14 ?_
    obtain ⟨v4, hv4, hf⟩ := g_s1 hf
    refine g_iald X S (by omega) (ceM_a (rfl : gma 1 = true)) hv4 dX10_partner_15 ?_
    refine lv_icmp_ge (tgt := 58) hx hb dX10_partner_16 (by decide) (fun c5 => ?_) (fun c5 => ?_)
    · have hf := (if_pos c5).symm.trans hf
      cases hf
      exact J _ _ _ S (lv_sub hl [1] rfl)
    · have hf := (if_neg c5).symm.trans hf
      refine lv_aload_n hx hb dX10_partner_19 rfl (lv_at hl 2 rfl) ?_
      refine lv_iload_n hx hb dX10_partner_20 rfl (lv_at hl 3 rfl) ?_
      refine lv_iload_n hx hb dX10_partner_21 rfl (lv_at hl 4 rfl) ?_
      refine lv_iload hx hb dX10_partner_22 (lv_at hl 0 rfl) ?_
      obtain ⟨v6, hv6, hf⟩ := g_s1 hf
      refine g_ki S (g_runV (rest := []) X S (c_X10_shared l hN  hv6 _) cvX10_shared mlX10_116 (by omega) (ceM_10 _) rfl rfl rfl hl.1 (Nat.le_of_ble_eq_true rfl) ⟨⟨rfl, rfl⟩, ⟨Nat.le_of_ble_eq_true rfl, Nat.le_of_ble_eq_true rfl⟩, Nat.le_of_ble_eq_true rfl, Nat.le_of_ble_eq_true rfl⟩ dX10_partner_24) (fun H locs S => ?_)
      refine lv_iload_n hx hb dX10_partner_27 rfl (lv_at hl 1 rfl) ?_
      obtain ⟨x7, hr8, hf⟩ := g_s1 hf
      have J9 : ∀ (H : Heap) (locs : List Loc) (ls : Array Slot), gS celM Γ ad N σ s H locs → lv_has ls 5 [(4, .int i1), (3, .int i2), (0, .ref (ad 0)), (1, .int a0), (2, .int a1)] → W p l e (gR 4 0 0) s m args below meth c H locs 0 0 (Q) (F0 m 42 ls [.int x7, .int v6]) := by
        intro H locs ls S hl
        obtain ⟨x10, hr11, hf⟩ := g_s1 hf
        have J12 : ∀ (H : Heap) (locs : List Loc) (ls : Array Slot), gS celM Γ ad N σ s H locs → lv_has ls 5 [(4, .int i1), (0, .ref (ad 0)), (1, .int a0), (2, .int a1)] → W p l e (gR 4 0 0) s m args below meth c H locs 0 0 (Q) (F0 m 51 ls [.int x10]) := by
          intro H locs ls S hl
          refine lv_istore_n (lv' := [(3, .int x10), (4, .int i1), (0, .ref (ad 0)), (1, .int a0), (2, .int a1)]) hx hb dX10_partner_51 rfl hl (by decide) rfl (fun ls hl => ?_)
          refine lv_iinc (v := (i1 + 1)) (lv' := [(4, .int (i1 + 1)), (3, .int x10), (0, .ref (ad 0)), (1, .int a0), (2, .int a1)]) hx hb dX10_partner_52 hl (k := 1) rfl rfl (by decide) rfl (fun ls hl => ?_)
          refine lv_goto (tgt := 5) hx hb dX10_partner_55 (by decide) ?_
          exact ih _ _ _  hf J _ _ _ S (lv_sub hl [0, 1, 2, 3, 4] rfl)
        replace hf := hr11
        refine lv_icmp_le (tgt := 50) hx hb dX10_partner_42 (by decide) (fun c13 => ?_) (fun c13 => ?_)
        · have hf := (if_pos c13).symm.trans hf
          refine lv_iload_n hx hb dX10_partner_50 rfl (lv_at hl 1 rfl) ?_
          cases hf
          exact J12 _ _ _ S (lv_sub hl [0, 2, 3, 4] rfl)
        · have hf := (if_neg c13).symm.trans hf
          refine lv_iload hx hb dX10_partner_45 (lv_at hl 0 rfl) ?_
          refine lv_goto (tgt := 51) hx hb dX10_partner_47 (by decide) ?_
          cases hf
          exact J12 _ _ _ S (lv_sub hl [0, 2, 3, 4] rfl)
      replace hf := hr8
      refine lv_if_ge (tgt := 35) hx hb dX10_partner_28 (by decide) (fun c14 => ?_) (fun c14 => ?_)
      · have hf := (if_pos c14).symm.trans hf
        refine lv_aload_n hx hb dX10_partner_35 rfl (lv_at hl 2 rfl) ?_
        refine lv_iload_n hx hb dX10_partner_36 rfl (lv_at hl 3 rfl) ?_
        refine lv_iload_n hx hb dX10_partner_37 rfl (lv_at hl 4 rfl) ?_
        refine lv_iload_n hx hb dX10_partner_38 rfl (lv_at hl 1 rfl) ?_
        obtain ⟨v15, hv15, hf⟩ := g_s1 hf
        refine g_ki S (g_runV (rest := [.int v6]) X S (c_X10_shared l hN  hv15 _) cvX10_shared mlX10_116 (by omega) (ceM_10 _) rfl rfl rfl hl.1 (Nat.le_of_ble_eq_true rfl) ⟨⟨rfl, rfl⟩, ⟨Nat.le_of_ble_eq_true rfl, Nat.le_of_ble_eq_true rfl⟩, Nat.le_of_ble_eq_true rfl, Nat.le_of_ble_eq_true rfl⟩ dX10_partner_39) (fun H locs S => ?_)
        cases hf
        exact J9 _ _ _ S (lv_sub hl [0, 1, 2, 3, 4] rfl)
      · have hf := (if_neg c14).symm.trans hf
        refine lv_iconst (v := (0 : Int32)) hx hb dX10_partner_31 (by decide) ?_
        refine lv_goto (tgt := 42) hx hb dX10_partner_32 (by decide) ?_
        cases hf
        exact J9 _ _ _ S (lv_sub hl [0, 1, 2, 3, 4] rfl)
noncomputable def f_X10_partner (σ : gSt) (a0 : Int32) (a1 : Int32) : Option (Int32) :=
  (g_k1 (f_X10_partner_l1 σ a0 a1 FU (0 : Int32) (-1 : Int32)) fun r3 => some r3)
set_option maxRecDepth 100000 in
set_option maxHeartbeats 4000000 in
theorem c_X10_partner (l : Launch) {Γ : gG} {ad : Nat → Nat} {N : Nat} (hN : 8 ≤ N) {σ : gSt} {a0 : Int32} {a1 : Int32}  {r : Int32} (hf : f_X10_partner σ a0 a1 = some r) : gMi l celM Γ ad N yX10_partner cX10_partner 5 (some .int) (gR 4 0 0) [.ref (ad 0), .int a0, .int a1] σ r σ := by
  intro sz
  refine gOf (Qc := fun sz => gQci celM Γ ad N r σ sz) RX10 (by decide) rfl (Nat.le_of_ble_eq_true rfl) (fun p e s m args below meth c H locs ls X S hl => ?_)
  have hl : lv_has ls 5 [(0, .ref (ad 0)), (1, .int a0), (2, .int a1)] := hl
  have hx := X.1
  have hb := X.2.1
  unfold f_X10_partner at hf
  refine lv_iconst (v := (-1 : Int32)) hx hb dX10_partner_0 (by decide) ?_
  refine lv_istore_n (lv' := [(3, .int (-1 : Int32)), (0, .ref (ad 0)), (1, .int a0), (2, .int a1)]) hx hb dX10_partner_1 rfl hl (by decide) rfl (fun ls hl => ?_)
  refine lv_iconst (v := (0 : Int32)) hx hb dX10_partner_2 (by decide) ?_
  refine lv_istore (lv' := [(4, .int (0 : Int32)), (3, .int (-1 : Int32)), (0, .ref (ad 0)), (1, .int a0), (2, .int a1)]) hx hb dX10_partner_3 hl (by decide) rfl (fun ls hl => ?_)
  obtain ⟨r3, hr16, hf⟩ := g_s1 hf
  refine w_X10_partner_l1 hN X  FU _ _ _  hr16 (fun H locs ls S hl => ?_) _ _ _ S (lv_sub hl [0, 1, 2, 3, 4] rfl)
  refine lv_iload_n hx hb dX10_partner_58 rfl (lv_at hl 0 rfl) ?_
  cases hf
  exact g_reti X S rfl dX10_partner_59

noncomputable def f_X10_isInStep (σ : gSt) (a0 : Int32) (a1 : Int32) : Option (Int32) :=
  (g_k1 (f_X10_partner σ a0 a1) fun v1 => (g_k1 (if v1 < 0 then some (0 : Int32) else (g_k1 (f_X10_first σ a0 a1) fun v7 => (g_k1 (f_X10_first σ ((1 : Int32) - a0) v1) fun v8 => (g_k1 (f_X10_far σ v7 v8) fun v9 => (if (σ 1 5) < v9 then some (0 : Int32) else (g_k1 (f_X10_end σ a0 a1) fun v11 => (g_k1 (f_X10_end σ ((1 : Int32) - a0) v1) fun v12 => (g_k1 (f_X10_far σ v11 v12) fun v13 => (if (σ 1 5) < v13 then some (0 : Int32) else some (1 : Int32)))))))))) fun x2 => (g_k1 (gzb x2) fun v5 => some v5)))
set_option maxRecDepth 100000 in
set_option maxHeartbeats 4000000 in
theorem c_X10_isInStep (l : Launch) {Γ : gG} {ad : Nat → Nat} {N : Nat} (hN : 8 ≤ N) {σ : gSt} {a0 : Int32} {a1 : Int32}  {r : Int32} (hf : f_X10_isInStep σ a0 a1 = some r) : gMi l celM Γ ad N yX10_isInStep cX10_isInStep 4 (some .boolean) (gR 5 0 0) [.ref (ad 0), .int a0, .int a1] σ r σ := by
  intro sz
  refine gOf (Qc := fun sz => gQci celM Γ ad N r σ sz) RX10 (by decide) rfl (Nat.le_of_ble_eq_true rfl) (fun p e s m args below meth c H locs ls X S hl => ?_)
  have hl : lv_has ls 4 [(0, .ref (ad 0)), (1, .int a0), (2, .int a1)] := hl
  have hx := X.1
  have hb := X.2.1
  unfold f_X10_isInStep at hf
  refine lv_aload_n hx hb dX10_isInStep_0 rfl (lv_at hl 0 rfl) ?_
  refine lv_iload_n hx hb dX10_isInStep_1 rfl (lv_at hl 1 rfl) ?_
  refine lv_iload_n hx hb dX10_isInStep_2 rfl (lv_at hl 2 rfl) ?_
  obtain ⟨v1, hv1, hf⟩ := g_s1 hf
  refine g_ki S (g_runV (rest := []) X S (c_X10_partner l hN  hv1 _) cvX10_partner mlX10_119 (by omega) (ceM_10 _) rfl rfl rfl hl.1 (Nat.le_of_ble_eq_true rfl) ⟨⟨rfl, rfl⟩, ⟨Nat.le_of_ble_eq_true rfl, Nat.le_of_ble_eq_true rfl⟩, Nat.le_of_ble_eq_true rfl, Nat.le_of_ble_eq_true rfl⟩ dX10_isInStep_3) (fun H locs S => ?_)
  refine lv_istore_n (lv' := [(3, .int v1), (0, .ref (ad 0)), (1, .int a0), (2, .int a1)]) hx hb dX10_isInStep_6 rfl hl (by decide) rfl (fun ls hl => ?_)
  refine lv_iload_n hx hb dX10_isInStep_7 rfl (lv_at hl 0 rfl) ?_
  obtain ⟨x2, hr3, hf⟩ := g_s1 hf
  have J4 : ∀ (H : Heap) (locs : List Loc) (ls : Array Slot), gS celM Γ ad N σ s H locs → lv_has ls 4 [] → W p l e (gR 5 0 0) s m args below meth c H locs 0 0 (gQi celM Γ ad N r σ below args s) (F0 m 68 ls [.int x2]) := by
    intro H locs ls S hl
    obtain ⟨v5, hv5, hf⟩ := g_s1 hf
    obtain ⟨hnv5, rfl⟩ := gzb_some hv5
    cases hf
    exact g_reti X S hnv5 dX10_isInStep_68
  replace hf := hr3
  refine lv_if_lt (tgt := 67) hx hb dX10_isInStep_8 (by decide) (fun c6 => ?_) (fun c6 => ?_)
  · have hf := (if_pos c6).symm.trans hf
    refine lv_iconst (v := (0 : Int32)) hx hb dX10_isInStep_67 (by decide) ?_
    cases hf
    exact J4 _ _ _ S (lv_sub hl [] rfl)
  · have hf := (if_neg c6).symm.trans hf
    refine lv_aload_n hx hb dX10_isInStep_11 rfl (lv_at hl 1 rfl) ?_
    refine lv_iload_n hx hb dX10_isInStep_12 rfl (lv_at hl 2 rfl) ?_
    refine lv_iload_n hx hb dX10_isInStep_13 rfl (lv_at hl 3 rfl) ?_
    obtain ⟨v7, hv7, hf⟩ := g_s1 hf
    refine g_ki S (g_runV (rest := []) X S (c_X10_first l hN  hv7 _) cvX10_first mlX10_113 (by omega) (ceM_10 _) rfl rfl rfl hl.1 (Nat.le_of_ble_eq_true rfl) ⟨⟨rfl, rfl⟩, ⟨Nat.le_of_ble_eq_true rfl, Nat.le_of_ble_eq_true rfl⟩, Nat.le_of_ble_eq_true rfl, Nat.le_of_ble_eq_true rfl⟩ dX10_isInStep_14) (fun H locs S => ?_)
    refine lv_aload_n hx hb dX10_isInStep_17 rfl (lv_at hl 1 rfl) ?_
    refine lv_iconst (v := (1 : Int32)) hx hb dX10_isInStep_18 (by decide) ?_
    refine lv_iload_n hx hb dX10_isInStep_19 rfl (lv_at hl 2 rfl) ?_
    refine lv_isub hx hb dX10_isInStep_20 ?_
    refine lv_iload_n hx hb dX10_isInStep_21 rfl (lv_at hl 0 rfl) ?_
    obtain ⟨v8, hv8, hf⟩ := g_s1 hf
    refine g_ki S (g_runV (rest := [.int v7]) X S (c_X10_first l hN  hv8 _) cvX10_first mlX10_113 (by omega) (ceM_10 _) rfl rfl rfl hl.1 (Nat.le_of_ble_eq_true rfl) ⟨⟨rfl, rfl⟩, ⟨Nat.le_of_ble_eq_true rfl, Nat.le_of_ble_eq_true rfl⟩, Nat.le_of_ble_eq_true rfl, Nat.le_of_ble_eq_true rfl⟩ dX10_isInStep_22) (fun H locs S => ?_)
    obtain ⟨v9, hv9, hf⟩ := g_s1 hf
    refine g_ki S (g_runS (rest := []) X S (c_X10_far l hN  hv9 _) csX10_far mlX10_97 rfl rfl hl.1 (Nat.le_of_ble_eq_true rfl) ⟨⟨rfl, rfl⟩, ⟨Nat.le_of_ble_eq_true rfl, Nat.le_of_ble_eq_true rfl⟩, Nat.le_of_ble_eq_true rfl, Nat.le_of_ble_eq_true rfl⟩ dX10_isInStep_25) (fun H locs S => ?_)
    refine lv_aload_n hx hb dX10_isInStep_28 rfl (lv_at hl 1 rfl) ?_
    refine gfX10_7 X S hN dX10_isInStep_29 ?_
    refine lv_iconst (v := (5 : Int32)) hx hb dX10_isInStep_32 (by decide) ?_
    refine g_ialdC X S (by omega) (ceM_a (rfl : gma 1 = true)) 5 (by decide) (by decide) dX10_isInStep_33 ?_
    refine lv_icmp_gt (tgt := 67) hx hb dX10_isInStep_34 (by decide) (fun c10 => ?_) (fun c10 => ?_)
    · have hf := (if_pos c10).symm.trans hf
      refine lv_iconst (v := (0 : Int32)) hx hb dX10_isInStep_67 (by decide) ?_
      cases hf
      exact J4 _ _ _ S (lv_sub hl [] rfl)
    · have hf := (if_neg c10).symm.trans hf
      refine lv_aload_n hx hb dX10_isInStep_37 rfl (lv_at hl 1 rfl) ?_
      refine lv_iload_n hx hb dX10_isInStep_38 rfl (lv_at hl 2 rfl) ?_
      refine lv_iload_n hx hb dX10_isInStep_39 rfl (lv_at hl 3 rfl) ?_
      obtain ⟨v11, hv11, hf⟩ := g_s1 hf
      refine g_ki S (g_runV (rest := []) X S (c_X10_end l hN  hv11 _) cvX10_end mlX10_71 (by omega) (ceM_10 _) rfl rfl rfl hl.1 (Nat.le_of_ble_eq_true rfl) ⟨⟨rfl, rfl⟩, ⟨Nat.le_of_ble_eq_true rfl, Nat.le_of_ble_eq_true rfl⟩, Nat.le_of_ble_eq_true rfl, Nat.le_of_ble_eq_true rfl⟩ dX10_isInStep_40) (fun H locs S => ?_)
      refine lv_aload_n hx hb dX10_isInStep_43 rfl (lv_at hl 1 rfl) ?_
      refine lv_iconst (v := (1 : Int32)) hx hb dX10_isInStep_44 (by decide) ?_
      refine lv_iload_n hx hb dX10_isInStep_45 rfl (lv_at hl 2 rfl) ?_
      refine lv_isub hx hb dX10_isInStep_46 ?_
      refine lv_iload_n hx hb dX10_isInStep_47 rfl (lv_at hl 0 rfl) ?_
      obtain ⟨v12, hv12, hf⟩ := g_s1 hf
      refine g_ki S (g_runV (rest := [.int v11]) X S (c_X10_end l hN  hv12 _) cvX10_end mlX10_71 (by omega) (ceM_10 _) rfl rfl rfl hl.1 (Nat.le_of_ble_eq_true rfl) ⟨⟨rfl, rfl⟩, ⟨Nat.le_of_ble_eq_true rfl, Nat.le_of_ble_eq_true rfl⟩, Nat.le_of_ble_eq_true rfl, Nat.le_of_ble_eq_true rfl⟩ dX10_isInStep_48) (fun H locs S => ?_)
      obtain ⟨v13, hv13, hf⟩ := g_s1 hf
      refine g_ki S (g_runS (rest := []) X S (c_X10_far l hN  hv13 _) csX10_far mlX10_97 rfl rfl hl.1 (Nat.le_of_ble_eq_true rfl) ⟨⟨rfl, rfl⟩, ⟨Nat.le_of_ble_eq_true rfl, Nat.le_of_ble_eq_true rfl⟩, Nat.le_of_ble_eq_true rfl, Nat.le_of_ble_eq_true rfl⟩ dX10_isInStep_51) (fun H locs S => ?_)
      refine lv_aload_n hx hb dX10_isInStep_54 rfl (lv_at hl 1 rfl) ?_
      refine gfX10_7 X S hN dX10_isInStep_55 ?_
      refine lv_iconst (v := (5 : Int32)) hx hb dX10_isInStep_58 (by decide) ?_
      refine g_ialdC X S (by omega) (ceM_a (rfl : gma 1 = true)) 5 (by decide) (by decide) dX10_isInStep_59 ?_
      refine lv_icmp_gt (tgt := 67) hx hb dX10_isInStep_60 (by decide) (fun c14 => ?_) (fun c14 => ?_)
      · have hf := (if_pos c14).symm.trans hf
        refine lv_iconst (v := (0 : Int32)) hx hb dX10_isInStep_67 (by decide) ?_
        cases hf
        exact J4 _ _ _ S (lv_sub hl [] rfl)
      · have hf := (if_neg c14).symm.trans hf
        refine lv_iconst (v := (1 : Int32)) hx hb dX10_isInStep_63 (by decide) ?_
        refine lv_goto (tgt := 68) hx hb dX10_isInStep_64 (by decide) ?_
        cases hf
        exact J4 _ _ _ S (lv_sub hl [] rfl)

noncomputable def f_X10_before (σ : gSt) (a0 : Int32) (a1 : Int32) : Option (Int32) :=
  (g_k1 (f_X10_first σ a0 a1) fun v1 => (g_k1 (f_X10_end σ a0 (a1 - (1 : Int32))) fun v2 => some (v1 - v2)))
set_option maxRecDepth 100000 in
set_option maxHeartbeats 4000000 in
theorem c_X10_before (l : Launch) {Γ : gG} {ad : Nat → Nat} {N : Nat} (hN : 8 ≤ N) {σ : gSt} {a0 : Int32} {a1 : Int32}  {r : Int32} (hf : f_X10_before σ a0 a1 = some r) : gMi l celM Γ ad N yX10_before cX10_before 3 (some .int) (gR 3 0 0) [.ref (ad 0), .int a0, .int a1] σ r σ := by
  intro sz
  refine gOf (Qc := fun sz => gQci celM Γ ad N r σ sz) RX10 (by decide) rfl (Nat.le_of_ble_eq_true rfl) (fun p e s m args below meth c H locs ls X S hl => ?_)
  have hl : lv_has ls 3 [(0, .ref (ad 0)), (1, .int a0), (2, .int a1)] := hl
  have hx := X.1
  have hb := X.2.1
  unfold f_X10_before at hf
  refine lv_aload_n hx hb dX10_before_0 rfl (lv_at hl 0 rfl) ?_
  refine lv_iload_n hx hb dX10_before_1 rfl (lv_at hl 1 rfl) ?_
  refine lv_iload_n hx hb dX10_before_2 rfl (lv_at hl 2 rfl) ?_
  obtain ⟨v1, hv1, hf⟩ := g_s1 hf
  refine g_ki S (g_runV (rest := []) X S (c_X10_first l hN  hv1 _) cvX10_first mlX10_113 (by omega) (ceM_10 _) rfl rfl rfl hl.1 (Nat.le_of_ble_eq_true rfl) ⟨⟨rfl, rfl⟩, ⟨Nat.le_of_ble_eq_true rfl, Nat.le_of_ble_eq_true rfl⟩, Nat.le_of_ble_eq_true rfl, Nat.le_of_ble_eq_true rfl⟩ dX10_before_3) (fun H locs S => ?_)
  refine lv_aload_n hx hb dX10_before_6 rfl (lv_at hl 0 rfl) ?_
  refine lv_iload_n hx hb dX10_before_7 rfl (lv_at hl 1 rfl) ?_
  refine lv_iload_n hx hb dX10_before_8 rfl (lv_at hl 2 rfl) ?_
  refine lv_iconst (v := (1 : Int32)) hx hb dX10_before_9 (by decide) ?_
  refine lv_isub hx hb dX10_before_10 ?_
  obtain ⟨v2, hv2, hf⟩ := g_s1 hf
  refine g_ki S (g_runV (rest := [.int v1]) X S (c_X10_end l hN  hv2 _) cvX10_end mlX10_71 (by omega) (ceM_10 _) rfl rfl rfl hl.1 (Nat.le_of_ble_eq_true rfl) ⟨⟨rfl, rfl⟩, ⟨Nat.le_of_ble_eq_true rfl, Nat.le_of_ble_eq_true rfl⟩, Nat.le_of_ble_eq_true rfl, Nat.le_of_ble_eq_true rfl⟩ dX10_before_11) (fun H locs S => ?_)
  refine lv_isub hx hb dX10_before_14 ?_
  cases hf
  exact g_reti X S rfl dX10_before_15

noncomputable def f_X10_problems (σ : gSt) (a0 : Int32) (a1 : Int32) : Option (Int32) :=
  (g_k1 (f_X10_end σ a0 a1) fun v1 => (g_k1 (f_X10_first σ a0 a1) fun v2 => (g_k1 (f_X10_needs σ a0 a1) fun v3 => (g_k1 (if v3 ≤ (v1 - v2) then some (0 : Int32) else some (1 : Int32)) fun x4 => (g_k1 (f_X10_first σ a0 a1) fun v7 => (g_k1 (f_X10_isLoose σ v7) fun v8 => (g_k1 (if v8 = 0 then some (0 : Int32) else some (2 : Int32)) fun x9 => (g_k1 (f_X10_end σ a0 a1) fun v12 => (g_k1 (f_X10_isLoose σ v12) fun v13 => (g_k1 (if v13 = 0 then some (0 : Int32) else some (4 : Int32)) fun x14 => (g_k1 (if a1 ≤ 0 then some (0 : Int32) else (g_k1 (f_X10_before σ a0 a1) fun v34 => (g_k1 (f_X10_in σ v34 (1 : Int32) ((σ 1 3) - (1 : Int32))) fun v35 => (if v35 = 0 then some (0 : Int32) else some (8 : Int32))))) fun x17 => (g_k1 (f_X10_longest σ a0 a1) fun v20 => (g_k1 (if v20 ≤ (σ 1 6) then some (0 : Int32) else some (16 : Int32)) fun x21 => (g_k1 (f_X10_at σ a0 a1 (2 : Int32)) fun v24 => (g_k1 (gald σ 1 926 v24) fun v25 => (g_k1 (if v25 = (1 : Int32) then some (0 : Int32) else (g_k1 (f_X10_isInStep σ a0 a1) fun v30 => (if v30 = 0 then some (32 : Int32) else some (0 : Int32)))) fun x26 => some (((((x4 + x9) + x14) + x17) + x21) + x26)))))))))))))))))
set_option maxRecDepth 100000 in
set_option maxHeartbeats 4000000 in
theorem c_X10_problems (l : Launch) {Γ : gG} {ad : Nat → Nat} {N : Nat} (hN : 8 ≤ N) {σ : gSt} {a0 : Int32} {a1 : Int32}  {r : Int32} (hf : f_X10_problems σ a0 a1 = some r) : gMi l celM Γ ad N yX10_problems cX10_problems 4 (some .int) (gR 6 0 0) [.ref (ad 0), .int a0, .int a1] σ r σ := by
  intro sz
  refine gOf (Qc := fun sz => gQci celM Γ ad N r σ sz) RX10 (by decide) rfl (Nat.le_of_ble_eq_true rfl) (fun p e s m args below meth c H locs ls X S hl => ?_)
  have hl : lv_has ls 4 [(0, .ref (ad 0)), (1, .int a0), (2, .int a1)] := hl
  have hx := X.1
  have hb := X.2.1
  unfold f_X10_problems at hf
  refine lv_aload_n hx hb dX10_problems_0 rfl (lv_at hl 0 rfl) ?_
  refine lv_iload_n hx hb dX10_problems_1 rfl (lv_at hl 1 rfl) ?_
  refine lv_iload_n hx hb dX10_problems_2 rfl (lv_at hl 2 rfl) ?_
  obtain ⟨v1, hv1, hf⟩ := g_s1 hf
  refine g_ki S (g_runV (rest := []) X S (c_X10_end l hN  hv1 _) cvX10_end mlX10_71 (by omega) (ceM_10 _) rfl rfl rfl hl.1 (Nat.le_of_ble_eq_true rfl) ⟨⟨rfl, rfl⟩, ⟨Nat.le_of_ble_eq_true rfl, Nat.le_of_ble_eq_true rfl⟩, Nat.le_of_ble_eq_true rfl, Nat.le_of_ble_eq_true rfl⟩ dX10_problems_3) (fun H locs S => ?_)
  refine lv_aload_n hx hb dX10_problems_6 rfl (lv_at hl 0 rfl) ?_
  refine lv_iload_n hx hb dX10_problems_7 rfl (lv_at hl 1 rfl) ?_
  refine lv_iload_n hx hb dX10_problems_8 rfl (lv_at hl 2 rfl) ?_
  obtain ⟨v2, hv2, hf⟩ := g_s1 hf
  refine g_ki S (g_runV (rest := [.int v1]) X S (c_X10_first l hN  hv2 _) cvX10_first mlX10_113 (by omega) (ceM_10 _) rfl rfl rfl hl.1 (Nat.le_of_ble_eq_true rfl) ⟨⟨rfl, rfl⟩, ⟨Nat.le_of_ble_eq_true rfl, Nat.le_of_ble_eq_true rfl⟩, Nat.le_of_ble_eq_true rfl, Nat.le_of_ble_eq_true rfl⟩ dX10_problems_9) (fun H locs S => ?_)
  refine lv_isub hx hb dX10_problems_12 ?_
  refine lv_aload_n hx hb dX10_problems_13 rfl (lv_at hl 0 rfl) ?_
  refine lv_iload_n hx hb dX10_problems_14 rfl (lv_at hl 1 rfl) ?_
  refine lv_iload_n hx hb dX10_problems_15 rfl (lv_at hl 2 rfl) ?_
  obtain ⟨v3, hv3, hf⟩ := g_s1 hf
  refine g_ki S (g_runV (rest := [.int (v1 - v2)]) X S (c_X10_needs l hN  hv3 _) cvX10_needs mlX10_122 (by omega) (ceM_10 _) rfl rfl rfl hl.1 (Nat.le_of_ble_eq_true rfl) ⟨⟨rfl, rfl⟩, ⟨Nat.le_of_ble_eq_true rfl, Nat.le_of_ble_eq_true rfl⟩, Nat.le_of_ble_eq_true rfl, Nat.le_of_ble_eq_true rfl⟩ dX10_problems_16) (fun H locs S => ?_)
  obtain ⟨x4, hr5, hf⟩ := g_s1 hf
  have J6 : ∀ (H : Heap) (locs : List Loc) (ls : Array Slot), gS celM Γ ad N σ s H locs → lv_has ls 4 [(0, .ref (ad 0)), (1, .int a0), (2, .int a1)] → W p l e (gR 6 0 0) s m args below meth c H locs 0 0 (gQi celM Γ ad N r σ below args s) (F0 m 27 ls [.int x4]) := by
    intro H locs ls S hl
    refine lv_istore_n (lv' := [(3, .int x4), (0, .ref (ad 0)), (1, .int a0), (2, .int a1)]) hx hb dX10_problems_27 rfl hl (by decide) rfl (fun ls hl => ?_)
    refine lv_iload_n hx hb dX10_problems_28 rfl (lv_at hl 0 rfl) ?_
    refine lv_aload_n hx hb dX10_problems_29 rfl (lv_at hl 1 rfl) ?_
    refine lv_aload_n hx hb dX10_problems_30 rfl (lv_at hl 1 rfl) ?_
    refine lv_iload_n hx hb dX10_problems_31 rfl (lv_at hl 2 rfl) ?_
    refine lv_iload_n hx hb dX10_problems_32 rfl (lv_at hl 3 rfl) ?_
    obtain ⟨v7, hv7, hf⟩ := g_s1 hf
    refine g_ki S (g_runV (rest := [.ref (ad 0), .int x4]) X S (c_X10_first l hN  hv7 _) cvX10_first mlX10_113 (by omega) (ceM_10 _) rfl rfl rfl hl.1 (Nat.le_of_ble_eq_true rfl) ⟨⟨rfl, rfl⟩, ⟨Nat.le_of_ble_eq_true rfl, Nat.le_of_ble_eq_true rfl⟩, Nat.le_of_ble_eq_true rfl, Nat.le_of_ble_eq_true rfl⟩ dX10_problems_33) (fun H locs S => ?_)
    obtain ⟨v8, hv8, hf⟩ := g_s1 hf
    refine g_ki S (g_runV (rest := [.int x4]) X S (c_X10_isLoose l hN  hv8 _) cvX10_isLoose mlX10_125 (by omega) (ceM_10 _) rfl rfl rfl hl.1 (Nat.le_of_ble_eq_true rfl) ⟨⟨rfl, rfl⟩, ⟨Nat.le_of_ble_eq_true rfl, Nat.le_of_ble_eq_true rfl⟩, Nat.le_of_ble_eq_true rfl, Nat.le_of_ble_eq_true rfl⟩ dX10_problems_36) (fun H locs S => ?_)
    obtain ⟨x9, hr10, hf⟩ := g_s1 hf
    have J11 : ∀ (H : Heap) (locs : List Loc) (ls : Array Slot), gS celM Γ ad N σ s H locs → lv_has ls 4 [(0, .ref (ad 0)), (1, .int a0), (2, .int a1)] → W p l e (gR 6 0 0) s m args below meth c H locs 0 0 (gQi celM Γ ad N r σ below args s) (F0 m 47 ls [.int x9, .int x4]) := by
      intro H locs ls S hl
      refine lv_iadd hx hb dX10_problems_47 ?_
      refine lv_istore_n (lv' := [(3, .int (x4 + x9)), (0, .ref (ad 0)), (1, .int a0), (2, .int a1)]) hx hb dX10_problems_48 rfl hl (by decide) rfl (fun ls hl => ?_)
      refine lv_iload_n hx hb dX10_problems_49 rfl (lv_at hl 0 rfl) ?_
      refine lv_aload_n hx hb dX10_problems_50 rfl (lv_at hl 1 rfl) ?_
      refine lv_aload_n hx hb dX10_problems_51 rfl (lv_at hl 1 rfl) ?_
      refine lv_iload_n hx hb dX10_problems_52 rfl (lv_at hl 2 rfl) ?_
      refine lv_iload_n hx hb dX10_problems_53 rfl (lv_at hl 3 rfl) ?_
      obtain ⟨v12, hv12, hf⟩ := g_s1 hf
      refine g_ki S (g_runV (rest := [.ref (ad 0), .int (x4 + x9)]) X S (c_X10_end l hN  hv12 _) cvX10_end mlX10_71 (by omega) (ceM_10 _) rfl rfl rfl hl.1 (Nat.le_of_ble_eq_true rfl) ⟨⟨rfl, rfl⟩, ⟨Nat.le_of_ble_eq_true rfl, Nat.le_of_ble_eq_true rfl⟩, Nat.le_of_ble_eq_true rfl, Nat.le_of_ble_eq_true rfl⟩ dX10_problems_54) (fun H locs S => ?_)
      obtain ⟨v13, hv13, hf⟩ := g_s1 hf
      refine g_ki S (g_runV (rest := [.int (x4 + x9)]) X S (c_X10_isLoose l hN  hv13 _) cvX10_isLoose mlX10_125 (by omega) (ceM_10 _) rfl rfl rfl hl.1 (Nat.le_of_ble_eq_true rfl) ⟨⟨rfl, rfl⟩, ⟨Nat.le_of_ble_eq_true rfl, Nat.le_of_ble_eq_true rfl⟩, Nat.le_of_ble_eq_true rfl, Nat.le_of_ble_eq_true rfl⟩ dX10_problems_57) (fun H locs S => ?_)
      obtain ⟨x14, hr15, hf⟩ := g_s1 hf
      have J16 : ∀ (H : Heap) (locs : List Loc) (ls : Array Slot), gS celM Γ ad N σ s H locs → lv_has ls 4 [(0, .ref (ad 0)), (1, .int a0), (2, .int a1)] → W p l e (gR 6 0 0) s m args below meth c H locs 0 0 (gQi celM Γ ad N r σ below args s) (F0 m 68 ls [.int x14, .int (x4 + x9)]) := by
        intro H locs ls S hl
        refine lv_iadd hx hb dX10_problems_68 ?_
        refine lv_istore_n (lv' := [(3, .int ((x4 + x9) + x14)), (0, .ref (ad 0)), (1, .int a0), (2, .int a1)]) hx hb dX10_problems_69 rfl hl (by decide) rfl (fun ls hl => ?_)
        refine lv_iload_n hx hb dX10_problems_70 rfl (lv_at hl 0 rfl) ?_
        refine lv_iload_n hx hb dX10_problems_71 rfl (lv_at hl 3 rfl) ?_
        obtain ⟨x17, hr18, hf⟩ := g_s1 hf
        have J19 : ∀ (H : Heap) (locs : List Loc) (ls : Array Slot), gS celM Γ ad N σ s H locs → lv_has ls 4 [(0, .ref (ad 0)), (1, .int a0), (2, .int a1)] → W p l e (gR 6 0 0) s m args below meth c H locs 0 0 (gQi celM Γ ad N r σ below args s) (F0 m 102 ls [.int x17, .int ((x4 + x9) + x14)]) := by
          intro H locs ls S hl
          refine lv_iadd hx hb dX10_problems_102 ?_
          refine lv_istore_n (lv' := [(3, .int (((x4 + x9) + x14) + x17)), (0, .ref (ad 0)), (1, .int a0), (2, .int a1)]) hx hb dX10_problems_103 rfl hl (by decide) rfl (fun ls hl => ?_)
          refine lv_iload_n hx hb dX10_problems_104 rfl (lv_at hl 0 rfl) ?_
          refine lv_aload_n hx hb dX10_problems_105 rfl (lv_at hl 1 rfl) ?_
          refine lv_iload_n hx hb dX10_problems_106 rfl (lv_at hl 2 rfl) ?_
          refine lv_iload_n hx hb dX10_problems_107 rfl (lv_at hl 3 rfl) ?_
          obtain ⟨v20, hv20, hf⟩ := g_s1 hf
          refine g_ki S (g_runV (rest := [.int (((x4 + x9) + x14) + x17)]) X S (c_X10_longest l hN  hv20 _) cvX10_longest mlX10_131 (by omega) (ceM_10 _) rfl rfl rfl hl.1 (Nat.le_of_ble_eq_true rfl) ⟨⟨rfl, rfl⟩, ⟨Nat.le_of_ble_eq_true rfl, Nat.le_of_ble_eq_true rfl⟩, Nat.le_of_ble_eq_true rfl, Nat.le_of_ble_eq_true rfl⟩ dX10_problems_108) (fun H locs S => ?_)
          refine lv_aload_n hx hb dX10_problems_111 rfl (lv_at hl 1 rfl) ?_
          refine gfX10_7 X S hN dX10_problems_112 ?_
          refine lv_bipush (v := (6 : Int32)) hx hb dX10_problems_115 (by decide) ?_
          refine g_ialdC X S (by omega) (ceM_a (rfl : gma 1 = true)) 6 (by decide) (by decide) dX10_problems_117 ?_
          obtain ⟨x21, hr22, hf⟩ := g_s1 hf
          have J23 : ∀ (H : Heap) (locs : List Loc) (ls : Array Slot), gS celM Γ ad N σ s H locs → lv_has ls 4 [(0, .ref (ad 0)), (1, .int a0), (2, .int a1)] → W p l e (gR 6 0 0) s m args below meth c H locs 0 0 (gQi celM Γ ad N r σ below args s) (F0 m 127 ls [.int x21, .int (((x4 + x9) + x14) + x17)]) := by
            intro H locs ls S hl
            refine lv_iadd hx hb dX10_problems_127 ?_
            refine lv_istore_n (lv' := [(3, .int ((((x4 + x9) + x14) + x17) + x21)), (0, .ref (ad 0)), (1, .int a0), (2, .int a1)]) hx hb dX10_problems_128 rfl hl (by decide) rfl (fun ls hl => ?_)
            refine lv_iload_n hx hb dX10_problems_129 rfl (lv_at hl 0 rfl) ?_
            refine lv_aload_n hx hb dX10_problems_130 rfl (lv_at hl 1 rfl) ?_
            refine gfX10_7 X S hN dX10_problems_131 ?_
            refine lv_iload_n hx hb dX10_problems_134 rfl (lv_at hl 2 rfl) ?_
            refine lv_iload_n hx hb dX10_problems_135 rfl (lv_at hl 3 rfl) ?_
            refine lv_iconst (v := (2 : Int32)) hx hb dX10_problems_136 (by decide) ?_
            obtain ⟨v24, hv24, hf⟩ := g_s1 hf
            refine g_ki S (g_runS (rest := [.ref (ad 1), .int ((((x4 + x9) + x14) + x17) + x21)]) X S (c_X10_at l hN  hv24 _) csX10_at mlX10_56 rfl rfl hl.1 (Nat.le_of_ble_eq_true rfl) ⟨⟨rfl, rfl⟩, ⟨Nat.le_of_ble_eq_true rfl, Nat.le_of_ble_eq_true rfl⟩, Nat.le_of_ble_eq_true rfl, Nat.le_of_ble_eq_true rfl⟩ dX10_problems_137) (fun H locs S => ?_)
            obtain ⟨v25, hv25, hf⟩ := g_s1 hf
            refine g_iald X S (by omega) (ceM_a (rfl : gma 1 = true)) hv25 dX10_problems_140 ?_
            refine lv_iconst (v := (1 : Int32)) hx hb dX10_problems_141 (by decide) ?_
            obtain ⟨x26, hr27, hf⟩ := g_s1 hf
            have J28 : ∀ (H : Heap) (locs : List Loc) (ls : Array Slot), gS celM Γ ad N σ s H locs → lv_has ls 4 [] → W p l e (gR 6 0 0) s m args below meth c H locs 0 0 (gQi celM Γ ad N r σ below args s) (F0 m 160 ls [.int x26, .int ((((x4 + x9) + x14) + x17) + x21)]) := by
              intro H locs ls S hl
              refine lv_iadd hx hb dX10_problems_160 ?_
              cases hf
              exact g_reti X S rfl dX10_problems_161
            replace hf := hr27
            refine lv_icmp_eq (tgt := 159) hx hb dX10_problems_142 (by decide) (fun c29 => ?_) (fun c29 => ?_)
            · have hf := (if_pos c29).symm.trans hf
              refine lv_iconst (v := (0 : Int32)) hx hb dX10_problems_159 (by decide) ?_
              cases hf
              exact J28 _ _ _ S (lv_sub hl [] rfl)
            · have hf := (if_neg c29).symm.trans hf
              refine lv_aload_n hx hb dX10_problems_145 rfl (lv_at hl 1 rfl) ?_
              refine lv_iload_n hx hb dX10_problems_146 rfl (lv_at hl 2 rfl) ?_
              refine lv_iload_n hx hb dX10_problems_147 rfl (lv_at hl 3 rfl) ?_
              obtain ⟨v30, hv30, hf⟩ := g_s1 hf
              refine g_ki S (g_runV (rest := [.int ((((x4 + x9) + x14) + x17) + x21)]) X S (c_X10_isInStep l hN  hv30 _) cvX10_isInStep mlX10_134 (by omega) (ceM_10 _) rfl rfl rfl hl.1 (Nat.le_of_ble_eq_true rfl) ⟨⟨rfl, rfl⟩, ⟨Nat.le_of_ble_eq_true rfl, Nat.le_of_ble_eq_true rfl⟩, Nat.le_of_ble_eq_true rfl, Nat.le_of_ble_eq_true rfl⟩ dX10_problems_148) (fun H locs S => ?_)
              refine lv_if_ne (tgt := 159) hx hb dX10_problems_151 (by decide) (fun c31 => ?_) (fun c31 => ?_)
              · have hf := (if_neg c31).symm.trans hf
                refine lv_iconst (v := (0 : Int32)) hx hb dX10_problems_159 (by decide) ?_
                cases hf
                exact J28 _ _ _ S (lv_sub hl [] rfl)
              · have hf := (if_pos c31).symm.trans hf
                refine lv_bipush (v := (32 : Int32)) hx hb dX10_problems_154 (by decide) ?_
                refine lv_goto (tgt := 160) hx hb dX10_problems_156 (by decide) ?_
                cases hf
                exact J28 _ _ _ S (lv_sub hl [] rfl)
          replace hf := hr22
          refine lv_icmp_le (tgt := 126) hx hb dX10_problems_118 (by decide) (fun c32 => ?_) (fun c32 => ?_)
          · have hf := (if_pos c32).symm.trans hf
            refine lv_iconst (v := (0 : Int32)) hx hb dX10_problems_126 (by decide) ?_
            cases hf
            exact J23 _ _ _ S (lv_sub hl [1, 2, 3] rfl)
          · have hf := (if_neg c32).symm.trans hf
            refine lv_bipush (v := (16 : Int32)) hx hb dX10_problems_121 (by decide) ?_
            refine lv_goto (tgt := 127) hx hb dX10_problems_123 (by decide) ?_
            cases hf
            exact J23 _ _ _ S (lv_sub hl [1, 2, 3] rfl)
        replace hf := hr18
        refine lv_if_le (tgt := 101) hx hb dX10_problems_72 (by decide) (fun c33 => ?_) (fun c33 => ?_)
        · have hf := (if_pos c33).symm.trans hf
          refine lv_iconst (v := (0 : Int32)) hx hb dX10_problems_101 (by decide) ?_
          cases hf
          exact J19 _ _ _ S (lv_sub hl [1, 2, 3] rfl)
        · have hf := (if_neg c33).symm.trans hf
          refine lv_aload_n hx hb dX10_problems_75 rfl (lv_at hl 1 rfl) ?_
          refine lv_iload_n hx hb dX10_problems_76 rfl (lv_at hl 2 rfl) ?_
          refine lv_iload_n hx hb dX10_problems_77 rfl (lv_at hl 3 rfl) ?_
          obtain ⟨v34, hv34, hf⟩ := g_s1 hf
          refine g_ki S (g_runV (rest := [.int ((x4 + x9) + x14)]) X S (c_X10_before l hN  hv34 _) cvX10_before mlX10_128 (by omega) (ceM_10 _) rfl rfl rfl hl.1 (Nat.le_of_ble_eq_true rfl) ⟨⟨rfl, rfl⟩, ⟨Nat.le_of_ble_eq_true rfl, Nat.le_of_ble_eq_true rfl⟩, Nat.le_of_ble_eq_true rfl, Nat.le_of_ble_eq_true rfl⟩ dX10_problems_78) (fun H locs S => ?_)
          refine lv_iconst (v := (1 : Int32)) hx hb dX10_problems_81 (by decide) ?_
          refine lv_aload_n hx hb dX10_problems_82 rfl (lv_at hl 1 rfl) ?_
          refine gfX10_7 X S hN dX10_problems_83 ?_
          refine lv_iconst (v := (3 : Int32)) hx hb dX10_problems_86 (by decide) ?_
          refine g_ialdC X S (by omega) (ceM_a (rfl : gma 1 = true)) 3 (by decide) (by decide) dX10_problems_87 ?_
          refine lv_iconst (v := (1 : Int32)) hx hb dX10_problems_88 (by decide) ?_
          refine lv_isub hx hb dX10_problems_89 ?_
          obtain ⟨v35, hv35, hf⟩ := g_s1 hf
          refine g_ki S (g_runS (rest := [.int ((x4 + x9) + x14)]) X S (c_X10_in l hN  hv35 _) csX10_in mlX10_48 rfl rfl hl.1 (Nat.le_of_ble_eq_true rfl) ⟨⟨rfl, rfl⟩, ⟨Nat.le_of_ble_eq_true rfl, Nat.le_of_ble_eq_true rfl⟩, Nat.le_of_ble_eq_true rfl, Nat.le_of_ble_eq_true rfl⟩ dX10_problems_90) (fun H locs S => ?_)
          refine lv_if_eq (tgt := 101) hx hb dX10_problems_93 (by decide) (fun c36 => ?_) (fun c36 => ?_)
          · have hf := (if_pos c36).symm.trans hf
            refine lv_iconst (v := (0 : Int32)) hx hb dX10_problems_101 (by decide) ?_
            cases hf
            exact J19 _ _ _ S (lv_sub hl [1, 2, 3] rfl)
          · have hf := (if_neg c36).symm.trans hf
            refine lv_bipush (v := (8 : Int32)) hx hb dX10_problems_96 (by decide) ?_
            refine lv_goto (tgt := 102) hx hb dX10_problems_98 (by decide) ?_
            cases hf
            exact J19 _ _ _ S (lv_sub hl [1, 2, 3] rfl)
      replace hf := hr15
      refine lv_if_eq (tgt := 67) hx hb dX10_problems_60 (by decide) (fun c37 => ?_) (fun c37 => ?_)
      · have hf := (if_pos c37).symm.trans hf
        refine lv_iconst (v := (0 : Int32)) hx hb dX10_problems_67 (by decide) ?_
        cases hf
        exact J16 _ _ _ S (lv_sub hl [1, 2, 3] rfl)
      · have hf := (if_neg c37).symm.trans hf
        refine lv_iconst (v := (4 : Int32)) hx hb dX10_problems_63 (by decide) ?_
        refine lv_goto (tgt := 68) hx hb dX10_problems_64 (by decide) ?_
        cases hf
        exact J16 _ _ _ S (lv_sub hl [1, 2, 3] rfl)
    replace hf := hr10
    refine lv_if_eq (tgt := 46) hx hb dX10_problems_39 (by decide) (fun c38 => ?_) (fun c38 => ?_)
    · have hf := (if_pos c38).symm.trans hf
      refine lv_iconst (v := (0 : Int32)) hx hb dX10_problems_46 (by decide) ?_
      cases hf
      exact J11 _ _ _ S (lv_sub hl [1, 2, 3] rfl)
    · have hf := (if_neg c38).symm.trans hf
      refine lv_iconst (v := (2 : Int32)) hx hb dX10_problems_42 (by decide) ?_
      refine lv_goto (tgt := 47) hx hb dX10_problems_43 (by decide) ?_
      cases hf
      exact J11 _ _ _ S (lv_sub hl [1, 2, 3] rfl)
  replace hf := hr5
  refine lv_icmp_ge (tgt := 26) hx hb dX10_problems_19 (by decide) (fun c39 => ?_) (fun c39 => ?_)
  · have hf := (if_pos c39).symm.trans hf
    refine lv_iconst (v := (0 : Int32)) hx hb dX10_problems_26 (by decide) ?_
    cases hf
    exact J6 _ _ _ S (lv_sub hl [0, 1, 2] rfl)
  · have hf := (if_neg c39).symm.trans hf
    refine lv_iconst (v := (1 : Int32)) hx hb dX10_problems_22 (by decide) ?_
    refine lv_goto (tgt := 27) hx hb dX10_problems_23 (by decide) ?_
    cases hf
    exact J6 _ _ _ S (lv_sub hl [0, 1, 2] rfl)

noncomputable def f_X10_cutsWithin_l1 (σ : gSt) (a0 : Int32) (a1 : Int32) : Nat → Int32 → Int32 → Option (Int32)
  | 0, _, _ => none
  | n + 1, i1, i2 => (if (σ 1 7) ≤ i1 then some i2 else (g_k1 (gald σ 1 926 ((8 : Int32) + i1)) fun v5 => (g_k1 (f_X10_first σ a0 a1) fun v6 => (g_k1 (f_X10_end σ a0 a1) fun v7 => (g_k1 (f_X10_in σ v5 (v6 + (1 : Int32)) (v7 - (1 : Int32))) fun v8 => (g_k1 (if v8 = 0 then some (0 : Int32) else some (1 : Int32)) fun x9 => (f_X10_cutsWithin_l1 σ a0 a1 n (i1 + 1) (i2 + x9))))))))
set_option maxRecDepth 100000 in
set_option maxHeartbeats 4000000 in
theorem w_X10_cutsWithin_l1 {l : Launch} {Γ : gG} {ad : Nat → Nat} {N : Nat} {p : Program} {e : Env} {s : State} {m : MethodId} {args : Array Value} {below : List Frame} {meth : Method} {c : Code} {Q : State → Prop} (hN : 8 ≤ N) (X : gX celM Γ ad N RX10 cX10_cutsWithin 5 (some .int) p s m args meth c) {σ : gSt} {a0 : Int32} {a1 : Int32}  : ∀ (n : Nat) (i1 : Int32) (i2 : Int32) (r3 : Int32), f_X10_cutsWithin_l1 σ a0 a1 n i1 i2 = some r3 → (∀ (H : Heap) (locs : List Loc) (ls : Array Slot), gS celM Γ ad N σ s H locs → lv_has ls 5 [(3, .int r3)] → W p l e (gR 3 0 0) s m args below meth c H locs 0 0 (Q) (F0 m 63 ls [])) → ∀ (H : Heap) (locs : List Loc) (ls : Array Slot), gS celM Γ ad N σ s H locs → lv_has ls 5 [(4, .int i1), (3, .int i2), (0, .ref (ad 0)), (1, .int a0), (2, .int a1)] → W p l e (gR 3 0 0) s m args below meth c H locs 0 0 (Q) (F0 m 5 ls []) := by
  have hx := X.1
  have hb := X.2.1
  intro n
  induction n with
  | zero =>
    intro i1 i2 r3 hf
    cases hf
  | succ n ih =>
    intro i1 i2 r3 hf J H locs ls S hl
    rw [f_X10_cutsWithin_l1] at hf
    refine lv_iload hx hb dX10_cutsWithin_5 (lv_at hl 0 rfl) ?_
    refine lv_aload_n hx hb dX10_cutsWithin_7 rfl (lv_at hl 2 rfl) ?_
    refine gfX10_7 X S hN dX10_cutsWithin_8 ?_
    refine lv_bipush (v := (7 : Int32)) hx hb dX10_cutsWithin_11 (by decide) ?_
    refine g_ialdC X S (by omega) (ceM_a (rfl : gma 1 = true)) 7 (by decide) (by decide) dX10_cutsWithin_13 ?_
    refine lv_icmp_ge (tgt := 63) hx hb dX10_cutsWithin_14 (by decide) (fun c4 => ?_) (fun c4 => ?_)
    · have hf := (if_pos c4).symm.trans hf
      cases hf
      exact J _ _ _ S (lv_sub hl [1] rfl)
    · have hf := (if_neg c4).symm.trans hf
      refine lv_iload_n hx hb dX10_cutsWithin_17 rfl (lv_at hl 1 rfl) ?_
      refine lv_aload_n hx hb dX10_cutsWithin_18 rfl (lv_at hl 2 rfl) ?_
      refine gfX10_7 X S hN dX10_cutsWithin_19 ?_
      refine lv_bipush (v := (8 : Int32)) hx hb dX10_cutsWithin_22 (by decide) ?_
      refine lv_iload hx hb dX10_cutsWithin_24 (lv_at hl 0 rfl) ?_
      refine lv_iadd hx hb dX10_cutsWithin_26 ?_
      obtain ⟨v5, hv5, hf⟩ := g_s1 hf
      refine g_iald X S (by omega) (ceM_a (rfl : gma 1 = true)) hv5 dX10_cutsWithin_27 ?_
      refine lv_aload_n hx hb dX10_cutsWithin_28 rfl (lv_at hl 2 rfl) ?_
      refine lv_iload_n hx hb dX10_cutsWithin_29 rfl (lv_at hl 3 rfl) ?_
      refine lv_iload_n hx hb dX10_cutsWithin_30 rfl (lv_at hl 4 rfl) ?_
      obtain ⟨v6, hv6, hf⟩ := g_s1 hf
      refine g_ki S (g_runV (rest := [.int v5, .int i2]) X S (c_X10_first l hN  hv6 _) cvX10_first mlX10_113 (by omega) (ceM_10 _) rfl rfl rfl hl.1 (Nat.le_of_ble_eq_true rfl) ⟨⟨rfl, rfl⟩, ⟨Nat.le_of_ble_eq_true rfl, Nat.le_of_ble_eq_true rfl⟩, Nat.le_of_ble_eq_true rfl, Nat.le_of_ble_eq_true rfl⟩ dX10_cutsWithin_31) (fun H locs S => ?_)
      refine lv_iconst (v := (1 : Int32)) hx hb dX10_cutsWithin_34 (by decide) ?_
      refine lv_iadd hx hb dX10_cutsWithin_35 ?_
      refine lv_aload_n hx hb dX10_cutsWithin_36 rfl (lv_at hl 2 rfl) ?_
      refine lv_iload_n hx hb dX10_cutsWithin_37 rfl (lv_at hl 3 rfl) ?_
      refine lv_iload_n hx hb dX10_cutsWithin_38 rfl (lv_at hl 4 rfl) ?_
      obtain ⟨v7, hv7, hf⟩ := g_s1 hf
      refine g_ki S (g_runV (rest := [.int (v6 + (1 : Int32)), .int v5, .int i2]) X S (c_X10_end l hN  hv7 _) cvX10_end mlX10_71 (by omega) (ceM_10 _) rfl rfl rfl hl.1 (Nat.le_of_ble_eq_true rfl) ⟨⟨rfl, rfl⟩, ⟨Nat.le_of_ble_eq_true rfl, Nat.le_of_ble_eq_true rfl⟩, Nat.le_of_ble_eq_true rfl, Nat.le_of_ble_eq_true rfl⟩ dX10_cutsWithin_39) (fun H locs S => ?_)
      refine lv_iconst (v := (1 : Int32)) hx hb dX10_cutsWithin_42 (by decide) ?_
      refine lv_isub hx hb dX10_cutsWithin_43 ?_
      obtain ⟨v8, hv8, hf⟩ := g_s1 hf
      refine g_ki S (g_runS (rest := [.int i2]) X S (c_X10_in l hN  hv8 _) csX10_in mlX10_48 rfl rfl hl.1 (Nat.le_of_ble_eq_true rfl) ⟨⟨rfl, rfl⟩, ⟨Nat.le_of_ble_eq_true rfl, Nat.le_of_ble_eq_true rfl⟩, Nat.le_of_ble_eq_true rfl, Nat.le_of_ble_eq_true rfl⟩ dX10_cutsWithin_44) (fun H locs S => ?_)
      obtain ⟨x9, hr10, hf⟩ := g_s1 hf
      have J11 : ∀ (H : Heap) (locs : List Loc) (ls : Array Slot), gS celM Γ ad N σ s H locs → lv_has ls 5 [(4, .int i1), (0, .ref (ad 0)), (1, .int a0), (2, .int a1)] → W p l e (gR 3 0 0) s m args below meth c H locs 0 0 (Q) (F0 m 55 ls [.int x9, .int i2]) := by
        intro H locs ls S hl
        refine lv_iadd hx hb dX10_cutsWithin_55 ?_
        refine lv_istore_n (lv' := [(3, .int (i2 + x9)), (4, .int i1), (0, .ref (ad 0)), (1, .int a0), (2, .int a1)]) hx hb dX10_cutsWithin_56 rfl hl (by decide) rfl (fun ls hl => ?_)
        refine lv_iinc (v := (i1 + 1)) (lv' := [(4, .int (i1 + 1)), (3, .int (i2 + x9)), (0, .ref (ad 0)), (1, .int a0), (2, .int a1)]) hx hb dX10_cutsWithin_57 hl (k := 1) rfl rfl (by decide) rfl (fun ls hl => ?_)
        refine lv_goto (tgt := 5) hx hb dX10_cutsWithin_60 (by decide) ?_
        exact ih _ _ _  hf J _ _ _ S (lv_sub hl [0, 1, 2, 3, 4] rfl)
      replace hf := hr10
      refine lv_if_eq (tgt := 54) hx hb dX10_cutsWithin_47 (by decide) (fun c12 => ?_) (fun c12 => ?_)
      · have hf := (if_pos c12).symm.trans hf
        refine lv_iconst (v := (0 : Int32)) hx hb dX10_cutsWithin_54 (by decide) ?_
        cases hf
        exact J11 _ _ _ S (lv_sub hl [0, 2, 3, 4] rfl)
      · have hf := (if_neg c12).symm.trans hf
        refine lv_iconst (v := (1 : Int32)) hx hb dX10_cutsWithin_50 (by decide) ?_
        refine lv_goto (tgt := 55) hx hb dX10_cutsWithin_51 (by decide) ?_
        cases hf
        exact J11 _ _ _ S (lv_sub hl [0, 2, 3, 4] rfl)
noncomputable def f_X10_cutsWithin (σ : gSt) (a0 : Int32) (a1 : Int32) : Option (Int32) :=
  (g_k1 (f_X10_cutsWithin_l1 σ a0 a1 FU (0 : Int32) (0 : Int32)) fun r3 => some r3)
set_option maxRecDepth 100000 in
set_option maxHeartbeats 4000000 in
theorem c_X10_cutsWithin (l : Launch) {Γ : gG} {ad : Nat → Nat} {N : Nat} (hN : 8 ≤ N) {σ : gSt} {a0 : Int32} {a1 : Int32}  {r : Int32} (hf : f_X10_cutsWithin σ a0 a1 = some r) : gMi l celM Γ ad N yX10_cutsWithin cX10_cutsWithin 5 (some .int) (gR 3 0 0) [.ref (ad 0), .int a0, .int a1] σ r σ := by
  intro sz
  refine gOf (Qc := fun sz => gQci celM Γ ad N r σ sz) RX10 (by decide) rfl (Nat.le_of_ble_eq_true rfl) (fun p e s m args below meth c H locs ls X S hl => ?_)
  have hl : lv_has ls 5 [(0, .ref (ad 0)), (1, .int a0), (2, .int a1)] := hl
  have hx := X.1
  have hb := X.2.1
  unfold f_X10_cutsWithin at hf
  refine lv_iconst (v := (0 : Int32)) hx hb dX10_cutsWithin_0 (by decide) ?_
  refine lv_istore_n (lv' := [(3, .int (0 : Int32)), (0, .ref (ad 0)), (1, .int a0), (2, .int a1)]) hx hb dX10_cutsWithin_1 rfl hl (by decide) rfl (fun ls hl => ?_)
  refine lv_iconst (v := (0 : Int32)) hx hb dX10_cutsWithin_2 (by decide) ?_
  refine lv_istore (lv' := [(4, .int (0 : Int32)), (3, .int (0 : Int32)), (0, .ref (ad 0)), (1, .int a0), (2, .int a1)]) hx hb dX10_cutsWithin_3 hl (by decide) rfl (fun ls hl => ?_)
  obtain ⟨r3, hr13, hf⟩ := g_s1 hf
  refine w_X10_cutsWithin_l1 hN X  FU _ _ _  hr13 (fun H locs ls S hl => ?_) _ _ _ S (lv_sub hl [0, 1, 2, 3, 4] rfl)
  refine lv_iload_n hx hb dX10_cutsWithin_63 rfl (lv_at hl 0 rfl) ?_
  cases hf
  exact g_reti X S rfl dX10_cutsWithin_64

noncomputable def f_X10_feed (σ : gSt) (a0 : Int32) : Option (Int32 × gSt) :=
  (g_k1 (if (σ 0 12) = (60 : Int32) then some (1 : Int32) else some (0 : Int32)) fun x1 => (g_k1 (gset σ 0 10 x1) fun σ4 => (if (σ4 0 10) ≤ 0 then (g_k1 (gast σ4 6 60 (σ4 0 12) a0) fun σ6 => (g_k1 (gset σ6 0 12 ((σ6 0 12) + (1 : Int32))) fun σ7 => some ((σ7 0 12), σ7))) else some ((0 : Int32), σ4))))
set_option maxRecDepth 100000 in
set_option maxHeartbeats 4000000 in
theorem c_X10_feed (l : Launch) {Γ : gG} {ad : Nat → Nat} {N : Nat} (hN : 8 ≤ N) {σ : gSt} {a0 : Int32}  {r : Int32} {σ' : gSt} (hf : f_X10_feed σ a0 = some (r, σ')) : gMi l celM Γ ad N yX10_feed cX10_feed 2 (some .int) (gR 1 0 0) [.ref (ad 0), .int a0] σ r σ' := by
  intro sz
  refine gOf (Qc := fun sz => gQci celM Γ ad N r σ' sz) RX10 (by decide) rfl (Nat.le_of_ble_eq_true rfl) (fun p e s m args below meth c H locs ls X S hl => ?_)
  have hl : lv_has ls 2 [(0, .ref (ad 0)), (1, .int a0)] := hl
  have hx := X.1
  have hb := X.2.1
  unfold f_X10_feed at hf
  refine lv_aload_n hx hb dX10_feed_0 rfl (lv_at hl 0 rfl) ?_
  refine lv_aload_n hx hb dX10_feed_1 rfl (lv_at hl 0 rfl) ?_
  refine gfX10_137 X S hN dX10_feed_2 ?_
  refine lv_bipush (v := (60 : Int32)) hx hb dX10_feed_5 (by decide) ?_
  obtain ⟨x1, hr2, hf⟩ := g_s1 hf
  have J3 : ∀ (H : Heap) (locs : List Loc) (ls : Array Slot), gS celM Γ ad N σ s H locs → lv_has ls 2 [(0, .ref (ad 0)), (1, .int a0)] → W p l e (gR 1 0 0) s m args below meth c H locs 0 0 (gQi celM Γ ad N r σ' below args s) (F0 m 15 ls [.int x1, .ref (ad 0)]) := by
    intro H locs ls S hl
    obtain ⟨σ4, hσ4, hf⟩ := g_s1 hf
    refine pfX10_35 X S hN hσ4 dX10_feed_15 (fun H locs S => ?_)
    refine lv_aload_n hx hb dX10_feed_18 rfl (lv_at hl 0 rfl) ?_
    refine gfX10_35 X S hN dX10_feed_19 ?_
    refine lv_if_le (tgt := 27) hx hb dX10_feed_22 (by decide) (fun c5 => ?_) (fun c5 => ?_)
    · have hf := (if_pos c5).symm.trans hf
      refine lv_aload_n hx hb dX10_feed_27 rfl (lv_at hl 0 rfl) ?_
      refine gfX10_29 X S hN dX10_feed_28 ?_
      refine lv_aload_n hx hb dX10_feed_31 rfl (lv_at hl 0 rfl) ?_
      refine gfX10_137 X S hN dX10_feed_32 ?_
      refine lv_iload_n hx hb dX10_feed_35 rfl (lv_at hl 1 rfl) ?_
      obtain ⟨σ6, hσ6, hf⟩ := g_s1 hf
      refine g_iast X S (by omega) (ceM_a (rfl : gma 6 = true)) hσ6 dX10_feed_36 (fun H locs S => ?_)
      refine lv_aload_n hx hb dX10_feed_37 rfl (lv_at hl 0 rfl) ?_
      refine lv_dup hx hb dX10_feed_38 rfl ?_
      refine gfX10_137 X S hN dX10_feed_39 ?_
      refine lv_iconst (v := (1 : Int32)) hx hb dX10_feed_42 (by decide) ?_
      refine lv_iadd hx hb dX10_feed_43 ?_
      obtain ⟨σ7, hσ7, hf⟩ := g_s1 hf
      refine pfX10_137 X S hN hσ7 dX10_feed_44 (fun H locs S => ?_)
      refine lv_aload_n hx hb dX10_feed_47 rfl (lv_at hl 0 rfl) ?_
      refine gfX10_137 X S hN dX10_feed_48 ?_
      cases hf
      exact g_reti X S rfl dX10_feed_51
    · have hf := (if_neg c5).symm.trans hf
      refine lv_iconst (v := (0 : Int32)) hx hb dX10_feed_25 (by decide) ?_
      cases hf
      exact g_reti X S rfl dX10_feed_26
  replace hf := hr2
  refine lv_icmp_ne (tgt := 14) hx hb dX10_feed_7 (by decide) (fun c8 => ?_) (fun c8 => ?_)
  · have hf := (if_neg c8).symm.trans hf
    refine lv_iconst (v := (0 : Int32)) hx hb dX10_feed_14 (by decide) ?_
    cases hf
    exact J3 _ _ _ S (lv_sub hl [0, 1] rfl)
  · have hf := (if_pos c8).symm.trans hf
    refine lv_iconst (v := (1 : Int32)) hx hb dX10_feed_10 (by decide) ?_
    refine lv_goto (tgt := 15) hx hb dX10_feed_11 (by decide) ?_
    cases hf
    exact J3 _ _ _ S (lv_sub hl [0, 1] rfl)

noncomputable def f_X10_againstPlace_l1 (σ : gSt) (a0 : Int32) (a1 : Int32) (a2 : Int32) (a3 : Int32) : Nat → Int32 → Option (Int32)
  | 0, _ => none
  | n + 1, i4 => (g_k1 (gald σ 1 926 ((28 : Int32) + a0)) fun v5 => (if v5 ≤ i4 then some (0 : Int32) else (if i4 = a1 then (f_X10_againstPlace_l1 σ a0 a1 a2 a3 n (i4 + 1)) else (g_k1 (f_X10_end σ a0 i4) fun v8 => (if v8 ≤ a2 then (f_X10_againstPlace_l1 σ a0 a1 a2 a3 n (i4 + 1)) else (g_k1 (f_X10_first σ a0 i4) fun v10 => (if a3 ≤ v10 then (f_X10_againstPlace_l1 σ a0 a1 a2 a3 n (i4 + 1)) else some (3 : Int32))))))))
set_option maxRecDepth 100000 in
set_option maxHeartbeats 4000000 in
theorem w_X10_againstPlace_l1 {l : Launch} {Γ : gG} {ad : Nat → Nat} {N : Nat} {p : Program} {e : Env} {s : State} {m : MethodId} {args : Array Value} {below : List Frame} {meth : Method} {c : Code} (hN : 8 ≤ N) (X : gX celM Γ ad N RX10 cX10_againstPlace 6 (some .int) p s m args meth c) {σ : gSt} {a0 : Int32} {a1 : Int32} {a2 : Int32} {a3 : Int32}  : ∀ (n : Nat) (i4 : Int32) (r : Int32), f_X10_againstPlace_l1 σ a0 a1 a2 a3 n i4 = some r → ∀ (H : Heap) (locs : List Loc) (ls : Array Slot), gS celM Γ ad N σ s H locs → lv_has ls 6 [(5, .int i4), (0, .ref (ad 0)), (1, .int a0), (2, .int a1), (3, .int a2), (4, .int a3)] → W p l e (gR 3 0 0) s m args below meth c H locs 0 0 (gQi celM Γ ad N r σ below args s) (F0 m 28 ls []) := by
  have hx := X.1
  have hb := X.2.1
  intro n
  induction n with
  | zero =>
    intro i4 r hf
    cases hf
  | succ n ih =>
    intro i4 r hf H locs ls S hl
    rw [f_X10_againstPlace_l1] at hf
    refine lv_iload hx hb dX10_againstPlace_28 (lv_at hl 0 rfl) ?_
    refine lv_aload_n hx hb dX10_againstPlace_30 rfl (lv_at hl 1 rfl) ?_
    refine gfX10_7 X S hN dX10_againstPlace_31 ?_
    refine lv_bipush (v := (28 : Int32)) hx hb dX10_againstPlace_34 (by decide) ?_
    refine lv_iload_n hx hb dX10_againstPlace_36 rfl (lv_at hl 2 rfl) ?_
    refine lv_iadd hx hb dX10_againstPlace_37 ?_
    obtain ⟨v5, hv5, hf⟩ := g_s1 hf
    refine g_iald X S (by omega) (ceM_a (rfl : gma 1 = true)) hv5 dX10_againstPlace_38 ?_
    refine lv_icmp_ge (tgt := 79) hx hb dX10_againstPlace_39 (by decide) (fun c6 => ?_) (fun c6 => ?_)
    · have hf := (if_pos c6).symm.trans hf
      refine lv_iconst (v := (0 : Int32)) hx hb dX10_againstPlace_79 (by decide) ?_
      cases hf
      exact g_reti X S rfl dX10_againstPlace_80
    · have hf := (if_neg c6).symm.trans hf
      refine lv_iload hx hb dX10_againstPlace_42 (lv_at hl 0 rfl) ?_
      refine lv_iload_n hx hb dX10_againstPlace_44 rfl (lv_at hl 3 rfl) ?_
      refine lv_icmp_eq (tgt := 73) hx hb dX10_againstPlace_45 (by decide) (fun c7 => ?_) (fun c7 => ?_)
      · have hf := (if_pos c7).symm.trans hf
        refine lv_iinc (v := (i4 + 1)) (lv' := [(5, .int (i4 + 1)), (0, .ref (ad 0)), (1, .int a0), (2, .int a1), (3, .int a2), (4, .int a3)]) hx hb dX10_againstPlace_73 hl (k := 0) rfl rfl (by decide) rfl (fun ls hl => ?_)
        refine lv_goto (tgt := 28) hx hb dX10_againstPlace_76 (by decide) ?_
        exact ih _ _  hf _ _ _ S (lv_sub hl [0, 1, 2, 3, 4, 5] rfl)
      · have hf := (if_neg c7).symm.trans hf
        refine lv_iload_n hx hb dX10_againstPlace_48 rfl (lv_at hl 4 rfl) ?_
        refine lv_aload_n hx hb dX10_againstPlace_49 rfl (lv_at hl 1 rfl) ?_
        refine lv_iload_n hx hb dX10_againstPlace_50 rfl (lv_at hl 2 rfl) ?_
        refine lv_iload hx hb dX10_againstPlace_51 (lv_at hl 0 rfl) ?_
        obtain ⟨v8, hv8, hf⟩ := g_s1 hf
        refine g_ki S (g_runV (rest := [.int a2]) X S (c_X10_end l hN  hv8 _) cvX10_end mlX10_71 (by omega) (ceM_10 _) rfl rfl rfl hl.1 (Nat.le_of_ble_eq_true rfl) ⟨⟨rfl, rfl⟩, ⟨Nat.le_of_ble_eq_true rfl, Nat.le_of_ble_eq_true rfl⟩, Nat.le_of_ble_eq_true rfl, Nat.le_of_ble_eq_true rfl⟩ dX10_againstPlace_53) (fun H locs S => ?_)
        refine lv_icmp_ge (tgt := 73) hx hb dX10_againstPlace_56 (by decide) (fun c9 => ?_) (fun c9 => ?_)
        · have hf := (if_pos c9).symm.trans hf
          refine lv_iinc (v := (i4 + 1)) (lv' := [(5, .int (i4 + 1)), (0, .ref (ad 0)), (1, .int a0), (2, .int a1), (3, .int a2), (4, .int a3)]) hx hb dX10_againstPlace_73 hl (k := 0) rfl rfl (by decide) rfl (fun ls hl => ?_)
          refine lv_goto (tgt := 28) hx hb dX10_againstPlace_76 (by decide) ?_
          exact ih _ _  hf _ _ _ S (lv_sub hl [0, 1, 2, 3, 4, 5] rfl)
        · have hf := (if_neg c9).symm.trans hf
          refine lv_iload hx hb dX10_againstPlace_59 (lv_at hl 5 rfl) ?_
          refine lv_aload_n hx hb dX10_againstPlace_61 rfl (lv_at hl 1 rfl) ?_
          refine lv_iload_n hx hb dX10_againstPlace_62 rfl (lv_at hl 2 rfl) ?_
          refine lv_iload hx hb dX10_againstPlace_63 (lv_at hl 0 rfl) ?_
          obtain ⟨v10, hv10, hf⟩ := g_s1 hf
          refine g_ki S (g_runV (rest := [.int a3]) X S (c_X10_first l hN  hv10 _) cvX10_first mlX10_113 (by omega) (ceM_10 _) rfl rfl rfl hl.1 (Nat.le_of_ble_eq_true rfl) ⟨⟨rfl, rfl⟩, ⟨Nat.le_of_ble_eq_true rfl, Nat.le_of_ble_eq_true rfl⟩, Nat.le_of_ble_eq_true rfl, Nat.le_of_ble_eq_true rfl⟩ dX10_againstPlace_65) (fun H locs S => ?_)
          refine lv_icmp_le (tgt := 73) hx hb dX10_againstPlace_68 (by decide) (fun c11 => ?_) (fun c11 => ?_)
          · have hf := (if_pos c11).symm.trans hf
            refine lv_iinc (v := (i4 + 1)) (lv' := [(5, .int (i4 + 1)), (0, .ref (ad 0)), (1, .int a0), (2, .int a1), (3, .int a2), (4, .int a3)]) hx hb dX10_againstPlace_73 hl (k := 0) rfl rfl (by decide) rfl (fun ls hl => ?_)
            refine lv_goto (tgt := 28) hx hb dX10_againstPlace_76 (by decide) ?_
            exact ih _ _  hf _ _ _ S (lv_sub hl [0, 1, 2, 3, 4, 5] rfl)
          · have hf := (if_neg c11).symm.trans hf
            refine lv_iconst (v := (3 : Int32)) hx hb dX10_againstPlace_71 (by decide) ?_
            cases hf
            exact g_reti X S rfl dX10_againstPlace_72
noncomputable def f_X10_againstPlace (σ : gSt) (a0 : Int32) (a1 : Int32) (a2 : Int32) (a3 : Int32) : Option (Int32) :=
  (if a2 < 0 then some (1 : Int32) else (if a3 ≤ (σ 1 0) then (if a2 < a3 then (f_X10_againstPlace_l1 σ a0 a1 a2 a3 FU (0 : Int32)) else some (2 : Int32)) else some (1 : Int32)))
set_option maxRecDepth 100000 in
set_option maxHeartbeats 4000000 in
theorem c_X10_againstPlace (l : Launch) {Γ : gG} {ad : Nat → Nat} {N : Nat} (hN : 8 ≤ N) {σ : gSt} {a0 : Int32} {a1 : Int32} {a2 : Int32} {a3 : Int32}  {r : Int32} (hf : f_X10_againstPlace σ a0 a1 a2 a3 = some r) : gMi l celM Γ ad N yX10_againstPlace cX10_againstPlace 6 (some .int) (gR 3 0 0) [.ref (ad 0), .int a0, .int a1, .int a2, .int a3] σ r σ := by
  intro sz
  refine gOf (Qc := fun sz => gQci celM Γ ad N r σ sz) RX10 (by decide) rfl (Nat.le_of_ble_eq_true rfl) (fun p e s m args below meth c H locs ls X S hl => ?_)
  have hl : lv_has ls 6 [(0, .ref (ad 0)), (1, .int a0), (2, .int a1), (3, .int a2), (4, .int a3)] := hl
  have hx := X.1
  have hb := X.2.1
  unfold f_X10_againstPlace at hf
  refine lv_iload_n hx hb dX10_againstPlace_0 rfl (lv_at hl 3 rfl) ?_
  refine lv_if_lt (tgt := 15) hx hb dX10_againstPlace_1 (by decide) (fun c1 => ?_) (fun c1 => ?_)
  · have hf := (if_pos c1).symm.trans hf
    refine lv_iconst (v := (1 : Int32)) hx hb dX10_againstPlace_15 (by decide) ?_
    cases hf
    exact g_reti X S rfl dX10_againstPlace_16
  · have hf := (if_neg c1).symm.trans hf
    refine lv_iload hx hb dX10_againstPlace_4 (lv_at hl 4 rfl) ?_
    refine lv_aload_n hx hb dX10_againstPlace_6 rfl (lv_at hl 0 rfl) ?_
    refine gfX10_7 X S hN dX10_againstPlace_7 ?_
    refine lv_iconst (v := (0 : Int32)) hx hb dX10_againstPlace_10 (by decide) ?_
    refine g_ialdC X S (by omega) (ceM_a (rfl : gma 1 = true)) 0 (by decide) (by decide) dX10_againstPlace_11 ?_
    refine lv_icmp_le (tgt := 17) hx hb dX10_againstPlace_12 (by decide) (fun c2 => ?_) (fun c2 => ?_)
    · have hf := (if_pos c2).symm.trans hf
      refine lv_iload_n hx hb dX10_againstPlace_17 rfl (lv_at hl 3 rfl) ?_
      refine lv_iload hx hb dX10_againstPlace_18 (lv_at hl 4 rfl) ?_
      refine lv_icmp_lt (tgt := 25) hx hb dX10_againstPlace_20 (by decide) (fun c3 => ?_) (fun c3 => ?_)
      · have hf := (if_pos c3).symm.trans hf
        refine lv_iconst (v := (0 : Int32)) hx hb dX10_againstPlace_25 (by decide) ?_
        refine lv_istore (lv' := [(5, .int (0 : Int32)), (0, .ref (ad 0)), (1, .int a0), (2, .int a1), (3, .int a2), (4, .int a3)]) hx hb dX10_againstPlace_26 hl (by decide) rfl (fun ls hl => ?_)
        exact w_X10_againstPlace_l1 hN X  FU _ _  hf _ _ _ S (lv_sub hl [0, 1, 2, 3, 4, 5] rfl)
      · have hf := (if_neg c3).symm.trans hf
        refine lv_iconst (v := (2 : Int32)) hx hb dX10_againstPlace_23 (by decide) ?_
        cases hf
        exact g_reti X S rfl dX10_againstPlace_24
    · have hf := (if_neg c2).symm.trans hf
      refine lv_iconst (v := (1 : Int32)) hx hb dX10_againstPlace_15 (by decide) ?_
      cases hf
      exact g_reti X S rfl dX10_againstPlace_16

