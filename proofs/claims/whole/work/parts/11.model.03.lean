noncomputable def f_X10_againstAdd (σ : gSt) (a0 : Int32) (a1 : Int32) (a2 : Int32) (a3 : Int32) (a4 : Int32) : Option (Int32) :=
  (g_k1 (f_X10_againstPlace σ a0 (-1 : Int32) a1 a2) fun v1 => (g_k1 (if v1 ≤ 0 then (g_k1 (f_X10_isText σ 6 a3 a4) fun v6 => (if v6 = 0 then some (4 : Int32) else (g_k1 (gald σ 1 926 ((28 : Int32) + a0)) fun v8 => (if v8 = (16 : Int32) then some (8 : Int32) else some (0 : Int32))))) else some v1) fun x2 => some x2))
set_option maxRecDepth 100000 in
set_option maxHeartbeats 4000000 in
theorem c_X10_againstAdd (l : Launch) {Γ : gG} {ad : Nat → Nat} {N : Nat} (hN : 8 ≤ N) {σ : gSt} {a0 : Int32} {a1 : Int32} {a2 : Int32} {a3 : Int32} {a4 : Int32}  {r : Int32} (hf : f_X10_againstAdd σ a0 a1 a2 a3 a4 = some r) : gMi l celM Γ ad N yX10_againstAdd cX10_againstAdd 7 (some .int) (gR 4 0 0) [.ref (ad 0), .int a0, .int a1, .int a2, .int a3, .int a4] σ r σ := by
  intro sz
  refine gOf (Qc := fun sz => gQci celM Γ ad N r σ sz) RX10 (by decide) rfl (Nat.le_of_ble_eq_true rfl) (fun p e s m args below meth c H locs ls X S hl => ?_)
  have hl : lv_has ls 7 [(0, .ref (ad 0)), (1, .int a0), (2, .int a1), (3, .int a2), (4, .int a3), (5, .int a4)] := hl
  have hx := X.1
  have hb := X.2.1
  unfold f_X10_againstAdd at hf
  refine lv_aload_n hx hb dX10_againstAdd_0 rfl (lv_at hl 0 rfl) ?_
  refine lv_iload_n hx hb dX10_againstAdd_1 rfl (lv_at hl 1 rfl) ?_
  refine lv_iconst (v := (-1 : Int32)) hx hb dX10_againstAdd_2 (by decide) ?_
  refine lv_iload_n hx hb dX10_againstAdd_3 rfl (lv_at hl 2 rfl) ?_
  refine lv_iload_n hx hb dX10_againstAdd_4 rfl (lv_at hl 3 rfl) ?_
  obtain ⟨v1, hv1, hf⟩ := g_s1 hf
  refine g_ki S (g_runV (rest := []) X S (c_X10_againstPlace l hN  hv1 _) cvX10_againstPlace mlX10_140 (by omega) (ceM_10 _) rfl rfl rfl hl.1 (Nat.le_of_ble_eq_true rfl) ⟨⟨rfl, rfl⟩, ⟨Nat.le_of_ble_eq_true rfl, Nat.le_of_ble_eq_true rfl⟩, Nat.le_of_ble_eq_true rfl, Nat.le_of_ble_eq_true rfl⟩ dX10_againstAdd_5) (fun H locs S => ?_)
  refine lv_istore (lv' := [(6, .int v1), (0, .ref (ad 0)), (1, .int a0), (2, .int a1), (3, .int a2), (4, .int a3), (5, .int a4)]) hx hb dX10_againstAdd_8 hl (by decide) rfl (fun ls hl => ?_)
  refine lv_iload hx hb dX10_againstAdd_10 (lv_at hl 0 rfl) ?_
  obtain ⟨x2, hr3, hf⟩ := g_s1 hf
  have J4 : ∀ (H : Heap) (locs : List Loc) (ls : Array Slot), gS celM Γ ad N σ s H locs → lv_has ls 7 [] → W p l e (gR 4 0 0) s m args below meth c H locs 0 0 (gQi celM Γ ad N r σ below args s) (F0 m 58 ls [.int x2]) := by
    intro H locs ls S hl
    cases hf
    exact g_reti X S rfl dX10_againstAdd_58
  replace hf := hr3
  refine lv_if_le (tgt := 20) hx hb dX10_againstAdd_12 (by decide) (fun c5 => ?_) (fun c5 => ?_)
  · have hf := (if_pos c5).symm.trans hf
    refine lv_aload_n hx hb dX10_againstAdd_20 rfl (lv_at hl 1 rfl) ?_
    refine gfX10_29 X S hN dX10_againstAdd_21 ?_
    refine lv_iload hx hb dX10_againstAdd_24 (lv_at hl 5 rfl) ?_
    refine lv_iload hx hb dX10_againstAdd_26 (lv_at hl 6 rfl) ?_
    obtain ⟨v6, hv6, hf⟩ := g_s1 hf
    refine g_ki S (g_runS (rest := []) X S (c_X10_isText l hN (by rfl : gma 6 = true) hv6 _) csX10_isText mlX10_144 rfl rfl hl.1 (Nat.le_of_ble_eq_true rfl) ⟨⟨rfl, rfl⟩, ⟨Nat.le_of_ble_eq_true rfl, Nat.le_of_ble_eq_true rfl⟩, Nat.le_of_ble_eq_true rfl, Nat.le_of_ble_eq_true rfl⟩ dX10_againstAdd_28) (fun H locs S => ?_)
    refine lv_if_ne (tgt := 38) hx hb dX10_againstAdd_31 (by decide) (fun c7 => ?_) (fun c7 => ?_)
    · have hf := (if_neg c7).symm.trans hf
      refine lv_aload_n hx hb dX10_againstAdd_38 rfl (lv_at hl 1 rfl) ?_
      refine gfX10_7 X S hN dX10_againstAdd_39 ?_
      refine lv_bipush (v := (28 : Int32)) hx hb dX10_againstAdd_42 (by decide) ?_
      refine lv_iload_n hx hb dX10_againstAdd_44 rfl (lv_at hl 2 rfl) ?_
      refine lv_iadd hx hb dX10_againstAdd_45 ?_
      obtain ⟨v8, hv8, hf⟩ := g_s1 hf
      refine g_iald X S (by omega) (ceM_a (rfl : gma 1 = true)) hv8 dX10_againstAdd_46 ?_
      refine lv_bipush (v := (16 : Int32)) hx hb dX10_againstAdd_47 (by decide) ?_
      refine lv_icmp_ne (tgt := 57) hx hb dX10_againstAdd_49 (by decide) (fun c9 => ?_) (fun c9 => ?_)
      · have hf := (if_neg c9).symm.trans hf
        refine lv_iconst (v := (0 : Int32)) hx hb dX10_againstAdd_57 (by decide) ?_
        cases hf
        exact J4 _ _ _ S (lv_sub hl [] rfl)
      · have hf := (if_pos c9).symm.trans hf
        refine lv_bipush (v := (8 : Int32)) hx hb dX10_againstAdd_52 (by decide) ?_
        refine lv_goto (tgt := 58) hx hb dX10_againstAdd_54 (by decide) ?_
        cases hf
        exact J4 _ _ _ S (lv_sub hl [] rfl)
    · have hf := (if_pos c7).symm.trans hf
      refine lv_iconst (v := (4 : Int32)) hx hb dX10_againstAdd_34 (by decide) ?_
      refine lv_goto (tgt := 58) hx hb dX10_againstAdd_35 (by decide) ?_
      cases hf
      exact J4 _ _ _ S (lv_sub hl [] rfl)
  · have hf := (if_neg c5).symm.trans hf
    refine lv_iload hx hb dX10_againstAdd_15 (lv_at hl 0 rfl) ?_
    refine lv_goto (tgt := 58) hx hb dX10_againstAdd_17 (by decide) ?_
    cases hf
    exact J4 _ _ _ S (lv_sub hl [] rfl)

noncomputable def f_X10_puts_l2 (a0 : Int32) (i2 : Int32) (σ3 : gSt) : Nat → Int32 → gSt → Option (gSt)
  | 0, _, _ => none
  | n + 1, i9, σ10 => (if (28 : Int32) ≤ i9 then some σ10 else (g_k1 (f_X10_at σ10 a0 i2 i9) fun v13 => (g_k1 (f_X10_at σ10 a0 (i2 - (1 : Int32)) i9) fun v14 => (g_k1 (gald σ10 1 926 v14) fun v15 => (g_k1 (gast σ10 1 926 v13 v15) fun σ16 => (f_X10_puts_l2 a0 i2 σ3 n (i9 + 1) σ16))))))
set_option maxRecDepth 100000 in
set_option maxHeartbeats 4000000 in
theorem w_X10_puts_l2 {l : Launch} {Γ : gG} {ad : Nat → Nat} {N : Nat} {p : Program} {e : Env} {s : State} {m : MethodId} {args : Array Value} {below : List Frame} {meth : Method} {c : Code} {Q : State → Prop} (hN : 8 ≤ N) (X : gX celM Γ ad N RX10 cX10_puts 4 (some .int) p s m args meth c) {a0 : Int32} {i2 : Int32} {σ3 : gSt}  : ∀ (n : Nat) (i9 : Int32) (σ10 : gSt) (σ11 : gSt), f_X10_puts_l2 a0 i2 σ3 n i9 σ10 = some σ11 → (∀ (H : Heap) (locs : List Loc) (ls : Array Slot), gS celM Γ ad N σ11 s H locs → lv_has ls 4 [(2, .int i2), (0, .ref (ad 0)), (1, .int a0)] → W p l e (gR 3 0 0) s m args below meth c H locs 0 0 (Q) (F0 m 69 ls [])) → ∀ (H : Heap) (locs : List Loc) (ls : Array Slot), gS celM Γ ad N σ10 s H locs → lv_has ls 4 [(3, .int i9), (2, .int i2), (0, .ref (ad 0)), (1, .int a0)] → W p l e (gR 3 0 0) s m args below meth c H locs 0 0 (Q) (F0 m 33 ls []) := by
  have hx := X.1
  have hb := X.2.1
  intro n
  induction n with
  | zero =>
    intro i9 σ10 σ11 hf
    cases hf
  | succ n ih =>
    intro i9 σ10 σ11 hf J H locs ls S hl
    rw [f_X10_puts_l2] at hf
    refine lv_iload_n hx hb dX10_puts_33 rfl (lv_at hl 0 rfl) ?_
    refine lv_bipush (v := (28 : Int32)) hx hb dX10_puts_34 (by decide) ?_
    refine lv_icmp_ge (tgt := 69) hx hb dX10_puts_36 (by decide) (fun c12 => ?_) (fun c12 => ?_)
    · have hf := (if_pos c12).symm.trans hf
      cases hf
      exact J _ _ _ S (lv_sub hl [1, 2, 3] rfl)
    · have hf := (if_neg c12).symm.trans hf
      refine lv_aload_n hx hb dX10_puts_39 rfl (lv_at hl 2 rfl) ?_
      refine gfX10_7 X S hN dX10_puts_40 ?_
      refine lv_iload_n hx hb dX10_puts_43 rfl (lv_at hl 3 rfl) ?_
      refine lv_iload_n hx hb dX10_puts_44 rfl (lv_at hl 1 rfl) ?_
      refine lv_iload_n hx hb dX10_puts_45 rfl (lv_at hl 0 rfl) ?_
      obtain ⟨v13, hv13, hf⟩ := g_s1 hf
      refine g_ki S (g_runS (rest := [.ref (ad 1)]) X S (c_X10_at l hN  hv13 _) csX10_at mlX10_56 rfl rfl hl.1 (Nat.le_of_ble_eq_true rfl) ⟨⟨rfl, rfl⟩, ⟨Nat.le_of_ble_eq_true rfl, Nat.le_of_ble_eq_true rfl⟩, Nat.le_of_ble_eq_true rfl, Nat.le_of_ble_eq_true rfl⟩ dX10_puts_46) (fun H locs S => ?_)
      refine lv_aload_n hx hb dX10_puts_49 rfl (lv_at hl 2 rfl) ?_
      refine gfX10_7 X S hN dX10_puts_50 ?_
      refine lv_iload_n hx hb dX10_puts_53 rfl (lv_at hl 3 rfl) ?_
      refine lv_iload_n hx hb dX10_puts_54 rfl (lv_at hl 1 rfl) ?_
      refine lv_iconst (v := (1 : Int32)) hx hb dX10_puts_55 (by decide) ?_
      refine lv_isub hx hb dX10_puts_56 ?_
      refine lv_iload_n hx hb dX10_puts_57 rfl (lv_at hl 0 rfl) ?_
      obtain ⟨v14, hv14, hf⟩ := g_s1 hf
      refine g_ki S (g_runS (rest := [.ref (ad 1), .int v13, .ref (ad 1)]) X S (c_X10_at l hN  hv14 _) csX10_at mlX10_56 rfl rfl hl.1 (Nat.le_of_ble_eq_true rfl) ⟨⟨rfl, rfl⟩, ⟨Nat.le_of_ble_eq_true rfl, Nat.le_of_ble_eq_true rfl⟩, Nat.le_of_ble_eq_true rfl, Nat.le_of_ble_eq_true rfl⟩ dX10_puts_58) (fun H locs S => ?_)
      obtain ⟨v15, hv15, hf⟩ := g_s1 hf
      refine g_iald X S (by omega) (ceM_a (rfl : gma 1 = true)) hv15 dX10_puts_61 ?_
      obtain ⟨σ16, hσ16, hf⟩ := g_s1 hf
      refine g_iast X S (by omega) (ceM_a (rfl : gma 1 = true)) hσ16 dX10_puts_62 (fun H locs S => ?_)
      refine lv_iinc (v := (i9 + 1)) (lv' := [(3, .int (i9 + 1)), (2, .int i2), (0, .ref (ad 0)), (1, .int a0)]) hx hb dX10_puts_63 hl (k := 0) rfl rfl (by decide) rfl (fun ls hl => ?_)
      refine lv_goto (tgt := 33) hx hb dX10_puts_66 (by decide) ?_
      exact ih _ _ _  hf J _ _ _ S (lv_sub hl [0, 1, 2, 3] rfl)
noncomputable def f_X10_puts_l1 (σ : gSt) (a0 : Int32) : Nat → Int32 → gSt → Option (Int32 × gSt)
  | 0, _, _ => none
  | n + 1, i2, σ3 => (if i2 ≤ 0 then some (i2, σ3) else (g_k1 (f_X10_first σ3 a0 (i2 - (1 : Int32))) fun v7 => (if v7 ≤ (σ3 5 0) then some (i2, σ3) else (g_k1 (f_X10_puts_l2 a0 i2 σ3 FU (0 : Int32) σ3) fun σ11 => (f_X10_puts_l1 σ a0 n (i2 + (-1)) σ11)))))
set_option maxRecDepth 100000 in
set_option maxHeartbeats 4000000 in
theorem w_X10_puts_l1 {l : Launch} {Γ : gG} {ad : Nat → Nat} {N : Nat} {p : Program} {e : Env} {s : State} {m : MethodId} {args : Array Value} {below : List Frame} {meth : Method} {c : Code} {Q : State → Prop} (hN : 8 ≤ N) (X : gX celM Γ ad N RX10 cX10_puts 4 (some .int) p s m args meth c) {σ : gSt} {a0 : Int32}  : ∀ (n : Nat) (i2 : Int32) (σ3 : gSt) (r4 : Int32) (σ5 : gSt), f_X10_puts_l1 σ a0 n i2 σ3 = some (r4, σ5) → (∀ (H : Heap) (locs : List Loc) (ls : Array Slot), gS celM Γ ad N σ5 s H locs → lv_has ls 4 [(2, .int r4), (0, .ref (ad 0)), (1, .int a0)] → W p l e (gR 3 0 0) s m args below meth c H locs 0 0 (Q) (F0 m 75 ls [])) → ∀ (H : Heap) (locs : List Loc) (ls : Array Slot), gS celM Γ ad N σ3 s H locs → lv_has ls 4 [(2, .int i2), (0, .ref (ad 0)), (1, .int a0)] → W p l e (gR 3 0 0) s m args below meth c H locs 0 0 (Q) (F0 m 10 ls []) := by
  have hx := X.1
  have hb := X.2.1
  intro n
  induction n with
  | zero =>
    intro i2 σ3 r4 σ5 hf
    cases hf
  | succ n ih =>
    intro i2 σ3 r4 σ5 hf J H locs ls S hl
    rw [f_X10_puts_l1] at hf
    refine lv_iload_n hx hb dX10_puts_10 rfl (lv_at hl 0 rfl) ?_
    refine lv_if_le (tgt := 75) hx hb dX10_puts_11 (by decide) (fun c6 => ?_) (fun c6 => ?_)
    · have hf := (if_pos c6).symm.trans hf
      cases hf
      exact J _ _ _ S (lv_sub hl [0, 1, 2] rfl)
    · have hf := (if_neg c6).symm.trans hf
      refine lv_aload_n hx hb dX10_puts_14 rfl (lv_at hl 1 rfl) ?_
      refine lv_iload_n hx hb dX10_puts_15 rfl (lv_at hl 2 rfl) ?_
      refine lv_iload_n hx hb dX10_puts_16 rfl (lv_at hl 0 rfl) ?_
      refine lv_iconst (v := (1 : Int32)) hx hb dX10_puts_17 (by decide) ?_
      refine lv_isub hx hb dX10_puts_18 ?_
      obtain ⟨v7, hv7, hf⟩ := g_s1 hf
      refine g_ki S (g_runV (rest := []) X S (c_X10_first l hN  hv7 _) cvX10_first mlX10_113 (by omega) (ceM_10 _) rfl rfl rfl hl.1 (Nat.le_of_ble_eq_true rfl) ⟨⟨rfl, rfl⟩, ⟨Nat.le_of_ble_eq_true rfl, Nat.le_of_ble_eq_true rfl⟩, Nat.le_of_ble_eq_true rfl, Nat.le_of_ble_eq_true rfl⟩ dX10_puts_19) (fun H locs S => ?_)
      refine lv_aload_n hx hb dX10_puts_22 rfl (lv_at hl 1 rfl) ?_
      refine gfX10_22 X S hN dX10_puts_23 ?_
      refine lv_iconst (v := (0 : Int32)) hx hb dX10_puts_26 (by decide) ?_
      refine g_ialdC X S (by omega) (ceM_a (rfl : gma 5 = true)) 0 (by decide) (by decide) dX10_puts_27 ?_
      refine lv_icmp_le (tgt := 75) hx hb dX10_puts_28 (by decide) (fun c8 => ?_) (fun c8 => ?_)
      · have hf := (if_pos c8).symm.trans hf
        cases hf
        exact J _ _ _ S (lv_sub hl [0, 1, 2] rfl)
      · have hf := (if_neg c8).symm.trans hf
        refine lv_iconst (v := (0 : Int32)) hx hb dX10_puts_31 (by decide) ?_
        refine lv_istore_n (lv' := [(3, .int (0 : Int32)), (2, .int i2), (0, .ref (ad 0)), (1, .int a0)]) hx hb dX10_puts_32 rfl hl (by decide) rfl (fun ls hl => ?_)
        obtain ⟨σ11, hr17, hf⟩ := g_s1 hf
        refine w_X10_puts_l2 hN X  FU _ _ _  hr17 (fun H locs ls S hl => ?_) _ _ _ S (lv_sub hl [0, 1, 2, 3] rfl)
        refine lv_iinc (v := (i2 + (-1))) (lv' := [(2, .int (i2 + (-1))), (0, .ref (ad 0)), (1, .int a0)]) hx hb dX10_puts_69 hl (k := 0) rfl rfl (by decide) rfl (fun ls hl => ?_)
        refine lv_goto (tgt := 10) hx hb dX10_puts_72 (by decide) ?_
        exact ih _ _ _ _  hf J _ _ _ S (lv_sub hl [0, 1, 2] rfl)
noncomputable def f_X10_puts_l3 (a0 : Int32) (r4 : Int32) (σ5 : gSt) : Nat → Int32 → gSt → Option (gSt)
  | 0, _, _ => none
  | n + 1, i19, σ20 => (if (28 : Int32) ≤ i19 then some σ20 else (g_k1 (f_X10_at σ20 a0 r4 i19) fun v23 => (g_k1 (gald σ20 5 28 i19) fun v24 => (g_k1 (gast σ20 1 926 v23 v24) fun σ25 => (f_X10_puts_l3 a0 r4 σ5 n (i19 + 1) σ25)))))
set_option maxRecDepth 100000 in
set_option maxHeartbeats 4000000 in
theorem w_X10_puts_l3 {l : Launch} {Γ : gG} {ad : Nat → Nat} {N : Nat} {p : Program} {e : Env} {s : State} {m : MethodId} {args : Array Value} {below : List Frame} {meth : Method} {c : Code} {Q : State → Prop} (hN : 8 ≤ N) (X : gX celM Γ ad N RX10 cX10_puts 4 (some .int) p s m args meth c) {a0 : Int32} {r4 : Int32} {σ5 : gSt}  : ∀ (n : Nat) (i19 : Int32) (σ20 : gSt) (σ21 : gSt), f_X10_puts_l3 a0 r4 σ5 n i19 σ20 = some σ21 → (∀ (H : Heap) (locs : List Loc) (ls : Array Slot), gS celM Γ ad N σ21 s H locs → lv_has ls 4 [(2, .int r4), (0, .ref (ad 0)), (1, .int a0)] → W p l e (gR 3 0 0) s m args below meth c H locs 0 0 (Q) (F0 m 106 ls [])) → ∀ (H : Heap) (locs : List Loc) (ls : Array Slot), gS celM Γ ad N σ20 s H locs → lv_has ls 4 [(3, .int i19), (2, .int r4), (0, .ref (ad 0)), (1, .int a0)] → W p l e (gR 3 0 0) s m args below meth c H locs 0 0 (Q) (F0 m 77 ls []) := by
  have hx := X.1
  have hb := X.2.1
  intro n
  induction n with
  | zero =>
    intro i19 σ20 σ21 hf
    cases hf
  | succ n ih =>
    intro i19 σ20 σ21 hf J H locs ls S hl
    rw [f_X10_puts_l3] at hf
    refine lv_iload_n hx hb dX10_puts_77 rfl (lv_at hl 0 rfl) ?_
    refine lv_bipush (v := (28 : Int32)) hx hb dX10_puts_78 (by decide) ?_
    refine lv_icmp_ge (tgt := 106) hx hb dX10_puts_80 (by decide) (fun c22 => ?_) (fun c22 => ?_)
    · have hf := (if_pos c22).symm.trans hf
      cases hf
      exact J _ _ _ S (lv_sub hl [1, 2, 3] rfl)
    · have hf := (if_neg c22).symm.trans hf
      refine lv_aload_n hx hb dX10_puts_83 rfl (lv_at hl 2 rfl) ?_
      refine gfX10_7 X S hN dX10_puts_84 ?_
      refine lv_iload_n hx hb dX10_puts_87 rfl (lv_at hl 3 rfl) ?_
      refine lv_iload_n hx hb dX10_puts_88 rfl (lv_at hl 1 rfl) ?_
      refine lv_iload_n hx hb dX10_puts_89 rfl (lv_at hl 0 rfl) ?_
      obtain ⟨v23, hv23, hf⟩ := g_s1 hf
      refine g_ki S (g_runS (rest := [.ref (ad 1)]) X S (c_X10_at l hN  hv23 _) csX10_at mlX10_56 rfl rfl hl.1 (Nat.le_of_ble_eq_true rfl) ⟨⟨rfl, rfl⟩, ⟨Nat.le_of_ble_eq_true rfl, Nat.le_of_ble_eq_true rfl⟩, Nat.le_of_ble_eq_true rfl, Nat.le_of_ble_eq_true rfl⟩ dX10_puts_90) (fun H locs S => ?_)
      refine lv_aload_n hx hb dX10_puts_93 rfl (lv_at hl 2 rfl) ?_
      refine gfX10_22 X S hN dX10_puts_94 ?_
      refine lv_iload_n hx hb dX10_puts_97 rfl (lv_at hl 0 rfl) ?_
      obtain ⟨v24, hv24, hf⟩ := g_s1 hf
      refine g_iald X S (by omega) (ceM_a (rfl : gma 5 = true)) hv24 dX10_puts_98 ?_
      obtain ⟨σ25, hσ25, hf⟩ := g_s1 hf
      refine g_iast X S (by omega) (ceM_a (rfl : gma 1 = true)) hσ25 dX10_puts_99 (fun H locs S => ?_)
      refine lv_iinc (v := (i19 + 1)) (lv' := [(3, .int (i19 + 1)), (2, .int r4), (0, .ref (ad 0)), (1, .int a0)]) hx hb dX10_puts_100 hl (k := 0) rfl rfl (by decide) rfl (fun ls hl => ?_)
      refine lv_goto (tgt := 77) hx hb dX10_puts_103 (by decide) ?_
      exact ih _ _ _  hf J _ _ _ S (lv_sub hl [0, 1, 2, 3] rfl)
noncomputable def f_X10_puts (σ : gSt) (a0 : Int32) : Option (Int32 × gSt) :=
  (g_k1 (gald σ 1 926 ((28 : Int32) + a0)) fun v1 => (g_k2 (f_X10_puts_l1 σ a0 FU v1 σ) fun r4 σ5 => (g_k1 (f_X10_puts_l3 a0 r4 σ5 FU (0 : Int32) σ5) fun σ21 => (g_k1 (gald σ21 1 926 ((28 : Int32) + a0)) fun v27 => (g_k1 (gast σ21 1 926 ((28 : Int32) + a0) (v27 + (1 : Int32))) fun σ28 => some (r4, σ28))))))
set_option maxRecDepth 100000 in
set_option maxHeartbeats 4000000 in
theorem c_X10_puts (l : Launch) {Γ : gG} {ad : Nat → Nat} {N : Nat} (hN : 8 ≤ N) {σ : gSt} {a0 : Int32}  {r : Int32} {σ' : gSt} (hf : f_X10_puts σ a0 = some (r, σ')) : gMi l celM Γ ad N yX10_puts cX10_puts 4 (some .int) (gR 3 0 0) [.ref (ad 0), .int a0] σ r σ' := by
  intro sz
  refine gOf (Qc := fun sz => gQci celM Γ ad N r σ' sz) RX10 (by decide) rfl (Nat.le_of_ble_eq_true rfl) (fun p e s m args below meth c H locs ls X S hl => ?_)
  have hl : lv_has ls 4 [(0, .ref (ad 0)), (1, .int a0)] := hl
  have hx := X.1
  have hb := X.2.1
  unfold f_X10_puts at hf
  refine lv_aload_n hx hb dX10_puts_0 rfl (lv_at hl 0 rfl) ?_
  refine gfX10_7 X S hN dX10_puts_1 ?_
  refine lv_bipush (v := (28 : Int32)) hx hb dX10_puts_4 (by decide) ?_
  refine lv_iload_n hx hb dX10_puts_6 rfl (lv_at hl 1 rfl) ?_
  refine lv_iadd hx hb dX10_puts_7 ?_
  obtain ⟨v1, hv1, hf⟩ := g_s1 hf
  refine g_iald X S (by omega) (ceM_a (rfl : gma 1 = true)) hv1 dX10_puts_8 ?_
  refine lv_istore_n (lv' := [(2, .int v1), (0, .ref (ad 0)), (1, .int a0)]) hx hb dX10_puts_9 rfl hl (by decide) rfl (fun ls hl => ?_)
  obtain ⟨r4, σ5, hr18, hf⟩ := g_s2 hf
  refine w_X10_puts_l1 hN X  FU _ _ _ _  hr18 (fun H locs ls S hl => ?_) _ _ _ S (lv_sub hl [0, 1, 2] rfl)
  refine lv_iconst (v := (0 : Int32)) hx hb dX10_puts_75 (by decide) ?_
  refine lv_istore_n (lv' := [(3, .int (0 : Int32)), (2, .int r4), (0, .ref (ad 0)), (1, .int a0)]) hx hb dX10_puts_76 rfl hl (by decide) rfl (fun ls hl => ?_)
  obtain ⟨σ21, hr26, hf⟩ := g_s1 hf
  refine w_X10_puts_l3 hN X  FU _ _ _  hr26 (fun H locs ls S hl => ?_) _ _ _ S (lv_sub hl [0, 1, 2, 3] rfl)
  refine lv_aload_n hx hb dX10_puts_106 rfl (lv_at hl 1 rfl) ?_
  refine gfX10_7 X S hN dX10_puts_107 ?_
  refine lv_bipush (v := (28 : Int32)) hx hb dX10_puts_110 (by decide) ?_
  refine lv_iload_n hx hb dX10_puts_112 rfl (lv_at hl 2 rfl) ?_
  refine lv_iadd hx hb dX10_puts_113 ?_
  refine lv_dup2_11 hx hb dX10_puts_114 rfl rfl ?_
  obtain ⟨v27, hv27, hf⟩ := g_s1 hf
  refine g_iald X S (by omega) (ceM_a (rfl : gma 1 = true)) hv27 dX10_puts_115 ?_
  refine lv_iconst (v := (1 : Int32)) hx hb dX10_puts_116 (by decide) ?_
  refine lv_iadd hx hb dX10_puts_117 ?_
  obtain ⟨σ28, hσ28, hf⟩ := g_s1 hf
  refine g_iast X S (by omega) (ceM_a (rfl : gma 1 = true)) hσ28 dX10_puts_118 (fun H locs S => ?_)
  refine lv_iload_n hx hb dX10_puts_119 rfl (lv_at hl 0 rfl) ?_
  cases hf
  exact g_reti X S rfl dX10_puts_120

noncomputable def f_X10_takes_l2 (a0 : Int32) (i3 : Int32) (σ4 : gSt) : Nat → Int32 → gSt → Option (gSt)
  | 0, _, _ => none
  | n + 1, i8, σ9 => (if (28 : Int32) ≤ i8 then some σ9 else (g_k1 (f_X10_at σ9 a0 i3 i8) fun v12 => (g_k1 (f_X10_at σ9 a0 (i3 + (1 : Int32)) i8) fun v13 => (g_k1 (gald σ9 1 926 v13) fun v14 => (g_k1 (gast σ9 1 926 v12 v14) fun σ15 => (f_X10_takes_l2 a0 i3 σ4 n (i8 + 1) σ15))))))
set_option maxRecDepth 100000 in
set_option maxHeartbeats 4000000 in
theorem w_X10_takes_l2 {l : Launch} {Γ : gG} {ad : Nat → Nat} {N : Nat} {p : Program} {e : Env} {s : State} {m : MethodId} {args : Array Value} {below : List Frame} {meth : Method} {c : Code} {Q : State → Prop} (hN : 8 ≤ N) (X : gX celM Γ ad N RX10 cX10_takes 5 none p s m args meth c) {a0 : Int32} {i3 : Int32} {σ4 : gSt}  : ∀ (n : Nat) (i8 : Int32) (σ9 : gSt) (σ10 : gSt), f_X10_takes_l2 a0 i3 σ4 n i8 σ9 = some σ10 → (∀ (H : Heap) (locs : List Loc) (ls : Array Slot), gS celM Γ ad N σ10 s H locs → lv_has ls 5 [(3, .int i3), (0, .ref (ad 0)), (1, .int a0)] → W p l e (gR 2 0 0) s m args below meth c H locs 0 0 (Q) (F0 m 70 ls [])) → ∀ (H : Heap) (locs : List Loc) (ls : Array Slot), gS celM Γ ad N σ9 s H locs → lv_has ls 5 [(4, .int i8), (3, .int i3), (0, .ref (ad 0)), (1, .int a0)] → W p l e (gR 2 0 0) s m args below meth c H locs 0 0 (Q) (F0 m 31 ls []) := by
  have hx := X.1
  have hb := X.2.1
  intro n
  induction n with
  | zero =>
    intro i8 σ9 σ10 hf
    cases hf
  | succ n ih =>
    intro i8 σ9 σ10 hf J H locs ls S hl
    rw [f_X10_takes_l2] at hf
    refine lv_iload hx hb dX10_takes_31 (lv_at hl 0 rfl) ?_
    refine lv_bipush (v := (28 : Int32)) hx hb dX10_takes_33 (by decide) ?_
    refine lv_icmp_ge (tgt := 70) hx hb dX10_takes_35 (by decide) (fun c11 => ?_) (fun c11 => ?_)
    · have hf := (if_pos c11).symm.trans hf
      cases hf
      exact J _ _ _ S (lv_sub hl [1, 2, 3] rfl)
    · have hf := (if_neg c11).symm.trans hf
      refine lv_aload_n hx hb dX10_takes_38 rfl (lv_at hl 2 rfl) ?_
      refine gfX10_7 X S hN dX10_takes_39 ?_
      refine lv_iload_n hx hb dX10_takes_42 rfl (lv_at hl 3 rfl) ?_
      refine lv_iload_n hx hb dX10_takes_43 rfl (lv_at hl 1 rfl) ?_
      refine lv_iload hx hb dX10_takes_44 (lv_at hl 0 rfl) ?_
      obtain ⟨v12, hv12, hf⟩ := g_s1 hf
      refine g_ki S (g_runS (rest := [.ref (ad 1)]) X S (c_X10_at l hN  hv12 _) csX10_at mlX10_56 rfl rfl hl.1 (Nat.le_of_ble_eq_true rfl) ⟨⟨rfl, rfl⟩, ⟨Nat.le_of_ble_eq_true rfl, Nat.le_of_ble_eq_true rfl⟩, Nat.le_of_ble_eq_true rfl, Nat.le_of_ble_eq_true rfl⟩ dX10_takes_46) (fun H locs S => ?_)
      refine lv_aload_n hx hb dX10_takes_49 rfl (lv_at hl 2 rfl) ?_
      refine gfX10_7 X S hN dX10_takes_50 ?_
      refine lv_iload_n hx hb dX10_takes_53 rfl (lv_at hl 3 rfl) ?_
      refine lv_iload_n hx hb dX10_takes_54 rfl (lv_at hl 1 rfl) ?_
      refine lv_iconst (v := (1 : Int32)) hx hb dX10_takes_55 (by decide) ?_
      refine lv_iadd hx hb dX10_takes_56 ?_
      refine lv_iload hx hb dX10_takes_57 (lv_at hl 0 rfl) ?_
      obtain ⟨v13, hv13, hf⟩ := g_s1 hf
      refine g_ki S (g_runS (rest := [.ref (ad 1), .int v12, .ref (ad 1)]) X S (c_X10_at l hN  hv13 _) csX10_at mlX10_56 rfl rfl hl.1 (Nat.le_of_ble_eq_true rfl) ⟨⟨rfl, rfl⟩, ⟨Nat.le_of_ble_eq_true rfl, Nat.le_of_ble_eq_true rfl⟩, Nat.le_of_ble_eq_true rfl, Nat.le_of_ble_eq_true rfl⟩ dX10_takes_59) (fun H locs S => ?_)
      obtain ⟨v14, hv14, hf⟩ := g_s1 hf
      refine g_iald X S (by omega) (ceM_a (rfl : gma 1 = true)) hv14 dX10_takes_62 ?_
      obtain ⟨σ15, hσ15, hf⟩ := g_s1 hf
      refine g_iast X S (by omega) (ceM_a (rfl : gma 1 = true)) hσ15 dX10_takes_63 (fun H locs S => ?_)
      refine lv_iinc (v := (i8 + 1)) (lv' := [(4, .int (i8 + 1)), (3, .int i3), (0, .ref (ad 0)), (1, .int a0)]) hx hb dX10_takes_64 hl (k := 0) rfl rfl (by decide) rfl (fun ls hl => ?_)
      refine lv_goto (tgt := 31) hx hb dX10_takes_67 (by decide) ?_
      exact ih _ _ _  hf J _ _ _ S (lv_sub hl [0, 1, 2, 3] rfl)
noncomputable def f_X10_takes_l1 (a0 : Int32) (σ2 : gSt) : Nat → Int32 → gSt → Option (gSt)
  | 0, _, _ => none
  | n + 1, i3, σ4 => (g_k1 (gald σ4 1 926 ((28 : Int32) + a0)) fun v6 => (if v6 ≤ i3 then some σ4 else (g_k1 (f_X10_takes_l2 a0 i3 σ4 FU (0 : Int32) σ4) fun σ10 => (f_X10_takes_l1 a0 σ2 n (i3 + 1) σ10))))
set_option maxRecDepth 100000 in
set_option maxHeartbeats 4000000 in
theorem w_X10_takes_l1 {l : Launch} {Γ : gG} {ad : Nat → Nat} {N : Nat} {p : Program} {e : Env} {s : State} {m : MethodId} {args : Array Value} {below : List Frame} {meth : Method} {c : Code} {Q : State → Prop} (hN : 8 ≤ N) (X : gX celM Γ ad N RX10 cX10_takes 5 none p s m args meth c) {a0 : Int32} {σ2 : gSt}  : ∀ (n : Nat) (i3 : Int32) (σ4 : gSt) (σ5 : gSt), f_X10_takes_l1 a0 σ2 n i3 σ4 = some σ5 → (∀ (H : Heap) (locs : List Loc) (ls : Array Slot), gS celM Γ ad N σ5 s H locs → lv_has ls 5 [] → W p l e (gR 2 0 0) s m args below meth c H locs 0 0 (Q) (F0 m 76 ls [])) → ∀ (H : Heap) (locs : List Loc) (ls : Array Slot), gS celM Γ ad N σ4 s H locs → lv_has ls 5 [(3, .int i3), (0, .ref (ad 0)), (1, .int a0)] → W p l e (gR 2 0 0) s m args below meth c H locs 0 0 (Q) (F0 m 15 ls []) := by
  have hx := X.1
  have hb := X.2.1
  intro n
  induction n with
  | zero =>
    intro i3 σ4 σ5 hf
    cases hf
  | succ n ih =>
    intro i3 σ4 σ5 hf J H locs ls S hl
    rw [f_X10_takes_l1] at hf
    refine lv_iload_n hx hb dX10_takes_15 rfl (lv_at hl 0 rfl) ?_
    refine lv_aload_n hx hb dX10_takes_16 rfl (lv_at hl 1 rfl) ?_
    refine gfX10_7 X S hN dX10_takes_17 ?_
    refine lv_bipush (v := (28 : Int32)) hx hb dX10_takes_20 (by decide) ?_
    refine lv_iload_n hx hb dX10_takes_22 rfl (lv_at hl 2 rfl) ?_
    refine lv_iadd hx hb dX10_takes_23 ?_
    obtain ⟨v6, hv6, hf⟩ := g_s1 hf
    refine g_iald X S (by omega) (ceM_a (rfl : gma 1 = true)) hv6 dX10_takes_24 ?_
    refine lv_icmp_ge (tgt := 76) hx hb dX10_takes_25 (by decide) (fun c7 => ?_) (fun c7 => ?_)
    · have hf := (if_pos c7).symm.trans hf
      cases hf
      exact J _ _ _ S (lv_sub hl [] rfl)
    · have hf := (if_neg c7).symm.trans hf
      refine lv_iconst (v := (0 : Int32)) hx hb dX10_takes_28 (by decide) ?_
      refine lv_istore (lv' := [(4, .int (0 : Int32)), (3, .int i3), (0, .ref (ad 0)), (1, .int a0)]) hx hb dX10_takes_29 hl (by decide) rfl (fun ls hl => ?_)
      obtain ⟨σ10, hr16, hf⟩ := g_s1 hf
      refine w_X10_takes_l2 hN X  FU _ _ _  hr16 (fun H locs ls S hl => ?_) _ _ _ S (lv_sub hl [0, 1, 2, 3] rfl)
      refine lv_iinc (v := (i3 + 1)) (lv' := [(3, .int (i3 + 1)), (0, .ref (ad 0)), (1, .int a0)]) hx hb dX10_takes_70 hl (k := 0) rfl rfl (by decide) rfl (fun ls hl => ?_)
      refine lv_goto (tgt := 15) hx hb dX10_takes_73 (by decide) ?_
      exact ih _ _ _  hf J _ _ _ S (lv_sub hl [0, 1, 2] rfl)
noncomputable def f_X10_takes (σ : gSt) (a0 : Int32) (a1 : Int32) : Option (gSt) :=
  (g_k1 (gald σ 1 926 ((28 : Int32) + a0)) fun v1 => (g_k1 (gast σ 1 926 ((28 : Int32) + a0) (v1 - (1 : Int32))) fun σ2 => (g_k1 (f_X10_takes_l1 a0 σ2 FU a1 σ2) fun σ5 => some σ5)))
set_option maxRecDepth 100000 in
set_option maxHeartbeats 4000000 in
theorem c_X10_takes (l : Launch) {Γ : gG} {ad : Nat → Nat} {N : Nat} (hN : 8 ≤ N) {σ : gSt} {a0 : Int32} {a1 : Int32}  {σ' : gSt} (hf : f_X10_takes σ a0 a1 = some σ') : gMv l celM Γ ad N yX10_takes cX10_takes 5 none (gR 2 0 0) [.ref (ad 0), .int a0, .int a1] σ σ' := by
  intro sz
  refine gOf (Qc := fun sz => gQcv celM Γ ad N σ' sz) RX10 (by decide) rfl (Nat.le_of_ble_eq_true rfl) (fun p e s m args below meth c H locs ls X S hl => ?_)
  have hl : lv_has ls 5 [(0, .ref (ad 0)), (1, .int a0), (2, .int a1)] := hl
  have hx := X.1
  have hb := X.2.1
  unfold f_X10_takes at hf
  refine lv_aload_n hx hb dX10_takes_0 rfl (lv_at hl 0 rfl) ?_
  refine gfX10_7 X S hN dX10_takes_1 ?_
  refine lv_bipush (v := (28 : Int32)) hx hb dX10_takes_4 (by decide) ?_
  refine lv_iload_n hx hb dX10_takes_6 rfl (lv_at hl 1 rfl) ?_
  refine lv_iadd hx hb dX10_takes_7 ?_
  refine lv_dup2_11 hx hb dX10_takes_8 rfl rfl ?_
  obtain ⟨v1, hv1, hf⟩ := g_s1 hf
  refine g_iald X S (by omega) (ceM_a (rfl : gma 1 = true)) hv1 dX10_takes_9 ?_
  refine lv_iconst (v := (1 : Int32)) hx hb dX10_takes_10 (by decide) ?_
  refine lv_isub hx hb dX10_takes_11 ?_
  obtain ⟨σ2, hσ2, hf⟩ := g_s1 hf
  refine g_iast X S (by omega) (ceM_a (rfl : gma 1 = true)) hσ2 dX10_takes_12 (fun H locs S => ?_)
  refine lv_iload_n hx hb dX10_takes_13 rfl (lv_at hl 2 rfl) ?_
  refine lv_istore_n (lv' := [(3, .int a1), (0, .ref (ad 0)), (1, .int a0), (2, .int a1)]) hx hb dX10_takes_14 rfl hl (by decide) rfl (fun ls hl => ?_)
  obtain ⟨σ5, hr17, hf⟩ := g_s1 hf
  refine w_X10_takes_l1 hN X  FU _ _ _  hr17 (fun H locs ls S hl => ?_) _ _ _ S (lv_sub hl [0, 1, 2] rfl)
  cases hf
  exact g_retv X S dX10_takes_76

noncomputable def f_X10_owns_l1 (σ : gSt) (a0 : Int32) (a1 : Int32) : Nat → Int32 → gSt → Option (gSt)
  | 0, _, _ => none
  | n + 1, i1, σ2 => (if (28 : Int32) ≤ i1 then some σ2 else (g_k1 (f_X10_at σ2 a0 a1 i1) fun v5 => (g_k1 (gald σ2 1 926 v5) fun v6 => (g_k1 (gast σ2 5 28 i1 v6) fun σ7 => (f_X10_owns_l1 σ a0 a1 n (i1 + 1) σ7)))))
set_option maxRecDepth 100000 in
set_option maxHeartbeats 4000000 in
theorem w_X10_owns_l1 {l : Launch} {Γ : gG} {ad : Nat → Nat} {N : Nat} {p : Program} {e : Env} {s : State} {m : MethodId} {args : Array Value} {below : List Frame} {meth : Method} {c : Code} {Q : State → Prop} (hN : 8 ≤ N) (X : gX celM Γ ad N RX10 cX10_owns 4 none p s m args meth c) {σ : gSt} {a0 : Int32} {a1 : Int32}  : ∀ (n : Nat) (i1 : Int32) (σ2 : gSt) (σ3 : gSt), f_X10_owns_l1 σ a0 a1 n i1 σ2 = some σ3 → (∀ (H : Heap) (locs : List Loc) (ls : Array Slot), gS celM Γ ad N σ3 s H locs → lv_has ls 4 [] → W p l e (gR 2 0 0) s m args below meth c H locs 0 0 (Q) (F0 m 31 ls [])) → ∀ (H : Heap) (locs : List Loc) (ls : Array Slot), gS celM Γ ad N σ2 s H locs → lv_has ls 4 [(3, .int i1), (0, .ref (ad 0)), (1, .int a0), (2, .int a1)] → W p l e (gR 2 0 0) s m args below meth c H locs 0 0 (Q) (F0 m 2 ls []) := by
  have hx := X.1
  have hb := X.2.1
  intro n
  induction n with
  | zero =>
    intro i1 σ2 σ3 hf
    cases hf
  | succ n ih =>
    intro i1 σ2 σ3 hf J H locs ls S hl
    rw [f_X10_owns_l1] at hf
    refine lv_iload_n hx hb dX10_owns_2 rfl (lv_at hl 0 rfl) ?_
    refine lv_bipush (v := (28 : Int32)) hx hb dX10_owns_3 (by decide) ?_
    refine lv_icmp_ge (tgt := 31) hx hb dX10_owns_5 (by decide) (fun c4 => ?_) (fun c4 => ?_)
    · have hf := (if_pos c4).symm.trans hf
      cases hf
      exact J _ _ _ S (lv_sub hl [] rfl)
    · have hf := (if_neg c4).symm.trans hf
      refine lv_aload_n hx hb dX10_owns_8 rfl (lv_at hl 1 rfl) ?_
      refine gfX10_22 X S hN dX10_owns_9 ?_
      refine lv_iload_n hx hb dX10_owns_12 rfl (lv_at hl 0 rfl) ?_
      refine lv_aload_n hx hb dX10_owns_13 rfl (lv_at hl 1 rfl) ?_
      refine gfX10_7 X S hN dX10_owns_14 ?_
      refine lv_iload_n hx hb dX10_owns_17 rfl (lv_at hl 2 rfl) ?_
      refine lv_iload_n hx hb dX10_owns_18 rfl (lv_at hl 3 rfl) ?_
      refine lv_iload_n hx hb dX10_owns_19 rfl (lv_at hl 0 rfl) ?_
      obtain ⟨v5, hv5, hf⟩ := g_s1 hf
      refine g_ki S (g_runS (rest := [.ref (ad 1), .int i1, .ref (ad 5)]) X S (c_X10_at l hN  hv5 _) csX10_at mlX10_56 rfl rfl hl.1 (Nat.le_of_ble_eq_true rfl) ⟨⟨rfl, rfl⟩, ⟨Nat.le_of_ble_eq_true rfl, Nat.le_of_ble_eq_true rfl⟩, Nat.le_of_ble_eq_true rfl, Nat.le_of_ble_eq_true rfl⟩ dX10_owns_20) (fun H locs S => ?_)
      obtain ⟨v6, hv6, hf⟩ := g_s1 hf
      refine g_iald X S (by omega) (ceM_a (rfl : gma 1 = true)) hv6 dX10_owns_23 ?_
      obtain ⟨σ7, hσ7, hf⟩ := g_s1 hf
      refine g_iast X S (by omega) (ceM_a (rfl : gma 5 = true)) hσ7 dX10_owns_24 (fun H locs S => ?_)
      refine lv_iinc (v := (i1 + 1)) (lv' := [(3, .int (i1 + 1)), (0, .ref (ad 0)), (1, .int a0), (2, .int a1)]) hx hb dX10_owns_25 hl (k := 0) rfl rfl (by decide) rfl (fun ls hl => ?_)
      refine lv_goto (tgt := 2) hx hb dX10_owns_28 (by decide) ?_
      exact ih _ _ _  hf J _ _ _ S (lv_sub hl [0, 1, 2, 3] rfl)
noncomputable def f_X10_owns (σ : gSt) (a0 : Int32) (a1 : Int32) : Option (gSt) :=
  (g_k1 (f_X10_owns_l1 σ a0 a1 FU (0 : Int32) σ) fun σ3 => some σ3)
set_option maxRecDepth 100000 in
set_option maxHeartbeats 4000000 in
theorem c_X10_owns (l : Launch) {Γ : gG} {ad : Nat → Nat} {N : Nat} (hN : 8 ≤ N) {σ : gSt} {a0 : Int32} {a1 : Int32}  {σ' : gSt} (hf : f_X10_owns σ a0 a1 = some σ') : gMv l celM Γ ad N yX10_owns cX10_owns 4 none (gR 2 0 0) [.ref (ad 0), .int a0, .int a1] σ σ' := by
  intro sz
  refine gOf (Qc := fun sz => gQcv celM Γ ad N σ' sz) RX10 (by decide) rfl (Nat.le_of_ble_eq_true rfl) (fun p e s m args below meth c H locs ls X S hl => ?_)
  have hl : lv_has ls 4 [(0, .ref (ad 0)), (1, .int a0), (2, .int a1)] := hl
  have hx := X.1
  have hb := X.2.1
  unfold f_X10_owns at hf
  refine lv_iconst (v := (0 : Int32)) hx hb dX10_owns_0 (by decide) ?_
  refine lv_istore_n (lv' := [(3, .int (0 : Int32)), (0, .ref (ad 0)), (1, .int a0), (2, .int a1)]) hx hb dX10_owns_1 rfl hl (by decide) rfl (fun ls hl => ?_)
  obtain ⟨σ3, hr8, hf⟩ := g_s1 hf
  refine w_X10_owns_l1 hN X  FU _ _ _  hr8 (fun H locs ls S hl => ?_) _ _ _ S (lv_sub hl [0, 1, 2, 3] rfl)
  cases hf
  exact g_retv X S dX10_owns_31

noncomputable def f_X10_adds_l1 (a0 : Int32) (a4 : Int32) (a5 : Int32) (σ4 : gSt) : Nat → Int32 → gSt → Option (gSt)
  | 0, _, _ => none
  | n + 1, i5, σ6 => (if (24 : Int32) ≤ i5 then some σ6 else (g_k1 (if a5 ≤ i5 then some (0 : Int32) else (g_k1 (gald σ6 6 60 (a4 + i5)) fun v14 => some v14)) fun x9 => (g_k1 (gast σ6 5 28 ((4 : Int32) + i5) x9) fun σ12 => (f_X10_adds_l1 a0 a4 a5 σ4 n (i5 + 1) σ12))))
set_option maxRecDepth 100000 in
set_option maxHeartbeats 4000000 in
theorem w_X10_adds_l1 {l : Launch} {Γ : gG} {ad : Nat → Nat} {N : Nat} {p : Program} {e : Env} {s : State} {m : MethodId} {args : Array Value} {below : List Frame} {meth : Method} {c : Code} {Q : State → Prop} (hN : 8 ≤ N) (X : gX celM Γ ad N RX10 cX10_adds 8 (some .int) p s m args meth c) {a0 : Int32} {a4 : Int32} {a5 : Int32} {σ4 : gSt}  : ∀ (n : Nat) (i5 : Int32) (σ6 : gSt) (σ7 : gSt), f_X10_adds_l1 a0 a4 a5 σ4 n i5 σ6 = some σ7 → (∀ (H : Heap) (locs : List Loc) (ls : Array Slot), gS celM Γ ad N σ7 s H locs → lv_has ls 8 [(0, .ref (ad 0)), (1, .int a0)] → W p l e (gR 4 0 0) s m args below meth c H locs 0 0 (Q) (F0 m 76 ls [])) → ∀ (H : Heap) (locs : List Loc) (ls : Array Slot), gS celM Γ ad N σ6 s H locs → lv_has ls 8 [(7, .int i5), (0, .ref (ad 0)), (1, .int a0), (5, .int a4), (6, .int a5)] → W p l e (gR 4 0 0) s m args below meth c H locs 0 0 (Q) (F0 m 33 ls []) := by
  have hx := X.1
  have hb := X.2.1
  intro n
  induction n with
  | zero =>
    intro i5 σ6 σ7 hf
    cases hf
  | succ n ih =>
    intro i5 σ6 σ7 hf J H locs ls S hl
    rw [f_X10_adds_l1] at hf
    refine lv_iload hx hb dX10_adds_33 (lv_at hl 0 rfl) ?_
    refine lv_bipush (v := (24 : Int32)) hx hb dX10_adds_35 (by decide) ?_
    refine lv_icmp_ge (tgt := 76) hx hb dX10_adds_37 (by decide) (fun c8 => ?_) (fun c8 => ?_)
    · have hf := (if_pos c8).symm.trans hf
      cases hf
      exact J _ _ _ S (lv_sub hl [1, 2] rfl)
    · have hf := (if_neg c8).symm.trans hf
      refine lv_aload_n hx hb dX10_adds_40 rfl (lv_at hl 1 rfl) ?_
      refine gfX10_22 X S hN dX10_adds_41 ?_
      refine lv_iconst (v := (4 : Int32)) hx hb dX10_adds_44 (by decide) ?_
      refine lv_iload hx hb dX10_adds_45 (lv_at hl 0 rfl) ?_
      refine lv_iadd hx hb dX10_adds_47 ?_
      refine lv_iload hx hb dX10_adds_48 (lv_at hl 0 rfl) ?_
      refine lv_iload hx hb dX10_adds_50 (lv_at hl 4 rfl) ?_
      obtain ⟨x9, hr10, hf⟩ := g_s1 hf
      have J11 : ∀ (H : Heap) (locs : List Loc) (ls : Array Slot), gS celM Γ ad N σ6 s H locs → lv_has ls 8 [(7, .int i5), (0, .ref (ad 0)), (1, .int a0), (5, .int a4), (6, .int a5)] → W p l e (gR 4 0 0) s m args below meth c H locs 0 0 (Q) (F0 m 69 ls [.int x9, .int ((4 : Int32) + i5), .ref (ad 5)]) := by
        intro H locs ls S hl
        obtain ⟨σ12, hσ12, hf⟩ := g_s1 hf
        refine g_iast X S (by omega) (ceM_a (rfl : gma 5 = true)) hσ12 dX10_adds_69 (fun H locs S => ?_)
        refine lv_iinc (v := (i5 + 1)) (lv' := [(7, .int (i5 + 1)), (0, .ref (ad 0)), (1, .int a0), (5, .int a4), (6, .int a5)]) hx hb dX10_adds_70 hl (k := 0) rfl rfl (by decide) rfl (fun ls hl => ?_)
        refine lv_goto (tgt := 33) hx hb dX10_adds_73 (by decide) ?_
        exact ih _ _ _  hf J _ _ _ S (lv_sub hl [0, 1, 2, 3, 4] rfl)
      replace hf := hr10
      refine lv_icmp_ge (tgt := 68) hx hb dX10_adds_52 (by decide) (fun c13 => ?_) (fun c13 => ?_)
      · have hf := (if_pos c13).symm.trans hf
        refine lv_iconst (v := (0 : Int32)) hx hb dX10_adds_68 (by decide) ?_
        cases hf
        exact J11 _ _ _ S (lv_sub hl [0, 1, 2, 3, 4] rfl)
      · have hf := (if_neg c13).symm.trans hf
        refine lv_aload_n hx hb dX10_adds_55 rfl (lv_at hl 1 rfl) ?_
        refine gfX10_29 X S hN dX10_adds_56 ?_
        refine lv_iload hx hb dX10_adds_59 (lv_at hl 3 rfl) ?_
        refine lv_iload hx hb dX10_adds_61 (lv_at hl 0 rfl) ?_
        refine lv_iadd hx hb dX10_adds_63 ?_
        obtain ⟨v14, hv14, hf⟩ := g_s1 hf
        refine g_iald X S (by omega) (ceM_a (rfl : gma 6 = true)) hv14 dX10_adds_64 ?_
        refine lv_goto (tgt := 69) hx hb dX10_adds_65 (by decide) ?_
        cases hf
        exact J11 _ _ _ S (lv_sub hl [0, 1, 2, 3, 4] rfl)
noncomputable def f_X10_adds (σ : gSt) (a0 : Int32) (a1 : Int32) (a2 : Int32) (a3 : Int32) (a4 : Int32) (a5 : Int32) : Option (Int32 × gSt) :=
  (g_k1 (gset σ 5 0 a2) fun σ1 => (g_k1 (gset σ1 5 1 a3) fun σ2 => (g_k1 (gset σ2 5 2 a1) fun σ3 => (g_k1 (gset σ3 5 3 a5) fun σ4 => (g_k1 (f_X10_adds_l1 a0 a4 a5 σ4 FU (0 : Int32) σ4) fun σ7 => (g_k2 (f_X10_puts σ7 a0) fun v16 σ17 => some (v16, σ17)))))))
set_option maxRecDepth 100000 in
set_option maxHeartbeats 4000000 in
theorem c_X10_adds (l : Launch) {Γ : gG} {ad : Nat → Nat} {N : Nat} (hN : 8 ≤ N) {σ : gSt} {a0 : Int32} {a1 : Int32} {a2 : Int32} {a3 : Int32} {a4 : Int32} {a5 : Int32}  {r : Int32} {σ' : gSt} (hf : f_X10_adds σ a0 a1 a2 a3 a4 a5 = some (r, σ')) : gMi l celM Γ ad N yX10_adds cX10_adds 8 (some .int) (gR 4 0 0) [.ref (ad 0), .int a0, .int a1, .int a2, .int a3, .int a4, .int a5] σ r σ' := by
  intro sz
  refine gOf (Qc := fun sz => gQci celM Γ ad N r σ' sz) RX10 (by decide) rfl (Nat.le_of_ble_eq_true rfl) (fun p e s m args below meth c H locs ls X S hl => ?_)
  have hl : lv_has ls 8 [(0, .ref (ad 0)), (1, .int a0), (2, .int a1), (3, .int a2), (4, .int a3), (5, .int a4), (6, .int a5)] := hl
  have hx := X.1
  have hb := X.2.1
  unfold f_X10_adds at hf
  refine lv_aload_n hx hb dX10_adds_0 rfl (lv_at hl 0 rfl) ?_
  refine gfX10_22 X S hN dX10_adds_1 ?_
  refine lv_iconst (v := (0 : Int32)) hx hb dX10_adds_4 (by decide) ?_
  refine lv_iload_n hx hb dX10_adds_5 rfl (lv_at hl 3 rfl) ?_
  obtain ⟨σ1, hσ1, hf⟩ := g_s1 hf
  refine g_iastC X S (by omega) (ceM_a (rfl : gma 5 = true)) 0 (by decide) (by decide) hσ1 dX10_adds_6 (fun H locs S => ?_)
  refine lv_aload_n hx hb dX10_adds_7 rfl (lv_at hl 0 rfl) ?_
  refine gfX10_22 X S hN dX10_adds_8 ?_
  refine lv_iconst (v := (1 : Int32)) hx hb dX10_adds_11 (by decide) ?_
  refine lv_iload hx hb dX10_adds_12 (lv_at hl 4 rfl) ?_
  obtain ⟨σ2, hσ2, hf⟩ := g_s1 hf
  refine g_iastC X S (by omega) (ceM_a (rfl : gma 5 = true)) 1 (by decide) (by decide) hσ2 dX10_adds_14 (fun H locs S => ?_)
  refine lv_aload_n hx hb dX10_adds_15 rfl (lv_at hl 0 rfl) ?_
  refine gfX10_22 X S hN dX10_adds_16 ?_
  refine lv_iconst (v := (2 : Int32)) hx hb dX10_adds_19 (by decide) ?_
  refine lv_iload_n hx hb dX10_adds_20 rfl (lv_at hl 2 rfl) ?_
  obtain ⟨σ3, hσ3, hf⟩ := g_s1 hf
  refine g_iastC X S (by omega) (ceM_a (rfl : gma 5 = true)) 2 (by decide) (by decide) hσ3 dX10_adds_21 (fun H locs S => ?_)
  refine lv_aload_n hx hb dX10_adds_22 rfl (lv_at hl 0 rfl) ?_
  refine gfX10_22 X S hN dX10_adds_23 ?_
  refine lv_iconst (v := (3 : Int32)) hx hb dX10_adds_26 (by decide) ?_
  refine lv_iload hx hb dX10_adds_27 (lv_at hl 6 rfl) ?_
  obtain ⟨σ4, hσ4, hf⟩ := g_s1 hf
  refine g_iastC X S (by omega) (ceM_a (rfl : gma 5 = true)) 3 (by decide) (by decide) hσ4 dX10_adds_29 (fun H locs S => ?_)
  refine lv_iconst (v := (0 : Int32)) hx hb dX10_adds_30 (by decide) ?_
  refine lv_istore (lv' := [(7, .int (0 : Int32)), (0, .ref (ad 0)), (1, .int a0), (2, .int a1), (3, .int a2), (4, .int a3), (5, .int a4), (6, .int a5)]) hx hb dX10_adds_31 hl (by decide) rfl (fun ls hl => ?_)
  obtain ⟨σ7, hr15, hf⟩ := g_s1 hf
  refine w_X10_adds_l1 hN X  FU _ _ _  hr15 (fun H locs ls S hl => ?_) _ _ _ S (lv_sub hl [0, 1, 2, 6, 7] rfl)
  refine lv_aload_n hx hb dX10_adds_76 rfl (lv_at hl 0 rfl) ?_
  refine lv_iload_n hx hb dX10_adds_77 rfl (lv_at hl 1 rfl) ?_
  obtain ⟨v16, σ17, hv16, hf⟩ := g_s2 hf
  refine g_ki S (g_runV (rest := []) X S (c_X10_puts l hN  hv16 _) cvX10_puts mlX10_148 (by omega) (ceM_10 _) rfl rfl rfl hl.1 (Nat.le_of_ble_eq_true rfl) ⟨⟨rfl, rfl⟩, ⟨Nat.le_of_ble_eq_true rfl, Nat.le_of_ble_eq_true rfl⟩, Nat.le_of_ble_eq_true rfl, Nat.le_of_ble_eq_true rfl⟩ dX10_adds_78) (fun H locs S => ?_)
  cases hf
  exact g_reti X S rfl dX10_adds_81

noncomputable def f_X10_add (σ : gSt) (a0 : Int32) (a1 : Int32) (a2 : Int32) (a3 : Int32) : Option (Int32 × gSt) :=
  (g_k1 (gset σ 0 12 (0 : Int32)) fun σ1 => (g_k1 (f_X10_isTrack σ1 a0) fun v2 => (g_k1 (if v2 = 0 then some (1 : Int32) else (g_k1 (f_X10_in σ1 a1 (0 : Int32) (2 : Int32)) fun v16 => (if v16 = 0 then some (2 : Int32) else some (0 : Int32)))) fun x3 => (g_k1 (gset σ1 0 10 x3) fun σ6 => (if (σ6 0 10) ≤ 0 then (g_k1 (f_X10_againstAdd σ6 a0 a2 a3 (0 : Int32) (σ 0 12)) fun v8 => (if v8 ≤ 0 then (g_k1 (f_X10_changes σ6 1) fun σ10 => (g_k2 (f_X10_adds σ10 a0 a1 a2 a3 (0 : Int32) (σ 0 12)) fun v11 σ12 => some (v11, σ12))) else (g_k2 (f_X10_refuses σ6 (3 : Int32) v8) fun v13 σ14 => some (v13, σ14)))) else some ((0 : Int32), σ6))))))
set_option maxRecDepth 100000 in
set_option maxHeartbeats 4000000 in
theorem c_X10_add (l : Launch) {Γ : gG} {ad : Nat → Nat} {N : Nat} (hN : 8 ≤ N) {σ : gSt} {a0 : Int32} {a1 : Int32} {a2 : Int32} {a3 : Int32}  {r : Int32} {σ' : gSt} (hf : f_X10_add σ a0 a1 a2 a3 = some (r, σ')) : gMi l celM Γ ad N yX10_add cX10_add 7 (some .int) (gR 5 0 0) [.ref (ad 0), .int a0, .int a1, .int a2, .int a3] σ r σ' := by
  intro sz
  refine gOf (Qc := fun sz => gQci celM Γ ad N r σ' sz) RX10 (by decide) rfl (Nat.le_of_ble_eq_true rfl) (fun p e s m args below meth c H locs ls X S hl => ?_)
  have hl : lv_has ls 7 [(0, .ref (ad 0)), (1, .int a0), (2, .int a1), (3, .int a2), (4, .int a3)] := hl
  have hx := X.1
  have hb := X.2.1
  unfold f_X10_add at hf
  refine lv_aload_n hx hb dX10_add_0 rfl (lv_at hl 0 rfl) ?_
  refine gfX10_137 X S hN dX10_add_1 ?_
  refine lv_istore (lv' := [(5, .int (σ 0 12)), (0, .ref (ad 0)), (1, .int a0), (2, .int a1), (3, .int a2), (4, .int a3)]) hx hb dX10_add_4 hl (by decide) rfl (fun ls hl => ?_)
  refine lv_aload_n hx hb dX10_add_6 rfl (lv_at hl 1 rfl) ?_
  refine lv_iconst (v := (0 : Int32)) hx hb dX10_add_7 (by decide) ?_
  obtain ⟨σ1, hσ1, hf⟩ := g_s1 hf
  refine pfX10_137 X S hN hσ1 dX10_add_8 (fun H locs S => ?_)
  refine lv_aload_n hx hb dX10_add_11 rfl (lv_at hl 1 rfl) ?_
  refine lv_iload_n hx hb dX10_add_12 rfl (lv_at hl 2 rfl) ?_
  obtain ⟨v2, hv2, hf⟩ := g_s1 hf
  refine g_ki S (g_runS (rest := [.ref (ad 0)]) X S (c_X10_isTrack l hN  hv2 _) csX10_isTrack mlX10_52 rfl rfl hl.1 (Nat.le_of_ble_eq_true rfl) ⟨⟨rfl, rfl⟩, ⟨Nat.le_of_ble_eq_true rfl, Nat.le_of_ble_eq_true rfl⟩, Nat.le_of_ble_eq_true rfl, Nat.le_of_ble_eq_true rfl⟩ dX10_add_13) (fun H locs S => ?_)
  obtain ⟨x3, hr4, hf⟩ := g_s1 hf
  have J5 : ∀ (H : Heap) (locs : List Loc) (ls : Array Slot), gS celM Γ ad N σ1 s H locs → lv_has ls 7 [(5, .int (σ 0 12)), (0, .ref (ad 0)), (1, .int a0), (2, .int a1), (3, .int a2), (4, .int a3)] → W p l e (gR 5 0 0) s m args below meth c H locs 0 0 (gQi celM Γ ad N r σ' below args s) (F0 m 37 ls [.int x3, .ref (ad 0)]) := by
    intro H locs ls S hl
    obtain ⟨σ6, hσ6, hf⟩ := g_s1 hf
    refine pfX10_35 X S hN hσ6 dX10_add_37 (fun H locs S => ?_)
    refine lv_aload_n hx hb dX10_add_40 rfl (lv_at hl 1 rfl) ?_
    refine gfX10_35 X S hN dX10_add_41 ?_
    refine lv_if_le (tgt := 49) hx hb dX10_add_44 (by decide) (fun c7 => ?_) (fun c7 => ?_)
    · have hf := (if_pos c7).symm.trans hf
      refine lv_aload_n hx hb dX10_add_49 rfl (lv_at hl 1 rfl) ?_
      refine lv_iload_n hx hb dX10_add_50 rfl (lv_at hl 2 rfl) ?_
      refine lv_iload_n hx hb dX10_add_51 rfl (lv_at hl 4 rfl) ?_
      refine lv_iload hx hb dX10_add_52 (lv_at hl 5 rfl) ?_
      refine lv_iconst (v := (0 : Int32)) hx hb dX10_add_54 (by decide) ?_
      refine lv_iload hx hb dX10_add_55 (lv_at hl 0 rfl) ?_
      obtain ⟨v8, hv8, hf⟩ := g_s1 hf
      refine g_ki S (g_runV (rest := []) X S (c_X10_againstAdd l hN  hv8 _) cvX10_againstAdd mlX10_151 (by omega) (ceM_10 _) rfl rfl rfl hl.1 (Nat.le_of_ble_eq_true rfl) ⟨⟨rfl, rfl⟩, ⟨Nat.le_of_ble_eq_true rfl, Nat.le_of_ble_eq_true rfl⟩, Nat.le_of_ble_eq_true rfl, Nat.le_of_ble_eq_true rfl⟩ dX10_add_57) (fun H locs S => ?_)
      refine lv_istore (lv' := [(6, .int v8), (5, .int (σ 0 12)), (0, .ref (ad 0)), (1, .int a0), (2, .int a1), (3, .int a2), (4, .int a3)]) hx hb dX10_add_60 hl (by decide) rfl (fun ls hl => ?_)
      refine lv_iload hx hb dX10_add_62 (lv_at hl 0 rfl) ?_
      refine lv_if_le (tgt := 75) hx hb dX10_add_64 (by decide) (fun c9 => ?_) (fun c9 => ?_)
      · have hf := (if_pos c9).symm.trans hf
        refine lv_aload_n hx hb dX10_add_75 rfl (lv_at hl 2 rfl) ?_
        refine lv_aload_n hx hb dX10_add_76 rfl (lv_at hl 2 rfl) ?_
        refine gfX10_7 X S hN dX10_add_77 ?_
        obtain ⟨σ10, hσ10, hf⟩ := g_s1 hf
        refine g_kv S (g_runV (rest := []) X S (c_X10_changes l hN (by rfl : gma 1 = true) hσ10 _) cvX10_changes mlX10_78 (by omega) (ceM_10 _) rfl rfl rfl hl.1 (Nat.le_of_ble_eq_true rfl) ⟨⟨rfl, rfl⟩, ⟨Nat.le_of_ble_eq_true rfl, Nat.le_of_ble_eq_true rfl⟩, Nat.le_of_ble_eq_true rfl, Nat.le_of_ble_eq_true rfl⟩ dX10_add_80) (fun H locs S => ?_)
        refine lv_aload_n hx hb dX10_add_83 rfl (lv_at hl 2 rfl) ?_
        refine lv_iload_n hx hb dX10_add_84 rfl (lv_at hl 3 rfl) ?_
        refine lv_iload_n hx hb dX10_add_85 rfl (lv_at hl 4 rfl) ?_
        refine lv_iload_n hx hb dX10_add_86 rfl (lv_at hl 5 rfl) ?_
        refine lv_iload hx hb dX10_add_87 (lv_at hl 6 rfl) ?_
        refine lv_iconst (v := (0 : Int32)) hx hb dX10_add_89 (by decide) ?_
        refine lv_iload hx hb dX10_add_90 (lv_at hl 1 rfl) ?_
        obtain ⟨v11, σ12, hv11, hf⟩ := g_s2 hf
        refine g_ki S (g_runV (rest := []) X S (c_X10_adds l hN  hv11 _) cvX10_adds mlX10_155 (by omega) (ceM_10 _) rfl rfl rfl hl.1 (Nat.le_of_ble_eq_true rfl) ⟨⟨rfl, rfl⟩, ⟨Nat.le_of_ble_eq_true rfl, Nat.le_of_ble_eq_true rfl⟩, Nat.le_of_ble_eq_true rfl, Nat.le_of_ble_eq_true rfl⟩ dX10_add_92) (fun H locs S => ?_)
        cases hf
        exact g_reti X S rfl dX10_add_95
      · have hf := (if_neg c9).symm.trans hf
        refine lv_aload_n hx hb dX10_add_67 rfl (lv_at hl 2 rfl) ?_
        refine lv_iconst (v := (3 : Int32)) hx hb dX10_add_68 (by decide) ?_
        refine lv_iload hx hb dX10_add_69 (lv_at hl 0 rfl) ?_
        obtain ⟨v13, σ14, hv13, hf⟩ := g_s2 hf
        refine g_ki S (g_runV (rest := []) X S (c_X10_refuses l hN  hv13 _) cvX10_refuses mlX10_75 (by omega) (ceM_10 _) rfl rfl rfl hl.1 (Nat.le_of_ble_eq_true rfl) ⟨⟨rfl, rfl⟩, ⟨Nat.le_of_ble_eq_true rfl, Nat.le_of_ble_eq_true rfl⟩, Nat.le_of_ble_eq_true rfl, Nat.le_of_ble_eq_true rfl⟩ dX10_add_71) (fun H locs S => ?_)
        cases hf
        exact g_reti X S rfl dX10_add_74
    · have hf := (if_neg c7).symm.trans hf
      refine lv_iconst (v := (0 : Int32)) hx hb dX10_add_47 (by decide) ?_
      cases hf
      exact g_reti X S rfl dX10_add_48
  replace hf := hr4
  refine lv_if_eq (tgt := 36) hx hb dX10_add_16 (by decide) (fun c15 => ?_) (fun c15 => ?_)
  · have hf := (if_pos c15).symm.trans hf
    refine lv_iconst (v := (1 : Int32)) hx hb dX10_add_36 (by decide) ?_
    cases hf
    exact J5 _ _ _ S (lv_sub hl [0, 1, 2, 3, 4, 5] rfl)
  · have hf := (if_neg c15).symm.trans hf
    refine lv_iload_n hx hb dX10_add_19 rfl (lv_at hl 3 rfl) ?_
    refine lv_iconst (v := (0 : Int32)) hx hb dX10_add_20 (by decide) ?_
    refine lv_iconst (v := (2 : Int32)) hx hb dX10_add_21 (by decide) ?_
    obtain ⟨v16, hv16, hf⟩ := g_s1 hf
    refine g_ki S (g_runS (rest := [.ref (ad 0)]) X S (c_X10_in l hN  hv16 _) csX10_in mlX10_48 rfl rfl hl.1 (Nat.le_of_ble_eq_true rfl) ⟨⟨rfl, rfl⟩, ⟨Nat.le_of_ble_eq_true rfl, Nat.le_of_ble_eq_true rfl⟩, Nat.le_of_ble_eq_true rfl, Nat.le_of_ble_eq_true rfl⟩ dX10_add_22) (fun H locs S => ?_)
    refine lv_if_eq (tgt := 32) hx hb dX10_add_25 (by decide) (fun c17 => ?_) (fun c17 => ?_)
    · have hf := (if_pos c17).symm.trans hf
      refine lv_iconst (v := (2 : Int32)) hx hb dX10_add_32 (by decide) ?_
      refine lv_goto (tgt := 37) hx hb dX10_add_33 (by decide) ?_
      cases hf
      exact J5 _ _ _ S (lv_sub hl [0, 1, 2, 3, 4, 5] rfl)
    · have hf := (if_neg c17).symm.trans hf
      refine lv_iconst (v := (0 : Int32)) hx hb dX10_add_28 (by decide) ?_
      refine lv_goto (tgt := 37) hx hb dX10_add_29 (by decide) ?_
      cases hf
      exact J5 _ _ _ S (lv_sub hl [0, 1, 2, 3, 4, 5] rfl)

noncomputable def f_X10_remove (σ : gSt) (a0 : Int32) (a1 : Int32) : Option (Int32 × gSt) :=
  (g_k1 (f_X10_isCaption σ a0 a1) fun v1 => (g_k1 (if v1 = 0 then some (1 : Int32) else some (0 : Int32)) fun x2 => (g_k1 (gset σ 0 10 x2) fun σ5 => (if (σ5 0 10) ≤ 0 then (g_k1 (f_X10_changes σ5 1) fun σ7 => (g_k1 (f_X10_takes σ7 a0 a1) fun σ8 => (g_k1 (gald σ8 1 926 ((28 : Int32) + a0)) fun v9 => some (v9, σ8)))) else some ((0 : Int32), σ5)))))
set_option maxRecDepth 100000 in
set_option maxHeartbeats 4000000 in
theorem c_X10_remove (l : Launch) {Γ : gG} {ad : Nat → Nat} {N : Nat} (hN : 8 ≤ N) {σ : gSt} {a0 : Int32} {a1 : Int32}  {r : Int32} {σ' : gSt} (hf : f_X10_remove σ a0 a1 = some (r, σ')) : gMi l celM Γ ad N yX10_remove cX10_remove 3 (some .int) (gR 4 0 0) [.ref (ad 0), .int a0, .int a1] σ r σ' := by
  intro sz
  refine gOf (Qc := fun sz => gQci celM Γ ad N r σ' sz) RX10 (by decide) rfl (Nat.le_of_ble_eq_true rfl) (fun p e s m args below meth c H locs ls X S hl => ?_)
  have hl : lv_has ls 3 [(0, .ref (ad 0)), (1, .int a0), (2, .int a1)] := hl
  have hx := X.1
  have hb := X.2.1
  unfold f_X10_remove at hf
  refine lv_aload_n hx hb dX10_remove_0 rfl (lv_at hl 0 rfl) ?_
  refine lv_aload_n hx hb dX10_remove_1 rfl (lv_at hl 0 rfl) ?_
  refine lv_iload_n hx hb dX10_remove_2 rfl (lv_at hl 1 rfl) ?_
  refine lv_iload_n hx hb dX10_remove_3 rfl (lv_at hl 2 rfl) ?_
  obtain ⟨v1, hv1, hf⟩ := g_s1 hf
  refine g_ki S (g_runV (rest := [.ref (ad 0)]) X S (c_X10_isCaption l hN  hv1 _) cvX10_isCaption mlX10_159 (by omega) (ceM_10 _) rfl rfl rfl hl.1 (Nat.le_of_ble_eq_true rfl) ⟨⟨rfl, rfl⟩, ⟨Nat.le_of_ble_eq_true rfl, Nat.le_of_ble_eq_true rfl⟩, Nat.le_of_ble_eq_true rfl, Nat.le_of_ble_eq_true rfl⟩ dX10_remove_4) (fun H locs S => ?_)
  obtain ⟨x2, hr3, hf⟩ := g_s1 hf
  have J4 : ∀ (H : Heap) (locs : List Loc) (ls : Array Slot), gS celM Γ ad N σ s H locs → lv_has ls 3 [(0, .ref (ad 0)), (1, .int a0), (2, .int a1)] → W p l e (gR 4 0 0) s m args below meth c H locs 0 0 (gQi celM Γ ad N r σ' below args s) (F0 m 15 ls [.int x2, .ref (ad 0)]) := by
    intro H locs ls S hl
    obtain ⟨σ5, hσ5, hf⟩ := g_s1 hf
    refine pfX10_35 X S hN hσ5 dX10_remove_15 (fun H locs S => ?_)
    refine lv_aload_n hx hb dX10_remove_18 rfl (lv_at hl 0 rfl) ?_
    refine gfX10_35 X S hN dX10_remove_19 ?_
    refine lv_if_le (tgt := 27) hx hb dX10_remove_22 (by decide) (fun c6 => ?_) (fun c6 => ?_)
    · have hf := (if_pos c6).symm.trans hf
      refine lv_aload_n hx hb dX10_remove_27 rfl (lv_at hl 0 rfl) ?_
      refine lv_aload_n hx hb dX10_remove_28 rfl (lv_at hl 0 rfl) ?_
      refine gfX10_7 X S hN dX10_remove_29 ?_
      obtain ⟨σ7, hσ7, hf⟩ := g_s1 hf
      refine g_kv S (g_runV (rest := []) X S (c_X10_changes l hN (by rfl : gma 1 = true) hσ7 _) cvX10_changes mlX10_78 (by omega) (ceM_10 _) rfl rfl rfl hl.1 (Nat.le_of_ble_eq_true rfl) ⟨⟨rfl, rfl⟩, ⟨Nat.le_of_ble_eq_true rfl, Nat.le_of_ble_eq_true rfl⟩, Nat.le_of_ble_eq_true rfl, Nat.le_of_ble_eq_true rfl⟩ dX10_remove_32) (fun H locs S => ?_)
      refine lv_aload_n hx hb dX10_remove_35 rfl (lv_at hl 0 rfl) ?_
      refine lv_iload_n hx hb dX10_remove_36 rfl (lv_at hl 1 rfl) ?_
      refine lv_iload_n hx hb dX10_remove_37 rfl (lv_at hl 2 rfl) ?_
      obtain ⟨σ8, hσ8, hf⟩ := g_s1 hf
      refine g_kv S (g_runV (rest := []) X S (c_X10_takes l hN  hσ8 _) cvX10_takes mlX10_162 (by omega) (ceM_10 _) rfl rfl rfl hl.1 (Nat.le_of_ble_eq_true rfl) ⟨⟨rfl, rfl⟩, ⟨Nat.le_of_ble_eq_true rfl, Nat.le_of_ble_eq_true rfl⟩, Nat.le_of_ble_eq_true rfl, Nat.le_of_ble_eq_true rfl⟩ dX10_remove_38) (fun H locs S => ?_)
      refine lv_aload_n hx hb dX10_remove_41 rfl (lv_at hl 0 rfl) ?_
      refine gfX10_7 X S hN dX10_remove_42 ?_
      refine lv_bipush (v := (28 : Int32)) hx hb dX10_remove_45 (by decide) ?_
      refine lv_iload_n hx hb dX10_remove_47 rfl (lv_at hl 1 rfl) ?_
      refine lv_iadd hx hb dX10_remove_48 ?_
      obtain ⟨v9, hv9, hf⟩ := g_s1 hf
      refine g_iald X S (by omega) (ceM_a (rfl : gma 1 = true)) hv9 dX10_remove_49 ?_
      cases hf
      exact g_reti X S rfl dX10_remove_50
    · have hf := (if_neg c6).symm.trans hf
      refine lv_iconst (v := (0 : Int32)) hx hb dX10_remove_25 (by decide) ?_
      cases hf
      exact g_reti X S rfl dX10_remove_26
  replace hf := hr3
  refine lv_if_eq (tgt := 14) hx hb dX10_remove_7 (by decide) (fun c10 => ?_) (fun c10 => ?_)
  · have hf := (if_pos c10).symm.trans hf
    refine lv_iconst (v := (1 : Int32)) hx hb dX10_remove_14 (by decide) ?_
    cases hf
    exact J4 _ _ _ S (lv_sub hl [0, 1, 2] rfl)
  · have hf := (if_neg c10).symm.trans hf
    refine lv_iconst (v := (0 : Int32)) hx hb dX10_remove_10 (by decide) ?_
    refine lv_goto (tgt := 15) hx hb dX10_remove_11 (by decide) ?_
    cases hf
    exact J4 _ _ _ S (lv_sub hl [0, 1, 2] rfl)

noncomputable def f_X10_moves (σ : gSt) (a0 : Int32) (a1 : Int32) (a2 : Int32) (a3 : Int32) : Option (Int32 × gSt) :=
  (g_k1 (f_X10_owns σ a0 a1) fun σ1 => (g_k1 (f_X10_takes σ1 a0 a1) fun σ2 => (g_k1 (gset σ2 5 0 a2) fun σ3 => (g_k1 (gset σ3 5 1 a3) fun σ4 => (g_k2 (f_X10_puts σ4 a0) fun v5 σ6 => some (v5, σ6))))))
set_option maxRecDepth 100000 in
set_option maxHeartbeats 4000000 in
theorem c_X10_moves (l : Launch) {Γ : gG} {ad : Nat → Nat} {N : Nat} (hN : 8 ≤ N) {σ : gSt} {a0 : Int32} {a1 : Int32} {a2 : Int32} {a3 : Int32}  {r : Int32} {σ' : gSt} (hf : f_X10_moves σ a0 a1 a2 a3 = some (r, σ')) : gMi l celM Γ ad N yX10_moves cX10_moves 5 (some .int) (gR 4 0 0) [.ref (ad 0), .int a0, .int a1, .int a2, .int a3] σ r σ' := by
  intro sz
  refine gOf (Qc := fun sz => gQci celM Γ ad N r σ' sz) RX10 (by decide) rfl (Nat.le_of_ble_eq_true rfl) (fun p e s m args below meth c H locs ls X S hl => ?_)
  have hl : lv_has ls 5 [(0, .ref (ad 0)), (1, .int a0), (2, .int a1), (3, .int a2), (4, .int a3)] := hl
  have hx := X.1
  have hb := X.2.1
  unfold f_X10_moves at hf
  refine lv_aload_n hx hb dX10_moves_0 rfl (lv_at hl 0 rfl) ?_
  refine lv_iload_n hx hb dX10_moves_1 rfl (lv_at hl 1 rfl) ?_
  refine lv_iload_n hx hb dX10_moves_2 rfl (lv_at hl 2 rfl) ?_
  obtain ⟨σ1, hσ1, hf⟩ := g_s1 hf
  refine g_kv S (g_runV (rest := []) X S (c_X10_owns l hN  hσ1 _) cvX10_owns mlX10_166 (by omega) (ceM_10 _) rfl rfl rfl hl.1 (Nat.le_of_ble_eq_true rfl) ⟨⟨rfl, rfl⟩, ⟨Nat.le_of_ble_eq_true rfl, Nat.le_of_ble_eq_true rfl⟩, Nat.le_of_ble_eq_true rfl, Nat.le_of_ble_eq_true rfl⟩ dX10_moves_3) (fun H locs S => ?_)
  refine lv_aload_n hx hb dX10_moves_6 rfl (lv_at hl 0 rfl) ?_
  refine lv_iload_n hx hb dX10_moves_7 rfl (lv_at hl 1 rfl) ?_
  refine lv_iload_n hx hb dX10_moves_8 rfl (lv_at hl 2 rfl) ?_
  obtain ⟨σ2, hσ2, hf⟩ := g_s1 hf
  refine g_kv S (g_runV (rest := []) X S (c_X10_takes l hN  hσ2 _) cvX10_takes mlX10_162 (by omega) (ceM_10 _) rfl rfl rfl hl.1 (Nat.le_of_ble_eq_true rfl) ⟨⟨rfl, rfl⟩, ⟨Nat.le_of_ble_eq_true rfl, Nat.le_of_ble_eq_true rfl⟩, Nat.le_of_ble_eq_true rfl, Nat.le_of_ble_eq_true rfl⟩ dX10_moves_9) (fun H locs S => ?_)
  refine lv_aload_n hx hb dX10_moves_12 rfl (lv_at hl 0 rfl) ?_
  refine gfX10_22 X S hN dX10_moves_13 ?_
  refine lv_iconst (v := (0 : Int32)) hx hb dX10_moves_16 (by decide) ?_
  refine lv_iload_n hx hb dX10_moves_17 rfl (lv_at hl 3 rfl) ?_
  obtain ⟨σ3, hσ3, hf⟩ := g_s1 hf
  refine g_iastC X S (by omega) (ceM_a (rfl : gma 5 = true)) 0 (by decide) (by decide) hσ3 dX10_moves_18 (fun H locs S => ?_)
  refine lv_aload_n hx hb dX10_moves_19 rfl (lv_at hl 0 rfl) ?_
  refine gfX10_22 X S hN dX10_moves_20 ?_
  refine lv_iconst (v := (1 : Int32)) hx hb dX10_moves_23 (by decide) ?_
  refine lv_iload hx hb dX10_moves_24 (lv_at hl 4 rfl) ?_
  obtain ⟨σ4, hσ4, hf⟩ := g_s1 hf
  refine g_iastC X S (by omega) (ceM_a (rfl : gma 5 = true)) 1 (by decide) (by decide) hσ4 dX10_moves_26 (fun H locs S => ?_)
  refine lv_aload_n hx hb dX10_moves_27 rfl (lv_at hl 0 rfl) ?_
  refine lv_iload_n hx hb dX10_moves_28 rfl (lv_at hl 1 rfl) ?_
  obtain ⟨v5, σ6, hv5, hf⟩ := g_s2 hf
  refine g_ki S (g_runV (rest := []) X S (c_X10_puts l hN  hv5 _) cvX10_puts mlX10_148 (by omega) (ceM_10 _) rfl rfl rfl hl.1 (Nat.le_of_ble_eq_true rfl) ⟨⟨rfl, rfl⟩, ⟨Nat.le_of_ble_eq_true rfl, Nat.le_of_ble_eq_true rfl⟩, Nat.le_of_ble_eq_true rfl, Nat.le_of_ble_eq_true rfl⟩ dX10_moves_29) (fun H locs S => ?_)
  cases hf
  exact g_reti X S rfl dX10_moves_32

noncomputable def f_X10_move (σ : gSt) (a0 : Int32) (a1 : Int32) (a2 : Int32) (a3 : Int32) : Option (Int32 × gSt) :=
  (g_k1 (f_X10_isCaption σ a0 a1) fun v1 => (g_k1 (if v1 = 0 then some (1 : Int32) else some (0 : Int32)) fun x2 => (g_k1 (gset σ 0 10 x2) fun σ5 => (if (σ5 0 10) ≤ 0 then (g_k1 (f_X10_againstPlace σ5 a0 a1 a2 a3) fun v7 => (if v7 ≤ 0 then (g_k1 (f_X10_changes σ5 1) fun σ9 => (g_k2 (f_X10_moves σ9 a0 a1 a2 a3) fun v10 σ11 => some (v10, σ11))) else (g_k2 (f_X10_refuses σ5 (2 : Int32) v7) fun v12 σ13 => some (v12, σ13)))) else some ((0 : Int32), σ5)))))
set_option maxRecDepth 100000 in
set_option maxHeartbeats 4000000 in
theorem c_X10_move (l : Launch) {Γ : gG} {ad : Nat → Nat} {N : Nat} (hN : 8 ≤ N) {σ : gSt} {a0 : Int32} {a1 : Int32} {a2 : Int32} {a3 : Int32}  {r : Int32} {σ' : gSt} (hf : f_X10_move σ a0 a1 a2 a3 = some (r, σ')) : gMi l celM Γ ad N yX10_move cX10_move 6 (some .int) (gR 5 0 0) [.ref (ad 0), .int a0, .int a1, .int a2, .int a3] σ r σ' := by
  intro sz
  refine gOf (Qc := fun sz => gQci celM Γ ad N r σ' sz) RX10 (by decide) rfl (Nat.le_of_ble_eq_true rfl) (fun p e s m args below meth c H locs ls X S hl => ?_)
  have hl : lv_has ls 6 [(0, .ref (ad 0)), (1, .int a0), (2, .int a1), (3, .int a2), (4, .int a3)] := hl
  have hx := X.1
  have hb := X.2.1
  unfold f_X10_move at hf
  refine lv_aload_n hx hb dX10_move_0 rfl (lv_at hl 0 rfl) ?_
  refine lv_aload_n hx hb dX10_move_1 rfl (lv_at hl 0 rfl) ?_
  refine lv_iload_n hx hb dX10_move_2 rfl (lv_at hl 1 rfl) ?_
  refine lv_iload_n hx hb dX10_move_3 rfl (lv_at hl 2 rfl) ?_
  obtain ⟨v1, hv1, hf⟩ := g_s1 hf
  refine g_ki S (g_runV (rest := [.ref (ad 0)]) X S (c_X10_isCaption l hN  hv1 _) cvX10_isCaption mlX10_159 (by omega) (ceM_10 _) rfl rfl rfl hl.1 (Nat.le_of_ble_eq_true rfl) ⟨⟨rfl, rfl⟩, ⟨Nat.le_of_ble_eq_true rfl, Nat.le_of_ble_eq_true rfl⟩, Nat.le_of_ble_eq_true rfl, Nat.le_of_ble_eq_true rfl⟩ dX10_move_4) (fun H locs S => ?_)
  obtain ⟨x2, hr3, hf⟩ := g_s1 hf
  have J4 : ∀ (H : Heap) (locs : List Loc) (ls : Array Slot), gS celM Γ ad N σ s H locs → lv_has ls 6 [(0, .ref (ad 0)), (1, .int a0), (2, .int a1), (3, .int a2), (4, .int a3)] → W p l e (gR 5 0 0) s m args below meth c H locs 0 0 (gQi celM Γ ad N r σ' below args s) (F0 m 15 ls [.int x2, .ref (ad 0)]) := by
    intro H locs ls S hl
    obtain ⟨σ5, hσ5, hf⟩ := g_s1 hf
    refine pfX10_35 X S hN hσ5 dX10_move_15 (fun H locs S => ?_)
    refine lv_aload_n hx hb dX10_move_18 rfl (lv_at hl 0 rfl) ?_
    refine gfX10_35 X S hN dX10_move_19 ?_
    refine lv_if_le (tgt := 27) hx hb dX10_move_22 (by decide) (fun c6 => ?_) (fun c6 => ?_)
    · have hf := (if_pos c6).symm.trans hf
      refine lv_aload_n hx hb dX10_move_27 rfl (lv_at hl 0 rfl) ?_
      refine lv_iload_n hx hb dX10_move_28 rfl (lv_at hl 1 rfl) ?_
      refine lv_iload_n hx hb dX10_move_29 rfl (lv_at hl 2 rfl) ?_
      refine lv_iload_n hx hb dX10_move_30 rfl (lv_at hl 3 rfl) ?_
      refine lv_iload hx hb dX10_move_31 (lv_at hl 4 rfl) ?_
      obtain ⟨v7, hv7, hf⟩ := g_s1 hf
      refine g_ki S (g_runV (rest := []) X S (c_X10_againstPlace l hN  hv7 _) cvX10_againstPlace mlX10_140 (by omega) (ceM_10 _) rfl rfl rfl hl.1 (Nat.le_of_ble_eq_true rfl) ⟨⟨rfl, rfl⟩, ⟨Nat.le_of_ble_eq_true rfl, Nat.le_of_ble_eq_true rfl⟩, Nat.le_of_ble_eq_true rfl, Nat.le_of_ble_eq_true rfl⟩ dX10_move_33) (fun H locs S => ?_)
      refine lv_istore (lv' := [(5, .int v7), (0, .ref (ad 0)), (1, .int a0), (2, .int a1), (3, .int a2), (4, .int a3)]) hx hb dX10_move_36 hl (by decide) rfl (fun ls hl => ?_)
      refine lv_iload hx hb dX10_move_38 (lv_at hl 0 rfl) ?_
      refine lv_if_le (tgt := 51) hx hb dX10_move_40 (by decide) (fun c8 => ?_) (fun c8 => ?_)
      · have hf := (if_pos c8).symm.trans hf
        refine lv_aload_n hx hb dX10_move_51 rfl (lv_at hl 1 rfl) ?_
        refine lv_aload_n hx hb dX10_move_52 rfl (lv_at hl 1 rfl) ?_
        refine gfX10_7 X S hN dX10_move_53 ?_
        obtain ⟨σ9, hσ9, hf⟩ := g_s1 hf
        refine g_kv S (g_runV (rest := []) X S (c_X10_changes l hN (by rfl : gma 1 = true) hσ9 _) cvX10_changes mlX10_78 (by omega) (ceM_10 _) rfl rfl rfl hl.1 (Nat.le_of_ble_eq_true rfl) ⟨⟨rfl, rfl⟩, ⟨Nat.le_of_ble_eq_true rfl, Nat.le_of_ble_eq_true rfl⟩, Nat.le_of_ble_eq_true rfl, Nat.le_of_ble_eq_true rfl⟩ dX10_move_56) (fun H locs S => ?_)
        refine lv_aload_n hx hb dX10_move_59 rfl (lv_at hl 1 rfl) ?_
        refine lv_iload_n hx hb dX10_move_60 rfl (lv_at hl 2 rfl) ?_
        refine lv_iload_n hx hb dX10_move_61 rfl (lv_at hl 3 rfl) ?_
        refine lv_iload_n hx hb dX10_move_62 rfl (lv_at hl 4 rfl) ?_
        refine lv_iload hx hb dX10_move_63 (lv_at hl 5 rfl) ?_
        obtain ⟨v10, σ11, hv10, hf⟩ := g_s2 hf
        refine g_ki S (g_runV (rest := []) X S (c_X10_moves l hN  hv10 _) cvX10_moves mlX10_169 (by omega) (ceM_10 _) rfl rfl rfl hl.1 (Nat.le_of_ble_eq_true rfl) ⟨⟨rfl, rfl⟩, ⟨Nat.le_of_ble_eq_true rfl, Nat.le_of_ble_eq_true rfl⟩, Nat.le_of_ble_eq_true rfl, Nat.le_of_ble_eq_true rfl⟩ dX10_move_65) (fun H locs S => ?_)
        cases hf
        exact g_reti X S rfl dX10_move_68
      · have hf := (if_neg c8).symm.trans hf
        refine lv_aload_n hx hb dX10_move_43 rfl (lv_at hl 1 rfl) ?_
        refine lv_iconst (v := (2 : Int32)) hx hb dX10_move_44 (by decide) ?_
        refine lv_iload hx hb dX10_move_45 (lv_at hl 0 rfl) ?_
        obtain ⟨v12, σ13, hv12, hf⟩ := g_s2 hf
        refine g_ki S (g_runV (rest := []) X S (c_X10_refuses l hN  hv12 _) cvX10_refuses mlX10_75 (by omega) (ceM_10 _) rfl rfl rfl hl.1 (Nat.le_of_ble_eq_true rfl) ⟨⟨rfl, rfl⟩, ⟨Nat.le_of_ble_eq_true rfl, Nat.le_of_ble_eq_true rfl⟩, Nat.le_of_ble_eq_true rfl, Nat.le_of_ble_eq_true rfl⟩ dX10_move_47) (fun H locs S => ?_)
        cases hf
        exact g_reti X S rfl dX10_move_50
    · have hf := (if_neg c6).symm.trans hf
      refine lv_iconst (v := (0 : Int32)) hx hb dX10_move_25 (by decide) ?_
      cases hf
      exact g_reti X S rfl dX10_move_26
  replace hf := hr3
  refine lv_if_eq (tgt := 14) hx hb dX10_move_7 (by decide) (fun c14 => ?_) (fun c14 => ?_)
  · have hf := (if_pos c14).symm.trans hf
    refine lv_iconst (v := (1 : Int32)) hx hb dX10_move_14 (by decide) ?_
    cases hf
    exact J4 _ _ _ S (lv_sub hl [0, 1, 2, 3, 4] rfl)
  · have hf := (if_neg c14).symm.trans hf
    refine lv_iconst (v := (0 : Int32)) hx hb dX10_move_10 (by decide) ?_
    refine lv_goto (tgt := 15) hx hb dX10_move_11 (by decide) ?_
    cases hf
    exact J4 _ _ _ S (lv_sub hl [0, 1, 2, 3, 4] rfl)

