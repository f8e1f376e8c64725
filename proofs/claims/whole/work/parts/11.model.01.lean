noncomputable def f_X10_againstCut (σ : gSt) (a0 : Int32) (a1 : Int32) : Option (Int32) :=
  (g_k1 (f_X10_in σ a0 (1 : Int32) ((σ 1 0) - (1 : Int32))) fun v1 => (g_k1 (if v1 = 0 then some (1 : Int32) else (if a1 = 0 then some (0 : Int32) else (if (σ 1 7) = (20 : Int32) then (g_k1 (f_X10_isCut σ a0) fun v8 => (if v8 = 0 then some (8 : Int32) else some (0 : Int32))) else some (0 : Int32)))) fun x2 => some x2))
set_option maxRecDepth 100000 in
set_option maxHeartbeats 4000000 in
theorem c_X10_againstCut (l : Launch) {Γ : gG} {ad : Nat → Nat} {N : Nat} (hN : 8 ≤ N) {σ : gSt} {a0 : Int32} {a1 : Int32}  {r : Int32} (hf : f_X10_againstCut σ a0 a1 = some r) : gMi l celM Γ ad N yX10_againstCut cX10_againstCut 3 (some .int) (gR 2 0 0) [.ref (ad 0), .int a0, .int a1] σ r σ := by
  intro sz
  refine gOf (Qc := fun sz => gQci celM Γ ad N r σ sz) RX10 (by decide) rfl (Nat.le_of_ble_eq_true rfl) (fun p e s m args below meth c H locs ls X S hl => ?_)
  have hl : lv_has ls 3 [(0, .ref (ad 0)), (1, .int a0), (2, .int a1)] := hl
  have hx := X.1
  have hb := X.2.1
  unfold f_X10_againstCut at hf
  refine lv_iload_n hx hb dX10_againstCut_0 rfl (lv_at hl 1 rfl) ?_
  refine lv_iconst (v := (1 : Int32)) hx hb dX10_againstCut_1 (by decide) ?_
  refine lv_aload_n hx hb dX10_againstCut_2 rfl (lv_at hl 0 rfl) ?_
  refine gfX10_7 X S hN dX10_againstCut_3 ?_
  refine lv_iconst (v := (0 : Int32)) hx hb dX10_againstCut_6 (by decide) ?_
  refine g_ialdC X S (by omega) (ceM_a (rfl : gma 1 = true)) 0 (by decide) (by decide) dX10_againstCut_7 ?_
  refine lv_iconst (v := (1 : Int32)) hx hb dX10_againstCut_8 (by decide) ?_
  refine lv_isub hx hb dX10_againstCut_9 ?_
  obtain ⟨v1, hv1, hf⟩ := g_s1 hf
  refine g_ki S (g_runS (rest := []) X S (c_X10_in l hN  hv1 _) csX10_in mlX10_48 rfl rfl hl.1 (Nat.le_of_ble_eq_true rfl) ⟨⟨rfl, rfl⟩, ⟨Nat.le_of_ble_eq_true rfl, Nat.le_of_ble_eq_true rfl⟩, Nat.le_of_ble_eq_true rfl, Nat.le_of_ble_eq_true rfl⟩ dX10_againstCut_10) (fun H locs S => ?_)
  obtain ⟨x2, hr3, hf⟩ := g_s1 hf
  have J4 : ∀ (H : Heap) (locs : List Loc) (ls : Array Slot), gS celM Γ ad N σ s H locs → lv_has ls 3 [] → W p l e (gR 2 0 0) s m args below meth c H locs 0 0 (gQi celM Γ ad N r σ below args s) (F0 m 50 ls [.int x2]) := by
    intro H locs ls S hl
    cases hf
    exact g_reti X S rfl dX10_againstCut_50
  replace hf := hr3
  refine lv_if_ne (tgt := 20) hx hb dX10_againstCut_13 (by decide) (fun c5 => ?_) (fun c5 => ?_)
  · have hf := (if_neg c5).symm.trans hf
    refine lv_iload_n hx hb dX10_againstCut_20 rfl (lv_at hl 2 rfl) ?_
    refine lv_if_eq (tgt := 49) hx hb dX10_againstCut_21 (by decide) (fun c6 => ?_) (fun c6 => ?_)
    · have hf := (if_pos c6).symm.trans hf
      refine lv_iconst (v := (0 : Int32)) hx hb dX10_againstCut_49 (by decide) ?_
      cases hf
      exact J4 _ _ _ S (lv_sub hl [] rfl)
    · have hf := (if_neg c6).symm.trans hf
      refine lv_aload_n hx hb dX10_againstCut_24 rfl (lv_at hl 0 rfl) ?_
      refine gfX10_7 X S hN dX10_againstCut_25 ?_
      refine lv_bipush (v := (7 : Int32)) hx hb dX10_againstCut_28 (by decide) ?_
      refine g_ialdC X S (by omega) (ceM_a (rfl : gma 1 = true)) 7 (by decide) (by decide) dX10_againstCut_30 ?_
      refine lv_bipush (v := (20 : Int32)) hx hb dX10_againstCut_31 (by decide) ?_
      refine lv_icmp_ne (tgt := 49) hx hb dX10_againstCut_33 (by decide) (fun c7 => ?_) (fun c7 => ?_)
      · have hf := (if_neg c7).symm.trans hf
        refine lv_iconst (v := (0 : Int32)) hx hb dX10_againstCut_49 (by decide) ?_
        cases hf
        exact J4 _ _ _ S (lv_sub hl [] rfl)
      · have hf := (if_pos c7).symm.trans hf
        refine lv_aload_n hx hb dX10_againstCut_36 rfl (lv_at hl 0 rfl) ?_
        refine lv_iload_n hx hb dX10_againstCut_37 rfl (lv_at hl 1 rfl) ?_
        obtain ⟨v8, hv8, hf⟩ := g_s1 hf
        refine g_ki S (g_runV (rest := []) X S (c_X10_isCut l hN  hv8 _) cvX10_isCut mlX10_86 (by omega) (ceM_10 _) rfl rfl rfl hl.1 (Nat.le_of_ble_eq_true rfl) ⟨⟨rfl, rfl⟩, ⟨Nat.le_of_ble_eq_true rfl, Nat.le_of_ble_eq_true rfl⟩, Nat.le_of_ble_eq_true rfl, Nat.le_of_ble_eq_true rfl⟩ dX10_againstCut_38) (fun H locs S => ?_)
        refine lv_if_ne (tgt := 49) hx hb dX10_againstCut_41 (by decide) (fun c9 => ?_) (fun c9 => ?_)
        · have hf := (if_neg c9).symm.trans hf
          refine lv_iconst (v := (0 : Int32)) hx hb dX10_againstCut_49 (by decide) ?_
          cases hf
          exact J4 _ _ _ S (lv_sub hl [] rfl)
        · have hf := (if_pos c9).symm.trans hf
          refine lv_bipush (v := (8 : Int32)) hx hb dX10_againstCut_44 (by decide) ?_
          refine lv_goto (tgt := 50) hx hb dX10_againstCut_46 (by decide) ?_
          cases hf
          exact J4 _ _ _ S (lv_sub hl [] rfl)
  · have hf := (if_pos c5).symm.trans hf
    refine lv_iconst (v := (1 : Int32)) hx hb dX10_againstCut_16 (by decide) ?_
    refine lv_goto (tgt := 50) hx hb dX10_againstCut_17 (by decide) ?_
    cases hf
    exact J4 _ _ _ S (lv_sub hl [] rfl)

noncomputable def f_X10_cuts_l1 (σ : gSt) (a0 : Int32) : Nat → Int32 → Option (Int32)
  | 0, _ => none
  | n + 1, i4 => (g_k1 (gald σ 1 926 ((8 : Int32) + i4)) fun v6 => (if v6 = a0 then some i4 else (f_X10_cuts_l1 σ a0 n (i4 + 1))))
set_option maxRecDepth 100000 in
set_option maxHeartbeats 4000000 in
theorem w_X10_cuts_l1 {l : Launch} {Γ : gG} {ad : Nat → Nat} {N : Nat} {p : Program} {e : Env} {s : State} {m : MethodId} {args : Array Value} {below : List Frame} {meth : Method} {c : Code} {Q : State → Prop} (hN : 8 ≤ N) (X : gX celM Γ ad N RX10 cX10_cuts 4 none p s m args meth c) {σ : gSt} {a0 : Int32}  : ∀ (n : Nat) (i4 : Int32) (r5 : Int32), f_X10_cuts_l1 σ a0 n i4 = some r5 → (∀ (H : Heap) (locs : List Loc) (ls : Array Slot), gS celM Γ ad N σ s H locs → lv_has ls 4 [(3, .int r5), (0, .ref (ad 0))] → W p l e (gR 2 0 0) s m args below meth c H locs 0 0 (Q) (F0 m 110 ls [])) → ∀ (H : Heap) (locs : List Loc) (ls : Array Slot), gS celM Γ ad N σ s H locs → lv_has ls 4 [(3, .int i4), (0, .ref (ad 0)), (1, .int a0)] → W p l e (gR 2 0 0) s m args below meth c H locs 0 0 (Q) (F0 m 91 ls []) := by
  have hx := X.1
  have hb := X.2.1
  intro n
  induction n with
  | zero =>
    intro i4 r5 hf
    cases hf
  | succ n ih =>
    intro i4 r5 hf J H locs ls S hl
    rw [f_X10_cuts_l1] at hf
    refine lv_aload_n hx hb dX10_cuts_91 rfl (lv_at hl 1 rfl) ?_
    refine gfX10_7 X S hN dX10_cuts_92 ?_
    refine lv_bipush (v := (8 : Int32)) hx hb dX10_cuts_95 (by decide) ?_
    refine lv_iload_n hx hb dX10_cuts_97 rfl (lv_at hl 0 rfl) ?_
    refine lv_iadd hx hb dX10_cuts_98 ?_
    obtain ⟨v6, hv6, hf⟩ := g_s1 hf
    refine g_iald X S (by omega) (ceM_a (rfl : gma 1 = true)) hv6 dX10_cuts_99 ?_
    refine lv_iload_n hx hb dX10_cuts_100 rfl (lv_at hl 2 rfl) ?_
    refine lv_icmp_eq (tgt := 110) hx hb dX10_cuts_101 (by decide) (fun c7 => ?_) (fun c7 => ?_)
    · have hf := (if_pos c7).symm.trans hf
      cases hf
      exact J _ _ _ S (lv_sub hl [0, 1] rfl)
    · have hf := (if_neg c7).symm.trans hf
      refine lv_iinc (v := (i4 + 1)) (lv' := [(3, .int (i4 + 1)), (0, .ref (ad 0)), (1, .int a0)]) hx hb dX10_cuts_104 hl (k := 0) rfl rfl (by decide) rfl (fun ls hl => ?_)
      refine lv_goto (tgt := 91) hx hb dX10_cuts_107 (by decide) ?_
      exact ih _ _  hf J _ _ _ S (lv_sub hl [0, 1, 2] rfl)
noncomputable def f_X10_cuts_l2 (σ9 : gSt) : Nat → Int32 → gSt → Option (gSt)
  | 0, _, _ => none
  | n + 1, i10, σ11 => (if (σ11 1 7) ≤ i10 then some σ11 else (g_k1 (gald σ11 1 926 (((8 : Int32) + i10) + (1 : Int32))) fun v14 => (g_k1 (gast σ11 1 926 ((8 : Int32) + i10) v14) fun σ15 => (f_X10_cuts_l2 σ9 n (i10 + 1) σ15))))
set_option maxRecDepth 100000 in
set_option maxHeartbeats 4000000 in
theorem w_X10_cuts_l2 {l : Launch} {Γ : gG} {ad : Nat → Nat} {N : Nat} {p : Program} {e : Env} {s : State} {m : MethodId} {args : Array Value} {below : List Frame} {meth : Method} {c : Code} {Q : State → Prop} (hN : 8 ≤ N) (X : gX celM Γ ad N RX10 cX10_cuts 4 none p s m args meth c) {σ9 : gSt}  : ∀ (n : Nat) (i10 : Int32) (σ11 : gSt) (σ12 : gSt), f_X10_cuts_l2 σ9 n i10 σ11 = some σ12 → (∀ (H : Heap) (locs : List Loc) (ls : Array Slot), gS celM Γ ad N σ12 s H locs → lv_has ls 4 [] → W p l e (gR 2 0 0) s m args below meth c H locs 0 0 (Q) (F0 m 158 ls [])) → ∀ (H : Heap) (locs : List Loc) (ls : Array Slot), gS celM Γ ad N σ11 s H locs → lv_has ls 4 [(3, .int i10), (0, .ref (ad 0))] → W p l e (gR 2 0 0) s m args below meth c H locs 0 0 (Q) (F0 m 121 ls []) := by
  have hx := X.1
  have hb := X.2.1
  intro n
  induction n with
  | zero =>
    intro i10 σ11 σ12 hf
    cases hf
  | succ n ih =>
    intro i10 σ11 σ12 hf J H locs ls S hl
    rw [f_X10_cuts_l2] at hf
    refine lv_iload_n hx hb dX10_cuts_121 rfl (lv_at hl 0 rfl) ?_
    refine lv_aload_n hx hb dX10_cuts_122 rfl (lv_at hl 1 rfl) ?_
    refine gfX10_7 X S hN dX10_cuts_123 ?_
    refine lv_bipush (v := (7 : Int32)) hx hb dX10_cuts_126 (by decide) ?_
    refine g_ialdC X S (by omega) (ceM_a (rfl : gma 1 = true)) 7 (by decide) (by decide) dX10_cuts_128 ?_
    refine lv_icmp_ge (tgt := 158) hx hb dX10_cuts_129 (by decide) (fun c13 => ?_) (fun c13 => ?_)
    · have hf := (if_pos c13).symm.trans hf
      cases hf
      exact J _ _ _ S (lv_sub hl [] rfl)
    · have hf := (if_neg c13).symm.trans hf
      refine lv_aload_n hx hb dX10_cuts_132 rfl (lv_at hl 1 rfl) ?_
      refine gfX10_7 X S hN dX10_cuts_133 ?_
      refine lv_bipush (v := (8 : Int32)) hx hb dX10_cuts_136 (by decide) ?_
      refine lv_iload_n hx hb dX10_cuts_138 rfl (lv_at hl 0 rfl) ?_
      refine lv_iadd hx hb dX10_cuts_139 ?_
      refine lv_aload_n hx hb dX10_cuts_140 rfl (lv_at hl 1 rfl) ?_
      refine gfX10_7 X S hN dX10_cuts_141 ?_
      refine lv_bipush (v := (8 : Int32)) hx hb dX10_cuts_144 (by decide) ?_
      refine lv_iload_n hx hb dX10_cuts_146 rfl (lv_at hl 0 rfl) ?_
      refine lv_iadd hx hb dX10_cuts_147 ?_
      refine lv_iconst (v := (1 : Int32)) hx hb dX10_cuts_148 (by decide) ?_
      refine lv_iadd hx hb dX10_cuts_149 ?_
      obtain ⟨v14, hv14, hf⟩ := g_s1 hf
      refine g_iald X S (by omega) (ceM_a (rfl : gma 1 = true)) hv14 dX10_cuts_150 ?_
      obtain ⟨σ15, hσ15, hf⟩ := g_s1 hf
      refine g_iast X S (by omega) (ceM_a (rfl : gma 1 = true)) hσ15 dX10_cuts_151 (fun H locs S => ?_)
      refine lv_iinc (v := (i10 + 1)) (lv' := [(3, .int (i10 + 1)), (0, .ref (ad 0))]) hx hb dX10_cuts_152 hl (k := 0) rfl rfl (by decide) rfl (fun ls hl => ?_)
      refine lv_goto (tgt := 121) hx hb dX10_cuts_155 (by decide) ?_
      exact ih _ _ _  hf J _ _ _ S (lv_sub hl [0, 1] rfl)
noncomputable def f_X10_cuts_l3 (σ : gSt) (a0 : Int32) : Nat → Int32 → gSt → Option (Int32 × gSt)
  | 0, _, _ => none
  | n + 1, i17, σ18 => (if i17 ≤ 0 then some (i17, σ18) else (g_k1 (gald σ18 1 926 (((8 : Int32) + i17) - (1 : Int32))) fun v22 => (if v22 ≤ a0 then some (i17, σ18) else (g_k1 (gald σ18 1 926 (((8 : Int32) + i17) - (1 : Int32))) fun v24 => (g_k1 (gast σ18 1 926 ((8 : Int32) + i17) v24) fun σ25 => (f_X10_cuts_l3 σ a0 n (i17 + (-1)) σ25))))))
set_option maxRecDepth 100000 in
set_option maxHeartbeats 4000000 in
theorem w_X10_cuts_l3 {l : Launch} {Γ : gG} {ad : Nat → Nat} {N : Nat} {p : Program} {e : Env} {s : State} {m : MethodId} {args : Array Value} {below : List Frame} {meth : Method} {c : Code} {Q : State → Prop} (hN : 8 ≤ N) (X : gX celM Γ ad N RX10 cX10_cuts 4 none p s m args meth c) {σ : gSt} {a0 : Int32}  : ∀ (n : Nat) (i17 : Int32) (σ18 : gSt) (r19 : Int32) (σ20 : gSt), f_X10_cuts_l3 σ a0 n i17 σ18 = some (r19, σ20) → (∀ (H : Heap) (locs : List Loc) (ls : Array Slot), gS celM Γ ad N σ20 s H locs → lv_has ls 4 [(3, .int r19), (0, .ref (ad 0)), (1, .int a0)] → W p l e (gR 2 0 0) s m args below meth c H locs 0 0 (Q) (F0 m 67 ls [])) → ∀ (H : Heap) (locs : List Loc) (ls : Array Slot), gS celM Γ ad N σ18 s H locs → lv_has ls 4 [(3, .int i17), (0, .ref (ad 0)), (1, .int a0)] → W p l e (gR 2 0 0) s m args below meth c H locs 0 0 (Q) (F0 m 22 ls []) := by
  have hx := X.1
  have hb := X.2.1
  intro n
  induction n with
  | zero =>
    intro i17 σ18 r19 σ20 hf
    cases hf
  | succ n ih =>
    intro i17 σ18 r19 σ20 hf J H locs ls S hl
    rw [f_X10_cuts_l3] at hf
    refine lv_iload_n hx hb dX10_cuts_22 rfl (lv_at hl 0 rfl) ?_
    refine lv_if_le (tgt := 67) hx hb dX10_cuts_23 (by decide) (fun c21 => ?_) (fun c21 => ?_)
    · have hf := (if_pos c21).symm.trans hf
      cases hf
      exact J _ _ _ S (lv_sub hl [0, 1, 2] rfl)
    · have hf := (if_neg c21).symm.trans hf
      refine lv_aload_n hx hb dX10_cuts_26 rfl (lv_at hl 1 rfl) ?_
      refine gfX10_7 X S hN dX10_cuts_27 ?_
      refine lv_bipush (v := (8 : Int32)) hx hb dX10_cuts_30 (by decide) ?_
      refine lv_iload_n hx hb dX10_cuts_32 rfl (lv_at hl 0 rfl) ?_
      refine lv_iadd hx hb dX10_cuts_33 ?_
      refine lv_iconst (v := (1 : Int32)) hx hb dX10_cuts_34 (by decide) ?_
      refine lv_isub hx hb dX10_cuts_35 ?_
      obtain ⟨v22, hv22, hf⟩ := g_s1 hf
      refine g_iald X S (by omega) (ceM_a (rfl : gma 1 = true)) hv22 dX10_cuts_36 ?_
      refine lv_iload_n hx hb dX10_cuts_37 rfl (lv_at hl 2 rfl) ?_
      refine lv_icmp_le (tgt := 67) hx hb dX10_cuts_38 (by decide) (fun c23 => ?_) (fun c23 => ?_)
      · have hf := (if_pos c23).symm.trans hf
        cases hf
        exact J _ _ _ S (lv_sub hl [0, 1, 2] rfl)
      · have hf := (if_neg c23).symm.trans hf
        refine lv_aload_n hx hb dX10_cuts_41 rfl (lv_at hl 1 rfl) ?_
        refine gfX10_7 X S hN dX10_cuts_42 ?_
        refine lv_bipush (v := (8 : Int32)) hx hb dX10_cuts_45 (by decide) ?_
        refine lv_iload_n hx hb dX10_cuts_47 rfl (lv_at hl 0 rfl) ?_
        refine lv_iadd hx hb dX10_cuts_48 ?_
        refine lv_aload_n hx hb dX10_cuts_49 rfl (lv_at hl 1 rfl) ?_
        refine gfX10_7 X S hN dX10_cuts_50 ?_
        refine lv_bipush (v := (8 : Int32)) hx hb dX10_cuts_53 (by decide) ?_
        refine lv_iload_n hx hb dX10_cuts_55 rfl (lv_at hl 0 rfl) ?_
        refine lv_iadd hx hb dX10_cuts_56 ?_
        refine lv_iconst (v := (1 : Int32)) hx hb dX10_cuts_57 (by decide) ?_
        refine lv_isub hx hb dX10_cuts_58 ?_
        obtain ⟨v24, hv24, hf⟩ := g_s1 hf
        refine g_iald X S (by omega) (ceM_a (rfl : gma 1 = true)) hv24 dX10_cuts_59 ?_
        obtain ⟨σ25, hσ25, hf⟩ := g_s1 hf
        refine g_iast X S (by omega) (ceM_a (rfl : gma 1 = true)) hσ25 dX10_cuts_60 (fun H locs S => ?_)
        refine lv_iinc (v := (i17 + (-1))) (lv' := [(3, .int (i17 + (-1))), (0, .ref (ad 0)), (1, .int a0)]) hx hb dX10_cuts_61 hl (k := 0) rfl rfl (by decide) rfl (fun ls hl => ?_)
        refine lv_goto (tgt := 22) hx hb dX10_cuts_64 (by decide) ?_
        exact ih _ _ _ _  hf J _ _ _ S (lv_sub hl [0, 1, 2] rfl)
noncomputable def f_X10_cuts (σ : gSt) (a0 : Int32) (a1 : Int32) : Option (gSt) :=
  (g_k1 (f_X10_isCut σ a0) fun v1 => (if v1 = a1 then some σ else (if a1 = 0 then (g_k1 (f_X10_cuts_l1 σ a0 FU (0 : Int32)) fun r5 => (g_k1 (gset σ 1 7 ((σ 1 7) - (1 : Int32))) fun σ9 => (g_k1 (f_X10_cuts_l2 σ9 FU r5 σ9) fun σ12 => some σ12))) else (g_k2 (f_X10_cuts_l3 σ a0 FU (σ 1 7) σ) fun r19 σ20 => (g_k1 (gast σ20 1 926 ((8 : Int32) + r19) a0) fun σ27 => (g_k1 (gset σ27 1 7 ((σ27 1 7) + (1 : Int32))) fun σ28 => some σ28))))))
set_option maxRecDepth 100000 in
set_option maxHeartbeats 4000000 in
theorem c_X10_cuts (l : Launch) {Γ : gG} {ad : Nat → Nat} {N : Nat} (hN : 8 ≤ N) {σ : gSt} {a0 : Int32} {a1 : Int32}  {σ' : gSt} (hf : f_X10_cuts σ a0 a1 = some σ') : gMv l celM Γ ad N yX10_cuts cX10_cuts 4 none (gR 2 0 0) [.ref (ad 0), .int a0, .int a1] σ σ' := by
  intro sz
  refine gOf (Qc := fun sz => gQcv celM Γ ad N σ' sz) RX10 (by decide) rfl (Nat.le_of_ble_eq_true rfl) (fun p e s m args below meth c H locs ls X S hl => ?_)
  have hl : lv_has ls 4 [(0, .ref (ad 0)), (1, .int a0), (2, .int a1)] := hl
  have hx := X.1
  have hb := X.2.1
  unfold f_X10_cuts at hf
  refine lv_aload_n hx hb dX10_cuts_0 rfl (lv_at hl 0 rfl) ?_
  refine lv_iload_n hx hb dX10_cuts_1 rfl (lv_at hl 1 rfl) ?_
  obtain ⟨v1, hv1, hf⟩ := g_s1 hf
  refine g_ki S (g_runV (rest := []) X S (c_X10_isCut l hN  hv1 _) cvX10_isCut mlX10_86 (by omega) (ceM_10 _) rfl rfl rfl hl.1 (Nat.le_of_ble_eq_true rfl) ⟨⟨rfl, rfl⟩, ⟨Nat.le_of_ble_eq_true rfl, Nat.le_of_ble_eq_true rfl⟩, Nat.le_of_ble_eq_true rfl, Nat.le_of_ble_eq_true rfl⟩ dX10_cuts_2) (fun H locs S => ?_)
  refine lv_iload_n hx hb dX10_cuts_5 rfl (lv_at hl 2 rfl) ?_
  refine lv_icmp_ne (tgt := 10) hx hb dX10_cuts_6 (by decide) (fun c2 => ?_) (fun c2 => ?_)
  · have hf := (if_neg c2).symm.trans hf
    refine lv_iload_n hx hb dX10_cuts_10 rfl (lv_at hl 2 rfl) ?_
    refine lv_if_eq (tgt := 89) hx hb dX10_cuts_11 (by decide) (fun c3 => ?_) (fun c3 => ?_)
    · have hf := (if_pos c3).symm.trans hf
      refine lv_iconst (v := (0 : Int32)) hx hb dX10_cuts_89 (by decide) ?_
      refine lv_istore_n (lv' := [(3, .int (0 : Int32)), (0, .ref (ad 0)), (1, .int a0), (2, .int a1)]) hx hb dX10_cuts_90 rfl hl (by decide) rfl (fun ls hl => ?_)
      obtain ⟨r5, hr8, hf⟩ := g_s1 hf
      refine w_X10_cuts_l1 hN X  FU _ _  hr8 (fun H locs ls S hl => ?_) _ _ _ S (lv_sub hl [0, 1, 2] rfl)
      refine lv_aload_n hx hb dX10_cuts_110 rfl (lv_at hl 1 rfl) ?_
      refine gfX10_7 X S hN dX10_cuts_111 ?_
      refine lv_bipush (v := (7 : Int32)) hx hb dX10_cuts_114 (by decide) ?_
      refine lv_dup2_11 hx hb dX10_cuts_116 rfl rfl ?_
      refine g_ialdC X S (by omega) (ceM_a (rfl : gma 1 = true)) 7 (by decide) (by decide) dX10_cuts_117 ?_
      refine lv_iconst (v := (1 : Int32)) hx hb dX10_cuts_118 (by decide) ?_
      refine lv_isub hx hb dX10_cuts_119 ?_
      obtain ⟨σ9, hσ9, hf⟩ := g_s1 hf
      refine g_iastC X S (by omega) (ceM_a (rfl : gma 1 = true)) 7 (by decide) (by decide) hσ9 dX10_cuts_120 (fun H locs S => ?_)
      obtain ⟨σ12, hr16, hf⟩ := g_s1 hf
      refine w_X10_cuts_l2 hN X  FU _ _ _  hr16 (fun H locs ls S hl => ?_) _ _ _ S (lv_sub hl [0, 1] rfl)
      cases hf
      exact g_retv X S dX10_cuts_158
    · have hf := (if_neg c3).symm.trans hf
      refine lv_aload_n hx hb dX10_cuts_14 rfl (lv_at hl 0 rfl) ?_
      refine gfX10_7 X S hN dX10_cuts_15 ?_
      refine lv_bipush (v := (7 : Int32)) hx hb dX10_cuts_18 (by decide) ?_
      refine g_ialdC X S (by omega) (ceM_a (rfl : gma 1 = true)) 7 (by decide) (by decide) dX10_cuts_20 ?_
      refine lv_istore_n (lv' := [(3, .int (σ 1 7)), (0, .ref (ad 0)), (1, .int a0), (2, .int a1)]) hx hb dX10_cuts_21 rfl hl (by decide) rfl (fun ls hl => ?_)
      obtain ⟨r19, σ20, hr26, hf⟩ := g_s2 hf
      refine w_X10_cuts_l3 hN X  FU _ _ _ _  hr26 (fun H locs ls S hl => ?_) _ _ _ S (lv_sub hl [0, 1, 2] rfl)
      refine lv_aload_n hx hb dX10_cuts_67 rfl (lv_at hl 1 rfl) ?_
      refine gfX10_7 X S hN dX10_cuts_68 ?_
      refine lv_bipush (v := (8 : Int32)) hx hb dX10_cuts_71 (by decide) ?_
      refine lv_iload_n hx hb dX10_cuts_73 rfl (lv_at hl 0 rfl) ?_
      refine lv_iadd hx hb dX10_cuts_74 ?_
      refine lv_iload_n hx hb dX10_cuts_75 rfl (lv_at hl 2 rfl) ?_
      obtain ⟨σ27, hσ27, hf⟩ := g_s1 hf
      refine g_iast X S (by omega) (ceM_a (rfl : gma 1 = true)) hσ27 dX10_cuts_76 (fun H locs S => ?_)
      refine lv_aload_n hx hb dX10_cuts_77 rfl (lv_at hl 1 rfl) ?_
      refine gfX10_7 X S hN dX10_cuts_78 ?_
      refine lv_bipush (v := (7 : Int32)) hx hb dX10_cuts_81 (by decide) ?_
      refine lv_dup2_11 hx hb dX10_cuts_83 rfl rfl ?_
      refine g_ialdC X S (by omega) (ceM_a (rfl : gma 1 = true)) 7 (by decide) (by decide) dX10_cuts_84 ?_
      refine lv_iconst (v := (1 : Int32)) hx hb dX10_cuts_85 (by decide) ?_
      refine lv_iadd hx hb dX10_cuts_86 ?_
      obtain ⟨σ28, hσ28, hf⟩ := g_s1 hf
      refine g_iastC X S (by omega) (ceM_a (rfl : gma 1 = true)) 7 (by decide) (by decide) hσ28 dX10_cuts_87 (fun H locs S => ?_)
      cases hf
      exact g_retv X S dX10_cuts_88
  · have hf := (if_pos c2).symm.trans hf
    cases hf
    exact g_retv X S dX10_cuts_9

noncomputable def f_X10_cut (σ : gSt) (a0 : Int32) (a1 : Int32) : Option (Int32 × gSt) :=
  (g_k1 (f_X10_againstCut σ a0 a1) fun v1 => (g_k1 (if v1 = (1 : Int32) then some (1 : Int32) else (if v1 = (8 : Int32) then some (2 : Int32) else some (0 : Int32))) fun x2 => (g_k1 (gset σ 0 10 x2) fun σ5 => (if (σ5 0 10) ≤ 0 then (g_k1 (f_X10_changes σ5 1) fun σ7 => (g_k1 (f_X10_cuts σ7 a0 a1) fun σ8 => some ((σ8 1 7), σ8))) else some ((0 : Int32), σ5)))))
set_option maxRecDepth 100000 in
set_option maxHeartbeats 4000000 in
theorem c_X10_cut (l : Launch) {Γ : gG} {ad : Nat → Nat} {N : Nat} (hN : 8 ≤ N) {σ : gSt} {a0 : Int32} {a1 : Int32}  {r : Int32} {σ' : gSt} (hf : f_X10_cut σ a0 a1 = some (r, σ')) : gMi l celM Γ ad N yX10_cut cX10_cut 4 (some .int) (gR 3 0 0) [.ref (ad 0), .int a0, .int a1] σ r σ' := by
  intro sz
  refine gOf (Qc := fun sz => gQci celM Γ ad N r σ' sz) RX10 (by decide) rfl (Nat.le_of_ble_eq_true rfl) (fun p e s m args below meth c H locs ls X S hl => ?_)
  have hl : lv_has ls 4 [(0, .ref (ad 0)), (1, .int a0), (2, .int a1)] := hl
  have hx := X.1
  have hb := X.2.1
  unfold f_X10_cut at hf
  refine lv_aload_n hx hb dX10_cut_0 rfl (lv_at hl 0 rfl) ?_
  refine lv_iload_n hx hb dX10_cut_1 rfl (lv_at hl 1 rfl) ?_
  refine lv_iload_n hx hb dX10_cut_2 rfl (lv_at hl 2 rfl) ?_
  obtain ⟨v1, hv1, hf⟩ := g_s1 hf
  refine g_ki S (g_runV (rest := []) X S (c_X10_againstCut l hN  hv1 _) cvX10_againstCut mlX10_89 (by omega) (ceM_10 _) rfl rfl rfl hl.1 (Nat.le_of_ble_eq_true rfl) ⟨⟨rfl, rfl⟩, ⟨Nat.le_of_ble_eq_true rfl, Nat.le_of_ble_eq_true rfl⟩, Nat.le_of_ble_eq_true rfl, Nat.le_of_ble_eq_true rfl⟩ dX10_cut_3) (fun H locs S => ?_)
  refine lv_istore_n (lv' := [(3, .int v1), (0, .ref (ad 0)), (1, .int a0), (2, .int a1)]) hx hb dX10_cut_6 rfl hl (by decide) rfl (fun ls hl => ?_)
  refine lv_aload_n hx hb dX10_cut_7 rfl (lv_at hl 1 rfl) ?_
  refine lv_iload_n hx hb dX10_cut_8 rfl (lv_at hl 0 rfl) ?_
  refine lv_iconst (v := (1 : Int32)) hx hb dX10_cut_9 (by decide) ?_
  obtain ⟨x2, hr3, hf⟩ := g_s1 hf
  have J4 : ∀ (H : Heap) (locs : List Loc) (ls : Array Slot), gS celM Γ ad N σ s H locs → lv_has ls 4 [(0, .ref (ad 0)), (1, .int a0), (2, .int a1)] → W p l e (gR 3 0 0) s m args below meth c H locs 0 0 (gQi celM Γ ad N r σ' below args s) (F0 m 28 ls [.int x2, .ref (ad 0)]) := by
    intro H locs ls S hl
    obtain ⟨σ5, hσ5, hf⟩ := g_s1 hf
    refine pfX10_35 X S hN hσ5 dX10_cut_28 (fun H locs S => ?_)
    refine lv_aload_n hx hb dX10_cut_31 rfl (lv_at hl 0 rfl) ?_
    refine gfX10_35 X S hN dX10_cut_32 ?_
    refine lv_if_le (tgt := 40) hx hb dX10_cut_35 (by decide) (fun c6 => ?_) (fun c6 => ?_)
    · have hf := (if_pos c6).symm.trans hf
      refine lv_aload_n hx hb dX10_cut_40 rfl (lv_at hl 0 rfl) ?_
      refine lv_aload_n hx hb dX10_cut_41 rfl (lv_at hl 0 rfl) ?_
      refine gfX10_7 X S hN dX10_cut_42 ?_
      obtain ⟨σ7, hσ7, hf⟩ := g_s1 hf
      refine g_kv S (g_runV (rest := []) X S (c_X10_changes l hN (by rfl : gma 1 = true) hσ7 _) cvX10_changes mlX10_78 (by omega) (ceM_10 _) rfl rfl rfl hl.1 (Nat.le_of_ble_eq_true rfl) ⟨⟨rfl, rfl⟩, ⟨Nat.le_of_ble_eq_true rfl, Nat.le_of_ble_eq_true rfl⟩, Nat.le_of_ble_eq_true rfl, Nat.le_of_ble_eq_true rfl⟩ dX10_cut_45) (fun H locs S => ?_)
      refine lv_aload_n hx hb dX10_cut_48 rfl (lv_at hl 0 rfl) ?_
      refine lv_iload_n hx hb dX10_cut_49 rfl (lv_at hl 1 rfl) ?_
      refine lv_iload_n hx hb dX10_cut_50 rfl (lv_at hl 2 rfl) ?_
      obtain ⟨σ8, hσ8, hf⟩ := g_s1 hf
      refine g_kv S (g_runV (rest := []) X S (c_X10_cuts l hN  hσ8 _) cvX10_cuts mlX10_93 (by omega) (ceM_10 _) rfl rfl rfl hl.1 (Nat.le_of_ble_eq_true rfl) ⟨⟨rfl, rfl⟩, ⟨Nat.le_of_ble_eq_true rfl, Nat.le_of_ble_eq_true rfl⟩, Nat.le_of_ble_eq_true rfl, Nat.le_of_ble_eq_true rfl⟩ dX10_cut_51) (fun H locs S => ?_)
      refine lv_aload_n hx hb dX10_cut_54 rfl (lv_at hl 0 rfl) ?_
      refine gfX10_7 X S hN dX10_cut_55 ?_
      refine lv_bipush (v := (7 : Int32)) hx hb dX10_cut_58 (by decide) ?_
      refine g_ialdC X S (by omega) (ceM_a (rfl : gma 1 = true)) 7 (by decide) (by decide) dX10_cut_60 ?_
      cases hf
      exact g_reti X S rfl dX10_cut_61
    · have hf := (if_neg c6).symm.trans hf
      refine lv_iconst (v := (0 : Int32)) hx hb dX10_cut_38 (by decide) ?_
      cases hf
      exact g_reti X S rfl dX10_cut_39
  replace hf := hr3
  refine lv_icmp_ne (tgt := 17) hx hb dX10_cut_10 (by decide) (fun c9 => ?_) (fun c9 => ?_)
  · have hf := (if_neg c9).symm.trans hf
    refine lv_iload_n hx hb dX10_cut_17 rfl (lv_at hl 0 rfl) ?_
    refine lv_bipush (v := (8 : Int32)) hx hb dX10_cut_18 (by decide) ?_
    refine lv_icmp_ne (tgt := 27) hx hb dX10_cut_20 (by decide) (fun c10 => ?_) (fun c10 => ?_)
    · have hf := (if_neg c10).symm.trans hf
      refine lv_iconst (v := (0 : Int32)) hx hb dX10_cut_27 (by decide) ?_
      cases hf
      exact J4 _ _ _ S (lv_sub hl [1, 2, 3] rfl)
    · have hf := (if_pos c10).symm.trans hf
      refine lv_iconst (v := (2 : Int32)) hx hb dX10_cut_23 (by decide) ?_
      refine lv_goto (tgt := 28) hx hb dX10_cut_24 (by decide) ?_
      cases hf
      exact J4 _ _ _ S (lv_sub hl [1, 2, 3] rfl)
  · have hf := (if_pos c9).symm.trans hf
    refine lv_iconst (v := (1 : Int32)) hx hb dX10_cut_13 (by decide) ?_
    refine lv_goto (tgt := 28) hx hb dX10_cut_14 (by decide) ?_
    cases hf
    exact J4 _ _ _ S (lv_sub hl [1, 2, 3] rfl)

noncomputable def f_X10_shot_l1 (a0 : Int32) (σ5 : gSt) : Nat → Int32 → Int32 → Option (Int32)
  | 0, _, _ => none
  | n + 1, i6, i7 => (if (σ5 1 7) ≤ i6 then some i7 else (if (σ5 0 10) = 0 then (g_k1 (gald σ5 1 926 ((8 : Int32) + i6)) fun v11 => (g_k1 (if a0 < v11 then some (0 : Int32) else some (1 : Int32)) fun x12 => (f_X10_shot_l1 a0 σ5 n (i6 + 1) (i7 + x12)))) else some i7))
set_option maxRecDepth 100000 in
set_option maxHeartbeats 4000000 in
theorem w_X10_shot_l1 {l : Launch} {Γ : gG} {ad : Nat → Nat} {N : Nat} {p : Program} {e : Env} {s : State} {m : MethodId} {args : Array Value} {below : List Frame} {meth : Method} {c : Code} {Q : State → Prop} (hN : 8 ≤ N) (X : gX celM Γ ad N RX10 cX10_shot 4 (some .int) p s m args meth c) {a0 : Int32} {σ5 : gSt}  : ∀ (n : Nat) (i6 : Int32) (i7 : Int32) (r8 : Int32), f_X10_shot_l1 a0 σ5 n i6 i7 = some r8 → (∀ (H : Heap) (locs : List Loc) (ls : Array Slot), gS celM Γ ad N σ5 s H locs → lv_has ls 4 [(2, .int r8)] → W p l e (gR 2 0 0) s m args below meth c H locs 0 0 (Q) (F0 m 74 ls [])) → ∀ (H : Heap) (locs : List Loc) (ls : Array Slot), gS celM Γ ad N σ5 s H locs → lv_has ls 4 [(3, .int i6), (2, .int i7), (0, .ref (ad 0)), (1, .int a0)] → W p l e (gR 2 0 0) s m args below meth c H locs 0 0 (Q) (F0 m 29 ls []) := by
  have hx := X.1
  have hb := X.2.1
  intro n
  induction n with
  | zero =>
    intro i6 i7 r8 hf
    cases hf
  | succ n ih =>
    intro i6 i7 r8 hf J H locs ls S hl
    rw [f_X10_shot_l1] at hf
    refine lv_iload_n hx hb dX10_shot_29 rfl (lv_at hl 0 rfl) ?_
    refine lv_aload_n hx hb dX10_shot_30 rfl (lv_at hl 2 rfl) ?_
    refine gfX10_7 X S hN dX10_shot_31 ?_
    refine lv_bipush (v := (7 : Int32)) hx hb dX10_shot_34 (by decide) ?_
    refine g_ialdC X S (by omega) (ceM_a (rfl : gma 1 = true)) 7 (by decide) (by decide) dX10_shot_36 ?_
    refine lv_icmp_ge (tgt := 74) hx hb dX10_shot_37 (by decide) (fun c9 => ?_) (fun c9 => ?_)
    · have hf := (if_pos c9).symm.trans hf
      cases hf
      exact J _ _ _ S (lv_sub hl [1] rfl)
    · have hf := (if_neg c9).symm.trans hf
      refine lv_aload_n hx hb dX10_shot_40 rfl (lv_at hl 2 rfl) ?_
      refine gfX10_35 X S hN dX10_shot_41 ?_
      refine lv_if_ne (tgt := 74) hx hb dX10_shot_44 (by decide) (fun c10 => ?_) (fun c10 => ?_)
      · have hf := (if_neg c10).symm.trans hf
        cases hf
        exact J _ _ _ S (lv_sub hl [1] rfl)
      · have hf := (if_pos c10).symm.trans hf
        refine lv_iload_n hx hb dX10_shot_47 rfl (lv_at hl 1 rfl) ?_
        refine lv_aload_n hx hb dX10_shot_48 rfl (lv_at hl 2 rfl) ?_
        refine gfX10_7 X S hN dX10_shot_49 ?_
        refine lv_bipush (v := (8 : Int32)) hx hb dX10_shot_52 (by decide) ?_
        refine lv_iload_n hx hb dX10_shot_54 rfl (lv_at hl 0 rfl) ?_
        refine lv_iadd hx hb dX10_shot_55 ?_
        obtain ⟨v11, hv11, hf⟩ := g_s1 hf
        refine g_iald X S (by omega) (ceM_a (rfl : gma 1 = true)) hv11 dX10_shot_56 ?_
        refine lv_iload_n hx hb dX10_shot_57 rfl (lv_at hl 3 rfl) ?_
        obtain ⟨x12, hr13, hf⟩ := g_s1 hf
        have J14 : ∀ (H : Heap) (locs : List Loc) (ls : Array Slot), gS celM Γ ad N σ5 s H locs → lv_has ls 4 [(3, .int i6), (0, .ref (ad 0)), (1, .int a0)] → W p l e (gR 2 0 0) s m args below meth c H locs 0 0 (Q) (F0 m 66 ls [.int x12, .int i7]) := by
          intro H locs ls S hl
          refine lv_iadd hx hb dX10_shot_66 ?_
          refine lv_istore_n (lv' := [(2, .int (i7 + x12)), (3, .int i6), (0, .ref (ad 0)), (1, .int a0)]) hx hb dX10_shot_67 rfl hl (by decide) rfl (fun ls hl => ?_)
          refine lv_iinc (v := (i6 + 1)) (lv' := [(3, .int (i6 + 1)), (2, .int (i7 + x12)), (0, .ref (ad 0)), (1, .int a0)]) hx hb dX10_shot_68 hl (k := 1) rfl rfl (by decide) rfl (fun ls hl => ?_)
          refine lv_goto (tgt := 29) hx hb dX10_shot_71 (by decide) ?_
          exact ih _ _ _  hf J _ _ _ S (lv_sub hl [0, 1, 2, 3] rfl)
        replace hf := hr13
        refine lv_icmp_gt (tgt := 65) hx hb dX10_shot_58 (by decide) (fun c15 => ?_) (fun c15 => ?_)
        · have hf := (if_pos c15).symm.trans hf
          refine lv_iconst (v := (0 : Int32)) hx hb dX10_shot_65 (by decide) ?_
          cases hf
          exact J14 _ _ _ S (lv_sub hl [0, 2, 3] rfl)
        · have hf := (if_neg c15).symm.trans hf
          refine lv_iconst (v := (1 : Int32)) hx hb dX10_shot_61 (by decide) ?_
          refine lv_goto (tgt := 66) hx hb dX10_shot_62 (by decide) ?_
          cases hf
          exact J14 _ _ _ S (lv_sub hl [0, 2, 3] rfl)
noncomputable def f_X10_shot (σ : gSt) (a0 : Int32) : Option (Int32 × gSt) :=
  (g_k1 (f_X10_in σ a0 (0 : Int32) ((σ 1 0) - (1 : Int32))) fun v1 => (g_k1 (if v1 = 0 then some (1 : Int32) else some (0 : Int32)) fun x2 => (g_k1 (gset σ 0 10 x2) fun σ5 => (g_k1 (f_X10_shot_l1 a0 σ5 FU (0 : Int32) (0 : Int32)) fun r8 => some (r8, σ5)))))
set_option maxRecDepth 100000 in
set_option maxHeartbeats 4000000 in
theorem c_X10_shot (l : Launch) {Γ : gG} {ad : Nat → Nat} {N : Nat} (hN : 8 ≤ N) {σ : gSt} {a0 : Int32}  {r : Int32} {σ' : gSt} (hf : f_X10_shot σ a0 = some (r, σ')) : gMi l celM Γ ad N yX10_shot cX10_shot 4 (some .int) (gR 2 0 0) [.ref (ad 0), .int a0] σ r σ' := by
  intro sz
  refine gOf (Qc := fun sz => gQci celM Γ ad N r σ' sz) RX10 (by decide) rfl (Nat.le_of_ble_eq_true rfl) (fun p e s m args below meth c H locs ls X S hl => ?_)
  have hl : lv_has ls 4 [(0, .ref (ad 0)), (1, .int a0)] := hl
  have hx := X.1
  have hb := X.2.1
  unfold f_X10_shot at hf
  refine lv_aload_n hx hb dX10_shot_0 rfl (lv_at hl 0 rfl) ?_
  refine lv_iload_n hx hb dX10_shot_1 rfl (lv_at hl 1 rfl) ?_
  refine lv_iconst (v := (0 : Int32)) hx hb dX10_shot_2 (by decide) ?_
  refine lv_aload_n hx hb dX10_shot_3 rfl (lv_at hl 0 rfl) ?_
  refine gfX10_7 X S hN dX10_shot_4 ?_
  refine lv_iconst (v := (0 : Int32)) hx hb dX10_shot_7 (by decide) ?_
  refine g_ialdC X S (by omega) (ceM_a (rfl : gma 1 = true)) 0 (by decide) (by decide) dX10_shot_8 ?_
  refine lv_iconst (v := (1 : Int32)) hx hb dX10_shot_9 (by decide) ?_
  refine lv_isub hx hb dX10_shot_10 ?_
  obtain ⟨v1, hv1, hf⟩ := g_s1 hf
  refine g_ki S (g_runS (rest := [.ref (ad 0)]) X S (c_X10_in l hN  hv1 _) csX10_in mlX10_48 rfl rfl hl.1 (Nat.le_of_ble_eq_true rfl) ⟨⟨rfl, rfl⟩, ⟨Nat.le_of_ble_eq_true rfl, Nat.le_of_ble_eq_true rfl⟩, Nat.le_of_ble_eq_true rfl, Nat.le_of_ble_eq_true rfl⟩ dX10_shot_11) (fun H locs S => ?_)
  obtain ⟨x2, hr3, hf⟩ := g_s1 hf
  have J4 : ∀ (H : Heap) (locs : List Loc) (ls : Array Slot), gS celM Γ ad N σ s H locs → lv_has ls 4 [(0, .ref (ad 0)), (1, .int a0)] → W p l e (gR 2 0 0) s m args below meth c H locs 0 0 (gQi celM Γ ad N r σ' below args s) (F0 m 22 ls [.int x2, .ref (ad 0)]) := by
    intro H locs ls S hl
    obtain ⟨σ5, hσ5, hf⟩ := g_s1 hf
    refine pfX10_35 X S hN hσ5 dX10_shot_22 (fun H locs S => ?_)
    refine lv_iconst (v := (0 : Int32)) hx hb dX10_shot_25 (by decide) ?_
    refine lv_istore_n (lv' := [(2, .int (0 : Int32)), (0, .ref (ad 0)), (1, .int a0)]) hx hb dX10_shot_26 rfl hl (by decide) rfl (fun ls hl => ?_)
    refine lv_iconst (v := (0 : Int32)) hx hb dX10_shot_27 (by decide) ?_
    refine lv_istore_n (lv' := [(3, .int (0 : Int32)), (2, .int (0 : Int32)), (0, .ref (ad 0)), (1, .int a0)]) hx hb dX10_shot_28 rfl hl (by decide) rfl (fun ls hl => ?_)
    obtain ⟨r8, hr16, hf⟩ := g_s1 hf
    refine w_X10_shot_l1 hN X  FU _ _ _  hr16 (fun H locs ls S hl => ?_) _ _ _ S (lv_sub hl [0, 1, 2, 3] rfl)
    refine lv_iload_n hx hb dX10_shot_74 rfl (lv_at hl 0 rfl) ?_
    cases hf
    exact g_reti X S rfl dX10_shot_75
  replace hf := hr3
  refine lv_if_eq (tgt := 21) hx hb dX10_shot_14 (by decide) (fun c17 => ?_) (fun c17 => ?_)
  · have hf := (if_pos c17).symm.trans hf
    refine lv_iconst (v := (1 : Int32)) hx hb dX10_shot_21 (by decide) ?_
    cases hf
    exact J4 _ _ _ S (lv_sub hl [0, 1] rfl)
  · have hf := (if_neg c17).symm.trans hf
    refine lv_iconst (v := (0 : Int32)) hx hb dX10_shot_17 (by decide) ?_
    refine lv_goto (tgt := 22) hx hb dX10_shot_18 (by decide) ?_
    cases hf
    exact J4 _ _ _ S (lv_sub hl [0, 1] rfl)

noncomputable def f_X10_isLoose_l1 (σ : gSt) (a0 : Int32) : Nat → Int32 → Int32 → Option (Int32)
  | 0, _, _ => none
  | n + 1, i1, i2 => (if (σ 1 7) ≤ i1 then some i2 else (g_k1 (if i2 = 0 then (g_k1 (gald σ 1 926 ((8 : Int32) + i1)) fun v9 => (g_k1 (f_X10_in σ (v9 - a0) (-(σ 1 2)) (σ 1 2)) fun v10 => (if v10 = 0 then some (0 : Int32) else some (1 : Int32)))) else some (1 : Int32)) fun x5 => (f_X10_isLoose_l1 σ a0 n (i1 + 1) x5)))
set_option maxRecDepth 100000 in
set_option maxHeartbeats 4000000 in
theorem w_X10_isLoose_l1 {l : Launch} {Γ : gG} {ad : Nat → Nat} {N : Nat} {p : Program} {e : Env} {s : State} {m : MethodId} {args : Array Value} {below : List Frame} {meth : Method} {c : Code} {Q : State → Prop} (hN : 8 ≤ N) (X : gX celM Γ ad N RX10 cX10_isLoose 4 (some .boolean) p s m args meth c) {σ : gSt} {a0 : Int32}  : ∀ (n : Nat) (i1 : Int32) (i2 : Int32) (r3 : Int32), f_X10_isLoose_l1 σ a0 n i1 i2 = some r3 → (∀ (H : Heap) (locs : List Loc) (ls : Array Slot), gS celM Γ ad N σ s H locs → lv_has ls 4 [(2, .int r3), (0, .ref (ad 0)), (1, .int a0)] → W p l e (gR 2 0 0) s m args below meth c H locs 0 0 (Q) (F0 m 61 ls [])) → ∀ (H : Heap) (locs : List Loc) (ls : Array Slot), gS celM Γ ad N σ s H locs → lv_has ls 4 [(3, .int i1), (2, .int i2), (0, .ref (ad 0)), (1, .int a0)] → W p l e (gR 2 0 0) s m args below meth c H locs 0 0 (Q) (F0 m 4 ls []) := by
  have hx := X.1
  have hb := X.2.1
  intro n
  induction n with
  | zero =>
    intro i1 i2 r3 hf
    cases hf
  | succ n ih =>
    intro i1 i2 r3 hf J H locs ls S hl
    rw [f_X10_isLoose_l1] at hf
    refine lv_iload_n hx hb dX10_isLoose_4 rfl (lv_at hl 0 rfl) ?_
    refine lv_aload_n hx hb dX10_isLoose_5 rfl (lv_at hl 2 rfl) ?_
    refine gfX10_7 X S hN dX10_isLoose_6 ?_
    refine lv_bipush (v := (7 : Int32)) hx hb dX10_isLoose_9 (by decide) ?_
    refine g_ialdC X S (by omega) (ceM_a (rfl : gma 1 = true)) 7 (by decide) (by decide) dX10_isLoose_11 ?_
    refine lv_icmp_ge (tgt := 61) hx hb dX10_isLoose_12 (by decide) (fun c4 => ?_) (fun c4 => ?_)
    · have hf := (if_pos c4).symm.trans hf
      cases hf
      exact J _ _ _ S (lv_sub hl [1, 2, 3] rfl)
    · have hf := (if_neg c4).symm.trans hf
      refine lv_iload_n hx hb dX10_isLoose_15 rfl (lv_at hl 1 rfl) ?_
      obtain ⟨x5, hr6, hf⟩ := g_s1 hf
      have J7 : ∀ (H : Heap) (locs : List Loc) (ls : Array Slot), gS celM Γ ad N σ s H locs → lv_has ls 4 [(3, .int i1), (0, .ref (ad 0)), (1, .int a0)] → W p l e (gR 2 0 0) s m args below meth c H locs 0 0 (Q) (F0 m 54 ls [.int x5]) := by
        intro H locs ls S hl
        refine lv_istore_n (lv' := [(2, .int x5), (3, .int i1), (0, .ref (ad 0)), (1, .int a0)]) hx hb dX10_isLoose_54 rfl hl (by decide) rfl (fun ls hl => ?_)
        refine lv_iinc (v := (i1 + 1)) (lv' := [(3, .int (i1 + 1)), (2, .int x5), (0, .ref (ad 0)), (1, .int a0)]) hx hb dX10_isLoose_55 hl (k := 1) rfl rfl (by decide) rfl (fun ls hl => ?_)
        refine lv_goto (tgt := 4) hx hb dX10_isLoose_58 (by decide) ?_
        exact ih _ _ _  hf J _ _ _ S (lv_sub hl [0, 1, 2, 3] rfl)
      replace hf := hr6
      refine lv_if_ne (tgt := 49) hx hb dX10_isLoose_16 (by decide) (fun c8 => ?_) (fun c8 => ?_)
      · have hf := (if_neg c8).symm.trans hf
        refine lv_iconst (v := (1 : Int32)) hx hb dX10_isLoose_49 (by decide) ?_
        refine lv_goto (tgt := 54) hx hb dX10_isLoose_50 (by decide) ?_
        cases hf
        exact J7 _ _ _ S (lv_sub hl [0, 2, 3] rfl)
      · have hf := (if_pos c8).symm.trans hf
        refine lv_aload_n hx hb dX10_isLoose_19 rfl (lv_at hl 2 rfl) ?_
        refine gfX10_7 X S hN dX10_isLoose_20 ?_
        refine lv_bipush (v := (8 : Int32)) hx hb dX10_isLoose_23 (by decide) ?_
        refine lv_iload_n hx hb dX10_isLoose_25 rfl (lv_at hl 0 rfl) ?_
        refine lv_iadd hx hb dX10_isLoose_26 ?_
        obtain ⟨v9, hv9, hf⟩ := g_s1 hf
        refine g_iald X S (by omega) (ceM_a (rfl : gma 1 = true)) hv9 dX10_isLoose_27 ?_
        refine lv_iload_n hx hb dX10_isLoose_28 rfl (lv_at hl 3 rfl) ?_
        refine lv_isub hx hb dX10_isLoose_29 ?_
        refine lv_aload_n hx hb dX10_isLoose_30 rfl (lv_at hl 2 rfl) ?_
        refine gfX10_7 X S hN dX10_isLoose_31 ?_
        refine lv_iconst (v := (2 : Int32)) hx hb dX10_isLoose_34 (by decide) ?_
        refine g_ialdC X S (by omega) (ceM_a (rfl : gma 1 = true)) 2 (by decide) (by decide) dX10_isLoose_35 ?_
        refine lv_ineg hx hb dX10_isLoose_36 ?_
        refine lv_aload_n hx hb dX10_isLoose_37 rfl (lv_at hl 2 rfl) ?_
        refine gfX10_7 X S hN dX10_isLoose_38 ?_
        refine lv_iconst (v := (2 : Int32)) hx hb dX10_isLoose_41 (by decide) ?_
        refine g_ialdC X S (by omega) (ceM_a (rfl : gma 1 = true)) 2 (by decide) (by decide) dX10_isLoose_42 ?_
        obtain ⟨v10, hv10, hf⟩ := g_s1 hf
        refine g_ki S (g_runS (rest := []) X S (c_X10_in l hN  hv10 _) csX10_in mlX10_48 rfl rfl hl.1 (Nat.le_of_ble_eq_true rfl) ⟨⟨rfl, rfl⟩, ⟨Nat.le_of_ble_eq_true rfl, Nat.le_of_ble_eq_true rfl⟩, Nat.le_of_ble_eq_true rfl, Nat.le_of_ble_eq_true rfl⟩ dX10_isLoose_43) (fun H locs S => ?_)
        refine lv_if_eq (tgt := 53) hx hb dX10_isLoose_46 (by decide) (fun c11 => ?_) (fun c11 => ?_)
        · have hf := (if_pos c11).symm.trans hf
          refine lv_iconst (v := (0 : Int32)) hx hb dX10_isLoose_53 (by decide) ?_
          cases hf
          exact J7 _ _ _ S (lv_sub hl [0, 2, 3] rfl)
        · have hf := (if_neg c11).symm.trans hf
          refine lv_iconst (v := (1 : Int32)) hx hb dX10_isLoose_49 (by decide) ?_
          refine lv_goto (tgt := 54) hx hb dX10_isLoose_50 (by decide) ?_
          cases hf
          exact J7 _ _ _ S (lv_sub hl [0, 2, 3] rfl)
noncomputable def f_X10_isLoose (σ : gSt) (a0 : Int32) : Option (Int32) :=
  (g_k1 (f_X10_isLoose_l1 σ a0 FU (0 : Int32) (0 : Int32)) fun r3 => (g_k1 (if r3 = 0 then some (0 : Int32) else (g_k1 (f_X10_isCut σ a0) fun v18 => (if v18 = 0 then some (1 : Int32) else some (0 : Int32)))) fun x13 => (g_k1 (gzb x13) fun v16 => some v16)))
set_option maxRecDepth 100000 in
set_option maxHeartbeats 4000000 in
theorem c_X10_isLoose (l : Launch) {Γ : gG} {ad : Nat → Nat} {N : Nat} (hN : 8 ≤ N) {σ : gSt} {a0 : Int32}  {r : Int32} (hf : f_X10_isLoose σ a0 = some r) : gMi l celM Γ ad N yX10_isLoose cX10_isLoose 4 (some .boolean) (gR 2 0 0) [.ref (ad 0), .int a0] σ r σ := by
  intro sz
  refine gOf (Qc := fun sz => gQci celM Γ ad N r σ sz) RX10 (by decide) rfl (Nat.le_of_ble_eq_true rfl) (fun p e s m args below meth c H locs ls X S hl => ?_)
  have hl : lv_has ls 4 [(0, .ref (ad 0)), (1, .int a0)] := hl
  have hx := X.1
  have hb := X.2.1
  unfold f_X10_isLoose at hf
  refine lv_iconst (v := (0 : Int32)) hx hb dX10_isLoose_0 (by decide) ?_
  refine lv_istore_n (lv' := [(2, .int (0 : Int32)), (0, .ref (ad 0)), (1, .int a0)]) hx hb dX10_isLoose_1 rfl hl (by decide) rfl (fun ls hl => ?_)
  refine lv_iconst (v := (0 : Int32)) hx hb dX10_isLoose_2 (by decide) ?_
  refine lv_istore_n (lv' := [(3, .int (0 : Int32)), (2, .int (0 : Int32)), (0, .ref (ad 0)), (1, .int a0)]) hx hb dX10_isLoose_3 rfl hl (by decide) rfl (fun ls hl => ?_)
  obtain ⟨r3, hr12, hf⟩ := g_s1 hf
  refine w_X10_isLoose_l1 hN X  FU _ _ _  hr12 (fun H locs ls S hl => ?_) _ _ _ S (lv_sub hl [0, 1, 2, 3] rfl)
  refine lv_iload_n hx hb dX10_isLoose_61 rfl (lv_at hl 0 rfl) ?_
  obtain ⟨x13, hr14, hf⟩ := g_s1 hf
  have J15 : ∀ (H : Heap) (locs : List Loc) (ls : Array Slot), gS celM Γ ad N σ s H locs → lv_has ls 4 [] → W p l e (gR 2 0 0) s m args below meth c H locs 0 0 (gQi celM Γ ad N r σ below args s) (F0 m 78 ls [.int x13]) := by
    intro H locs ls S hl
    obtain ⟨v16, hv16, hf⟩ := g_s1 hf
    obtain ⟨hnv16, rfl⟩ := gzb_some hv16
    cases hf
    exact g_reti X S hnv16 dX10_isLoose_78
  replace hf := hr14
  refine lv_if_eq (tgt := 77) hx hb dX10_isLoose_62 (by decide) (fun c17 => ?_) (fun c17 => ?_)
  · have hf := (if_pos c17).symm.trans hf
    refine lv_iconst (v := (0 : Int32)) hx hb dX10_isLoose_77 (by decide) ?_
    cases hf
    exact J15 _ _ _ S (lv_sub hl [] rfl)
  · have hf := (if_neg c17).symm.trans hf
    refine lv_aload_n hx hb dX10_isLoose_65 rfl (lv_at hl 1 rfl) ?_
    refine lv_iload_n hx hb dX10_isLoose_66 rfl (lv_at hl 2 rfl) ?_
    obtain ⟨v18, hv18, hf⟩ := g_s1 hf
    refine g_ki S (g_runV (rest := []) X S (c_X10_isCut l hN  hv18 _) cvX10_isCut mlX10_86 (by omega) (ceM_10 _) rfl rfl rfl hl.1 (Nat.le_of_ble_eq_true rfl) ⟨⟨rfl, rfl⟩, ⟨Nat.le_of_ble_eq_true rfl, Nat.le_of_ble_eq_true rfl⟩, Nat.le_of_ble_eq_true rfl, Nat.le_of_ble_eq_true rfl⟩ dX10_isLoose_67) (fun H locs S => ?_)
    refine lv_if_ne (tgt := 77) hx hb dX10_isLoose_70 (by decide) (fun c19 => ?_) (fun c19 => ?_)
    · have hf := (if_neg c19).symm.trans hf
      refine lv_iconst (v := (0 : Int32)) hx hb dX10_isLoose_77 (by decide) ?_
      cases hf
      exact J15 _ _ _ S (lv_sub hl [] rfl)
    · have hf := (if_pos c19).symm.trans hf
      refine lv_iconst (v := (1 : Int32)) hx hb dX10_isLoose_73 (by decide) ?_
      refine lv_goto (tgt := 78) hx hb dX10_isLoose_74 (by decide) ?_
      cases hf
      exact J15 _ _ _ S (lv_sub hl [] rfl)

noncomputable def f_X10_far (σ : gSt) (a0 : Int32) (a1 : Int32) : Option (Int32) :=
  (g_k1 (if a0 ≤ a1 then some (a1 - a0) else some (a0 - a1)) fun x1 => some x1)
set_option maxRecDepth 100000 in
set_option maxHeartbeats 4000000 in
theorem c_X10_far (l : Launch) {Γ : gG} {ad : Nat → Nat} {N : Nat} (hN : 8 ≤ N) {σ : gSt} {a0 : Int32} {a1 : Int32}  {r : Int32} (hf : f_X10_far σ a0 a1 = some r) : gMi l celM Γ ad N yX10_far cX10_far 2 (some .int) (gR 1 0 0) [.int a0, .int a1] σ r σ := by
  intro sz
  refine gOf (Qc := fun sz => gQci celM Γ ad N r σ sz) RX10 (by decide) rfl (Nat.le_of_ble_eq_true rfl) (fun p e s m args below meth c H locs ls X S hl => ?_)
  have hl : lv_has ls 2 [(0, .int a0), (1, .int a1)] := hl
  have hx := X.1
  have hb := X.2.1
  unfold f_X10_far at hf
  refine lv_iload_n hx hb dX10_far_0 rfl (lv_at hl 0 rfl) ?_
  refine lv_iload_n hx hb dX10_far_1 rfl (lv_at hl 1 rfl) ?_
  obtain ⟨x1, hr2, hf⟩ := g_s1 hf
  have J3 : ∀ (H : Heap) (locs : List Loc) (ls : Array Slot), gS celM Γ ad N σ s H locs → lv_has ls 2 [] → W p l e (gR 1 0 0) s m args below meth c H locs 0 0 (gQi celM Γ ad N r σ below args s) (F0 m 14 ls [.int x1]) := by
    intro H locs ls S hl
    cases hf
    exact g_reti X S rfl dX10_far_14
  replace hf := hr2
  refine lv_icmp_le (tgt := 11) hx hb dX10_far_2 (by decide) (fun c4 => ?_) (fun c4 => ?_)
  · have hf := (if_pos c4).symm.trans hf
    refine lv_iload_n hx hb dX10_far_11 rfl (lv_at hl 1 rfl) ?_
    refine lv_iload_n hx hb dX10_far_12 rfl (lv_at hl 0 rfl) ?_
    refine lv_isub hx hb dX10_far_13 ?_
    cases hf
    exact J3 _ _ _ S (lv_sub hl [] rfl)
  · have hf := (if_neg c4).symm.trans hf
    refine lv_iload_n hx hb dX10_far_5 rfl (lv_at hl 0 rfl) ?_
    refine lv_iload_n hx hb dX10_far_6 rfl (lv_at hl 1 rfl) ?_
    refine lv_isub hx hb dX10_far_7 ?_
    refine lv_goto (tgt := 14) hx hb dX10_far_8 (by decide) ?_
    cases hf
    exact J3 _ _ _ S (lv_sub hl [] rfl)

noncomputable def f_X10_nearest_l1 (σ : gSt) (a0 : Int32) : Nat → Int32 → Int32 → Option (Int32)
  | 0, _, _ => none
  | n + 1, i1, i2 => (if (σ 1 7) ≤ i1 then some i2 else (g_k1 (gald σ 1 926 ((8 : Int32) + i1)) fun v5 => (g_k1 (f_X10_far σ v5 a0) fun v6 => (g_k1 (f_X10_far σ i2 a0) fun v7 => (g_k1 (if v7 ≤ v6 then some i2 else (g_k1 (gald σ 1 926 ((8 : Int32) + i1)) fun v12 => some v12)) fun x8 => (f_X10_nearest_l1 σ a0 n (i1 + 1) x8))))))
set_option maxRecDepth 100000 in
set_option maxHeartbeats 4000000 in
theorem w_X10_nearest_l1 {l : Launch} {Γ : gG} {ad : Nat → Nat} {N : Nat} {p : Program} {e : Env} {s : State} {m : MethodId} {args : Array Value} {below : List Frame} {meth : Method} {c : Code} {Q : State → Prop} (hN : 8 ≤ N) (X : gX celM Γ ad N RX10 cX10_nearest 4 (some .int) p s m args meth c) {σ : gSt} {a0 : Int32}  : ∀ (n : Nat) (i1 : Int32) (i2 : Int32) (r3 : Int32), f_X10_nearest_l1 σ a0 n i1 i2 = some r3 → (∀ (H : Heap) (locs : List Loc) (ls : Array Slot), gS celM Γ ad N σ s H locs → lv_has ls 4 [(2, .int r3)] → W p l e (gR 2 0 0) s m args below meth c H locs 0 0 (Q) (F0 m 62 ls [])) → ∀ (H : Heap) (locs : List Loc) (ls : Array Slot), gS celM Γ ad N σ s H locs → lv_has ls 4 [(3, .int i1), (2, .int i2), (0, .ref (ad 0)), (1, .int a0)] → W p l e (gR 2 0 0) s m args below meth c H locs 0 0 (Q) (F0 m 10 ls []) := by
  have hx := X.1
  have hb := X.2.1
  intro n
  induction n with
  | zero =>
    intro i1 i2 r3 hf
    cases hf
  | succ n ih =>
    intro i1 i2 r3 hf J H locs ls S hl
    rw [f_X10_nearest_l1] at hf
    refine lv_iload_n hx hb dX10_nearest_10 rfl (lv_at hl 0 rfl) ?_
    refine lv_aload_n hx hb dX10_nearest_11 rfl (lv_at hl 2 rfl) ?_
    refine gfX10_7 X S hN dX10_nearest_12 ?_
    refine lv_bipush (v := (7 : Int32)) hx hb dX10_nearest_15 (by decide) ?_
    refine g_ialdC X S (by omega) (ceM_a (rfl : gma 1 = true)) 7 (by decide) (by decide) dX10_nearest_17 ?_
    refine lv_icmp_ge (tgt := 62) hx hb dX10_nearest_18 (by decide) (fun c4 => ?_) (fun c4 => ?_)
    · have hf := (if_pos c4).symm.trans hf
      cases hf
      exact J _ _ _ S (lv_sub hl [1] rfl)
    · have hf := (if_neg c4).symm.trans hf
      refine lv_aload_n hx hb dX10_nearest_21 rfl (lv_at hl 2 rfl) ?_
      refine gfX10_7 X S hN dX10_nearest_22 ?_
      refine lv_bipush (v := (8 : Int32)) hx hb dX10_nearest_25 (by decide) ?_
      refine lv_iload_n hx hb dX10_nearest_27 rfl (lv_at hl 0 rfl) ?_
      refine lv_iadd hx hb dX10_nearest_28 ?_
      obtain ⟨v5, hv5, hf⟩ := g_s1 hf
      refine g_iald X S (by omega) (ceM_a (rfl : gma 1 = true)) hv5 dX10_nearest_29 ?_
      refine lv_iload_n hx hb dX10_nearest_30 rfl (lv_at hl 3 rfl) ?_
      obtain ⟨v6, hv6, hf⟩ := g_s1 hf
      refine g_ki S (g_runS (rest := []) X S (c_X10_far l hN  hv6 _) csX10_far mlX10_97 rfl rfl hl.1 (Nat.le_of_ble_eq_true rfl) ⟨⟨rfl, rfl⟩, ⟨Nat.le_of_ble_eq_true rfl, Nat.le_of_ble_eq_true rfl⟩, Nat.le_of_ble_eq_true rfl, Nat.le_of_ble_eq_true rfl⟩ dX10_nearest_31) (fun H locs S => ?_)
      refine lv_iload_n hx hb dX10_nearest_34 rfl (lv_at hl 1 rfl) ?_
      refine lv_iload_n hx hb dX10_nearest_35 rfl (lv_at hl 3 rfl) ?_
      obtain ⟨v7, hv7, hf⟩ := g_s1 hf
      refine g_ki S (g_runS (rest := [.int v6]) X S (c_X10_far l hN  hv7 _) csX10_far mlX10_97 rfl rfl hl.1 (Nat.le_of_ble_eq_true rfl) ⟨⟨rfl, rfl⟩, ⟨Nat.le_of_ble_eq_true rfl, Nat.le_of_ble_eq_true rfl⟩, Nat.le_of_ble_eq_true rfl, Nat.le_of_ble_eq_true rfl⟩ dX10_nearest_36) (fun H locs S => ?_)
      obtain ⟨x8, hr9, hf⟩ := g_s1 hf
      have J10 : ∀ (H : Heap) (locs : List Loc) (ls : Array Slot), gS celM Γ ad N σ s H locs → lv_has ls 4 [(3, .int i1), (0, .ref (ad 0)), (1, .int a0)] → W p l e (gR 2 0 0) s m args below meth c H locs 0 0 (Q) (F0 m 55 ls [.int x8]) := by
        intro H locs ls S hl
        refine lv_istore_n (lv' := [(2, .int x8), (3, .int i1), (0, .ref (ad 0)), (1, .int a0)]) hx hb dX10_nearest_55 rfl hl (by decide) rfl (fun ls hl => ?_)
        refine lv_iinc (v := (i1 + 1)) (lv' := [(3, .int (i1 + 1)), (2, .int x8), (0, .ref (ad 0)), (1, .int a0)]) hx hb dX10_nearest_56 hl (k := 1) rfl rfl (by decide) rfl (fun ls hl => ?_)
        refine lv_goto (tgt := 10) hx hb dX10_nearest_59 (by decide) ?_
        exact ih _ _ _  hf J _ _ _ S (lv_sub hl [0, 1, 2, 3] rfl)
      replace hf := hr9
      refine lv_icmp_ge (tgt := 54) hx hb dX10_nearest_39 (by decide) (fun c11 => ?_) (fun c11 => ?_)
      · have hf := (if_pos c11).symm.trans hf
        refine lv_iload_n hx hb dX10_nearest_54 rfl (lv_at hl 1 rfl) ?_
        cases hf
        exact J10 _ _ _ S (lv_sub hl [0, 2, 3] rfl)
      · have hf := (if_neg c11).symm.trans hf
        refine lv_aload_n hx hb dX10_nearest_42 rfl (lv_at hl 2 rfl) ?_
        refine gfX10_7 X S hN dX10_nearest_43 ?_
        refine lv_bipush (v := (8 : Int32)) hx hb dX10_nearest_46 (by decide) ?_
        refine lv_iload_n hx hb dX10_nearest_48 rfl (lv_at hl 0 rfl) ?_
        refine lv_iadd hx hb dX10_nearest_49 ?_
        obtain ⟨v12, hv12, hf⟩ := g_s1 hf
        refine g_iald X S (by omega) (ceM_a (rfl : gma 1 = true)) hv12 dX10_nearest_50 ?_
        refine lv_goto (tgt := 55) hx hb dX10_nearest_51 (by decide) ?_
        cases hf
        exact J10 _ _ _ S (lv_sub hl [0, 2, 3] rfl)
noncomputable def f_X10_nearest (σ : gSt) (a0 : Int32) : Option (Int32) :=
  (g_k1 (f_X10_nearest_l1 σ a0 FU (1 : Int32) (σ 1 8)) fun r3 => some r3)
set_option maxRecDepth 100000 in
set_option maxHeartbeats 4000000 in
theorem c_X10_nearest (l : Launch) {Γ : gG} {ad : Nat → Nat} {N : Nat} (hN : 8 ≤ N) {σ : gSt} {a0 : Int32}  {r : Int32} (hf : f_X10_nearest σ a0 = some r) : gMi l celM Γ ad N yX10_nearest cX10_nearest 4 (some .int) (gR 2 0 0) [.ref (ad 0), .int a0] σ r σ := by
  intro sz
  refine gOf (Qc := fun sz => gQci celM Γ ad N r σ sz) RX10 (by decide) rfl (Nat.le_of_ble_eq_true rfl) (fun p e s m args below meth c H locs ls X S hl => ?_)
  have hl : lv_has ls 4 [(0, .ref (ad 0)), (1, .int a0)] := hl
  have hx := X.1
  have hb := X.2.1
  unfold f_X10_nearest at hf
  refine lv_aload_n hx hb dX10_nearest_0 rfl (lv_at hl 0 rfl) ?_
  refine gfX10_7 X S hN dX10_nearest_1 ?_
  refine lv_bipush (v := (8 : Int32)) hx hb dX10_nearest_4 (by decide) ?_
  refine g_ialdC X S (by omega) (ceM_a (rfl : gma 1 = true)) 8 (by decide) (by decide) dX10_nearest_6 ?_
  refine lv_istore_n (lv' := [(2, .int (σ 1 8)), (0, .ref (ad 0)), (1, .int a0)]) hx hb dX10_nearest_7 rfl hl (by decide) rfl (fun ls hl => ?_)
  refine lv_iconst (v := (1 : Int32)) hx hb dX10_nearest_8 (by decide) ?_
  refine lv_istore_n (lv' := [(3, .int (1 : Int32)), (2, .int (σ 1 8)), (0, .ref (ad 0)), (1, .int a0)]) hx hb dX10_nearest_9 rfl hl (by decide) rfl (fun ls hl => ?_)
  obtain ⟨r3, hr13, hf⟩ := g_s1 hf
  refine w_X10_nearest_l1 hN X  FU _ _ _  hr13 (fun H locs ls S hl => ?_) _ _ _ S (lv_sub hl [0, 1, 2, 3] rfl)
  refine lv_iload_n hx hb dX10_nearest_62 rfl (lv_at hl 0 rfl) ?_
  cases hf
  exact g_reti X S rfl dX10_nearest_63

noncomputable def f_X10_isLetter (σ : gSt) (a0 : Int32) : Option (Int32) :=
  (g_k1 (f_X10_in σ a0 (97 : Int32) (122 : Int32)) fun v1 => (g_k1 (if v1 = 0 then (if a0 = (95 : Int32) then some (1 : Int32) else (if a0 = (124 : Int32) then some (1 : Int32) else some (0 : Int32))) else some (1 : Int32)) fun x2 => (g_k1 (gzb x2) fun v5 => some v5)))
set_option maxRecDepth 100000 in
set_option maxHeartbeats 4000000 in
theorem c_X10_isLetter (l : Launch) {Γ : gG} {ad : Nat → Nat} {N : Nat} (hN : 8 ≤ N) {σ : gSt} {a0 : Int32}  {r : Int32} (hf : f_X10_isLetter σ a0 = some r) : gMi l celM Γ ad N yX10_isLetter cX10_isLetter 1 (some .boolean) (gR 2 0 0) [.int a0] σ r σ := by
  intro sz
  refine gOf (Qc := fun sz => gQci celM Γ ad N r σ sz) RX10 (by decide) rfl (Nat.le_of_ble_eq_true rfl) (fun p e s m args below meth c H locs ls X S hl => ?_)
  have hl : lv_has ls 1 [(0, .int a0)] := hl
  have hx := X.1
  have hb := X.2.1
  unfold f_X10_isLetter at hf
  refine lv_iload_n hx hb dX10_isLetter_0 rfl (lv_at hl 0 rfl) ?_
  refine lv_bipush (v := (97 : Int32)) hx hb dX10_isLetter_1 (by decide) ?_
  refine lv_bipush (v := (122 : Int32)) hx hb dX10_isLetter_3 (by decide) ?_
  obtain ⟨v1, hv1, hf⟩ := g_s1 hf
  refine g_ki S (g_runS (rest := []) X S (c_X10_in l hN  hv1 _) csX10_in mlX10_48 rfl rfl hl.1 (Nat.le_of_ble_eq_true rfl) ⟨⟨rfl, rfl⟩, ⟨Nat.le_of_ble_eq_true rfl, Nat.le_of_ble_eq_true rfl⟩, Nat.le_of_ble_eq_true rfl, Nat.le_of_ble_eq_true rfl⟩ dX10_isLetter_5) (fun H locs S => ?_)
  obtain ⟨x2, hr3, hf⟩ := g_s1 hf
  have J4 : ∀ (H : Heap) (locs : List Loc) (ls : Array Slot), gS celM Γ ad N σ s H locs → lv_has ls 1 [] → W p l e (gR 2 0 0) s m args below meth c H locs 0 0 (gQi celM Γ ad N r σ below args s) (F0 m 28 ls [.int x2]) := by
    intro H locs ls S hl
    obtain ⟨v5, hv5, hf⟩ := g_s1 hf
    obtain ⟨hnv5, rfl⟩ := gzb_some hv5
    cases hf
    exact g_reti X S hnv5 dX10_isLetter_28
  replace hf := hr3
  refine lv_if_ne (tgt := 23) hx hb dX10_isLetter_8 (by decide) (fun c6 => ?_) (fun c6 => ?_)
  · have hf := (if_neg c6).symm.trans hf
    refine lv_iconst (v := (1 : Int32)) hx hb dX10_isLetter_23 (by decide) ?_
    refine lv_goto (tgt := 28) hx hb dX10_isLetter_24 (by decide) ?_
    cases hf
    exact J4 _ _ _ S (lv_sub hl [] rfl)
  · have hf := (if_pos c6).symm.trans hf
    refine lv_iload_n hx hb dX10_isLetter_11 rfl (lv_at hl 0 rfl) ?_
    refine lv_bipush (v := (95 : Int32)) hx hb dX10_isLetter_12 (by decide) ?_
    refine lv_icmp_eq (tgt := 23) hx hb dX10_isLetter_14 (by decide) (fun c7 => ?_) (fun c7 => ?_)
    · have hf := (if_pos c7).symm.trans hf
      refine lv_iconst (v := (1 : Int32)) hx hb dX10_isLetter_23 (by decide) ?_
      refine lv_goto (tgt := 28) hx hb dX10_isLetter_24 (by decide) ?_
      cases hf
      exact J4 _ _ _ S (lv_sub hl [] rfl)
    · have hf := (if_neg c7).symm.trans hf
      refine lv_iload_n hx hb dX10_isLetter_17 rfl (lv_at hl 0 rfl) ?_
      refine lv_bipush (v := (124 : Int32)) hx hb dX10_isLetter_18 (by decide) ?_
      refine lv_icmp_ne (tgt := 27) hx hb dX10_isLetter_20 (by decide) (fun c8 => ?_) (fun c8 => ?_)
      · have hf := (if_neg c8).symm.trans hf
        refine lv_iconst (v := (0 : Int32)) hx hb dX10_isLetter_27 (by decide) ?_
        cases hf
        exact J4 _ _ _ S (lv_sub hl [] rfl)
      · have hf := (if_pos c8).symm.trans hf
        refine lv_iconst (v := (1 : Int32)) hx hb dX10_isLetter_23 (by decide) ?_
        refine lv_goto (tgt := 28) hx hb dX10_isLetter_24 (by decide) ?_
        cases hf
        exact J4 _ _ _ S (lv_sub hl [] rfl)

noncomputable def f_X10_isText_l1 (σ : gSt) (a0 : Nat) (a1 : Int32) (a2 : Int32) : Nat → Int32 → Int32 → Option (Int32)
  | 0, _, _ => none
  | n + 1, i7, i8 => (if a2 ≤ i7 then (g_k1 (if (2 : Int32) ≤ i8 then some (0 : Int32) else some (1 : Int32)) fun x10 => (g_k1 (gzb x10) fun v13 => some v13)) else (g_k1 (gald σ a0 (gml a0) (a1 + i7)) fun v15 => (g_k1 (f_X10_isLetter σ v15) fun v16 => (if v16 = 0 then some (0 : Int32) else (g_k1 (gald σ a0 (gml a0) (a1 + i7)) fun v18 => (g_k1 (if v18 = (124 : Int32) then some (1 : Int32) else some (0 : Int32)) fun x19 => (f_X10_isText_l1 σ a0 a1 a2 n (i7 + 1) (i8 + x19))))))))
set_option maxRecDepth 100000 in
set_option maxHeartbeats 4000000 in
theorem w_X10_isText_l1 {l : Launch} {Γ : gG} {ad : Nat → Nat} {N : Nat} {p : Program} {e : Env} {s : State} {m : MethodId} {args : Array Value} {below : List Frame} {meth : Method} {c : Code} (hN : 8 ≤ N) (X : gX celM Γ ad N RX10 cX10_isText 5 (some .boolean) p s m args meth c) {σ : gSt} {a0 : Nat} {a1 : Int32} {a2 : Int32} (ha0 : gma a0 = true) : ∀ (n : Nat) (i7 : Int32) (i8 : Int32) (r : Int32), f_X10_isText_l1 σ a0 a1 a2 n i7 i8 = some r → ∀ (H : Heap) (locs : List Loc) (ls : Array Slot), gS celM Γ ad N σ s H locs → lv_has ls 5 [(4, .int i7), (3, .int i8), (0, .ref (ad a0)), (1, .int a1), (2, .int a2)] → W p l e (gR 3 0 0) s m args below meth c H locs 0 0 (gQi celM Γ ad N r σ below args s) (F0 m 37 ls []) := by
  have hx := X.1
  have hb := X.2.1
  intro n
  induction n with
  | zero =>
    intro i7 i8 r hf
    cases hf
  | succ n ih =>
    intro i7 i8 r hf H locs ls S hl
    rw [f_X10_isText_l1] at hf
    refine lv_iload hx hb dX10_isText_37 (lv_at hl 0 rfl) ?_
    refine lv_iload_n hx hb dX10_isText_39 rfl (lv_at hl 4 rfl) ?_
    refine lv_icmp_ge (tgt := 82) hx hb dX10_isText_40 (by decide) (fun c9 => ?_) (fun c9 => ?_)
    · have hf := (if_pos c9).symm.trans hf
      refine lv_iload_n hx hb dX10_isText_82 rfl (lv_at hl 1 rfl) ?_
      refine lv_iconst (v := (2 : Int32)) hx hb dX10_isText_83 (by decide) ?_
      obtain ⟨x10, hr11, hf⟩ := g_s1 hf
      have J12 : ∀ (H : Heap) (locs : List Loc) (ls : Array Slot), gS celM Γ ad N σ s H locs → lv_has ls 5 [] → W p l e (gR 3 0 0) s m args below meth c H locs 0 0 (gQi celM Γ ad N r σ below args s) (F0 m 92 ls [.int x10]) := by
        intro H locs ls S hl
        obtain ⟨v13, hv13, hf⟩ := g_s1 hf
        obtain ⟨hnv13, rfl⟩ := gzb_some hv13
        cases hf
        exact g_reti X S hnv13 dX10_isText_92
      replace hf := hr11
      refine lv_icmp_ge (tgt := 91) hx hb dX10_isText_84 (by decide) (fun c14 => ?_) (fun c14 => ?_)
      · have hf := (if_pos c14).symm.trans hf
        refine lv_iconst (v := (0 : Int32)) hx hb dX10_isText_91 (by decide) ?_
        cases hf
        exact J12 _ _ _ S (lv_sub hl [] rfl)
      · have hf := (if_neg c14).symm.trans hf
        refine lv_iconst (v := (1 : Int32)) hx hb dX10_isText_87 (by decide) ?_
        refine lv_goto (tgt := 92) hx hb dX10_isText_88 (by decide) ?_
        cases hf
        exact J12 _ _ _ S (lv_sub hl [] rfl)
    · have hf := (if_neg c9).symm.trans hf
      refine lv_aload_n hx hb dX10_isText_43 rfl (lv_at hl 2 rfl) ?_
      refine lv_iload_n hx hb dX10_isText_44 rfl (lv_at hl 3 rfl) ?_
      refine lv_iload hx hb dX10_isText_45 (lv_at hl 0 rfl) ?_
      refine lv_iadd hx hb dX10_isText_47 ?_
      obtain ⟨v15, hv15, hf⟩ := g_s1 hf
      refine g_iald X S (km_N ha0 hN) (ceM_a ha0) hv15 dX10_isText_48 ?_
      obtain ⟨v16, hv16, hf⟩ := g_s1 hf
      refine g_ki S (g_runS (rest := []) X S (c_X10_isLetter l hN  hv16 _) csX10_isLetter mlX10_100 rfl rfl hl.1 (Nat.le_of_ble_eq_true rfl) ⟨⟨rfl, rfl⟩, ⟨Nat.le_of_ble_eq_true rfl, Nat.le_of_ble_eq_true rfl⟩, Nat.le_of_ble_eq_true rfl, Nat.le_of_ble_eq_true rfl⟩ dX10_isText_49) (fun H locs S => ?_)
      refine lv_if_ne (tgt := 57) hx hb dX10_isText_52 (by decide) (fun c17 => ?_) (fun c17 => ?_)
      · have hf := (if_neg c17).symm.trans hf
        refine lv_iload_n hx hb dX10_isText_57 rfl (lv_at hl 1 rfl) ?_
        refine lv_aload_n hx hb dX10_isText_58 rfl (lv_at hl 2 rfl) ?_
        refine lv_iload_n hx hb dX10_isText_59 rfl (lv_at hl 3 rfl) ?_
        refine lv_iload hx hb dX10_isText_60 (lv_at hl 0 rfl) ?_
        refine lv_iadd hx hb dX10_isText_62 ?_
        obtain ⟨v18, hv18, hf⟩ := g_s1 hf
        refine g_iald X S (km_N ha0 hN) (ceM_a ha0) hv18 dX10_isText_63 ?_
        refine lv_bipush (v := (124 : Int32)) hx hb dX10_isText_64 (by decide) ?_
        obtain ⟨x19, hr20, hf⟩ := g_s1 hf
        have J21 : ∀ (H : Heap) (locs : List Loc) (ls : Array Slot), gS celM Γ ad N σ s H locs → lv_has ls 5 [(4, .int i7), (0, .ref (ad a0)), (1, .int a1), (2, .int a2)] → W p l e (gR 3 0 0) s m args below meth c H locs 0 0 (gQi celM Γ ad N r σ below args s) (F0 m 74 ls [.int x19, .int i8]) := by
          intro H locs ls S hl
          refine lv_iadd hx hb dX10_isText_74 ?_
          refine lv_istore_n (lv' := [(3, .int (i8 + x19)), (4, .int i7), (0, .ref (ad a0)), (1, .int a1), (2, .int a2)]) hx hb dX10_isText_75 rfl hl (by decide) rfl (fun ls hl => ?_)
          refine lv_iinc (v := (i7 + 1)) (lv' := [(4, .int (i7 + 1)), (3, .int (i8 + x19)), (0, .ref (ad a0)), (1, .int a1), (2, .int a2)]) hx hb dX10_isText_76 hl (k := 1) rfl rfl (by decide) rfl (fun ls hl => ?_)
          refine lv_goto (tgt := 37) hx hb dX10_isText_79 (by decide) ?_
          exact ih _ _ _  hf _ _ _ S (lv_sub hl [0, 1, 2, 3, 4] rfl)
        replace hf := hr20
        refine lv_icmp_ne (tgt := 73) hx hb dX10_isText_66 (by decide) (fun c22 => ?_) (fun c22 => ?_)
        · have hf := (if_neg c22).symm.trans hf
          refine lv_iconst (v := (0 : Int32)) hx hb dX10_isText_73 (by decide) ?_
          cases hf
          exact J21 _ _ _ S (lv_sub hl [0, 2, 3, 4] rfl)
        · have hf := (if_pos c22).symm.trans hf
          refine lv_iconst (v := (1 : Int32)) hx hb dX10_isText_69 (by decide) ?_
          refine lv_goto (tgt := 74) hx hb dX10_isText_70 (by decide) ?_
          cases hf
          exact J21 _ _ _ S (lv_sub hl [0, 2, 3, 4] rfl)
      · have hf := (if_pos c17).symm.trans hf
        refine lv_iconst (v := (0 : Int32)) hx hb dX10_isText_55 (by decide) ?_
        cases hf
        exact g_reti X S (by decide +kernel) dX10_isText_56
noncomputable def f_X10_isText (σ : gSt) (a0 : Nat) (a1 : Int32) (a2 : Int32) : Option (Int32) :=
  (g_k1 (f_X10_in σ a2 (1 : Int32) (24 : Int32)) fun v1 => (if v1 = 0 then some (0 : Int32) else (g_k1 (gald σ a0 (gml a0) a1) fun v3 => (if v3 = (124 : Int32) then some (0 : Int32) else (g_k1 (gald σ a0 (gml a0) ((a1 + a2) - (1 : Int32))) fun v5 => (if v5 = (124 : Int32) then some (0 : Int32) else (f_X10_isText_l1 σ a0 a1 a2 FU (0 : Int32) (0 : Int32))))))))
set_option maxRecDepth 100000 in
set_option maxHeartbeats 4000000 in
theorem c_X10_isText (l : Launch) {Γ : gG} {ad : Nat → Nat} {N : Nat} (hN : 8 ≤ N) {σ : gSt} {a0 : Nat} {a1 : Int32} {a2 : Int32} (ha0 : gma a0 = true) {r : Int32} (hf : f_X10_isText σ a0 a1 a2 = some r) : gMi l celM Γ ad N yX10_isText cX10_isText 5 (some .boolean) (gR 3 0 0) [.ref (ad a0), .int a1, .int a2] σ r σ := by
  intro sz
  refine gOf (Qc := fun sz => gQci celM Γ ad N r σ sz) RX10 (by decide) rfl (Nat.le_of_ble_eq_true rfl) (fun p e s m args below meth c H locs ls X S hl => ?_)
  have hl : lv_has ls 5 [(0, .ref (ad a0)), (1, .int a1), (2, .int a2)] := hl
  have hx := X.1
  have hb := X.2.1
  unfold f_X10_isText at hf
  refine lv_iload_n hx hb dX10_isText_0 rfl (lv_at hl 2 rfl) ?_
  refine lv_iconst (v := (1 : Int32)) hx hb dX10_isText_1 (by decide) ?_
  refine lv_bipush (v := (24 : Int32)) hx hb dX10_isText_2 (by decide) ?_
  obtain ⟨v1, hv1, hf⟩ := g_s1 hf
  refine g_ki S (g_runS (rest := []) X S (c_X10_in l hN  hv1 _) csX10_in mlX10_48 rfl rfl hl.1 (Nat.le_of_ble_eq_true rfl) ⟨⟨rfl, rfl⟩, ⟨Nat.le_of_ble_eq_true rfl, Nat.le_of_ble_eq_true rfl⟩, Nat.le_of_ble_eq_true rfl, Nat.le_of_ble_eq_true rfl⟩ dX10_isText_4) (fun H locs S => ?_)
  refine lv_if_eq (tgt := 30) hx hb dX10_isText_7 (by decide) (fun c2 => ?_) (fun c2 => ?_)
  · have hf := (if_pos c2).symm.trans hf
    refine lv_iconst (v := (0 : Int32)) hx hb dX10_isText_30 (by decide) ?_
    cases hf
    exact g_reti X S (by decide +kernel) dX10_isText_31
  · have hf := (if_neg c2).symm.trans hf
    refine lv_aload_n hx hb dX10_isText_10 rfl (lv_at hl 0 rfl) ?_
    refine lv_iload_n hx hb dX10_isText_11 rfl (lv_at hl 1 rfl) ?_
    obtain ⟨v3, hv3, hf⟩ := g_s1 hf
    refine g_iald X S (km_N ha0 hN) (ceM_a ha0) hv3 dX10_isText_12 ?_
    refine lv_bipush (v := (124 : Int32)) hx hb dX10_isText_13 (by decide) ?_
    refine lv_icmp_eq (tgt := 30) hx hb dX10_isText_15 (by decide) (fun c4 => ?_) (fun c4 => ?_)
    · have hf := (if_pos c4).symm.trans hf
      refine lv_iconst (v := (0 : Int32)) hx hb dX10_isText_30 (by decide) ?_
      cases hf
      exact g_reti X S (by decide +kernel) dX10_isText_31
    · have hf := (if_neg c4).symm.trans hf
      refine lv_aload_n hx hb dX10_isText_18 rfl (lv_at hl 0 rfl) ?_
      refine lv_iload_n hx hb dX10_isText_19 rfl (lv_at hl 1 rfl) ?_
      refine lv_iload_n hx hb dX10_isText_20 rfl (lv_at hl 2 rfl) ?_
      refine lv_iadd hx hb dX10_isText_21 ?_
      refine lv_iconst (v := (1 : Int32)) hx hb dX10_isText_22 (by decide) ?_
      refine lv_isub hx hb dX10_isText_23 ?_
      obtain ⟨v5, hv5, hf⟩ := g_s1 hf
      refine g_iald X S (km_N ha0 hN) (ceM_a ha0) hv5 dX10_isText_24 ?_
      refine lv_bipush (v := (124 : Int32)) hx hb dX10_isText_25 (by decide) ?_
      refine lv_icmp_ne (tgt := 32) hx hb dX10_isText_27 (by decide) (fun c6 => ?_) (fun c6 => ?_)
      · have hf := (if_neg c6).symm.trans hf
        refine lv_iconst (v := (0 : Int32)) hx hb dX10_isText_32 (by decide) ?_
        refine lv_istore_n (lv' := [(3, .int (0 : Int32)), (0, .ref (ad a0)), (1, .int a1), (2, .int a2)]) hx hb dX10_isText_33 rfl hl (by decide) rfl (fun ls hl => ?_)
        refine lv_iconst (v := (0 : Int32)) hx hb dX10_isText_34 (by decide) ?_
        refine lv_istore (lv' := [(4, .int (0 : Int32)), (3, .int (0 : Int32)), (0, .ref (ad a0)), (1, .int a1), (2, .int a2)]) hx hb dX10_isText_35 hl (by decide) rfl (fun ls hl => ?_)
        exact w_X10_isText_l1 hN X ha0 FU _ _ _  hf _ _ _ S (lv_sub hl [0, 1, 2, 3, 4] rfl)
      · have hf := (if_pos c6).symm.trans hf
        refine lv_iconst (v := (0 : Int32)) hx hb dX10_isText_30 (by decide) ?_
        cases hf
        exact g_reti X S (by decide +kernel) dX10_isText_31

noncomputable def f_X10_bars_l1 (σ : gSt) (a0 : Nat) (a1 : Int32) (a2 : Int32) : Nat → Int32 → Int32 → Option (Int32)
  | 0, _, _ => none
  | n + 1, i1, i2 => (if a2 ≤ i1 then some i2 else (g_k1 (gald σ a0 (gml a0) (a1 + i1)) fun v5 => (g_k1 (if v5 = (124 : Int32) then some (1 : Int32) else some (0 : Int32)) fun x6 => (f_X10_bars_l1 σ a0 a1 a2 n (i1 + 1) (i2 + x6)))))
set_option maxRecDepth 100000 in
set_option maxHeartbeats 4000000 in
theorem w_X10_bars_l1 {l : Launch} {Γ : gG} {ad : Nat → Nat} {N : Nat} {p : Program} {e : Env} {s : State} {m : MethodId} {args : Array Value} {below : List Frame} {meth : Method} {c : Code} {Q : State → Prop} (hN : 8 ≤ N) (X : gX celM Γ ad N RX10 cX10_bars 5 (some .int) p s m args meth c) {σ : gSt} {a0 : Nat} {a1 : Int32} {a2 : Int32} (ha0 : gma a0 = true) : ∀ (n : Nat) (i1 : Int32) (i2 : Int32) (r3 : Int32), f_X10_bars_l1 σ a0 a1 a2 n i1 i2 = some r3 → (∀ (H : Heap) (locs : List Loc) (ls : Array Slot), gS celM Γ ad N σ s H locs → lv_has ls 5 [(3, .int r3)] → W p l e (gR 1 0 0) s m args below meth c H locs 0 0 (Q) (F0 m 36 ls [])) → ∀ (H : Heap) (locs : List Loc) (ls : Array Slot), gS celM Γ ad N σ s H locs → lv_has ls 5 [(4, .int i1), (3, .int i2), (0, .ref (ad a0)), (1, .int a1), (2, .int a2)] → W p l e (gR 1 0 0) s m args below meth c H locs 0 0 (Q) (F0 m 5 ls []) := by
  have hx := X.1
  have hb := X.2.1
  intro n
  induction n with
  | zero =>
    intro i1 i2 r3 hf
    cases hf
  | succ n ih =>
    intro i1 i2 r3 hf J H locs ls S hl
    rw [f_X10_bars_l1] at hf
    refine lv_iload hx hb dX10_bars_5 (lv_at hl 0 rfl) ?_
    refine lv_iload_n hx hb dX10_bars_7 rfl (lv_at hl 4 rfl) ?_
    refine lv_icmp_ge (tgt := 36) hx hb dX10_bars_8 (by decide) (fun c4 => ?_) (fun c4 => ?_)
    · have hf := (if_pos c4).symm.trans hf
      cases hf
      exact J _ _ _ S (lv_sub hl [1] rfl)
    · have hf := (if_neg c4).symm.trans hf
      refine lv_iload_n hx hb dX10_bars_11 rfl (lv_at hl 1 rfl) ?_
      refine lv_aload_n hx hb dX10_bars_12 rfl (lv_at hl 2 rfl) ?_
      refine lv_iload_n hx hb dX10_bars_13 rfl (lv_at hl 3 rfl) ?_
      refine lv_iload hx hb dX10_bars_14 (lv_at hl 0 rfl) ?_
      refine lv_iadd hx hb dX10_bars_16 ?_
      obtain ⟨v5, hv5, hf⟩ := g_s1 hf
      refine g_iald X S (km_N ha0 hN) (ceM_a ha0) hv5 dX10_bars_17 ?_
      refine lv_bipush (v := (124 : Int32)) hx hb dX10_bars_18 (by decide) ?_
      obtain ⟨x6, hr7, hf⟩ := g_s1 hf
      have J8 : ∀ (H : Heap) (locs : List Loc) (ls : Array Slot), gS celM Γ ad N σ s H locs → lv_has ls 5 [(4, .int i1), (0, .ref (ad a0)), (1, .int a1), (2, .int a2)] → W p l e (gR 1 0 0) s m args below meth c H locs 0 0 (Q) (F0 m 28 ls [.int x6, .int i2]) := by
        intro H locs ls S hl
        refine lv_iadd hx hb dX10_bars_28 ?_
        refine lv_istore_n (lv' := [(3, .int (i2 + x6)), (4, .int i1), (0, .ref (ad a0)), (1, .int a1), (2, .int a2)]) hx hb dX10_bars_29 rfl hl (by decide) rfl (fun ls hl => ?_)
        refine lv_iinc (v := (i1 + 1)) (lv' := [(4, .int (i1 + 1)), (3, .int (i2 + x6)), (0, .ref (ad a0)), (1, .int a1), (2, .int a2)]) hx hb dX10_bars_30 hl (k := 1) rfl rfl (by decide) rfl (fun ls hl => ?_)
        refine lv_goto (tgt := 5) hx hb dX10_bars_33 (by decide) ?_
        exact ih _ _ _  hf J _ _ _ S (lv_sub hl [0, 1, 2, 3, 4] rfl)
      replace hf := hr7
      refine lv_icmp_ne (tgt := 27) hx hb dX10_bars_20 (by decide) (fun c9 => ?_) (fun c9 => ?_)
      · have hf := (if_neg c9).symm.trans hf
        refine lv_iconst (v := (0 : Int32)) hx hb dX10_bars_27 (by decide) ?_
        cases hf
        exact J8 _ _ _ S (lv_sub hl [0, 2, 3, 4] rfl)
      · have hf := (if_pos c9).symm.trans hf
        refine lv_iconst (v := (1 : Int32)) hx hb dX10_bars_23 (by decide) ?_
        refine lv_goto (tgt := 28) hx hb dX10_bars_24 (by decide) ?_
        cases hf
        exact J8 _ _ _ S (lv_sub hl [0, 2, 3, 4] rfl)
noncomputable def f_X10_bars (σ : gSt) (a0 : Nat) (a1 : Int32) (a2 : Int32) : Option (Int32) :=
  (g_k1 (f_X10_bars_l1 σ a0 a1 a2 FU (0 : Int32) (0 : Int32)) fun r3 => some r3)
set_option maxRecDepth 100000 in
set_option maxHeartbeats 4000000 in
theorem c_X10_bars (l : Launch) {Γ : gG} {ad : Nat → Nat} {N : Nat} (hN : 8 ≤ N) {σ : gSt} {a0 : Nat} {a1 : Int32} {a2 : Int32} (ha0 : gma a0 = true) {r : Int32} (hf : f_X10_bars σ a0 a1 a2 = some r) : gMi l celM Γ ad N yX10_bars cX10_bars 5 (some .int) (gR 1 0 0) [.ref (ad a0), .int a1, .int a2] σ r σ := by
  intro sz
  refine gOf (Qc := fun sz => gQci celM Γ ad N r σ sz) RX10 (by decide) rfl (Nat.le_of_ble_eq_true rfl) (fun p e s m args below meth c H locs ls X S hl => ?_)
  have hl : lv_has ls 5 [(0, .ref (ad a0)), (1, .int a1), (2, .int a2)] := hl
  have hx := X.1
  have hb := X.2.1
  unfold f_X10_bars at hf
  refine lv_iconst (v := (0 : Int32)) hx hb dX10_bars_0 (by decide) ?_
  refine lv_istore_n (lv' := [(3, .int (0 : Int32)), (0, .ref (ad a0)), (1, .int a1), (2, .int a2)]) hx hb dX10_bars_1 rfl hl (by decide) rfl (fun ls hl => ?_)
  refine lv_iconst (v := (0 : Int32)) hx hb dX10_bars_2 (by decide) ?_
  refine lv_istore (lv' := [(4, .int (0 : Int32)), (3, .int (0 : Int32)), (0, .ref (ad a0)), (1, .int a1), (2, .int a2)]) hx hb dX10_bars_3 hl (by decide) rfl (fun ls hl => ?_)
  obtain ⟨r3, hr10, hf⟩ := g_s1 hf
  refine w_X10_bars_l1 hN X ha0 FU _ _ _  hr10 (fun H locs ls S hl => ?_) _ _ _ S (lv_sub hl [0, 1, 2, 3, 4] rfl)
  refine lv_iload_n hx hb dX10_bars_36 rfl (lv_at hl 0 rfl) ?_
  cases hf
  exact g_reti X S rfl dX10_bars_37

noncomputable def f_X10_load (σ : gSt) (a0 : Int32) (a1 : Int32) : Option (Int32) :=
  (g_k1 (f_X10_at σ a0 a1 (3 : Int32)) fun v1 => (g_k1 (gald σ 1 926 v1) fun v2 => (g_k1 (f_X10_at σ a0 a1 (4 : Int32)) fun v3 => (g_k1 (f_X10_at σ a0 a1 (3 : Int32)) fun v4 => (g_k1 (gald σ 1 926 v4) fun v5 => (g_k1 (f_X10_bars σ 1 v3 v5) fun v6 => some (v2 - v6)))))))
set_option maxRecDepth 100000 in
set_option maxHeartbeats 4000000 in
theorem c_X10_load (l : Launch) {Γ : gG} {ad : Nat → Nat} {N : Nat} (hN : 8 ≤ N) {σ : gSt} {a0 : Int32} {a1 : Int32}  {r : Int32} (hf : f_X10_load σ a0 a1 = some r) : gMi l celM Γ ad N yX10_load cX10_load 3 (some .int) (gR 2 0 0) [.ref (ad 0), .int a0, .int a1] σ r σ := by
  intro sz
  refine gOf (Qc := fun sz => gQci celM Γ ad N r σ sz) RX10 (by decide) rfl (Nat.le_of_ble_eq_true rfl) (fun p e s m args below meth c H locs ls X S hl => ?_)
  have hl : lv_has ls 3 [(0, .ref (ad 0)), (1, .int a0), (2, .int a1)] := hl
  have hx := X.1
  have hb := X.2.1
  unfold f_X10_load at hf
  refine lv_aload_n hx hb dX10_load_0 rfl (lv_at hl 0 rfl) ?_
  refine gfX10_7 X S hN dX10_load_1 ?_
  refine lv_iload_n hx hb dX10_load_4 rfl (lv_at hl 1 rfl) ?_
  refine lv_iload_n hx hb dX10_load_5 rfl (lv_at hl 2 rfl) ?_
  refine lv_iconst (v := (3 : Int32)) hx hb dX10_load_6 (by decide) ?_
  obtain ⟨v1, hv1, hf⟩ := g_s1 hf
  refine g_ki S (g_runS (rest := [.ref (ad 1)]) X S (c_X10_at l hN  hv1 _) csX10_at mlX10_56 rfl rfl hl.1 (Nat.le_of_ble_eq_true rfl) ⟨⟨rfl, rfl⟩, ⟨Nat.le_of_ble_eq_true rfl, Nat.le_of_ble_eq_true rfl⟩, Nat.le_of_ble_eq_true rfl, Nat.le_of_ble_eq_true rfl⟩ dX10_load_7) (fun H locs S => ?_)
  obtain ⟨v2, hv2, hf⟩ := g_s1 hf
  refine g_iald X S (by omega) (ceM_a (rfl : gma 1 = true)) hv2 dX10_load_10 ?_
  refine lv_aload_n hx hb dX10_load_11 rfl (lv_at hl 0 rfl) ?_
  refine gfX10_7 X S hN dX10_load_12 ?_
  refine lv_iload_n hx hb dX10_load_15 rfl (lv_at hl 1 rfl) ?_
  refine lv_iload_n hx hb dX10_load_16 rfl (lv_at hl 2 rfl) ?_
  refine lv_iconst (v := (4 : Int32)) hx hb dX10_load_17 (by decide) ?_
  obtain ⟨v3, hv3, hf⟩ := g_s1 hf
  refine g_ki S (g_runS (rest := [.ref (ad 1), .int v2]) X S (c_X10_at l hN  hv3 _) csX10_at mlX10_56 rfl rfl hl.1 (Nat.le_of_ble_eq_true rfl) ⟨⟨rfl, rfl⟩, ⟨Nat.le_of_ble_eq_true rfl, Nat.le_of_ble_eq_true rfl⟩, Nat.le_of_ble_eq_true rfl, Nat.le_of_ble_eq_true rfl⟩ dX10_load_18) (fun H locs S => ?_)
  refine lv_aload_n hx hb dX10_load_21 rfl (lv_at hl 0 rfl) ?_
  refine gfX10_7 X S hN dX10_load_22 ?_
  refine lv_iload_n hx hb dX10_load_25 rfl (lv_at hl 1 rfl) ?_
  refine lv_iload_n hx hb dX10_load_26 rfl (lv_at hl 2 rfl) ?_
  refine lv_iconst (v := (3 : Int32)) hx hb dX10_load_27 (by decide) ?_
  obtain ⟨v4, hv4, hf⟩ := g_s1 hf
  refine g_ki S (g_runS (rest := [.ref (ad 1), .int v3, .ref (ad 1), .int v2]) X S (c_X10_at l hN  hv4 _) csX10_at mlX10_56 rfl rfl hl.1 (Nat.le_of_ble_eq_true rfl) ⟨⟨rfl, rfl⟩, ⟨Nat.le_of_ble_eq_true rfl, Nat.le_of_ble_eq_true rfl⟩, Nat.le_of_ble_eq_true rfl, Nat.le_of_ble_eq_true rfl⟩ dX10_load_28) (fun H locs S => ?_)
  obtain ⟨v5, hv5, hf⟩ := g_s1 hf
  refine g_iald X S (by omega) (ceM_a (rfl : gma 1 = true)) hv5 dX10_load_31 ?_
  obtain ⟨v6, hv6, hf⟩ := g_s1 hf
  refine g_ki S (g_runS (rest := [.int v2]) X S (c_X10_bars l hN (by rfl : gma 1 = true) hv6 _) csX10_bars mlX10_103 rfl rfl hl.1 (Nat.le_of_ble_eq_true rfl) ⟨⟨rfl, rfl⟩, ⟨Nat.le_of_ble_eq_true rfl, Nat.le_of_ble_eq_true rfl⟩, Nat.le_of_ble_eq_true rfl, Nat.le_of_ble_eq_true rfl⟩ dX10_load_32) (fun H locs S => ?_)
  refine lv_isub hx hb dX10_load_35 ?_
  cases hf
  exact g_reti X S rfl dX10_load_36

