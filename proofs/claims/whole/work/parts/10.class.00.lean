noncomputable def f_X0_copyFrom (σ : gSt) (k : Nat) (a0 : Nat) : Option (gSt) :=
  (g_k1 (gcpy σ (a0 + 1) 20 (k + 1) 20 (0 : Int32) (0 : Int32) (20 : Int32)) fun σ1 => (g_k1 (gset σ1 k 1 (σ1 a0 1)) fun σ2 => some σ2))
set_option maxRecDepth 100000 in
set_option maxHeartbeats 4000000 in
theorem c_X0_copyFrom (l : Launch) {Γ : gG} {ad : Nat → Nat} {N : Nat} (hN : 202 ≤ N) {σ : gSt} {k : Nat} {a0 : Nat} (hk : gkd k = 0) (ha0 : gkd a0 = 0) {σ' : gSt} (hf : f_X0_copyFrom σ k a0 = some σ') : gMv l celC Γ ad N yX0_copyFrom cX0_copyFrom 2 none (gR 2 0 0) [.ref (ad k), .ref (ad a0)] σ σ' := by
  intro sz
  refine gOf (Qc := fun sz => gQcv celC Γ ad N σ' sz) RX0 (by decide) rfl (Nat.le_of_ble_eq_true rfl) (fun p e s m args below meth c H locs ls X S hl => ?_)
  have hl : lv_has ls 2 [(0, .ref (ad k)), (1, .ref (ad a0))] := hl
  have hx := X.1
  have hb := X.2.1
  unfold f_X0_copyFrom at hf
  refine lv_aload_n hx hb dX0_copyFrom_0 rfl (lv_at hl 1 rfl) ?_
  refine gfX0_9 X S hN ha0 dX0_copyFrom_1 ?_
  refine lv_iconst (v := (0 : Int32)) hx hb dX0_copyFrom_4 (by decide) ?_
  refine lv_aload_n hx hb dX0_copyFrom_5 rfl (lv_at hl 0 rfl) ?_
  refine gfX0_9 X S hN hk dX0_copyFrom_6 ?_
  refine lv_iconst (v := (0 : Int32)) hx hb dX0_copyFrom_9 (by decide) ?_
  refine lv_bipush (v := (20 : Int32)) hx hb dX0_copyFrom_10 (by decide) ?_
  obtain ⟨σ1, hσ1, hf⟩ := g_s1 hf
  refine g_copy X S hl.1 mlX0_19 wac_n wac_s wac_i (kd_N (kd_0_1 ha0) (by decide) hN) (kd_N (kd_0_1 hk) (by decide) hN) (ceC_120 (kd_0_1 ha0)) (ceC_120 (kd_0_1 hk)) hσ1 (by decide) (Nat.le_of_ble_eq_true rfl) dX0_copyFrom_12 (fun H locs S => ?_)
  refine lv_aload_n hx hb dX0_copyFrom_15 rfl (lv_at hl 0 rfl) ?_
  refine lv_aload_n hx hb dX0_copyFrom_16 rfl (lv_at hl 1 rfl) ?_
  refine gfX0_15 X S hN ha0 dX0_copyFrom_17 ?_
  obtain ⟨σ2, hσ2, hf⟩ := g_s1 hf
  refine pfX0_15 X S hN hk hσ2 dX0_copyFrom_20 (fun H locs S => ?_)
  cases hf
  exact g_retv X S dX0_copyFrom_23

noncomputable def f_X0_at (σ : gSt) (k : Nat) (a0 : Int32) : Option (Int32) :=
  (g_k1 (if a0 < 0 then some (-1 : Int32) else (if (σ k 1) ≤ a0 then some (-1 : Int32) else (if (20 : Int32) ≤ a0 then some (-1 : Int32) else (g_k1 (gald σ (k + 1) 20 a0) fun v7 => some v7)))) fun x1 => some x1)
set_option maxRecDepth 100000 in
set_option maxHeartbeats 4000000 in
theorem c_X0_at (l : Launch) {Γ : gG} {ad : Nat → Nat} {N : Nat} (hN : 202 ≤ N) {σ : gSt} {k : Nat} {a0 : Int32} (hk : gkd k = 0) {r : Int32} (hf : f_X0_at σ k a0 = some r) : gMi l celC Γ ad N yX0_at cX0_at 2 (some .int) (gR 1 0 0) [.ref (ad k), .int a0] σ r σ := by
  intro sz
  refine gOf (Qc := fun sz => gQci celC Γ ad N r σ sz) RX0 (by decide) rfl (Nat.le_of_ble_eq_true rfl) (fun p e s m args below meth c H locs ls X S hl => ?_)
  have hl : lv_has ls 2 [(0, .ref (ad k)), (1, .int a0)] := hl
  have hx := X.1
  have hb := X.2.1
  unfold f_X0_at at hf
  refine lv_iload_n hx hb dX0_at_0 rfl (lv_at hl 1 rfl) ?_
  obtain ⟨x1, hr2, hf⟩ := g_s1 hf
  have J3 : ∀ (H : Heap) (locs : List Loc) (ls : Array Slot), gS celC Γ ad N σ s H locs → lv_has ls 2 [] → W p l e (gR 1 0 0) s m args below meth c H locs 0 0 (gQi celC Γ ad N r σ below args s) (F0 m 31 ls [.int x1]) := by
    intro H locs ls S hl
    cases hf
    exact g_reti X S rfl dX0_at_31
  replace hf := hr2
  refine lv_if_lt (tgt := 30) hx hb dX0_at_1 (by decide) (fun c4 => ?_) (fun c4 => ?_)
  · have hf := (if_pos c4).symm.trans hf
    refine lv_iconst (v := (-1 : Int32)) hx hb dX0_at_30 (by decide) ?_
    cases hf
    exact J3 _ _ _ S (lv_sub hl [] rfl)
  · have hf := (if_neg c4).symm.trans hf
    refine lv_iload_n hx hb dX0_at_4 rfl (lv_at hl 1 rfl) ?_
    refine lv_aload_n hx hb dX0_at_5 rfl (lv_at hl 0 rfl) ?_
    refine gfX0_15 X S hN hk dX0_at_6 ?_
    refine lv_icmp_ge (tgt := 30) hx hb dX0_at_9 (by decide) (fun c5 => ?_) (fun c5 => ?_)
    · have hf := (if_pos c5).symm.trans hf
      refine lv_iconst (v := (-1 : Int32)) hx hb dX0_at_30 (by decide) ?_
      cases hf
      exact J3 _ _ _ S (lv_sub hl [] rfl)
    · have hf := (if_neg c5).symm.trans hf
      refine lv_iload_n hx hb dX0_at_12 rfl (lv_at hl 1 rfl) ?_
      refine lv_aload_n hx hb dX0_at_13 rfl (lv_at hl 0 rfl) ?_
      refine gfX0_9 X S hN hk dX0_at_14 ?_
      refine g_alen (v := (20 : Int32)) X S (kd_N (kd_0_1 hk) (by decide) hN) (ceC_120 (kd_0_1 hk)) (by decide) dX0_at_17 ?_
      refine lv_icmp_ge (tgt := 30) hx hb dX0_at_18 (by decide) (fun c6 => ?_) (fun c6 => ?_)
      · have hf := (if_pos c6).symm.trans hf
        refine lv_iconst (v := (-1 : Int32)) hx hb dX0_at_30 (by decide) ?_
        cases hf
        exact J3 _ _ _ S (lv_sub hl [] rfl)
      · have hf := (if_neg c6).symm.trans hf
        refine lv_aload_n hx hb dX0_at_21 rfl (lv_at hl 0 rfl) ?_
        refine gfX0_9 X S hN hk dX0_at_22 ?_
        refine lv_iload_n hx hb dX0_at_25 rfl (lv_at hl 1 rfl) ?_
        obtain ⟨v7, hv7, hf⟩ := g_s1 hf
        refine g_iald X S (kd_N (kd_0_1 hk) (by decide) hN) (ceC_120 (kd_0_1 hk)) hv7 dX0_at_26 ?_
        refine lv_goto (tgt := 31) hx hb dX0_at_27 (by decide) ?_
        cases hf
        exact J3 _ _ _ S (lv_sub hl [] rfl)

noncomputable def f_X0_upTo_l1 (σ : gSt) (k : Nat) (a0 : Int32) : Nat → Int32 → Int32 → Option (Int32)
  | 0, _, _ => none
  | n + 1, i1, i2 => (if (σ k 1) ≤ i1 then some i2 else (if (20 : Int32) ≤ i1 then some i2 else (g_k1 (gald σ (k + 1) 20 i1) fun v6 => (g_k1 (if a0 < v6 then some i2 else some (i2 + 1)) fun x7 => (f_X0_upTo_l1 σ k a0 n (i1 + 1) x7)))))
set_option maxRecDepth 100000 in
set_option maxHeartbeats 4000000 in
theorem w_X0_upTo_l1 {l : Launch} {Γ : gG} {ad : Nat → Nat} {N : Nat} {p : Program} {e : Env} {s : State} {m : MethodId} {args : Array Value} {below : List Frame} {meth : Method} {c : Code} {Q : State → Prop} (hN : 202 ≤ N) (X : gX celC Γ ad N RX0 cX0_upTo 4 (some .int) p s m args meth c) {σ : gSt} {k : Nat} {a0 : Int32} (hk : gkd k = 0) : ∀ (n : Nat) (i1 : Int32) (i2 : Int32) (r3 : Int32), f_X0_upTo_l1 σ k a0 n i1 i2 = some r3 → (∀ (H : Heap) (locs : List Loc) (ls : Array Slot), gS celC Γ ad N σ s H locs → lv_has ls 4 [(2, .int r3)] → W p l e (gR 1 0 0) s m args below meth c H locs 0 0 (Q) (F0 m 40 ls [])) → ∀ (H : Heap) (locs : List Loc) (ls : Array Slot), gS celC Γ ad N σ s H locs → lv_has ls 4 [(3, .int i1), (2, .int i2), (0, .ref (ad k)), (1, .int a0)] → W p l e (gR 1 0 0) s m args below meth c H locs 0 0 (Q) (F0 m 4 ls []) := by
  have hx := X.1
  have hb := X.2.1
  intro n
  induction n with
  | zero =>
    intro i1 i2 r3 hf
    cases hf
  | succ n ih =>
    intro i1 i2 r3 hf J H locs ls S hl
    rw [f_X0_upTo_l1] at hf
    refine lv_iload_n hx hb dX0_upTo_4 rfl (lv_at hl 0 rfl) ?_
    refine lv_aload_n hx hb dX0_upTo_5 rfl (lv_at hl 2 rfl) ?_
    refine gfX0_15 X S hN hk dX0_upTo_6 ?_
    refine lv_icmp_ge (tgt := 40) hx hb dX0_upTo_9 (by decide) (fun c4 => ?_) (fun c4 => ?_)
    · have hf := (if_pos c4).symm.trans hf
      cases hf
      exact J _ _ _ S (lv_sub hl [1] rfl)
    · have hf := (if_neg c4).symm.trans hf
      refine lv_iload_n hx hb dX0_upTo_12 rfl (lv_at hl 0 rfl) ?_
      refine lv_aload_n hx hb dX0_upTo_13 rfl (lv_at hl 2 rfl) ?_
      refine gfX0_9 X S hN hk dX0_upTo_14 ?_
      refine g_alen (v := (20 : Int32)) X S (kd_N (kd_0_1 hk) (by decide) hN) (ceC_120 (kd_0_1 hk)) (by decide) dX0_upTo_17 ?_
      refine lv_icmp_ge (tgt := 40) hx hb dX0_upTo_18 (by decide) (fun c5 => ?_) (fun c5 => ?_)
      · have hf := (if_pos c5).symm.trans hf
        cases hf
        exact J _ _ _ S (lv_sub hl [1] rfl)
      · have hf := (if_neg c5).symm.trans hf
        refine lv_aload_n hx hb dX0_upTo_21 rfl (lv_at hl 2 rfl) ?_
        refine gfX0_9 X S hN hk dX0_upTo_22 ?_
        refine lv_iload_n hx hb dX0_upTo_25 rfl (lv_at hl 0 rfl) ?_
        obtain ⟨v6, hv6, hf⟩ := g_s1 hf
        refine g_iald X S (kd_N (kd_0_1 hk) (by decide) hN) (ceC_120 (kd_0_1 hk)) hv6 dX0_upTo_26 ?_
        refine lv_iload_n hx hb dX0_upTo_27 rfl (lv_at hl 3 rfl) ?_
        obtain ⟨x7, hr8, hf⟩ := g_s1 hf
        have J9 : ∀ (H : Heap) (locs : List Loc) (ls : Array Slot), gS celC Γ ad N σ s H locs → lv_has ls 4 [(3, .int i1), (2, .int x7), (0, .ref (ad k)), (1, .int a0)] → W p l e (gR 1 0 0) s m args below meth c H locs 0 0 (Q) (F0 m 34 ls []) := by
          intro H locs ls S hl
          refine lv_iinc (v := (i1 + 1)) (lv' := [(3, .int (i1 + 1)), (2, .int x7), (0, .ref (ad k)), (1, .int a0)]) hx hb dX0_upTo_34 hl (k := 0) rfl rfl (by decide) rfl (fun ls hl => ?_)
          refine lv_goto (tgt := 4) hx hb dX0_upTo_37 (by decide) ?_
          exact ih _ _ _  hf J _ _ _ S (lv_sub hl [0, 1, 2, 3] rfl)
        replace hf := hr8
        refine lv_icmp_gt (tgt := 34) hx hb dX0_upTo_28 (by decide) (fun c10 => ?_) (fun c10 => ?_)
        · have hf := (if_pos c10).symm.trans hf
          cases hf
          exact J9 _ _ _ S (lv_sub hl [0, 1, 2, 3] rfl)
        · have hf := (if_neg c10).symm.trans hf
          refine lv_iinc (v := (i2 + 1)) (lv' := [(2, .int (i2 + 1)), (3, .int i1), (0, .ref (ad k)), (1, .int a0)]) hx hb dX0_upTo_31 hl (k := 1) rfl rfl (by decide) rfl (fun ls hl => ?_)
          cases hf
          exact J9 _ _ _ S (lv_sub hl [1, 0, 2, 3] rfl)
noncomputable def f_X0_upTo (σ : gSt) (k : Nat) (a0 : Int32) : Option (Int32) :=
  (g_k1 (f_X0_upTo_l1 σ k a0 FU (0 : Int32) (0 : Int32)) fun r3 => some r3)
set_option maxRecDepth 100000 in
set_option maxHeartbeats 4000000 in
theorem c_X0_upTo (l : Launch) {Γ : gG} {ad : Nat → Nat} {N : Nat} (hN : 202 ≤ N) {σ : gSt} {k : Nat} {a0 : Int32} (hk : gkd k = 0) {r : Int32} (hf : f_X0_upTo σ k a0 = some r) : gMi l celC Γ ad N yX0_upTo cX0_upTo 4 (some .int) (gR 1 0 0) [.ref (ad k), .int a0] σ r σ := by
  intro sz
  refine gOf (Qc := fun sz => gQci celC Γ ad N r σ sz) RX0 (by decide) rfl (Nat.le_of_ble_eq_true rfl) (fun p e s m args below meth c H locs ls X S hl => ?_)
  have hl : lv_has ls 4 [(0, .ref (ad k)), (1, .int a0)] := hl
  have hx := X.1
  have hb := X.2.1
  unfold f_X0_upTo at hf
  refine lv_iconst (v := (0 : Int32)) hx hb dX0_upTo_0 (by decide) ?_
  refine lv_istore_n (lv' := [(2, .int (0 : Int32)), (0, .ref (ad k)), (1, .int a0)]) hx hb dX0_upTo_1 rfl hl (by decide) rfl (fun ls hl => ?_)
  refine lv_iconst (v := (0 : Int32)) hx hb dX0_upTo_2 (by decide) ?_
  refine lv_istore_n (lv' := [(3, .int (0 : Int32)), (2, .int (0 : Int32)), (0, .ref (ad k)), (1, .int a0)]) hx hb dX0_upTo_3 rfl hl (by decide) rfl (fun ls hl => ?_)
  obtain ⟨r3, hr11, hf⟩ := g_s1 hf
  refine w_X0_upTo_l1 hN X hk FU _ _ _  hr11 (fun H locs ls S hl => ?_) _ _ _ S (lv_sub hl [0, 1, 2, 3] rfl)
  refine lv_iload_n hx hb dX0_upTo_40 rfl (lv_at hl 0 rfl) ?_
  cases hf
  exact g_reti X S rfl dX0_upTo_41

noncomputable def f_X0_holds (σ : gSt) (k : Nat) (a0 : Int32) : Option (Int32) :=
  (g_k1 (f_X0_upTo σ k a0) fun v1 => (g_k1 (f_X0_upTo σ k (a0 - (1 : Int32))) fun v2 => (g_k1 (if v1 ≤ v2 then some (0 : Int32) else some (1 : Int32)) fun x3 => (g_k1 (gzb x3) fun v6 => some v6))))
set_option maxRecDepth 100000 in
set_option maxHeartbeats 4000000 in
theorem c_X0_holds (l : Launch) {Γ : gG} {ad : Nat → Nat} {N : Nat} (hN : 202 ≤ N) {σ : gSt} {k : Nat} {a0 : Int32} (hk : gkd k = 0) {r : Int32} (hf : f_X0_holds σ k a0 = some r) : gMi l celC Γ ad N yX0_holds cX0_holds 2 (some .boolean) (gR 2 0 0) [.ref (ad k), .int a0] σ r σ := by
  intro sz
  refine gOf (Qc := fun sz => gQci celC Γ ad N r σ sz) RX0 (by decide) rfl (Nat.le_of_ble_eq_true rfl) (fun p e s m args below meth c H locs ls X S hl => ?_)
  have hl : lv_has ls 2 [(0, .ref (ad k)), (1, .int a0)] := hl
  have hx := X.1
  have hb := X.2.1
  unfold f_X0_holds at hf
  refine lv_aload_n hx hb dX0_holds_0 rfl (lv_at hl 0 rfl) ?_
  refine lv_iload_n hx hb dX0_holds_1 rfl (lv_at hl 1 rfl) ?_
  obtain ⟨v1, hv1, hf⟩ := g_s1 hf
  refine g_ki S (g_runV (rest := []) X S (c_X0_upTo l hN hk hv1 _) cvX0_upTo mlX0_25 (kd_N hk (by decide) hN) (ceC_0 hk _) rfl rfl rfl hl.1 (Nat.le_of_ble_eq_true rfl) ⟨⟨rfl, rfl⟩, ⟨Nat.le_of_ble_eq_true rfl, Nat.le_of_ble_eq_true rfl⟩, Nat.le_of_ble_eq_true rfl, Nat.le_of_ble_eq_true rfl⟩ dX0_holds_2) (fun H locs S => ?_)
  refine lv_aload_n hx hb dX0_holds_5 rfl (lv_at hl 0 rfl) ?_
  refine lv_iload_n hx hb dX0_holds_6 rfl (lv_at hl 1 rfl) ?_
  refine lv_iconst (v := (1 : Int32)) hx hb dX0_holds_7 (by decide) ?_
  refine lv_isub hx hb dX0_holds_8 ?_
  obtain ⟨v2, hv2, hf⟩ := g_s1 hf
  refine g_ki S (g_runV (rest := [.int v1]) X S (c_X0_upTo l hN hk hv2 _) cvX0_upTo mlX0_25 (kd_N hk (by decide) hN) (ceC_0 hk _) rfl rfl rfl hl.1 (Nat.le_of_ble_eq_true rfl) ⟨⟨rfl, rfl⟩, ⟨Nat.le_of_ble_eq_true rfl, Nat.le_of_ble_eq_true rfl⟩, Nat.le_of_ble_eq_true rfl, Nat.le_of_ble_eq_true rfl⟩ dX0_holds_9) (fun H locs S => ?_)
  obtain ⟨x3, hr4, hf⟩ := g_s1 hf
  have J5 : ∀ (H : Heap) (locs : List Loc) (ls : Array Slot), gS celC Γ ad N σ s H locs → lv_has ls 2 [] → W p l e (gR 2 0 0) s m args below meth c H locs 0 0 (gQi celC Γ ad N r σ below args s) (F0 m 20 ls [.int x3]) := by
    intro H locs ls S hl
    obtain ⟨v6, hv6, hf⟩ := g_s1 hf
    obtain ⟨hnv6, rfl⟩ := gzb_some hv6
    cases hf
    exact g_reti X S hnv6 dX0_holds_20
  replace hf := hr4
  refine lv_icmp_le (tgt := 19) hx hb dX0_holds_12 (by decide) (fun c7 => ?_) (fun c7 => ?_)
  · have hf := (if_pos c7).symm.trans hf
    refine lv_iconst (v := (0 : Int32)) hx hb dX0_holds_19 (by decide) ?_
    cases hf
    exact J5 _ _ _ S (lv_sub hl [] rfl)
  · have hf := (if_neg c7).symm.trans hf
    refine lv_iconst (v := (1 : Int32)) hx hb dX0_holds_15 (by decide) ?_
    refine lv_goto (tgt := 20) hx hb dX0_holds_16 (by decide) ?_
    cases hf
    exact J5 _ _ _ S (lv_sub hl [] rfl)

noncomputable def f_X0_firstFrom (σ : gSt) (k : Nat) (a0 : Int32) : Option (Int32) :=
  (g_k1 (f_X0_upTo σ k (a0 - (1 : Int32))) fun v1 => (g_k1 (f_X0_at σ k v1) fun v2 => some v2))
set_option maxRecDepth 100000 in
set_option maxHeartbeats 4000000 in
theorem c_X0_firstFrom (l : Launch) {Γ : gG} {ad : Nat → Nat} {N : Nat} (hN : 202 ≤ N) {σ : gSt} {k : Nat} {a0 : Int32} (hk : gkd k = 0) {r : Int32} (hf : f_X0_firstFrom σ k a0 = some r) : gMi l celC Γ ad N yX0_firstFrom cX0_firstFrom 2 (some .int) (gR 2 0 0) [.ref (ad k), .int a0] σ r σ := by
  intro sz
  refine gOf (Qc := fun sz => gQci celC Γ ad N r σ sz) RX0 (by decide) rfl (Nat.le_of_ble_eq_true rfl) (fun p e s m args below meth c H locs ls X S hl => ?_)
  have hl : lv_has ls 2 [(0, .ref (ad k)), (1, .int a0)] := hl
  have hx := X.1
  have hb := X.2.1
  unfold f_X0_firstFrom at hf
  refine lv_aload_n hx hb dX0_firstFrom_0 rfl (lv_at hl 0 rfl) ?_
  refine lv_aload_n hx hb dX0_firstFrom_1 rfl (lv_at hl 0 rfl) ?_
  refine lv_iload_n hx hb dX0_firstFrom_2 rfl (lv_at hl 1 rfl) ?_
  refine lv_iconst (v := (1 : Int32)) hx hb dX0_firstFrom_3 (by decide) ?_
  refine lv_isub hx hb dX0_firstFrom_4 ?_
  obtain ⟨v1, hv1, hf⟩ := g_s1 hf
  refine g_ki S (g_runV (rest := [.ref (ad k)]) X S (c_X0_upTo l hN hk hv1 _) cvX0_upTo mlX0_25 (kd_N hk (by decide) hN) (ceC_0 hk _) rfl rfl rfl hl.1 (Nat.le_of_ble_eq_true rfl) ⟨⟨rfl, rfl⟩, ⟨Nat.le_of_ble_eq_true rfl, Nat.le_of_ble_eq_true rfl⟩, Nat.le_of_ble_eq_true rfl, Nat.le_of_ble_eq_true rfl⟩ dX0_firstFrom_5) (fun H locs S => ?_)
  obtain ⟨v2, hv2, hf⟩ := g_s1 hf
  refine g_ki S (g_runV (rest := []) X S (c_X0_at l hN hk hv2 _) cvX0_at mlX0_29 (kd_N hk (by decide) hN) (ceC_0 hk _) rfl rfl rfl hl.1 (Nat.le_of_ble_eq_true rfl) ⟨⟨rfl, rfl⟩, ⟨Nat.le_of_ble_eq_true rfl, Nat.le_of_ble_eq_true rfl⟩, Nat.le_of_ble_eq_true rfl, Nat.le_of_ble_eq_true rfl⟩ dX0_firstFrom_8) (fun H locs S => ?_)
  cases hf
  exact g_reti X S rfl dX0_firstFrom_11

noncomputable def f_X9_distance (σ : gSt) (a0 : Int32) (a1 : Int32) : Option (Int32) :=
  some (if 0 ≤ (a0 - a1) then (a0 - a1) else 0 - (a0 - a1))
set_option maxRecDepth 100000 in
set_option maxHeartbeats 4000000 in
theorem c_X9_distance (l : Launch) {Γ : gG} {ad : Nat → Nat} {N : Nat} (hN : 202 ≤ N) {σ : gSt} {a0 : Int32} {a1 : Int32}  {r : Int32} (hf : f_X9_distance σ a0 a1 = some r) : gMi l celC Γ ad N yX9_distance cX9_distance 2 (some .int) (gR 2 0 0) [.int a0, .int a1] σ r σ := by
  intro sz
  refine gOf (Qc := fun sz => gQci celC Γ ad N r σ sz) RX9 (by decide) rfl (Nat.le_of_ble_eq_true rfl) (fun p e s m args below meth c H locs ls X S hl => ?_)
  have hl : lv_has ls 2 [(0, .int a0), (1, .int a1)] := hl
  have hx := X.1
  have hb := X.2.1
  unfold f_X9_distance at hf
  refine lv_iload_n hx hb dX9_distance_0 rfl (lv_at hl 0 rfl) ?_
  refine lv_iload_n hx hb dX9_distance_1 rfl (lv_at hl 1 rfl) ?_
  refine lv_isub hx hb dX9_distance_2 ?_
  refine g_abs X hl.1 mwX9_415 ⟨⟨by decide, Nat.le_of_ble_eq_true rfl⟩, Nat.le_of_ble_eq_true rfl, Nat.le_of_ble_eq_true rfl⟩ dX9_distance_3 ?_
  cases hf
  exact g_reti X S rfl dX9_distance_6

noncomputable def f_X0_nearest_l1 (σ : gSt) (k : Nat) (a0 : Int32) : Nat → Int32 → Int32 → Option (Int32)
  | 0, _, _ => none
  | n + 1, i1, i2 => (if (σ k 1) ≤ i1 then some i2 else (g_k1 (if i2 = (-1 : Int32) then (g_k1 (f_X0_at σ k i1) fun v9 => some v9) else (g_k1 (f_X0_at σ k i1) fun v10 => (g_k1 (f_X9_distance σ v10 a0) fun v11 => (g_k1 (f_X9_distance σ i2 a0) fun v12 => (if v12 ≤ v11 then some i2 else (g_k1 (f_X0_at σ k i1) fun v14 => some v14)))))) fun x5 => (f_X0_nearest_l1 σ k a0 n (i1 + 1) x5)))
set_option maxRecDepth 100000 in
set_option maxHeartbeats 4000000 in
theorem w_X0_nearest_l1 {l : Launch} {Γ : gG} {ad : Nat → Nat} {N : Nat} {p : Program} {e : Env} {s : State} {m : MethodId} {args : Array Value} {below : List Frame} {meth : Method} {c : Code} {Q : State → Prop} (hN : 202 ≤ N) (X : gX celC Γ ad N RX0 cX0_nearest 4 (some .int) p s m args meth c) {σ : gSt} {k : Nat} {a0 : Int32} (hk : gkd k = 0) : ∀ (n : Nat) (i1 : Int32) (i2 : Int32) (r3 : Int32), f_X0_nearest_l1 σ k a0 n i1 i2 = some r3 → (∀ (H : Heap) (locs : List Loc) (ls : Array Slot), gS celC Γ ad N σ s H locs → lv_has ls 4 [(2, .int r3)] → W p l e (gR 3 0 0) s m args below meth c H locs 0 0 (Q) (F0 m 46 ls [])) → ∀ (H : Heap) (locs : List Loc) (ls : Array Slot), gS celC Γ ad N σ s H locs → lv_has ls 4 [(3, .int i1), (2, .int i2), (0, .ref (ad k)), (1, .int a0)] → W p l e (gR 3 0 0) s m args below meth c H locs 0 0 (Q) (F0 m 4 ls []) := by
  have hx := X.1
  have hb := X.2.1
  intro n
  induction n with
  | zero =>
    intro i1 i2 r3 hf
    cases hf
  | succ n ih =>
    intro i1 i2 r3 hf J H locs ls S hl
    rw [f_X0_nearest_l1] at hf
    refine lv_iload_n hx hb dX0_nearest_4 rfl (lv_at hl 0 rfl) ?_
    refine lv_aload_n hx hb dX0_nearest_5 rfl (lv_at hl 2 rfl) ?_
    refine gfX0_15 X S hN hk dX0_nearest_6 ?_
    refine lv_icmp_ge (tgt := 46) hx hb dX0_nearest_9 (by decide) (fun c4 => ?_) (fun c4 => ?_)
    · have hf := (if_pos c4).symm.trans hf
      cases hf
      exact J _ _ _ S (lv_sub hl [1] rfl)
    · have hf := (if_neg c4).symm.trans hf
      refine lv_iload_n hx hb dX0_nearest_12 rfl (lv_at hl 1 rfl) ?_
      refine lv_iconst (v := (-1 : Int32)) hx hb dX0_nearest_13 (by decide) ?_
      obtain ⟨x5, hr6, hf⟩ := g_s1 hf
      have J7 : ∀ (H : Heap) (locs : List Loc) (ls : Array Slot), gS celC Γ ad N σ s H locs → lv_has ls 4 [(3, .int i1), (2, .int x5), (0, .ref (ad k)), (1, .int a0)] → W p l e (gR 3 0 0) s m args below meth c H locs 0 0 (Q) (F0 m 40 ls []) := by
        intro H locs ls S hl
        refine lv_iinc (v := (i1 + 1)) (lv' := [(3, .int (i1 + 1)), (2, .int x5), (0, .ref (ad k)), (1, .int a0)]) hx hb dX0_nearest_40 hl (k := 0) rfl rfl (by decide) rfl (fun ls hl => ?_)
        refine lv_goto (tgt := 4) hx hb dX0_nearest_43 (by decide) ?_
        exact ih _ _ _  hf J _ _ _ S (lv_sub hl [0, 1, 2, 3] rfl)
      replace hf := hr6
      refine lv_icmp_eq (tgt := 34) hx hb dX0_nearest_14 (by decide) (fun c8 => ?_) (fun c8 => ?_)
      · have hf := (if_pos c8).symm.trans hf
        refine lv_aload_n hx hb dX0_nearest_34 rfl (lv_at hl 2 rfl) ?_
        refine lv_iload_n hx hb dX0_nearest_35 rfl (lv_at hl 0 rfl) ?_
        obtain ⟨v9, hv9, hf⟩ := g_s1 hf
        refine g_ki S (g_runV (rest := []) X S (c_X0_at l hN hk hv9 _) cvX0_at mlX0_29 (kd_N hk (by decide) hN) (ceC_0 hk _) rfl rfl rfl hl.1 (Nat.le_of_ble_eq_true rfl) ⟨⟨rfl, rfl⟩, ⟨Nat.le_of_ble_eq_true rfl, Nat.le_of_ble_eq_true rfl⟩, Nat.le_of_ble_eq_true rfl, Nat.le_of_ble_eq_true rfl⟩ dX0_nearest_36) (fun H locs S => ?_)
        refine lv_istore_n (lv' := [(2, .int v9), (3, .int i1), (0, .ref (ad k)), (1, .int a0)]) hx hb dX0_nearest_39 rfl hl (by decide) rfl (fun ls hl => ?_)
        cases hf
        exact J7 _ _ _ S (lv_sub hl [1, 0, 2, 3] rfl)
      · have hf := (if_neg c8).symm.trans hf
        refine lv_aload_n hx hb dX0_nearest_17 rfl (lv_at hl 2 rfl) ?_
        refine lv_iload_n hx hb dX0_nearest_18 rfl (lv_at hl 0 rfl) ?_
        obtain ⟨v10, hv10, hf⟩ := g_s1 hf
        refine g_ki S (g_runV (rest := []) X S (c_X0_at l hN hk hv10 _) cvX0_at mlX0_29 (kd_N hk (by decide) hN) (ceC_0 hk _) rfl rfl rfl hl.1 (Nat.le_of_ble_eq_true rfl) ⟨⟨rfl, rfl⟩, ⟨Nat.le_of_ble_eq_true rfl, Nat.le_of_ble_eq_true rfl⟩, Nat.le_of_ble_eq_true rfl, Nat.le_of_ble_eq_true rfl⟩ dX0_nearest_19) (fun H locs S => ?_)
        refine lv_iload_n hx hb dX0_nearest_22 rfl (lv_at hl 3 rfl) ?_
        obtain ⟨v11, hv11, hf⟩ := g_s1 hf
        refine g_ki S (g_runN (rest := []) X S (c_X9_distance l hN  hv11 _) csX9_distance mnX0_32 rfl rfl hl.1 (Nat.le_of_ble_eq_true rfl) ⟨⟨rfl, rfl⟩, ⟨Nat.le_of_ble_eq_true rfl, Nat.le_of_ble_eq_true rfl⟩, Nat.le_of_ble_eq_true rfl, Nat.le_of_ble_eq_true rfl⟩ dX0_nearest_23) (fun H locs S => ?_)
        refine lv_iload_n hx hb dX0_nearest_26 rfl (lv_at hl 1 rfl) ?_
        refine lv_iload_n hx hb dX0_nearest_27 rfl (lv_at hl 3 rfl) ?_
        obtain ⟨v12, hv12, hf⟩ := g_s1 hf
        refine g_ki S (g_runN (rest := [.int v11]) X S (c_X9_distance l hN  hv12 _) csX9_distance mnX0_32 rfl rfl hl.1 (Nat.le_of_ble_eq_true rfl) ⟨⟨rfl, rfl⟩, ⟨Nat.le_of_ble_eq_true rfl, Nat.le_of_ble_eq_true rfl⟩, Nat.le_of_ble_eq_true rfl, Nat.le_of_ble_eq_true rfl⟩ dX0_nearest_28) (fun H locs S => ?_)
        refine lv_icmp_ge (tgt := 40) hx hb dX0_nearest_31 (by decide) (fun c13 => ?_) (fun c13 => ?_)
        · have hf := (if_pos c13).symm.trans hf
          cases hf
          exact J7 _ _ _ S (lv_sub hl [0, 1, 2, 3] rfl)
        · have hf := (if_neg c13).symm.trans hf
          refine lv_aload_n hx hb dX0_nearest_34 rfl (lv_at hl 2 rfl) ?_
          refine lv_iload_n hx hb dX0_nearest_35 rfl (lv_at hl 0 rfl) ?_
          obtain ⟨v14, hv14, hf⟩ := g_s1 hf
          refine g_ki S (g_runV (rest := []) X S (c_X0_at l hN hk hv14 _) cvX0_at mlX0_29 (kd_N hk (by decide) hN) (ceC_0 hk _) rfl rfl rfl hl.1 (Nat.le_of_ble_eq_true rfl) ⟨⟨rfl, rfl⟩, ⟨Nat.le_of_ble_eq_true rfl, Nat.le_of_ble_eq_true rfl⟩, Nat.le_of_ble_eq_true rfl, Nat.le_of_ble_eq_true rfl⟩ dX0_nearest_36) (fun H locs S => ?_)
          refine lv_istore_n (lv' := [(2, .int v14), (3, .int i1), (0, .ref (ad k)), (1, .int a0)]) hx hb dX0_nearest_39 rfl hl (by decide) rfl (fun ls hl => ?_)
          cases hf
          exact J7 _ _ _ S (lv_sub hl [1, 0, 2, 3] rfl)
noncomputable def f_X0_nearest (σ : gSt) (k : Nat) (a0 : Int32) : Option (Int32) :=
  (g_k1 (f_X0_nearest_l1 σ k a0 FU (0 : Int32) (-1 : Int32)) fun r3 => some r3)
set_option maxRecDepth 100000 in
set_option maxHeartbeats 4000000 in
theorem c_X0_nearest (l : Launch) {Γ : gG} {ad : Nat → Nat} {N : Nat} (hN : 202 ≤ N) {σ : gSt} {k : Nat} {a0 : Int32} (hk : gkd k = 0) {r : Int32} (hf : f_X0_nearest σ k a0 = some r) : gMi l celC Γ ad N yX0_nearest cX0_nearest 4 (some .int) (gR 3 0 0) [.ref (ad k), .int a0] σ r σ := by
  intro sz
  refine gOf (Qc := fun sz => gQci celC Γ ad N r σ sz) RX0 (by decide) rfl (Nat.le_of_ble_eq_true rfl) (fun p e s m args below meth c H locs ls X S hl => ?_)
  have hl : lv_has ls 4 [(0, .ref (ad k)), (1, .int a0)] := hl
  have hx := X.1
  have hb := X.2.1
  unfold f_X0_nearest at hf
  refine lv_iconst (v := (-1 : Int32)) hx hb dX0_nearest_0 (by decide) ?_
  refine lv_istore_n (lv' := [(2, .int (-1 : Int32)), (0, .ref (ad k)), (1, .int a0)]) hx hb dX0_nearest_1 rfl hl (by decide) rfl (fun ls hl => ?_)
  refine lv_iconst (v := (0 : Int32)) hx hb dX0_nearest_2 (by decide) ?_
  refine lv_istore_n (lv' := [(3, .int (0 : Int32)), (2, .int (-1 : Int32)), (0, .ref (ad k)), (1, .int a0)]) hx hb dX0_nearest_3 rfl hl (by decide) rfl (fun ls hl => ?_)
  obtain ⟨r3, hr15, hf⟩ := g_s1 hf
  refine w_X0_nearest_l1 hN X hk FU _ _ _  hr15 (fun H locs ls S hl => ?_) _ _ _ S (lv_sub hl [0, 1, 2, 3] rfl)
  refine lv_iload_n hx hb dX0_nearest_46 rfl (lv_at hl 0 rfl) ?_
  cases hf
  exact g_reti X S rfl dX0_nearest_47

noncomputable def f_X0_lacksRoomFor (σ : gSt) (k : Nat) (a0 : Int32) : Option (Int32) :=
  (g_k1 (if (σ k 1) < (20 : Int32) then some (0 : Int32) else (g_k1 (f_X0_holds σ k a0) fun v6 => (if v6 = 0 then some (1 : Int32) else some (0 : Int32)))) fun x1 => (g_k1 (gzb x1) fun v4 => some v4))
set_option maxRecDepth 100000 in
set_option maxHeartbeats 4000000 in
theorem c_X0_lacksRoomFor (l : Launch) {Γ : gG} {ad : Nat → Nat} {N : Nat} (hN : 202 ≤ N) {σ : gSt} {k : Nat} {a0 : Int32} (hk : gkd k = 0) {r : Int32} (hf : f_X0_lacksRoomFor σ k a0 = some r) : gMi l celC Γ ad N yX0_lacksRoomFor cX0_lacksRoomFor 2 (some .boolean) (gR 3 0 0) [.ref (ad k), .int a0] σ r σ := by
  intro sz
  refine gOf (Qc := fun sz => gQci celC Γ ad N r σ sz) RX0 (by decide) rfl (Nat.le_of_ble_eq_true rfl) (fun p e s m args below meth c H locs ls X S hl => ?_)
  have hl : lv_has ls 2 [(0, .ref (ad k)), (1, .int a0)] := hl
  have hx := X.1
  have hb := X.2.1
  unfold f_X0_lacksRoomFor at hf
  refine lv_aload_n hx hb dX0_lacksRoomFor_0 rfl (lv_at hl 0 rfl) ?_
  refine gfX0_15 X S hN hk dX0_lacksRoomFor_1 ?_
  refine lv_bipush (v := (20 : Int32)) hx hb dX0_lacksRoomFor_4 (by decide) ?_
  obtain ⟨x1, hr2, hf⟩ := g_s1 hf
  have J3 : ∀ (H : Heap) (locs : List Loc) (ls : Array Slot), gS celC Γ ad N σ s H locs → lv_has ls 2 [] → W p l e (gR 3 0 0) s m args below meth c H locs 0 0 (gQi celC Γ ad N r σ below args s) (F0 m 22 ls [.int x1]) := by
    intro H locs ls S hl
    obtain ⟨v4, hv4, hf⟩ := g_s1 hf
    obtain ⟨hnv4, rfl⟩ := gzb_some hv4
    cases hf
    exact g_reti X S hnv4 dX0_lacksRoomFor_22
  replace hf := hr2
  refine lv_icmp_lt (tgt := 21) hx hb dX0_lacksRoomFor_6 (by decide) (fun c5 => ?_) (fun c5 => ?_)
  · have hf := (if_pos c5).symm.trans hf
    refine lv_iconst (v := (0 : Int32)) hx hb dX0_lacksRoomFor_21 (by decide) ?_
    cases hf
    exact J3 _ _ _ S (lv_sub hl [] rfl)
  · have hf := (if_neg c5).symm.trans hf
    refine lv_aload_n hx hb dX0_lacksRoomFor_9 rfl (lv_at hl 0 rfl) ?_
    refine lv_iload_n hx hb dX0_lacksRoomFor_10 rfl (lv_at hl 1 rfl) ?_
    obtain ⟨v6, hv6, hf⟩ := g_s1 hf
    refine g_ki S (g_runV (rest := []) X S (c_X0_holds l hN hk hv6 _) cvX0_holds mlX0_36 (kd_N hk (by decide) hN) (ceC_0 hk _) rfl rfl rfl hl.1 (Nat.le_of_ble_eq_true rfl) ⟨⟨rfl, rfl⟩, ⟨Nat.le_of_ble_eq_true rfl, Nat.le_of_ble_eq_true rfl⟩, Nat.le_of_ble_eq_true rfl, Nat.le_of_ble_eq_true rfl⟩ dX0_lacksRoomFor_11) (fun H locs S => ?_)
    refine lv_if_ne (tgt := 21) hx hb dX0_lacksRoomFor_14 (by decide) (fun c7 => ?_) (fun c7 => ?_)
    · have hf := (if_neg c7).symm.trans hf
      refine lv_iconst (v := (0 : Int32)) hx hb dX0_lacksRoomFor_21 (by decide) ?_
      cases hf
      exact J3 _ _ _ S (lv_sub hl [] rfl)
    · have hf := (if_pos c7).symm.trans hf
      refine lv_iconst (v := (1 : Int32)) hx hb dX0_lacksRoomFor_17 (by decide) ?_
      refine lv_goto (tgt := 22) hx hb dX0_lacksRoomFor_18 (by decide) ?_
      cases hf
      exact J3 _ _ _ S (lv_sub hl [] rfl)

noncomputable def f_X0_make_l1 (σ : gSt) (k : Nat) (a0 : Int32) : Nat → Int32 → gSt → Option (Int32 × gSt)
  | 0, _, _ => none
  | n + 1, i5, σ6 => (if i5 ≤ 0 then some (i5, σ6) else (g_k1 (gald σ6 (k + 1) 20 (i5 - (1 : Int32))) fun v10 => (if v10 ≤ a0 then some (i5, σ6) else (g_k1 (gald σ6 (k + 1) 20 (i5 - (1 : Int32))) fun v12 => (g_k1 (gast σ6 (k + 1) 20 i5 v12) fun σ13 => (f_X0_make_l1 σ k a0 n (i5 + (-1)) σ13))))))
set_option maxRecDepth 100000 in
set_option maxHeartbeats 4000000 in
theorem w_X0_make_l1 {l : Launch} {Γ : gG} {ad : Nat → Nat} {N : Nat} {p : Program} {e : Env} {s : State} {m : MethodId} {args : Array Value} {below : List Frame} {meth : Method} {c : Code} {Q : State → Prop} (hN : 202 ≤ N) (X : gX celC Γ ad N RX0 cX0_make 3 none p s m args meth c) {σ : gSt} {k : Nat} {a0 : Int32} (hk : gkd k = 0) : ∀ (n : Nat) (i5 : Int32) (σ6 : gSt) (r7 : Int32) (σ8 : gSt), f_X0_make_l1 σ k a0 n i5 σ6 = some (r7, σ8) → (∀ (H : Heap) (locs : List Loc) (ls : Array Slot), gS celC Γ ad N σ8 s H locs → lv_has ls 3 [(2, .int r7), (0, .ref (ad k)), (1, .int a0)] → W p l e (gR 3 0 0) s m args below meth c H locs 0 0 (Q) (F0 m 69 ls [])) → ∀ (H : Heap) (locs : List Loc) (ls : Array Slot), gS celC Γ ad N σ6 s H locs → lv_has ls 3 [(2, .int i5), (0, .ref (ad k)), (1, .int a0)] → W p l e (gR 3 0 0) s m args below meth c H locs 0 0 (Q) (F0 m 33 ls []) := by
  have hx := X.1
  have hb := X.2.1
  intro n
  induction n with
  | zero =>
    intro i5 σ6 r7 σ8 hf
    cases hf
  | succ n ih =>
    intro i5 σ6 r7 σ8 hf J H locs ls S hl
    rw [f_X0_make_l1] at hf
    refine lv_iload_n hx hb dX0_make_33 rfl (lv_at hl 0 rfl) ?_
    refine lv_if_le (tgt := 69) hx hb dX0_make_34 (by decide) (fun c9 => ?_) (fun c9 => ?_)
    · have hf := (if_pos c9).symm.trans hf
      cases hf
      exact J _ _ _ S (lv_sub hl [0, 1, 2] rfl)
    · have hf := (if_neg c9).symm.trans hf
      refine lv_aload_n hx hb dX0_make_37 rfl (lv_at hl 1 rfl) ?_
      refine gfX0_9 X S hN hk dX0_make_38 ?_
      refine lv_iload_n hx hb dX0_make_41 rfl (lv_at hl 0 rfl) ?_
      refine lv_iconst (v := (1 : Int32)) hx hb dX0_make_42 (by decide) ?_
      refine lv_isub hx hb dX0_make_43 ?_
      obtain ⟨v10, hv10, hf⟩ := g_s1 hf
      refine g_iald X S (kd_N (kd_0_1 hk) (by decide) hN) (ceC_120 (kd_0_1 hk)) hv10 dX0_make_44 ?_
      refine lv_iload_n hx hb dX0_make_45 rfl (lv_at hl 2 rfl) ?_
      refine lv_icmp_le (tgt := 69) hx hb dX0_make_46 (by decide) (fun c11 => ?_) (fun c11 => ?_)
      · have hf := (if_pos c11).symm.trans hf
        cases hf
        exact J _ _ _ S (lv_sub hl [0, 1, 2] rfl)
      · have hf := (if_neg c11).symm.trans hf
        refine lv_aload_n hx hb dX0_make_49 rfl (lv_at hl 1 rfl) ?_
        refine gfX0_9 X S hN hk dX0_make_50 ?_
        refine lv_iload_n hx hb dX0_make_53 rfl (lv_at hl 0 rfl) ?_
        refine lv_aload_n hx hb dX0_make_54 rfl (lv_at hl 1 rfl) ?_
        refine gfX0_9 X S hN hk dX0_make_55 ?_
        refine lv_iload_n hx hb dX0_make_58 rfl (lv_at hl 0 rfl) ?_
        refine lv_iconst (v := (1 : Int32)) hx hb dX0_make_59 (by decide) ?_
        refine lv_isub hx hb dX0_make_60 ?_
        obtain ⟨v12, hv12, hf⟩ := g_s1 hf
        refine g_iald X S (kd_N (kd_0_1 hk) (by decide) hN) (ceC_120 (kd_0_1 hk)) hv12 dX0_make_61 ?_
        obtain ⟨σ13, hσ13, hf⟩ := g_s1 hf
        refine g_iast X S (kd_N (kd_0_1 hk) (by decide) hN) (ceC_120 (kd_0_1 hk)) hσ13 dX0_make_62 (fun H locs S => ?_)
        refine lv_iinc (v := (i5 + (-1))) (lv' := [(2, .int (i5 + (-1))), (0, .ref (ad k)), (1, .int a0)]) hx hb dX0_make_63 hl (k := 0) rfl rfl (by decide) rfl (fun ls hl => ?_)
        refine lv_goto (tgt := 33) hx hb dX0_make_66 (by decide) ?_
        exact ih _ _ _ _  hf J _ _ _ S (lv_sub hl [0, 1, 2] rfl)
noncomputable def f_X0_make (σ : gSt) (k : Nat) (a0 : Int32) : Option (gSt) :=
  (g_k1 (f_X0_holds σ k a0) fun v1 => (if v1 = 0 then (if (σ k 1) < 0 then some σ else (if (σ k 1) < (20 : Int32) then (g_k2 (f_X0_make_l1 σ k a0 FU (σ k 1) σ) fun r7 σ8 => (g_k1 (gast σ8 (k + 1) 20 r7 a0) fun σ15 => (g_k1 (gset σ15 k 1 ((σ15 k 1) + (1 : Int32))) fun σ16 => some σ16))) else some σ)) else some σ))
set_option maxRecDepth 100000 in
set_option maxHeartbeats 4000000 in
theorem c_X0_make (l : Launch) {Γ : gG} {ad : Nat → Nat} {N : Nat} (hN : 202 ≤ N) {σ : gSt} {k : Nat} {a0 : Int32} (hk : gkd k = 0) {σ' : gSt} (hf : f_X0_make σ k a0 = some σ') : gMv l celC Γ ad N yX0_make cX0_make 3 none (gR 3 0 0) [.ref (ad k), .int a0] σ σ' := by
  intro sz
  refine gOf (Qc := fun sz => gQcv celC Γ ad N σ' sz) RX0 (by decide) rfl (Nat.le_of_ble_eq_true rfl) (fun p e s m args below meth c H locs ls X S hl => ?_)
  have hl : lv_has ls 3 [(0, .ref (ad k)), (1, .int a0)] := hl
  have hx := X.1
  have hb := X.2.1
  unfold f_X0_make at hf
  refine lv_aload_n hx hb dX0_make_0 rfl (lv_at hl 0 rfl) ?_
  refine lv_iload_n hx hb dX0_make_1 rfl (lv_at hl 1 rfl) ?_
  obtain ⟨v1, hv1, hf⟩ := g_s1 hf
  refine g_ki S (g_runV (rest := []) X S (c_X0_holds l hN hk hv1 _) cvX0_holds mlX0_36 (kd_N hk (by decide) hN) (ceC_0 hk _) rfl rfl rfl hl.1 (Nat.le_of_ble_eq_true rfl) ⟨⟨rfl, rfl⟩, ⟨Nat.le_of_ble_eq_true rfl, Nat.le_of_ble_eq_true rfl⟩, Nat.le_of_ble_eq_true rfl, Nat.le_of_ble_eq_true rfl⟩ dX0_make_2) (fun H locs S => ?_)
  refine lv_if_ne (tgt := 27) hx hb dX0_make_5 (by decide) (fun c2 => ?_) (fun c2 => ?_)
  · have hf := (if_neg c2).symm.trans hf
    cases hf
    exact g_retv X S dX0_make_27
  · have hf := (if_pos c2).symm.trans hf
    refine lv_aload_n hx hb dX0_make_8 rfl (lv_at hl 0 rfl) ?_
    refine gfX0_15 X S hN hk dX0_make_9 ?_
    refine lv_if_lt (tgt := 27) hx hb dX0_make_12 (by decide) (fun c3 => ?_) (fun c3 => ?_)
    · have hf := (if_pos c3).symm.trans hf
      cases hf
      exact g_retv X S dX0_make_27
    · have hf := (if_neg c3).symm.trans hf
      refine lv_aload_n hx hb dX0_make_15 rfl (lv_at hl 0 rfl) ?_
      refine gfX0_15 X S hN hk dX0_make_16 ?_
      refine lv_aload_n hx hb dX0_make_19 rfl (lv_at hl 0 rfl) ?_
      refine gfX0_9 X S hN hk dX0_make_20 ?_
      refine g_alen (v := (20 : Int32)) X S (kd_N (kd_0_1 hk) (by decide) hN) (ceC_120 (kd_0_1 hk)) (by decide) dX0_make_23 ?_
      refine lv_icmp_lt (tgt := 28) hx hb dX0_make_24 (by decide) (fun c4 => ?_) (fun c4 => ?_)
      · have hf := (if_pos c4).symm.trans hf
        refine lv_aload_n hx hb dX0_make_28 rfl (lv_at hl 0 rfl) ?_
        refine gfX0_15 X S hN hk dX0_make_29 ?_
        refine lv_istore_n (lv' := [(2, .int (σ k 1)), (0, .ref (ad k)), (1, .int a0)]) hx hb dX0_make_32 rfl hl (by decide) rfl (fun ls hl => ?_)
        obtain ⟨r7, σ8, hr14, hf⟩ := g_s2 hf
        refine w_X0_make_l1 hN X hk FU _ _ _ _  hr14 (fun H locs ls S hl => ?_) _ _ _ S (lv_sub hl [0, 1, 2] rfl)
        refine lv_aload_n hx hb dX0_make_69 rfl (lv_at hl 1 rfl) ?_
        refine gfX0_9 X S hN hk dX0_make_70 ?_
        refine lv_iload_n hx hb dX0_make_73 rfl (lv_at hl 0 rfl) ?_
        refine lv_iload_n hx hb dX0_make_74 rfl (lv_at hl 2 rfl) ?_
        obtain ⟨σ15, hσ15, hf⟩ := g_s1 hf
        refine g_iast X S (kd_N (kd_0_1 hk) (by decide) hN) (ceC_120 (kd_0_1 hk)) hσ15 dX0_make_75 (fun H locs S => ?_)
        refine lv_aload_n hx hb dX0_make_76 rfl (lv_at hl 1 rfl) ?_
        refine lv_dup hx hb dX0_make_77 rfl ?_
        refine gfX0_15 X S hN hk dX0_make_78 ?_
        refine lv_iconst (v := (1 : Int32)) hx hb dX0_make_81 (by decide) ?_
        refine lv_iadd hx hb dX0_make_82 ?_
        obtain ⟨σ16, hσ16, hf⟩ := g_s1 hf
        refine pfX0_15 X S hN hk hσ16 dX0_make_83 (fun H locs S => ?_)
        cases hf
        exact g_retv X S dX0_make_86
      · have hf := (if_neg c4).symm.trans hf
        cases hf
        exact g_retv X S dX0_make_27

noncomputable def f_X0_takeAway_l1 (σ : gSt) (k : Nat) : Nat → Int32 → gSt → Option (gSt)
  | 0, _, _ => none
  | n + 1, i4, σ5 => (if i4 ≤ 0 then some σ5 else (if (σ5 k 1) ≤ i4 then some σ5 else (if (20 : Int32) ≤ i4 then some σ5 else (g_k1 (gald σ5 (k + 1) 20 i4) fun v10 => (g_k1 (gast σ5 (k + 1) 20 (i4 - (1 : Int32)) v10) fun σ11 => (f_X0_takeAway_l1 σ k n (i4 + 1) σ11))))))
set_option maxRecDepth 100000 in
set_option maxHeartbeats 4000000 in
theorem w_X0_takeAway_l1 {l : Launch} {Γ : gG} {ad : Nat → Nat} {N : Nat} {p : Program} {e : Env} {s : State} {m : MethodId} {args : Array Value} {below : List Frame} {meth : Method} {c : Code} {Q : State → Prop} (hN : 202 ≤ N) (X : gX celC Γ ad N RX0 cX0_takeAway 3 none p s m args meth c) {σ : gSt} {k : Nat} (hk : gkd k = 0) : ∀ (n : Nat) (i4 : Int32) (σ5 : gSt) (σ6 : gSt), f_X0_takeAway_l1 σ k n i4 σ5 = some σ6 → (∀ (H : Heap) (locs : List Loc) (ls : Array Slot), gS celC Γ ad N σ6 s H locs → lv_has ls 3 [(0, .ref (ad k))] → W p l e (gR 3 0 0) s m args below meth c H locs 0 0 (Q) (F0 m 56 ls [])) → ∀ (H : Heap) (locs : List Loc) (ls : Array Slot), gS celC Γ ad N σ5 s H locs → lv_has ls 3 [(2, .int i4), (0, .ref (ad k))] → W p l e (gR 3 0 0) s m args below meth c H locs 0 0 (Q) (F0 m 15 ls []) := by
  have hx := X.1
  have hb := X.2.1
  intro n
  induction n with
  | zero =>
    intro i4 σ5 σ6 hf
    cases hf
  | succ n ih =>
    intro i4 σ5 σ6 hf J H locs ls S hl
    rw [f_X0_takeAway_l1] at hf
    refine lv_iload_n hx hb dX0_takeAway_15 rfl (lv_at hl 0 rfl) ?_
    refine lv_if_le (tgt := 56) hx hb dX0_takeAway_16 (by decide) (fun c7 => ?_) (fun c7 => ?_)
    · have hf := (if_pos c7).symm.trans hf
      cases hf
      exact J _ _ _ S (lv_sub hl [1] rfl)
    · have hf := (if_neg c7).symm.trans hf
      refine lv_iload_n hx hb dX0_takeAway_19 rfl (lv_at hl 0 rfl) ?_
      refine lv_aload_n hx hb dX0_takeAway_20 rfl (lv_at hl 1 rfl) ?_
      refine gfX0_15 X S hN hk dX0_takeAway_21 ?_
      refine lv_icmp_ge (tgt := 56) hx hb dX0_takeAway_24 (by decide) (fun c8 => ?_) (fun c8 => ?_)
      · have hf := (if_pos c8).symm.trans hf
        cases hf
        exact J _ _ _ S (lv_sub hl [1] rfl)
      · have hf := (if_neg c8).symm.trans hf
        refine lv_iload_n hx hb dX0_takeAway_27 rfl (lv_at hl 0 rfl) ?_
        refine lv_aload_n hx hb dX0_takeAway_28 rfl (lv_at hl 1 rfl) ?_
        refine gfX0_9 X S hN hk dX0_takeAway_29 ?_
        refine g_alen (v := (20 : Int32)) X S (kd_N (kd_0_1 hk) (by decide) hN) (ceC_120 (kd_0_1 hk)) (by decide) dX0_takeAway_32 ?_
        refine lv_icmp_ge (tgt := 56) hx hb dX0_takeAway_33 (by decide) (fun c9 => ?_) (fun c9 => ?_)
        · have hf := (if_pos c9).symm.trans hf
          cases hf
          exact J _ _ _ S (lv_sub hl [1] rfl)
        · have hf := (if_neg c9).symm.trans hf
          refine lv_aload_n hx hb dX0_takeAway_36 rfl (lv_at hl 1 rfl) ?_
          refine gfX0_9 X S hN hk dX0_takeAway_37 ?_
          refine lv_iload_n hx hb dX0_takeAway_40 rfl (lv_at hl 0 rfl) ?_
          refine lv_iconst (v := (1 : Int32)) hx hb dX0_takeAway_41 (by decide) ?_
          refine lv_isub hx hb dX0_takeAway_42 ?_
          refine lv_aload_n hx hb dX0_takeAway_43 rfl (lv_at hl 1 rfl) ?_
          refine gfX0_9 X S hN hk dX0_takeAway_44 ?_
          refine lv_iload_n hx hb dX0_takeAway_47 rfl (lv_at hl 0 rfl) ?_
          obtain ⟨v10, hv10, hf⟩ := g_s1 hf
          refine g_iald X S (kd_N (kd_0_1 hk) (by decide) hN) (ceC_120 (kd_0_1 hk)) hv10 dX0_takeAway_48 ?_
          obtain ⟨σ11, hσ11, hf⟩ := g_s1 hf
          refine g_iast X S (kd_N (kd_0_1 hk) (by decide) hN) (ceC_120 (kd_0_1 hk)) hσ11 dX0_takeAway_49 (fun H locs S => ?_)
          refine lv_iinc (v := (i4 + 1)) (lv' := [(2, .int (i4 + 1)), (0, .ref (ad k))]) hx hb dX0_takeAway_50 hl (k := 0) rfl rfl (by decide) rfl (fun ls hl => ?_)
          refine lv_goto (tgt := 15) hx hb dX0_takeAway_53 (by decide) ?_
          exact ih _ _ _  hf J _ _ _ S (lv_sub hl [0, 1] rfl)
noncomputable def f_X0_takeAway (σ : gSt) (k : Nat) (a0 : Int32) : Option (gSt) :=
  (g_k1 (f_X0_holds σ k a0) fun v1 => (if v1 = 0 then some σ else (g_k1 (f_X0_upTo σ k a0) fun v3 => (g_k1 (f_X0_takeAway_l1 σ k FU v3 σ) fun σ6 => (g_k1 (gset σ6 k 1 ((σ6 k 1) - (1 : Int32))) fun σ13 => some σ13)))))
set_option maxRecDepth 100000 in
set_option maxHeartbeats 4000000 in
theorem c_X0_takeAway (l : Launch) {Γ : gG} {ad : Nat → Nat} {N : Nat} (hN : 202 ≤ N) {σ : gSt} {k : Nat} {a0 : Int32} (hk : gkd k = 0) {σ' : gSt} (hf : f_X0_takeAway σ k a0 = some σ') : gMv l celC Γ ad N yX0_takeAway cX0_takeAway 3 none (gR 3 0 0) [.ref (ad k), .int a0] σ σ' := by
  intro sz
  refine gOf (Qc := fun sz => gQcv celC Γ ad N σ' sz) RX0 (by decide) rfl (Nat.le_of_ble_eq_true rfl) (fun p e s m args below meth c H locs ls X S hl => ?_)
  have hl : lv_has ls 3 [(0, .ref (ad k)), (1, .int a0)] := hl
  have hx := X.1
  have hb := X.2.1
  unfold f_X0_takeAway at hf
  refine lv_aload_n hx hb dX0_takeAway_0 rfl (lv_at hl 0 rfl) ?_
  refine lv_iload_n hx hb dX0_takeAway_1 rfl (lv_at hl 1 rfl) ?_
  obtain ⟨v1, hv1, hf⟩ := g_s1 hf
  refine g_ki S (g_runV (rest := []) X S (c_X0_holds l hN hk hv1 _) cvX0_holds mlX0_36 (kd_N hk (by decide) hN) (ceC_0 hk _) rfl rfl rfl hl.1 (Nat.le_of_ble_eq_true rfl) ⟨⟨rfl, rfl⟩, ⟨Nat.le_of_ble_eq_true rfl, Nat.le_of_ble_eq_true rfl⟩, Nat.le_of_ble_eq_true rfl, Nat.le_of_ble_eq_true rfl⟩ dX0_takeAway_2) (fun H locs S => ?_)
  refine lv_if_ne (tgt := 9) hx hb dX0_takeAway_5 (by decide) (fun c2 => ?_) (fun c2 => ?_)
  · have hf := (if_neg c2).symm.trans hf
    refine lv_aload_n hx hb dX0_takeAway_9 rfl (lv_at hl 0 rfl) ?_
    refine lv_iload_n hx hb dX0_takeAway_10 rfl (lv_at hl 1 rfl) ?_
    obtain ⟨v3, hv3, hf⟩ := g_s1 hf
    refine g_ki S (g_runV (rest := []) X S (c_X0_upTo l hN hk hv3 _) cvX0_upTo mlX0_25 (kd_N hk (by decide) hN) (ceC_0 hk _) rfl rfl rfl hl.1 (Nat.le_of_ble_eq_true rfl) ⟨⟨rfl, rfl⟩, ⟨Nat.le_of_ble_eq_true rfl, Nat.le_of_ble_eq_true rfl⟩, Nat.le_of_ble_eq_true rfl, Nat.le_of_ble_eq_true rfl⟩ dX0_takeAway_11) (fun H locs S => ?_)
    refine lv_istore_n (lv' := [(2, .int v3), (0, .ref (ad k)), (1, .int a0)]) hx hb dX0_takeAway_14 rfl hl (by decide) rfl (fun ls hl => ?_)
    obtain ⟨σ6, hr12, hf⟩ := g_s1 hf
    refine w_X0_takeAway_l1 hN X hk FU _ _ _  hr12 (fun H locs ls S hl => ?_) _ _ _ S (lv_sub hl [0, 1] rfl)
    refine lv_aload_n hx hb dX0_takeAway_56 rfl (lv_at hl 0 rfl) ?_
    refine lv_dup hx hb dX0_takeAway_57 rfl ?_
    refine gfX0_15 X S hN hk dX0_takeAway_58 ?_
    refine lv_iconst (v := (1 : Int32)) hx hb dX0_takeAway_61 (by decide) ?_
    refine lv_isub hx hb dX0_takeAway_62 ?_
    obtain ⟨σ13, hσ13, hf⟩ := g_s1 hf
    refine pfX0_15 X S hN hk hσ13 dX0_takeAway_63 (fun H locs S => ?_)
    cases hf
    exact g_retv X S dX0_takeAway_66
  · have hf := (if_pos c2).symm.trans hf
    cases hf
    exact g_retv X S dX0_takeAway_8

noncomputable def f_X8_has (σ : gSt) (k : Nat) (a0 : Int32) : Option (Int32) :=
  (g_k1 (if a0 < 0 then some (0 : Int32) else (if (σ k 5) ≤ a0 then some (0 : Int32) else (if (16 : Int32) ≤ a0 then some (0 : Int32) else some (1 : Int32)))) fun x1 => (g_k1 (gzb x1) fun v4 => some v4))
set_option maxRecDepth 100000 in
set_option maxHeartbeats 4000000 in
theorem c_X8_has (l : Launch) {Γ : gG} {ad : Nat → Nat} {N : Nat} (hN : 202 ≤ N) {σ : gSt} {k : Nat} {a0 : Int32} (hk : gkd k = 8) {r : Int32} (hf : f_X8_has σ k a0 = some r) : gMi l celC Γ ad N yX8_has cX8_has 2 (some .boolean) (gR 1 0 0) [.ref (ad k), .int a0] σ r σ := by
  intro sz
  refine gOf (Qc := fun sz => gQci celC Γ ad N r σ sz) RX8 (by decide) rfl (Nat.le_of_ble_eq_true rfl) (fun p e s m args below meth c H locs ls X S hl => ?_)
  have hl : lv_has ls 2 [(0, .ref (ad k)), (1, .int a0)] := hl
  have hx := X.1
  have hb := X.2.1
  unfold f_X8_has at hf
  refine lv_iload_n hx hb dX8_has_0 rfl (lv_at hl 1 rfl) ?_
  obtain ⟨x1, hr2, hf⟩ := g_s1 hf
  have J3 : ∀ (H : Heap) (locs : List Loc) (ls : Array Slot), gS celC Γ ad N σ s H locs → lv_has ls 2 [] → W p l e (gR 1 0 0) s m args below meth c H locs 0 0 (gQi celC Γ ad N r σ below args s) (F0 m 23 ls [.int x1]) := by
    intro H locs ls S hl
    obtain ⟨v4, hv4, hf⟩ := g_s1 hf
    obtain ⟨hnv4, rfl⟩ := gzb_some hv4
    cases hf
    exact g_reti X S hnv4 dX8_has_23
  replace hf := hr2
  refine lv_if_lt (tgt := 22) hx hb dX8_has_1 (by decide) (fun c5 => ?_) (fun c5 => ?_)
  · have hf := (if_pos c5).symm.trans hf
    refine lv_iconst (v := (0 : Int32)) hx hb dX8_has_22 (by decide) ?_
    cases hf
    exact J3 _ _ _ S (lv_sub hl [] rfl)
  · have hf := (if_neg c5).symm.trans hf
    refine lv_iload_n hx hb dX8_has_4 rfl (lv_at hl 1 rfl) ?_
    refine lv_aload_n hx hb dX8_has_5 rfl (lv_at hl 0 rfl) ?_
    refine gfX8_27 X S hN hk dX8_has_6 ?_
    refine lv_icmp_ge (tgt := 22) hx hb dX8_has_9 (by decide) (fun c6 => ?_) (fun c6 => ?_)
    · have hf := (if_pos c6).symm.trans hf
      refine lv_iconst (v := (0 : Int32)) hx hb dX8_has_22 (by decide) ?_
      cases hf
      exact J3 _ _ _ S (lv_sub hl [] rfl)
    · have hf := (if_neg c6).symm.trans hf
      refine lv_iload_n hx hb dX8_has_12 rfl (lv_at hl 1 rfl) ?_
      refine lv_bipush (v := (16 : Int32)) hx hb dX8_has_13 (by decide) ?_
      refine lv_icmp_ge (tgt := 22) hx hb dX8_has_15 (by decide) (fun c7 => ?_) (fun c7 => ?_)
      · have hf := (if_pos c7).symm.trans hf
        refine lv_iconst (v := (0 : Int32)) hx hb dX8_has_22 (by decide) ?_
        cases hf
        exact J3 _ _ _ S (lv_sub hl [] rfl)
      · have hf := (if_neg c7).symm.trans hf
        refine lv_iconst (v := (1 : Int32)) hx hb dX8_has_18 (by decide) ?_
        refine lv_goto (tgt := 23) hx hb dX8_has_19 (by decide) ?_
        cases hf
        exact J3 _ _ _ S (lv_sub hl [] rfl)

noncomputable def f_X8_kind (σ : gSt) (k : Nat) (a0 : Int32) : Option (Int32) :=
  (g_k1 (f_X8_has σ k a0) fun v1 => (g_k1 (if v1 = 0 then some (0 : Int32) else (g_k1 (gald σ (k + 3) 16 a0) fun v6 => some v6)) fun x2 => some x2))
set_option maxRecDepth 100000 in
set_option maxHeartbeats 4000000 in
theorem c_X8_kind (l : Launch) {Γ : gG} {ad : Nat → Nat} {N : Nat} (hN : 202 ≤ N) {σ : gSt} {k : Nat} {a0 : Int32} (hk : gkd k = 8) {r : Int32} (hf : f_X8_kind σ k a0 = some r) : gMi l celC Γ ad N yX8_kind cX8_kind 2 (some .int) (gR 2 0 0) [.ref (ad k), .int a0] σ r σ := by
  intro sz
  refine gOf (Qc := fun sz => gQci celC Γ ad N r σ sz) RX8 (by decide) rfl (Nat.le_of_ble_eq_true rfl) (fun p e s m args below meth c H locs ls X S hl => ?_)
  have hl : lv_has ls 2 [(0, .ref (ad k)), (1, .int a0)] := hl
  have hx := X.1
  have hb := X.2.1
  unfold f_X8_kind at hf
  refine lv_aload_n hx hb dX8_kind_0 rfl (lv_at hl 0 rfl) ?_
  refine lv_iload_n hx hb dX8_kind_1 rfl (lv_at hl 1 rfl) ?_
  obtain ⟨v1, hv1, hf⟩ := g_s1 hf
  refine g_ki S (g_runV (rest := []) X S (c_X8_has l hN hk hv1 _) cvX8_has mlX8_37 (kd_N hk (by decide) hN) (ceC_8 hk _) rfl rfl rfl hl.1 (Nat.le_of_ble_eq_true rfl) ⟨⟨rfl, rfl⟩, ⟨Nat.le_of_ble_eq_true rfl, Nat.le_of_ble_eq_true rfl⟩, Nat.le_of_ble_eq_true rfl, Nat.le_of_ble_eq_true rfl⟩ dX8_kind_2) (fun H locs S => ?_)
  obtain ⟨x2, hr3, hf⟩ := g_s1 hf
  have J4 : ∀ (H : Heap) (locs : List Loc) (ls : Array Slot), gS celC Γ ad N σ s H locs → lv_has ls 2 [] → W p l e (gR 2 0 0) s m args below meth c H locs 0 0 (gQi celC Γ ad N r σ below args s) (F0 m 18 ls [.int x2]) := by
    intro H locs ls S hl
    cases hf
    exact g_reti X S rfl dX8_kind_18
  replace hf := hr3
  refine lv_if_eq (tgt := 17) hx hb dX8_kind_5 (by decide) (fun c5 => ?_) (fun c5 => ?_)
  · have hf := (if_pos c5).symm.trans hf
    refine lv_iconst (v := (0 : Int32)) hx hb dX8_kind_17 (by decide) ?_
    cases hf
    exact J4 _ _ _ S (lv_sub hl [] rfl)
  · have hf := (if_neg c5).symm.trans hf
    refine lv_aload_n hx hb dX8_kind_8 rfl (lv_at hl 0 rfl) ?_
    refine gfX8_18 X S hN hk dX8_kind_9 ?_
    refine lv_iload_n hx hb dX8_kind_12 rfl (lv_at hl 1 rfl) ?_
    obtain ⟨v6, hv6, hf⟩ := g_s1 hf
    refine g_iald X S (kd_N (kd_8_3 hk) (by decide) hN) (ceC_116 (kd_8_3 hk)) hv6 dX8_kind_13 ?_
    refine lv_goto (tgt := 18) hx hb dX8_kind_14 (by decide) ?_
    cases hf
    exact J4 _ _ _ S (lv_sub hl [] rfl)

noncomputable def f_X7_clear (σ : gSt) (k : Nat) : Option (gSt) :=
  (g_k1 (gset σ k 1 (0 : Int32)) fun σ1 => some σ1)
set_option maxRecDepth 100000 in
set_option maxHeartbeats 4000000 in
theorem c_X7_clear (l : Launch) {Γ : gG} {ad : Nat → Nat} {N : Nat} (hN : 202 ≤ N) {σ : gSt} {k : Nat} (hk : gkd k = 7) {σ' : gSt} (hf : f_X7_clear σ k = some σ') : gMv l celC Γ ad N yX7_clear cX7_clear 1 none (gR 1 0 0) [.ref (ad k)] σ σ' := by
  intro sz
  refine gOf (Qc := fun sz => gQcv celC Γ ad N σ' sz) RX7 (by decide) rfl (Nat.le_of_ble_eq_true rfl) (fun p e s m args below meth c H locs ls X S hl => ?_)
  have hl : lv_has ls 1 [(0, .ref (ad k))] := hl
  have hx := X.1
  have hb := X.2.1
  unfold f_X7_clear at hf
  refine lv_aload_n hx hb dX7_clear_0 rfl (lv_at hl 0 rfl) ?_
  refine lv_iconst (v := (0 : Int32)) hx hb dX7_clear_1 (by decide) ?_
  obtain ⟨σ1, hσ1, hf⟩ := g_s1 hf
  refine pfX7_15 X S hN hk hσ1 dX7_clear_2 (fun H locs S => ?_)
  cases hf
  exact g_retv X S dX7_clear_5

noncomputable def f_X8_size (σ : gSt) (k : Nat) (a0 : Int32) : Option (Int32) :=
  (g_k1 (f_X8_has σ k a0) fun v1 => (g_k1 (if v1 = 0 then some (0 : Int32) else (g_k1 (gald σ (k + 4) 16 a0) fun v6 => some v6)) fun x2 => some x2))
set_option maxRecDepth 100000 in
set_option maxHeartbeats 4000000 in
theorem c_X8_size (l : Launch) {Γ : gG} {ad : Nat → Nat} {N : Nat} (hN : 202 ≤ N) {σ : gSt} {k : Nat} {a0 : Int32} (hk : gkd k = 8) {r : Int32} (hf : f_X8_size σ k a0 = some r) : gMi l celC Γ ad N yX8_size cX8_size 2 (some .int) (gR 2 0 0) [.ref (ad k), .int a0] σ r σ := by
  intro sz
  refine gOf (Qc := fun sz => gQci celC Γ ad N r σ sz) RX8 (by decide) rfl (Nat.le_of_ble_eq_true rfl) (fun p e s m args below meth c H locs ls X S hl => ?_)
  have hl : lv_has ls 2 [(0, .ref (ad k)), (1, .int a0)] := hl
  have hx := X.1
  have hb := X.2.1
  unfold f_X8_size at hf
  refine lv_aload_n hx hb dX8_size_0 rfl (lv_at hl 0 rfl) ?_
  refine lv_iload_n hx hb dX8_size_1 rfl (lv_at hl 1 rfl) ?_
  obtain ⟨v1, hv1, hf⟩ := g_s1 hf
  refine g_ki S (g_runV (rest := []) X S (c_X8_has l hN hk hv1 _) cvX8_has mlX8_37 (kd_N hk (by decide) hN) (ceC_8 hk _) rfl rfl rfl hl.1 (Nat.le_of_ble_eq_true rfl) ⟨⟨rfl, rfl⟩, ⟨Nat.le_of_ble_eq_true rfl, Nat.le_of_ble_eq_true rfl⟩, Nat.le_of_ble_eq_true rfl, Nat.le_of_ble_eq_true rfl⟩ dX8_size_2) (fun H locs S => ?_)
  obtain ⟨x2, hr3, hf⟩ := g_s1 hf
  have J4 : ∀ (H : Heap) (locs : List Loc) (ls : Array Slot), gS celC Γ ad N σ s H locs → lv_has ls 2 [] → W p l e (gR 2 0 0) s m args below meth c H locs 0 0 (gQi celC Γ ad N r σ below args s) (F0 m 18 ls [.int x2]) := by
    intro H locs ls S hl
    cases hf
    exact g_reti X S rfl dX8_size_18
  replace hf := hr3
  refine lv_if_eq (tgt := 17) hx hb dX8_size_5 (by decide) (fun c5 => ?_) (fun c5 => ?_)
  · have hf := (if_pos c5).symm.trans hf
    refine lv_iconst (v := (0 : Int32)) hx hb dX8_size_17 (by decide) ?_
    cases hf
    exact J4 _ _ _ S (lv_sub hl [] rfl)
  · have hf := (if_neg c5).symm.trans hf
    refine lv_aload_n hx hb dX8_size_8 rfl (lv_at hl 0 rfl) ?_
    refine gfX8_21 X S hN hk dX8_size_9 ?_
    refine lv_iload_n hx hb dX8_size_12 rfl (lv_at hl 1 rfl) ?_
    obtain ⟨v6, hv6, hf⟩ := g_s1 hf
    refine g_iald X S (kd_N (kd_8_4 hk) (by decide) hN) (ceC_116 (kd_8_4 hk)) hv6 dX8_size_13 ?_
    refine lv_goto (tgt := 18) hx hb dX8_size_14 (by decide) ?_
    cases hf
    exact J4 _ _ _ S (lv_sub hl [] rfl)

noncomputable def f_X8_signAt (σ : gSt) (k : Nat) (a0 : Int32) (a1 : Int32) : Option (Int32) :=
  (g_k1 (f_X8_has σ k a0) fun v1 => (if v1 = 0 then some (-1 : Int32) else (if a1 < 0 then some (-1 : Int32) else (g_k1 (gald σ (k + 4) 16 a0) fun v4 => (if v4 ≤ a1 then some (-1 : Int32) else (if a1 < (24 : Int32) then (g_k1 (gald σ (k + 5) 384 ((a0 * (24 : Int32)) + a1)) fun v7 => some v7) else some (-1 : Int32)))))))
set_option maxRecDepth 100000 in
set_option maxHeartbeats 4000000 in
theorem c_X8_signAt (l : Launch) {Γ : gG} {ad : Nat → Nat} {N : Nat} (hN : 202 ≤ N) {σ : gSt} {k : Nat} {a0 : Int32} {a1 : Int32} (hk : gkd k = 8) {r : Int32} (hf : f_X8_signAt σ k a0 a1 = some r) : gMi l celC Γ ad N yX8_signAt cX8_signAt 3 (some .int) (gR 2 0 0) [.ref (ad k), .int a0, .int a1] σ r σ := by
  intro sz
  refine gOf (Qc := fun sz => gQci celC Γ ad N r σ sz) RX8 (by decide) rfl (Nat.le_of_ble_eq_true rfl) (fun p e s m args below meth c H locs ls X S hl => ?_)
  have hl : lv_has ls 3 [(0, .ref (ad k)), (1, .int a0), (2, .int a1)] := hl
  have hx := X.1
  have hb := X.2.1
  unfold f_X8_signAt at hf
  refine lv_aload_n hx hb dX8_signAt_0 rfl (lv_at hl 0 rfl) ?_
  refine lv_iload_n hx hb dX8_signAt_1 rfl (lv_at hl 1 rfl) ?_
  obtain ⟨v1, hv1, hf⟩ := g_s1 hf
  refine g_ki S (g_runV (rest := []) X S (c_X8_has l hN hk hv1 _) cvX8_has mlX8_37 (kd_N hk (by decide) hN) (ceC_8 hk _) rfl rfl rfl hl.1 (Nat.le_of_ble_eq_true rfl) ⟨⟨rfl, rfl⟩, ⟨Nat.le_of_ble_eq_true rfl, Nat.le_of_ble_eq_true rfl⟩, Nat.le_of_ble_eq_true rfl, Nat.le_of_ble_eq_true rfl⟩ dX8_signAt_2) (fun H locs S => ?_)
  refine lv_if_eq (tgt := 28) hx hb dX8_signAt_5 (by decide) (fun c2 => ?_) (fun c2 => ?_)
  · have hf := (if_pos c2).symm.trans hf
    refine lv_iconst (v := (-1 : Int32)) hx hb dX8_signAt_28 (by decide) ?_
    cases hf
    exact g_reti X S rfl dX8_signAt_29
  · have hf := (if_neg c2).symm.trans hf
    refine lv_iload_n hx hb dX8_signAt_8 rfl (lv_at hl 2 rfl) ?_
    refine lv_if_lt (tgt := 28) hx hb dX8_signAt_9 (by decide) (fun c3 => ?_) (fun c3 => ?_)
    · have hf := (if_pos c3).symm.trans hf
      refine lv_iconst (v := (-1 : Int32)) hx hb dX8_signAt_28 (by decide) ?_
      cases hf
      exact g_reti X S rfl dX8_signAt_29
    · have hf := (if_neg c3).symm.trans hf
      refine lv_iload_n hx hb dX8_signAt_12 rfl (lv_at hl 2 rfl) ?_
      refine lv_aload_n hx hb dX8_signAt_13 rfl (lv_at hl 0 rfl) ?_
      refine gfX8_21 X S hN hk dX8_signAt_14 ?_
      refine lv_iload_n hx hb dX8_signAt_17 rfl (lv_at hl 1 rfl) ?_
      obtain ⟨v4, hv4, hf⟩ := g_s1 hf
      refine g_iald X S (kd_N (kd_8_4 hk) (by decide) hN) (ceC_116 (kd_8_4 hk)) hv4 dX8_signAt_18 ?_
      refine lv_icmp_ge (tgt := 28) hx hb dX8_signAt_19 (by decide) (fun c5 => ?_) (fun c5 => ?_)
      · have hf := (if_pos c5).symm.trans hf
        refine lv_iconst (v := (-1 : Int32)) hx hb dX8_signAt_28 (by decide) ?_
        cases hf
        exact g_reti X S rfl dX8_signAt_29
      · have hf := (if_neg c5).symm.trans hf
        refine lv_iload_n hx hb dX8_signAt_22 rfl (lv_at hl 2 rfl) ?_
        refine lv_bipush (v := (24 : Int32)) hx hb dX8_signAt_23 (by decide) ?_
        refine lv_icmp_lt (tgt := 30) hx hb dX8_signAt_25 (by decide) (fun c6 => ?_) (fun c6 => ?_)
        · have hf := (if_pos c6).symm.trans hf
          refine lv_aload_n hx hb dX8_signAt_30 rfl (lv_at hl 0 rfl) ?_
          refine gfX8_24 X S hN hk dX8_signAt_31 ?_
          refine lv_iload_n hx hb dX8_signAt_34 rfl (lv_at hl 1 rfl) ?_
          refine lv_bipush (v := (24 : Int32)) hx hb dX8_signAt_35 (by decide) ?_
          refine lv_imul hx hb dX8_signAt_37 ?_
          refine lv_iload_n hx hb dX8_signAt_38 rfl (lv_at hl 2 rfl) ?_
          refine lv_iadd hx hb dX8_signAt_39 ?_
          obtain ⟨v7, hv7, hf⟩ := g_s1 hf
          refine g_iald X S (kd_N (kd_8_5 hk) (by decide) hN) (ceC_484 (kd_8_5 hk)) hv7 dX8_signAt_40 ?_
          cases hf
          exact g_reti X S rfl dX8_signAt_41
        · have hf := (if_neg c6).symm.trans hf
          refine lv_iconst (v := (-1 : Int32)) hx hb dX8_signAt_28 (by decide) ?_
          cases hf
          exact g_reti X S rfl dX8_signAt_29

noncomputable def f_X7_append (σ : gSt) (k : Nat) (a0 : Int32) : Option (Int32 × gSt) :=
  (if (σ k 1) < 0 then some ((0 : Int32), σ) else (if (σ k 1) < (60 : Int32) then (g_k1 (gast σ (k + 1) 60 (σ k 1) a0) fun σ3 => (g_k1 (gset σ3 k 1 ((σ3 k 1) + (1 : Int32))) fun σ4 => some ((1 : Int32), σ4))) else some ((0 : Int32), σ)))
set_option maxRecDepth 100000 in
set_option maxHeartbeats 4000000 in
theorem c_X7_append (l : Launch) {Γ : gG} {ad : Nat → Nat} {N : Nat} (hN : 202 ≤ N) {σ : gSt} {k : Nat} {a0 : Int32} (hk : gkd k = 7) {r : Int32} {σ' : gSt} (hf : f_X7_append σ k a0 = some (r, σ')) : gMi l celC Γ ad N yX7_append cX7_append 2 (some .boolean) (gR 1 0 0) [.ref (ad k), .int a0] σ r σ' := by
  intro sz
  refine gOf (Qc := fun sz => gQci celC Γ ad N r σ' sz) RX7 (by decide) rfl (Nat.le_of_ble_eq_true rfl) (fun p e s m args below meth c H locs ls X S hl => ?_)
  have hl : lv_has ls 2 [(0, .ref (ad k)), (1, .int a0)] := hl
  have hx := X.1
  have hb := X.2.1
  unfold f_X7_append at hf
  refine lv_aload_n hx hb dX7_append_0 rfl (lv_at hl 0 rfl) ?_
  refine gfX7_15 X S hN hk dX7_append_1 ?_
  refine lv_if_lt (tgt := 19) hx hb dX7_append_4 (by decide) (fun c1 => ?_) (fun c1 => ?_)
  · have hf := (if_pos c1).symm.trans hf
    refine lv_iconst (v := (0 : Int32)) hx hb dX7_append_19 (by decide) ?_
    cases hf
    exact g_reti X S (by decide +kernel) dX7_append_20
  · have hf := (if_neg c1).symm.trans hf
    refine lv_aload_n hx hb dX7_append_7 rfl (lv_at hl 0 rfl) ?_
    refine gfX7_15 X S hN hk dX7_append_8 ?_
    refine lv_aload_n hx hb dX7_append_11 rfl (lv_at hl 0 rfl) ?_
    refine gfX7_9 X S hN hk dX7_append_12 ?_
    refine g_alen (v := (60 : Int32)) X S (kd_N (kd_7_1 hk) (by decide) hN) (ceC_160 (kd_7_1 hk)) (by decide) dX7_append_15 ?_
    refine lv_icmp_lt (tgt := 21) hx hb dX7_append_16 (by decide) (fun c2 => ?_) (fun c2 => ?_)
    · have hf := (if_pos c2).symm.trans hf
      refine lv_aload_n hx hb dX7_append_21 rfl (lv_at hl 0 rfl) ?_
      refine gfX7_9 X S hN hk dX7_append_22 ?_
      refine lv_aload_n hx hb dX7_append_25 rfl (lv_at hl 0 rfl) ?_
      refine gfX7_15 X S hN hk dX7_append_26 ?_
      refine lv_iload_n hx hb dX7_append_29 rfl (lv_at hl 1 rfl) ?_
      obtain ⟨σ3, hσ3, hf⟩ := g_s1 hf
      refine g_iast X S (kd_N (kd_7_1 hk) (by decide) hN) (ceC_160 (kd_7_1 hk)) hσ3 dX7_append_30 (fun H locs S => ?_)
      refine lv_aload_n hx hb dX7_append_31 rfl (lv_at hl 0 rfl) ?_
      refine lv_dup hx hb dX7_append_32 rfl ?_
      refine gfX7_15 X S hN hk dX7_append_33 ?_
      refine lv_iconst (v := (1 : Int32)) hx hb dX7_append_36 (by decide) ?_
      refine lv_iadd hx hb dX7_append_37 ?_
      obtain ⟨σ4, hσ4, hf⟩ := g_s1 hf
      refine pfX7_15 X S hN hk hσ4 dX7_append_38 (fun H locs S => ?_)
      refine lv_iconst (v := (1 : Int32)) hx hb dX7_append_41 (by decide) ?_
      cases hf
      exact g_reti X S (by decide +kernel) dX7_append_42
    · have hf := (if_neg c2).symm.trans hf
      refine lv_iconst (v := (0 : Int32)) hx hb dX7_append_19 (by decide) ?_
      cases hf
      exact g_reti X S (by decide +kernel) dX7_append_20

noncomputable def f_X8_appendTextTo_l1 (σ : gSt) (k : Nat) (a0 : Nat) (a1 : Int32) (a3 : Int32) : Nat → Int32 → gSt → Option (gSt)
  | 0, _, _ => none
  | n + 1, i1, σ2 => (if a3 ≤ i1 then some σ2 else (g_k1 (f_X8_signAt σ2 k a1 i1) fun v5 => (g_k1 (if v5 = (-1 : Int32) then some σ2 else (g_k2 (f_X7_append σ2 a0 v5) fun v10 σ11 => some σ11)) fun σ6 => (f_X8_appendTextTo_l1 σ k a0 a1 a3 n (i1 + 1) σ6))))
set_option maxRecDepth 100000 in
set_option maxHeartbeats 4000000 in
theorem w_X8_appendTextTo_l1 {l : Launch} {Γ : gG} {ad : Nat → Nat} {N : Nat} {p : Program} {e : Env} {s : State} {m : MethodId} {args : Array Value} {below : List Frame} {meth : Method} {c : Code} {Q : State → Prop} (hN : 202 ≤ N) (X : gX celC Γ ad N RX8 cX8_appendTextTo 7 none p s m args meth c) {σ : gSt} {k : Nat} {a0 : Nat} {a1 : Int32} {a3 : Int32} (hk : gkd k = 8) (ha0 : gkd a0 = 7) : ∀ (n : Nat) (i1 : Int32) (σ2 : gSt) (σ3 : gSt), f_X8_appendTextTo_l1 σ k a0 a1 a3 n i1 σ2 = some σ3 → (∀ (H : Heap) (locs : List Loc) (ls : Array Slot), gS celC Γ ad N σ3 s H locs → lv_has ls 7 [] → W p l e (gR 3 0 0) s m args below meth c H locs 0 0 (Q) (F0 m 38 ls [])) → ∀ (H : Heap) (locs : List Loc) (ls : Array Slot), gS celC Γ ad N σ2 s H locs → lv_has ls 7 [(5, .int i1), (0, .ref (ad k)), (1, .ref (ad a0)), (2, .int a1), (4, .int a3)] → W p l e (gR 3 0 0) s m args below meth c H locs 0 0 (Q) (F0 m 3 ls []) := by
  have hx := X.1
  have hb := X.2.1
  intro n
  induction n with
  | zero =>
    intro i1 σ2 σ3 hf
    cases hf
  | succ n ih =>
    intro i1 σ2 σ3 hf J H locs ls S hl
    rw [f_X8_appendTextTo_l1] at hf
    refine lv_iload hx hb dX8_appendTextTo_3 (lv_at hl 0 rfl) ?_
    refine lv_iload hx hb dX8_appendTextTo_5 (lv_at hl 4 rfl) ?_
    refine lv_icmp_ge (tgt := 38) hx hb dX8_appendTextTo_7 (by decide) (fun c4 => ?_) (fun c4 => ?_)
    · have hf := (if_pos c4).symm.trans hf
      cases hf
      exact J _ _ _ S (lv_sub hl [] rfl)
    · have hf := (if_neg c4).symm.trans hf
      refine lv_aload_n hx hb dX8_appendTextTo_10 rfl (lv_at hl 1 rfl) ?_
      refine lv_iload_n hx hb dX8_appendTextTo_11 rfl (lv_at hl 3 rfl) ?_
      refine lv_iload hx hb dX8_appendTextTo_12 (lv_at hl 0 rfl) ?_
      obtain ⟨v5, hv5, hf⟩ := g_s1 hf
      refine g_ki S (g_runV (rest := []) X S (c_X8_signAt l hN hk hv5 _) cvX8_signAt mlX8_55 (kd_N hk (by decide) hN) (ceC_8 hk _) rfl rfl rfl hl.1 (Nat.le_of_ble_eq_true rfl) ⟨⟨rfl, rfl⟩, ⟨Nat.le_of_ble_eq_true rfl, Nat.le_of_ble_eq_true rfl⟩, Nat.le_of_ble_eq_true rfl, Nat.le_of_ble_eq_true rfl⟩ dX8_appendTextTo_14) (fun H locs S => ?_)
      refine lv_istore (lv' := [(6, .int v5), (5, .int i1), (0, .ref (ad k)), (1, .ref (ad a0)), (2, .int a1), (4, .int a3)]) hx hb dX8_appendTextTo_17 hl (by decide) rfl (fun ls hl => ?_)
      refine lv_iload hx hb dX8_appendTextTo_19 (lv_at hl 0 rfl) ?_
      refine lv_iconst (v := (-1 : Int32)) hx hb dX8_appendTextTo_21 (by decide) ?_
      obtain ⟨σ6, hr7, hf⟩ := g_s1 hf
      have J8 : ∀ (H : Heap) (locs : List Loc) (ls : Array Slot), gS celC Γ ad N σ6 s H locs → lv_has ls 7 [(5, .int i1), (0, .ref (ad k)), (1, .ref (ad a0)), (2, .int a1), (4, .int a3)] → W p l e (gR 3 0 0) s m args below meth c H locs 0 0 (Q) (F0 m 32 ls []) := by
        intro H locs ls S hl
        refine lv_iinc (v := (i1 + 1)) (lv' := [(5, .int (i1 + 1)), (0, .ref (ad k)), (1, .ref (ad a0)), (2, .int a1), (4, .int a3)]) hx hb dX8_appendTextTo_32 hl (k := 0) rfl rfl (by decide) rfl (fun ls hl => ?_)
        refine lv_goto (tgt := 3) hx hb dX8_appendTextTo_35 (by decide) ?_
        exact ih _ _ _  hf J _ _ _ S (lv_sub hl [0, 1, 2, 3, 4] rfl)
      replace hf := hr7
      refine lv_icmp_eq (tgt := 32) hx hb dX8_appendTextTo_22 (by decide) (fun c9 => ?_) (fun c9 => ?_)
      · have hf := (if_pos c9).symm.trans hf
        cases hf
        exact J8 _ _ _ S (lv_sub hl [1, 2, 3, 4, 5] rfl)
      · have hf := (if_neg c9).symm.trans hf
        refine lv_aload_n hx hb dX8_appendTextTo_25 rfl (lv_at hl 3 rfl) ?_
        refine lv_iload hx hb dX8_appendTextTo_26 (lv_at hl 0 rfl) ?_
        obtain ⟨v10, σ11, hv10, hf⟩ := g_s2 hf
        refine g_ki S (g_runV (rest := []) X S (c_X7_append l hN ha0 hv10 _) cvX7_append mlX8_76 (kd_N ha0 (by decide) hN) (ceC_7 ha0 _) rfl rfl rfl hl.1 (Nat.le_of_ble_eq_true rfl) ⟨⟨rfl, rfl⟩, ⟨Nat.le_of_ble_eq_true rfl, Nat.le_of_ble_eq_true rfl⟩, Nat.le_of_ble_eq_true rfl, Nat.le_of_ble_eq_true rfl⟩ dX8_appendTextTo_28) (fun H locs S => ?_)
        refine lv_pop hx hb dX8_appendTextTo_31 rfl ?_
        cases hf
        exact J8 _ _ _ S (lv_sub hl [1, 2, 3, 4, 5] rfl)
noncomputable def f_X8_appendTextTo (σ : gSt) (k : Nat) (a0 : Nat) (a1 : Int32) (a2 : Int32) (a3 : Int32) : Option (gSt) :=
  (g_k1 (f_X8_appendTextTo_l1 σ k a0 a1 a3 FU a2 σ) fun σ3 => some σ3)
set_option maxRecDepth 100000 in
set_option maxHeartbeats 4000000 in
theorem c_X8_appendTextTo (l : Launch) {Γ : gG} {ad : Nat → Nat} {N : Nat} (hN : 202 ≤ N) {σ : gSt} {k : Nat} {a0 : Nat} {a1 : Int32} {a2 : Int32} {a3 : Int32} (hk : gkd k = 8) (ha0 : gkd a0 = 7) {σ' : gSt} (hf : f_X8_appendTextTo σ k a0 a1 a2 a3 = some σ') : gMv l celC Γ ad N yX8_appendTextTo cX8_appendTextTo 7 none (gR 3 0 0) [.ref (ad k), .ref (ad a0), .int a1, .int a2, .int a3] σ σ' := by
  intro sz
  refine gOf (Qc := fun sz => gQcv celC Γ ad N σ' sz) RX8 (by decide) rfl (Nat.le_of_ble_eq_true rfl) (fun p e s m args below meth c H locs ls X S hl => ?_)
  have hl : lv_has ls 7 [(0, .ref (ad k)), (1, .ref (ad a0)), (2, .int a1), (3, .int a2), (4, .int a3)] := hl
  have hx := X.1
  have hb := X.2.1
  unfold f_X8_appendTextTo at hf
  refine lv_iload_n hx hb dX8_appendTextTo_0 rfl (lv_at hl 3 rfl) ?_
  refine lv_istore (lv' := [(5, .int a2), (0, .ref (ad k)), (1, .ref (ad a0)), (2, .int a1), (3, .int a2), (4, .int a3)]) hx hb dX8_appendTextTo_1 hl (by decide) rfl (fun ls hl => ?_)
  obtain ⟨σ3, hr12, hf⟩ := g_s1 hf
  refine w_X8_appendTextTo_l1 hN X hk ha0 FU _ _ _  hr12 (fun H locs ls S hl => ?_) _ _ _ S (lv_sub hl [0, 1, 2, 3, 5] rfl)
  cases hf
  exact g_retv X S dX8_appendTextTo_38

noncomputable def f_X8_isRow (σ : gSt) (a0 : Int32) : Option (Int32) :=
  (g_k1 (if a0 < 0 then some (0 : Int32) else (if (16 : Int32) ≤ a0 then some (0 : Int32) else some (1 : Int32))) fun x1 => (g_k1 (gzb x1) fun v4 => some v4))
set_option maxRecDepth 100000 in
set_option maxHeartbeats 4000000 in
theorem c_X8_isRow (l : Launch) {Γ : gG} {ad : Nat → Nat} {N : Nat} (hN : 202 ≤ N) {σ : gSt} {a0 : Int32}  {r : Int32} (hf : f_X8_isRow σ a0 = some r) : gMi l celC Γ ad N yX8_isRow cX8_isRow 1 (some .boolean) (gR 1 0 0) [.int a0] σ r σ := by
  intro sz
  refine gOf (Qc := fun sz => gQci celC Γ ad N r σ sz) RX8 (by decide) rfl (Nat.le_of_ble_eq_true rfl) (fun p e s m args below meth c H locs ls X S hl => ?_)
  have hl : lv_has ls 1 [(0, .int a0)] := hl
  have hx := X.1
  have hb := X.2.1
  unfold f_X8_isRow at hf
  refine lv_iload_n hx hb dX8_isRow_0 rfl (lv_at hl 0 rfl) ?_
  obtain ⟨x1, hr2, hf⟩ := g_s1 hf
  have J3 : ∀ (H : Heap) (locs : List Loc) (ls : Array Slot), gS celC Γ ad N σ s H locs → lv_has ls 1 [] → W p l e (gR 1 0 0) s m args below meth c H locs 0 0 (gQi celC Γ ad N r σ below args s) (F0 m 15 ls [.int x1]) := by
    intro H locs ls S hl
    obtain ⟨v4, hv4, hf⟩ := g_s1 hf
    obtain ⟨hnv4, rfl⟩ := gzb_some hv4
    cases hf
    exact g_reti X S hnv4 dX8_isRow_15
  replace hf := hr2
  refine lv_if_lt (tgt := 14) hx hb dX8_isRow_1 (by decide) (fun c5 => ?_) (fun c5 => ?_)
  · have hf := (if_pos c5).symm.trans hf
    refine lv_iconst (v := (0 : Int32)) hx hb dX8_isRow_14 (by decide) ?_
    cases hf
    exact J3 _ _ _ S (lv_sub hl [] rfl)
  · have hf := (if_neg c5).symm.trans hf
    refine lv_iload_n hx hb dX8_isRow_4 rfl (lv_at hl 0 rfl) ?_
    refine lv_bipush (v := (16 : Int32)) hx hb dX8_isRow_5 (by decide) ?_
    refine lv_icmp_ge (tgt := 14) hx hb dX8_isRow_7 (by decide) (fun c6 => ?_) (fun c6 => ?_)
    · have hf := (if_pos c6).symm.trans hf
      refine lv_iconst (v := (0 : Int32)) hx hb dX8_isRow_14 (by decide) ?_
      cases hf
      exact J3 _ _ _ S (lv_sub hl [] rfl)
    · have hf := (if_neg c6).symm.trans hf
      refine lv_iconst (v := (1 : Int32)) hx hb dX8_isRow_10 (by decide) ?_
      refine lv_goto (tgt := 15) hx hb dX8_isRow_11 (by decide) ?_
      cases hf
      exact J3 _ _ _ S (lv_sub hl [] rfl)

