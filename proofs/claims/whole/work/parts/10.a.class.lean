noncomputable def f_X0_copyFrom (σ : gSt) (k : Nat) (a0 : Nat) : Option (gSt) :=
  (g_k1 (gcpy σ (a0 + 1) 20 (k + 1) 20 (0 : Int32) (0 : Int32) (20 : Int32)) fun σ1 => (g_k1 (gset σ1 k 1 (σ1 a0 1)) fun σ2 => some σ2))
set_option maxRecDepth 100000 in
set_option maxHeartbeats 4000000 in
theorem c_X0_copyFrom (l : Launch) {Γ : gG} {ad : Nat → Nat} {N : Nat} (hN : 202 ≤ N) {σ : gSt} {k : Nat} {a0 : Nat} (hk : gkd k = 0) (ha0 : gkd a0 = 0) {σ' : gSt} (hf : f_X0_copyFrom σ k a0 = some σ') : gMv l celC Γ ad N yX0_copyFrom cX0_copyFrom 2 none (gR 2 0 0) [.ref (ad k), .ref (ad a0)] σ σ' := by
  intro sz
  refine gOf (Qc := fun sz => gQcv celC Γ ad N σ' sz) RX0 (by decide) rfl (by decide) (fun p e s m args below meth c H locs ls X S hl => ?_)
  have hl : lv_has ls 2 [(0, .ref (ad k)), (1, .ref (ad a0))] := hl
  have hx := X.1
  have hb := X.2.1
  unfold f_X0_copyFrom at hf
  refine lv_aload_n hx hb dX0_copyFrom_0 rfl (lv_at hl 1 rfl) ?_
  refine gfX0_9 X S hN ha0 dX0_copyFrom_1 ?_
  refine lv_iconst (v := (0 : Int32)) hx hb dX0_copyFrom_4 (by decide) ?_
  refine lv_aload_n hx hb dX0_copyFrom_5 rfl (lv_at hl 0 rfl) ?_
  refine gfX0_9 X S hN hk dX0_copyFrom_6 ?_
  refine lv_iconst (v := (0 : Int32)) hx hb dX0_copyFrom_9 (by decide) ?_
  refine lv_bipush (v := (20 : Int32)) hx hb dX0_copyFrom_10 (by decide) ?_
  obtain ⟨σ1, hσ1, hf⟩ := g_s1 hf
  refine g_copy X S hl.1 mlX0_19 wac_n wac_s wac_i (kd_N (kd_0_1 ha0) (by decide) hN) (kd_N (kd_0_1 hk) (by decide) hN) (ceC_120 (kd_0_1 ha0)) (ceC_120 (kd_0_1 hk)) hσ1 (by decide) (Nat.le_of_ble_eq_true rfl) dX0_copyFrom_12 (fun H locs S => ?_)
  refine lv_aload_n hx hb dX0_copyFrom_15 rfl (lv_at hl 0 rfl) ?_
  refine lv_aload_n hx hb dX0_copyFrom_16 rfl (lv_at hl 1 rfl) ?_
  refine gfX0_15 X S hN ha0 dX0_copyFrom_17 ?_
  obtain ⟨σ2, hσ2, hf⟩ := g_s1 hf
  refine pfX0_15 X S hN hk hσ2 dX0_copyFrom_20 (fun H locs S => ?_)
  cases hf
  exact g_retv X S dX0_copyFrom_23

noncomputable def f_X0_at (σ : gSt) (k : Nat) (a0 : Int32) : Option (Int32) :=
  (g_k1 (if a0 < 0 then some (-1 : Int32) else (if (σ k 1) ≤ a0 then some (-1 : Int32) else (if (20 : Int32) ≤ a0 then some (-1 : Int32) else (g_k1 (gald σ (k + 1) 20 a0) fun v7 => some v7)))) fun x1 => some x1)
set_option maxRecDepth 100000 in
set_option maxHeartbeats 4000000 in
theorem c_X0_at (l : Launch) {Γ : gG} {ad : Nat → Nat} {N : Nat} (hN : 202 ≤ N) {σ : gSt} {k : Nat} {a0 : Int32} (hk : gkd k = 0) {r : Int32} (hf : f_X0_at σ k a0 = some r) : gMi l celC Γ ad N yX0_at cX0_at 2 (some .int) (gR 1 0 0) [.ref (ad k), .int a0] σ r σ := by
  intro sz
  refine gOf (Qc := fun sz => gQci celC Γ ad N r σ sz) RX0 (by decide) rfl (by decide) (fun p e s m args below meth c H locs ls X S hl => ?_)
  have hl : lv_has ls 2 [(0, .ref (ad k)), (1, .int a0)] := hl
  have hx := X.1
  have hb := X.2.1
  unfold f_X0_at at hf
  refine lv_iload_n hx hb dX0_at_0 rfl (lv_at hl 1 rfl) ?_
  obtain ⟨x1, hr2, hf⟩ := g_s1 hf
  have J3 : ∀ (H : Heap) (locs : List Loc) (ls : Array Slot), gS celC Γ ad N σ s H locs → lv_has ls 2 [] → W p l e (gR 1 0 0) s m args below meth c H locs 0 0 (gQi celC Γ ad N r σ below args s) (F0 m 31 ls [.int x1]) := by
    intro H locs ls S hl
    cases hf
    exact g_reti X S rfl dX0_at_31
  replace hf := hr2
  refine lv_if_lt (tgt := 30) hx hb dX0_at_1 (by decide) (fun c4 => ?_) (fun c4 => ?_)
  · have hf := (if_pos c4).symm.trans hf
    refine lv_iconst (v := (-1 : Int32)) hx hb dX0_at_30 (by decide) ?_
    cases hf
    exact J3 _ _ _ S (lv_sub hl [] rfl)
  · have hf := (if_neg c4).symm.trans hf
    refine lv_iload_n hx hb dX0_at_4 rfl (lv_at hl 1 rfl) ?_
    refine lv_aload_n hx hb dX0_at_5 rfl (lv_at hl 0 rfl) ?_
    refine gfX0_15 X S hN hk dX0_at_6 ?_
    refine lv_icmp_ge (tgt := 30) hx hb dX0_at_9 (by decide) (fun c5 => ?_) (fun c5 => ?_)
    · have hf := (if_pos c5).symm.trans hf
      refine lv_iconst (v := (-1 : Int32)) hx hb dX0_at_30 (by decide) ?_
      cases hf
      exact J3 _ _ _ S (lv_sub hl [] rfl)
    · have hf := (if_neg c5).symm.trans hf
      refine lv_iload_n hx hb dX0_at_12 rfl (lv_at hl 1 rfl) ?_
      refine lv_aload_n hx hb dX0_at_13 rfl (lv_at hl 0 rfl) ?_
      refine gfX0_9 X S hN hk dX0_at_14 ?_
      refine g_alen (v := (20 : Int32)) X S (kd_N (kd_0_1 hk) (by decide) hN) (ceC_120 (kd_0_1 hk)) (by decide) dX0_at_17 ?_
      refine lv_icmp_ge (tgt := 30) hx hb dX0_at_18 (by decide) (fun c6 => ?_) (fun c6 => ?_)
      · have hf := (if_pos c6).symm.trans hf
        refine lv_iconst (v := (-1 : Int32)) hx hb dX0_at_30 (by decide) ?_
        cases hf
        exact J3 _ _ _ S (lv_sub hl [] rfl)
      · have hf := (if_neg c6).symm.trans hf
        refine lv_aload_n hx hb dX0_at_21 rfl (lv_at hl 0 rfl) ?_
        refine gfX0_9 X S hN hk dX0_at_22 ?_
        refine lv_iload_n hx hb dX0_at_25 rfl (lv_at hl 1 rfl) ?_
        obtain ⟨v7, hv7, hf⟩ := g_s1 hf
        refine g_iald X S (kd_N (kd_0_1 hk) (by decide) hN) (ceC_120 (kd_0_1 hk)) hv7 dX0_at_26 ?_
        refine lv_goto (tgt := 31) hx hb dX0_at_27 (by decide) ?_
        cases hf
        exact J3 _ _ _ S (lv_sub hl [] rfl)

noncomputable def f_X0_upTo_l1 (σ : gSt) (k : Nat) (a0 : Int32) : Nat → Int32 → Int32 → Option (Int32)
  | 0, _, _ => none
  | n + 1, i1, i2 => (if (σ k 1) ≤ i1 then some i2 else (if (20 : Int32) ≤ i1 then some i2 else (g_k1 (gald σ (k + 1) 20 i1) fun v6 => (g_k1 (if a0 < v6 then some i2 else some (i2 + 1)) fun x7 => (f_X0_upTo_l1 σ k a0 n (i1 + 1) x7)))))
set_option maxRecDepth 100000 in
set_option maxHeartbeats 4000000 in
theorem w_X0_upTo_l1 {l : Launch} {Γ : gG} {ad : Nat → Nat} {N : Nat} {p : Program} {e : Env} {s : State} {m : MethodId} {args : Array Value} {below : List Frame} {meth : Method} {c : Code} {Q : State → Prop} (hN : 202 ≤ N) (X : gX celC Γ ad N RX0 cX0_upTo 4 (some .int) p s m args meth c) {σ : gSt} {k : Nat} {a0 : Int32} (hk : gkd k = 0) : ∀ (n : Nat) (i1 : Int32) (i2 : Int32) (r3 : Int32), f_X0_upTo_l1 σ k a0 n i1 i2 = some r3 → (∀ (H : Heap) (locs : List Loc) (ls : Array Slot), gS celC Γ ad N σ s H locs → lv_has ls 4 [(2, .int r3)] → W p l e (gR 1 0 0) s m args below meth c H locs 0 0 (Q) (F0 m 40 ls [])) → ∀ (H : Heap) (locs : List Loc) (ls : Array Slot), gS celC Γ ad N σ s H locs → lv_has ls 4 [(3, .int i1), (2, .int i2), (0, .ref (ad k)), (1, .int a0)] → W p l e (gR 1 0 0) s m args below meth c H locs 0 0 (Q) (F0 m 4 ls []) := by
  have hx := X.1
  have hb := X.2.1
  intro n
  induction n with
  | zero =>
    intro i1 i2 r3 hf
    cases hf
  | succ n ih =>
    intro i1 i2 r3 hf J H locs ls S hl
    rw [f_X0_upTo_l1] at hf
    refine lv_iload_n hx hb dX0_upTo_4 rfl (lv_at hl 0 rfl) ?_
    refine lv_aload_n hx hb dX0_upTo_5 rfl (lv_at hl 2 rfl) ?_
    refine gfX0_15 X S hN hk dX0_upTo_6 ?_
    refine lv_icmp_ge (tgt := 40) hx hb dX0_upTo_9 (by decide) (fun c4 => ?_) (fun c4 => ?_)
    · have hf := (if_pos c4).symm.trans hf
      cases hf
      exact J _ _ _ S (lv_sub hl [1] rfl)
    · have hf := (if_neg c4).symm.trans hf
      refine lv_iload_n hx hb dX0_upTo_12 rfl (lv_at hl 0 rfl) ?_
      refine lv_aload_n hx hb dX0_upTo_13 rfl (lv_at hl 2 rfl) ?_
      refine gfX0_9 X S hN hk dX0_upTo_14 ?_
      refine g_alen (v := (20 : Int32)) X S (kd_N (kd_0_1 hk) (by decide) hN) (ceC_120 (kd_0_1 hk)) (by decide) dX0_upTo_17 ?_
      refine lv_icmp_ge (tgt := 40) hx hb dX0_upTo_18 (by decide) (fun c5 => ?_) (fun c5 => ?_)
      · have hf := (if_pos c5).symm.trans hf
        cases hf
        exact J _ _ _ S (lv_sub hl [1] rfl)
      · have hf := (if_neg c5).symm.trans hf
        refine lv_aload_n hx hb dX0_upTo_21 rfl (lv_at hl 2 rfl) ?_
        refine gfX0_9 X S hN hk dX0_upTo_22 ?_
        refine lv_iload_n hx hb dX0_upTo_25 rfl (lv_at hl 0 rfl) ?_
        obtain ⟨v6, hv6, hf⟩ := g_s1 hf
        refine g_iald X S (kd_N (kd_0_1 hk) (by decide) hN) (ceC_120 (kd_0_1 hk)) hv6 dX0_upTo_26 ?_
        refine lv_iload_n hx hb dX0_upTo_27 rfl (lv_at hl 3 rfl) ?_
        obtain ⟨x7, hr8, hf⟩ := g_s1 hf
        have J9 : ∀ (H : Heap) (locs : List Loc) (ls : Array Slot), gS celC Γ ad N σ s H locs → lv_has ls 4 [(3, .int i1), (2, .int x7), (0, .ref (ad k)), (1, .int a0)] → W p l e (gR 1 0 0) s m args below meth c H locs 0 0 (Q) (F0 m 34 ls []) := by
          intro H locs ls S hl
          refine lv_iinc (v := (i1 + 1)) (lv' := [(3, .int (i1 + 1)), (2, .int x7), (0, .ref (ad k)), (1, .int a0)]) hx hb dX0_upTo_34 hl (k := 0) rfl rfl (by decide) rfl (fun ls hl => ?_)
          refine lv_goto (tgt := 4) hx hb dX0_upTo_37 (by decide) ?_
          exact ih _ _ _  hf J _ _ _ S (lv_sub hl [0, 1, 2, 3] rfl)
        replace hf := hr8
        refine lv_icmp_gt (tgt := 34) hx hb dX0_upTo_28 (by decide) (fun c10 => ?_) (fun c10 => ?_)
        · have hf := (if_pos c10).symm.trans hf
          cases hf
          exact J9 _ _ _ S (lv_sub hl [0, 1, 2, 3] rfl)
        · have hf := (if_neg c10).symm.trans hf
          refine lv_iinc (v := (i2 + 1)) (lv' := [(2, .int (i2 + 1)), (3, .int i1), (0, .ref (ad k)), (1, .int a0)]) hx hb dX0_upTo_31 hl (k := 1) rfl rfl (by decide) rfl (fun ls hl => ?_)
          cases hf
          exact J9 _ _ _ S (lv_sub hl [1, 0, 2, 3] rfl)
noncomputable def f_X0_upTo (σ : gSt) (k : Nat) (a0 : Int32) : Option (Int32) :=
  (g_k1 (f_X0_upTo_l1 σ k a0 FU (0 : Int32) (0 : Int32)) fun r3 => some r3)
set_option maxRecDepth 100000 in
set_option maxHeartbeats 4000000 in
theorem c_X0_upTo (l : Launch) {Γ : gG} {ad : Nat → Nat} {N : Nat} (hN : 202 ≤ N) {σ : gSt} {k : Nat} {a0 : Int32} (hk : gkd k = 0) {r : Int32} (hf : f_X0_upTo σ k a0 = some r) : gMi l celC Γ ad N yX0_upTo cX0_upTo 4 (some .int) (gR 1 0 0) [.ref (ad k), .int a0] σ r σ := by
  intro sz
  refine gOf (Qc := fun sz => gQci celC Γ ad N r σ sz) RX0 (by decide) rfl (by decide) (fun p e s m args below meth c H locs ls X S hl => ?_)
  have hl : lv_has ls 4 [(3, .int (0 : Int32)), (2, .int (0 : Int32)), (0, .ref (ad k)), (1, .int a0)] := hl
  have hx := X.1
  have hb := X.2.1
  unfold f_X0_upTo at hf
  refine lv_iconst (v := (0 : Int32)) hx hb dX0_upTo_0 (by decide) ?_
  refine lv_istore_n (lv' := [(2, .int (0 : Int32)), (0, .ref (ad k)), (1, .int a0)]) hx hb dX0_upTo_1 rfl hl (by decide) rfl (fun ls hl => ?_)
  refine lv_iconst (v := (0 : Int32)) hx hb dX0_upTo_2 (by decide) ?_
  refine lv_istore_n (lv' := [(3, .int (0 : Int32)), (2, .int (0 : Int32)), (0, .ref (ad k)), (1, .int a0)]) hx hb dX0_upTo_3 rfl hl (by decide) rfl (fun ls hl => ?_)
  obtain ⟨r3, hr11, hf⟩ := g_s1 hf
  refine w_X0_upTo_l1 hN X hk FU _ _ _  hr11 (fun H locs ls S hl => ?_) _ _ _ S (lv_sub hl [0, 1, 2, 3] rfl)
  refine lv_iload_n hx hb dX0_upTo_40 rfl (lv_at hl 0 rfl) ?_
  cases hf
  exact g_reti X S rfl dX0_upTo_41

noncomputable def f_X0_holds (σ : gSt) (k : Nat) (a0 : Int32) : Option (Int32) :=
  (g_k1 (f_X0_upTo σ k a0) fun v1 => (g_k1 (f_X0_upTo σ k (a0 - (1 : Int32))) fun v2 => (g_k1 (if v1 ≤ v2 then some (0 : Int32) else some (1 : Int32)) fun x3 => (g_k1 (gzb x3) fun v6 => some v6))))
set_option maxRecDepth 100000 in
set_option maxHeartbeats 4000000 in
theorem c_X0_holds (l : Launch) {Γ : gG} {ad : Nat → Nat} {N : Nat} (hN : 202 ≤ N) {σ : gSt} {k : Nat} {a0 : Int32} (hk : gkd k = 0) {r : Int32} (hf : f_X0_holds σ k a0 = some r) : gMi l celC Γ ad N yX0_holds cX0_holds 2 (some .boolean) (gR 2 0 0) [.ref (ad k), .int a0] σ r σ := by
  intro sz
  refine gOf (Qc := fun sz => gQci celC Γ ad N r σ sz) RX0 (by decide) rfl (by decide) (fun p e s m args below meth c H locs ls X S hl => ?_)
  have hl : lv_has ls 2 [(0, .ref (ad k)), (1, .int a0)] := hl
  have hx := X.1
  have hb := X.2.1
  unfold f_X0_holds at hf
  refine lv_aload_n hx hb dX0_holds_0 rfl (lv_at hl 0 rfl) ?_
  refine lv_iload_n hx hb dX0_holds_1 rfl (lv_at hl 1 rfl) ?_
  obtain ⟨v1, hv1, hf⟩ := g_s1 hf
  refine g_ki S (g_runV (rest := []) X S (c_X0_upTo l hN hk hv1 _) cvX0_upTo mlX0_25 (kd_N hk (by decide) hN) (ceC_0 hk _) rfl rfl rfl hl.1 (by decide) ⟨⟨rfl, rfl⟩, ⟨Nat.le_of_ble_eq_true rfl, Nat.le_of_ble_eq_true rfl⟩, Nat.le_of_ble_eq_true rfl, Nat.le_of_ble_eq_true rfl⟩ dX0_holds_2) (fun H locs S => ?_)
  refine lv_aload_n hx hb dX0_holds_5 rfl (lv_at hl 0 rfl) ?_
  refine lv_iload_n hx hb dX0_holds_6 rfl (lv_at hl 1 rfl) ?_
  refine lv_iconst (v := (1 : Int32)) hx hb dX0_holds_7 (by decide) ?_
  refine lv_isub hx hb dX0_holds_8 ?_
  obtain ⟨v2, hv2, hf⟩ := g_s1 hf
  refine g_ki S (g_runV (rest := [.int v1]) X S (c_X0_upTo l hN hk hv2 _) cvX0_upTo mlX0_25 (kd_N hk (by decide) hN) (ceC_0 hk _) rfl rfl rfl hl.1 (by decide) ⟨⟨rfl, rfl⟩, ⟨Nat.le_of_ble_eq_true rfl, Nat.le_of_ble_eq_true rfl⟩, Nat.le_of_ble_eq_true rfl, Nat.le_of_ble_eq_true rfl⟩ dX0_holds_9) (fun H locs S => ?_)
  obtain ⟨x3, hr4, hf⟩ := g_s1 hf
  have J5 : ∀ (H : Heap) (locs : List Loc) (ls : Array Slot), gS celC Γ ad N σ s H locs → lv_has ls 2 [] → W p l e (gR 2 0 0) s m args below meth c H locs 0 0 (gQi celC Γ ad N r σ below args s) (F0 m 20 ls [.int x3]) := by
    intro H locs ls S hl
    obtain ⟨v6, hv6, hf⟩ := g_s1 hf
    obtain ⟨hnv6, rfl⟩ := gzb_some hv6
    cases hf
    exact g_reti X S hnv6 dX0_holds_20
  replace hf := hr4
  refine lv_icmp_le (tgt := 19) hx hb dX0_holds_12 (by decide) (fun c7 => ?_) (fun c7 => ?_)
  · have hf := (if_pos c7).symm.trans hf
    refine lv_iconst (v := (0 : Int32)) hx hb dX0_holds_19 (by decide) ?_
    cases hf
    exact J5 _ _ _ S (lv_sub hl [] rfl)
  · have hf := (if_neg c7).symm.trans hf
    refine lv_iconst (v := (1 : Int32)) hx hb dX0_holds_15 (by decide) ?_
    refine lv_goto (tgt := 20) hx hb dX0_holds_16 (by decide) ?_
    cases hf
    exact J5 _ _ _ S (lv_sub hl [] rfl)

noncomputable def f_X0_firstFrom (σ : gSt) (k : Nat) (a0 : Int32) : Option (Int32) :=
  (g_k1 (f_X0_upTo σ k (a0 - (1 : Int32))) fun v1 => (g_k1 (f_X0_at σ k v1) fun v2 => some v2))
set_option maxRecDepth 100000 in
set_option maxHeartbeats 4000000 in
theorem c_X0_firstFrom (l : Launch) {Γ : gG} {ad : Nat → Nat} {N : Nat} (hN : 202 ≤ N) {σ : gSt} {k : Nat} {a0 : Int32} (hk : gkd k = 0) {r : Int32} (hf : f_X0_firstFrom σ k a0 = some r) : gMi l celC Γ ad N yX0_firstFrom cX0_firstFrom 2 (some .int) (gR 2 0 0) [.ref (ad k), .int a0] σ r σ := by
  intro sz
  refine gOf (Qc := fun sz => gQci celC Γ ad N r σ sz) RX0 (by decide) rfl (by decide) (fun p e s m args below meth c H locs ls X S hl => ?_)
  have hl : lv_has ls 2 [(0, .ref (ad k)), (1, .int a0)] := hl
  have hx := X.1
  have hb := X.2.1
  unfold f_X0_firstFrom at hf
  refine lv_aload_n hx hb dX0_firstFrom_0 rfl (lv_at hl 0 rfl) ?_
  refine lv_aload_n hx hb dX0_firstFrom_1 rfl (lv_at hl 0 rfl) ?_
  refine lv_iload_n hx hb dX0_firstFrom_2 rfl (lv_at hl 1 rfl) ?_
  refine lv_iconst (v := (1 : Int32)) hx hb dX0_firstFrom_3 (by decide) ?_
  refine lv_isub hx hb dX0_firstFrom_4 ?_
  obtain ⟨v1, hv1, hf⟩ := g_s1 hf
  refine g_ki S (g_runV (rest := [.ref (ad k)]) X S (c_X0_upTo l hN hk hv1 _) cvX0_upTo mlX0_25 (kd_N hk (by decide) hN) (ceC_0 hk _) rfl rfl rfl hl.1 (by decide) ⟨⟨rfl, rfl⟩, ⟨Nat.le_of_ble_eq_true rfl, Nat.le_of_ble_eq_true rfl⟩, Nat.le_of_ble_eq_true rfl, Nat.le_of_ble_eq_true rfl⟩ dX0_firstFrom_5) (fun H locs S => ?_)
  obtain ⟨v2, hv2, hf⟩ := g_s1 hf
  refine g_ki S (g_runV (rest := []) X S (c_X0_at l hN hk hv2 _) cvX0_at mlX0_29 (kd_N hk (by decide) hN) (ceC_0 hk _) rfl rfl rfl hl.1 (by decide) ⟨⟨rfl, rfl⟩, ⟨Nat.le_of_ble_eq_true rfl, Nat.le_of_ble_eq_true rfl⟩, Nat.le_of_ble_eq_true rfl, Nat.le_of_ble_eq_true rfl⟩ dX0_firstFrom_8) (fun H locs S => ?_)
  cases hf
  exact g_reti X S rfl dX0_firstFrom_11

noncomputable def f_X9_distance (σ : gSt) (a0 : Int32) (a1 : Int32) : Option (Int32) :=
  some (if 0 ≤ (a0 - a1) then (a0 - a1) else 0 - (a0 - a1))
set_option maxRecDepth 100000 in
set_option maxHeartbeats 4000000 in
theorem c_X9_distance (l : Launch) {Γ : gG} {ad : Nat → Nat} {N : Nat} (hN : 202 ≤ N) {σ : gSt} {a0 : Int32} {a1 : Int32}  {r : Int32} (hf : f_X9_distance σ a0 a1 = some r) : gMi l celC Γ ad N yX9_distance cX9_distance 2 (some .int) (gR 2 0 0) [.int a0, .int a1] σ r σ := by
  intro sz
  refine gOf (Qc := fun sz => gQci celC Γ ad N r σ sz) RX9 (by decide) rfl (by decide) (fun p e s m args below meth c H locs ls X S hl => ?_)
  have hl : lv_has ls 2 [(0, .int a0), (1, .int a1)] := hl
  have hx := X.1
  have hb := X.2.1
  unfold f_X9_distance at hf
  refine lv_iload_n hx hb dX9_distance_0 rfl (lv_at hl 0 rfl) ?_
  refine lv_iload_n hx hb dX9_distance_1 rfl (lv_at hl 1 rfl) ?_
  refine lv_isub hx hb dX9_distance_2 ?_
  refine g_abs X hl.1 mwX9_415 ⟨⟨by decide, Nat.le_of_ble_eq_true rfl⟩, Nat.le_of_ble_eq_true rfl, Nat.le_of_ble_eq_true rfl⟩ dX9_distance_3 ?_
  cases hf
  exact g_reti X S rfl dX9_distance_6

noncomputable def f_X0_nearest_l1 (σ : gSt) (k : Nat) (a0 : Int32) : Nat → Int32 → Int32 → Option (Int32)
  | 0, _, _ => none
  | n + 1, i1, i2 => (if (σ k 1) ≤ i1 then some i2 else (g_k1 (if i2 = (-1 : Int32) then (g_k1 (f_X0_at σ k i1) fun v9 => some v9) else (g_k1 (f_X0_at σ k i1) fun v10 => (g_k1 (f_X9_distance σ v10 a0) fun v11 => (g_k1 (f_X9_distance σ i2 a0) fun v12 => (if v12 ≤ v11 then some i2 else (g_k1 (f_X0_at σ k i1) fun v14 => some v14)))))) fun x5 => (f_X0_nearest_l1 σ k a0 n (i1 + 1) x5)))
set_option maxRecDepth 100000 in
set_option maxHeartbeats 4000000 in
theorem w_X0_nearest_l1 {l : Launch} {Γ : gG} {ad : Nat → Nat} {N : Nat} {p : Program} {e : Env} {s : State} {m : MethodId} {args : Array Value} {below : List Frame} {meth : Method} {c : Code} {Q : State → Prop} (hN : 202 ≤ N) (X : gX celC Γ ad N RX0 cX0_nearest 4 (some .int) p s m args meth c) {σ : gSt} {k : Nat} {a0 : Int32} (hk : gkd k = 0) : ∀ (n : Nat) (i1 : Int32) (i2 : Int32) (r3 : Int32), f_X0_nearest_l1 σ k a0 n i1 i2 = some r3 → (∀ (H : Heap) (locs : List Loc) (ls : Array Slot), gS celC Γ ad N σ s H locs → lv_has ls 4 [(2, .int r3)] → W p l e (gR 3 0 0) s m args below meth c H locs 0 0 (Q) (F0 m 46 ls [])) → ∀ (H : Heap) (locs : List Loc) (ls : Array Slot), gS celC Γ ad N σ s H locs → lv_has ls 4 [(3, .int i1), (2, .int i2), (0, .ref (ad k)), (1, .int a0)] → W p l e (gR 3 0 0) s m args below meth c H locs 0 0 (Q) (F0 m 4 ls []) := by
  have hx := X.1
  have hb := X.2.1
  intro n
  induction n with
  | zero =>
    intro i1 i2 r3 hf
    cases hf
  | succ n ih =>
    intro i1 i2 r3 hf J H locs ls S hl
    rw [f_X0_nearest_l1] at hf
    refine lv_iload_n hx hb dX0_nearest_4 rfl (lv_at hl 0 rfl) ?_
    refine lv_aload_n hx hb dX0_nearest_5 rfl (lv_at hl 2 rfl) ?_
    refine gfX0_15 X S hN hk dX0_nearest_6 ?_
    refine lv_icmp_ge (tgt := 46) hx hb dX0_nearest_9 (by decide) (fun c4 => ?_) (fun c4 => ?_)
    · have hf := (if_pos c4).symm.trans hf
      cases hf
      exact J _ _ _ S (lv_sub hl [1] rfl)
    · have hf := (if_neg c4).symm.trans hf
      refine lv_iload_n hx hb dX0_nearest_12 rfl (lv_at hl 1 rfl) ?_
      refine lv_iconst (v := (-1 : Int32)) hx hb dX0_nearest_13 (by decide) ?_
      obtain ⟨x5, hr6, hf⟩ := g_s1 hf
      have J7 : ∀ (H : Heap) (locs : List Loc) (ls : Array Slot), gS celC Γ ad N σ s H locs → lv_has ls 4 [(3, .int i1), (2, .int x5), (0, .ref (ad k)), (1, .int a0)] → W p l e (gR 3 0 0) s m args below meth c H locs 0 0 (Q) (F0 m 40 ls []) := by
        intro H locs ls S hl
        refine lv_iinc (v := (i1 + 1)) (lv' := [(3, .int (i1 + 1)), (2, .int x5), (0, .ref (ad k)), (1, .int a0)]) hx hb dX0_nearest_40 hl (k := 0) rfl rfl (by decide) rfl (fun ls hl => ?_)
        refine lv_goto (tgt := 4) hx hb dX0_nearest_43 (by decide) ?_
        exact ih _ _ _  hf J _ _ _ S (lv_sub hl [0, 1, 2, 3] rfl)
      replace hf := hr6
      refine lv_icmp_eq (tgt := 34) hx hb dX0_nearest_14 (by decide) (fun c8 => ?_) (fun c8 => ?_)
      · have hf := (if_pos c8).symm.trans hf
        refine lv_aload_n hx hb dX0_nearest_34 rfl (lv_at hl 2 rfl) ?_
        refine lv_iload_n hx hb dX0_nearest_35 rfl (lv_at hl 0 rfl) ?_
        obtain ⟨v9, hv9, hf⟩ := g_s1 hf
        refine g_ki S (g_runV (rest := []) X S (c_X0_at l hN hk hv9 _) cvX0_at mlX0_29 (kd_N hk (by decide) hN) (ceC_0 hk _) rfl rfl rfl hl.1 (by decide) ⟨⟨rfl, rfl⟩, ⟨Nat.le_of_ble_eq_true rfl, Nat.le_of_ble_eq_true rfl⟩, Nat.le_of_ble_eq_true rfl, Nat.le_of_ble_eq_true rfl⟩ dX0_nearest_36) (fun H locs S => ?_)
        refine lv_istore_n (lv' := [(2, .int v9), (3, .int i1), (0, .ref (ad k)), (1, .int a0)]) hx hb dX0_nearest_39 rfl hl (by decide) rfl (fun ls hl => ?_)
        cases hf
        exact J7 _ _ _ S (lv_sub hl [1, 0, 2, 3] rfl)
      · have hf := (if_neg c8).symm.trans hf
        refine lv_aload_n hx hb dX0_nearest_17 rfl (lv_at hl 2 rfl) ?_
        refine lv_iload_n hx hb dX0_nearest_18 rfl (lv_at hl 0 rfl) ?_
        obtain ⟨v10, hv10, hf⟩ := g_s1 hf
        refine g_ki S (g_runV (rest := []) X S (c_X0_at l hN hk hv10 _) cvX0_at mlX0_29 (kd_N hk (by decide) hN) (ceC_0 hk _) rfl rfl rfl hl.1 (by decide) ⟨⟨rfl, rfl⟩, ⟨Nat.le_of_ble_eq_true rfl, Nat.le_of_ble_eq_true rfl⟩, Nat.le_of_ble_eq_true rfl, Nat.le_of_ble_eq_true rfl⟩ dX0_nearest_19) (fun H locs S => ?_)
        refine lv_iload_n hx hb dX0_nearest_22 rfl (lv_at hl 3 rfl) ?_
        obtain ⟨v11, hv11, hf⟩ := g_s1 hf
        refine g_ki S (g_runN (rest := []) X S (c_X9_distance l hN  hv11 _) csX9_distance mnX0_32 rfl rfl hl.1 (by decide) ⟨⟨rfl, rfl⟩, ⟨Nat.le_of_ble_eq_true rfl, Nat.le_of_ble_eq_true rfl⟩, Nat.le_of_ble_eq_true rfl, Nat.le_of_ble_eq_true rfl⟩ dX0_nearest_23) (fun H locs S => ?_)
        refine lv_iload_n hx hb dX0_nearest_26 rfl (lv_at hl 1 rfl) ?_
        refine lv_iload_n hx hb dX0_nearest_27 rfl (lv_at hl 3 rfl) ?_
        obtain ⟨v12, hv12, hf⟩ := g_s1 hf
        refine g_ki S (g_runN (rest := [.int v11]) X S (c_X9_distance l hN  hv12 _) csX9_distance mnX0_32 rfl rfl hl.1 (by decide) ⟨⟨rfl, rfl⟩, ⟨Nat.le_of_ble_eq_true rfl, Nat.le_of_ble_eq_true rfl⟩, Nat.le_of_ble_eq_true rfl, Nat.le_of_ble_eq_true rfl⟩ dX0_nearest_28) (fun H locs S => ?_)
        refine lv_icmp_ge (tgt := 40) hx hb dX0_nearest_31 (by decide) (fun c13 => ?_) (fun c13 => ?_)
        · have hf := (if_pos c13).symm.trans hf
          cases hf
          exact J7 _ _ _ S (lv_sub hl [0, 1, 2, 3] rfl)
        · have hf := (if_neg c13).symm.trans hf
          refine lv_aload_n hx hb dX0_nearest_34 rfl (lv_at hl 2 rfl) ?_
          refine lv_iload_n hx hb dX0_nearest_35 rfl (lv_at hl 0 rfl) ?_
          obtain ⟨v14, hv14, hf⟩ := g_s1 hf
          refine g_ki S (g_runV (rest := []) X S (c_X0_at l hN hk hv14 _) cvX0_at mlX0_29 (kd_N hk (by decide) hN) (ceC_0 hk _) rfl rfl rfl hl.1 (by decide) ⟨⟨rfl, rfl⟩, ⟨Nat.le_of_ble_eq_true rfl, Nat.le_of_ble_eq_true rfl⟩, Nat.le_of_ble_eq_true rfl, Nat.le_of_ble_eq_true rfl⟩ dX0_nearest_36) (fun H locs S => ?_)
          refine lv_istore_n (lv' := [(2, .int v14), (3, .int i1), (0, .ref (ad k)), (1, .int a0)]) hx hb dX0_nearest_39 rfl hl (by decide) rfl (fun ls hl => ?_)
          cases hf
          exact J7 _ _ _ S (lv_sub hl [1, 0, 2, 3] rfl)
noncomputable def f_X0_nearest (σ : gSt) (k : Nat) (a0 : Int32) : Option (Int32) :=
  (g_k1 (f_X0_nearest_l1 σ k a0 FU (0 : Int32) (-1 : Int32)) fun r3 => some r3)
set_option maxRecDepth 100000 in
set_option maxHeartbeats 4000000 in
theorem c_X0_nearest (l : Launch) {Γ : gG} {ad : Nat → Nat} {N : Nat} (hN : 202 ≤ N) {σ : gSt} {k : Nat} {a0 : Int32} (hk : gkd k = 0) {r : Int32} (hf : f_X0_nearest σ k a0 = some r) : gMi l celC Γ ad N yX0_nearest cX0_nearest 4 (some .int) (gR 3 0 0) [.ref (ad k), .int a0] σ r σ := by
  intro sz
  refine gOf (Qc := fun sz => gQci celC Γ ad N r σ sz) RX0 (by decide) rfl (by decide) (fun p e s m args below meth c H locs ls X S hl => ?_)
  have hl : lv_has ls 4 [(3, .int (0 : Int32)), (2, .int (-1 : Int32)), (0, .ref (ad k)), (1, .int a0)] := hl
  have hx := X.1
  have hb := X.2.1
  unfold f_X0_nearest at hf
  refine lv_iconst (v := (-1 : Int32)) hx hb dX0_nearest_0 (by decide) ?_
  refine lv_istore_n (lv' := [(2, .int (-1 : Int32)), (0, .ref (ad k)), (1, .int a0)]) hx hb dX0_nearest_1 rfl hl (by decide) rfl (fun ls hl => ?_)
  refine lv_iconst (v := (0 : Int32)) hx hb dX0_nearest_2 (by decide) ?_
  refine lv_istore_n (lv' := [(3, .int (0 : Int32)), (2, .int (-1 : Int32)), (0, .ref (ad k)), (1, .int a0)]) hx hb dX0_nearest_3 rfl hl (by decide) rfl (fun ls hl => ?_)
  obtain ⟨r3, hr15, hf⟩ := g_s1 hf
  refine w_X0_nearest_l1 hN X hk FU _ _ _  hr15 (fun H locs ls S hl => ?_) _ _ _ S (lv_sub hl [0, 1, 2, 3] rfl)
  refine lv_iload_n hx hb dX0_nearest_46 rfl (lv_at hl 0 rfl) ?_
  cases hf
  exact g_reti X S rfl dX0_nearest_47

noncomputable def f_X0_lacksRoomFor (σ : gSt) (k : Nat) (a0 : Int32) : Option (Int32) :=
  (g_k1 (if (σ k 1) < (20 : Int32) then some (0 : Int32) else (g_k1 (f_X0_holds σ k a0) fun v6 => (if v6 = 0 then some (1 : Int32) else some (0 : Int32)))) fun x1 => (g_k1 (gzb x1) fun v4 => some v4))
set_option maxRecDepth 100000 in
set_option maxHeartbeats 4000000 in
theorem c_X0_lacksRoomFor (l : Launch) {Γ : gG} {ad : Nat → Nat} {N : Nat} (hN : 202 ≤ N) {σ : gSt} {k : Nat} {a0 : Int32} (hk : gkd k = 0) {r : Int32} (hf : f_X0_lacksRoomFor σ k a0 = some r) : gMi l celC Γ ad N yX0_lacksRoomFor cX0_lacksRoomFor 2 (some .boolean) (gR 3 0 0) [.ref (ad k), .int a0] σ r σ := by
  intro sz
  refine gOf (Qc := fun sz => gQci celC Γ ad N r σ sz) RX0 (by decide) rfl (by decide) (fun p e s m args below meth c H locs ls X S hl => ?_)
  have hl : lv_has ls 2 [(0, .ref (ad k)), (1, .int a0)] := hl
  have hx := X.1
  have hb := X.2.1
  unfold f_X0_lacksRoomFor at hf
  refine lv_aload_n hx hb dX0_lacksRoomFor_0 rfl (lv_at hl 0 rfl) ?_
  refine gfX0_15 X S hN hk dX0_lacksRoomFor_1 ?_
  refine lv_bipush (v := (20 : Int32)) hx hb dX0_lacksRoomFor_4 (by decide) ?_
  obtain ⟨x1, hr2, hf⟩ := g_s1 hf
  have J3 : ∀ (H : Heap) (locs : List Loc) (ls : Array Slot), gS celC Γ ad N σ s H locs → lv_has ls 2 [] → W p l e (gR 3 0 0) s m args below meth c H locs 0 0 (gQi celC Γ ad N r σ below args s) (F0 m 22 ls [.int x1]) := by
    intro H locs ls S hl
    obtain ⟨v4, hv4, hf⟩ := g_s1 hf
    obtain ⟨hnv4, rfl⟩ := gzb_some hv4
    cases hf
    exact g_reti X S hnv4 dX0_lacksRoomFor_22
  replace hf := hr2
  refine lv_icmp_lt (tgt := 21) hx hb dX0_lacksRoomFor_6 (by decide) (fun c5 => ?_) (fun c5 => ?_)
  · have hf := (if_pos c5).symm.trans hf
    refine lv_iconst (v := (0 : Int32)) hx hb dX0_lacksRoomFor_21 (by decide) ?_
    cases hf
    exact J3 _ _ _ S (lv_sub hl [] rfl)
  · have hf := (if_neg c5).symm.trans hf
    refine lv_aload_n hx hb dX0_lacksRoomFor_9 rfl (lv_at hl 0 rfl) ?_
    refine lv_iload_n hx hb dX0_lacksRoomFor_10 rfl (lv_at hl 1 rfl) ?_
    obtain ⟨v6, hv6, hf⟩ := g_s1 hf
    refine g_ki S (g_runV (rest := []) X S (c_X0_holds l hN hk hv6 _) cvX0_holds mlX0_36 (kd_N hk (by decide) hN) (ceC_0 hk _) rfl rfl rfl hl.1 (by decide) ⟨⟨rfl, rfl⟩, ⟨Nat.le_of_ble_eq_true rfl, Nat.le_of_ble_eq_true rfl⟩, Nat.le_of_ble_eq_true rfl, Nat.le_of_ble_eq_true rfl⟩ dX0_lacksRoomFor_11) (fun H locs S => ?_)
    refine lv_if_ne (tgt := 21) hx hb dX0_lacksRoomFor_14 (by decide) (fun c7 => ?_) (fun c7 => ?_)
    · have hf := (if_neg c7).symm.trans hf
      refine lv_iconst (v := (0 : Int32)) hx hb dX0_lacksRoomFor_21 (by decide) ?_
      cases hf
      exact J3 _ _ _ S (lv_sub hl [] rfl)
    · have hf := (if_pos c7).symm.trans hf
      refine lv_iconst (v := (1 : Int32)) hx hb dX0_lacksRoomFor_17 (by decide) ?_
      refine lv_goto (tgt := 22) hx hb dX0_lacksRoomFor_18 (by decide) ?_
      cases hf
      exact J3 _ _ _ S (lv_sub hl [] rfl)

noncomputable def f_X0_make_l1 (σ : gSt) (k : Nat) (a0 : Int32) : Nat → Int32 → gSt → Option (Int32 × gSt)
  | 0, _, _ => none
  | n + 1, i5, σ6 => (if i5 ≤ 0 then some (i5, σ6) else (g_k1 (gald σ6 (k + 1) 20 (i5 - (1 : Int32))) fun v10 => (if v10 ≤ a0 then some (i5, σ6) else (g_k1 (gald σ6 (k + 1) 20 (i5 - (1 : Int32))) fun v12 => (g_k1 (gast σ6 (k + 1) 20 i5 v12) fun σ13 => (f_X0_make_l1 σ k a0 n (i5 + (-1)) σ13))))))
set_option maxRecDepth 100000 in
set_option maxHeartbeats 4000000 in
theorem w_X0_make_l1 {l : Launch} {Γ : gG} {ad : Nat → Nat} {N : Nat} {p : Program} {e : Env} {s : State} {m : MethodId} {args : Array Value} {below : List Frame} {meth : Method} {c : Code} {Q : State → Prop} (hN : 202 ≤ N) (X : gX celC Γ ad N RX0 cX0_make 3 none p s m args meth c) {σ : gSt} {k : Nat} {a0 : Int32} (hk : gkd k = 0) : ∀ (n : Nat) (i5 : Int32) (σ6 : gSt) (r7 : Int32) (σ8 : gSt), f_X0_make_l1 σ k a0 n i5 σ6 = some (r7, σ8) → (∀ (H : Heap) (locs : List Loc) (ls : Array Slot), gS celC Γ ad N σ8 s H locs → lv_has ls 3 [(2, .int r7), (0, .ref (ad k)), (1, .int a0)] → W p l e (gR 3 0 0) s m args below meth c H locs 0 0 (Q) (F0 m 69 ls [])) → ∀ (H : Heap) (locs : List Loc) (ls : Array Slot), gS celC Γ ad N σ6 s H locs → lv_has ls 3 [(2, .int i5), (0, .ref (ad k)), (1, .int a0)] → W p l e (gR 3 0 0) s m args below meth c H locs 0 0 (Q) (F0 m 33 ls []) := by
  have hx := X.1
  have hb := X.2.1
  intro n
  induction n with
  | zero =>
    intro i5 σ6 r7 σ8 hf
    cases hf
  | succ n ih =>
    intro i5 σ6 r7 σ8 hf J H locs ls S hl
    rw [f_X0_make_l1] at hf
    refine lv_iload_n hx hb dX0_make_33 rfl (lv_at hl 0 rfl) ?_
    refine lv_if_le (tgt := 69) hx hb dX0_make_34 (by decide) (fun c9 => ?_) (fun c9 => ?_)
    · have hf := (if_pos c9).symm.trans hf
      cases hf
      exact J _ _ _ S (lv_sub hl [0, 1, 2] rfl)
    · have hf := (if_neg c9).symm.trans hf
      refine lv_aload_n hx hb dX0_make_37 rfl (lv_at hl 1 rfl) ?_
      refine gfX0_9 X S hN hk dX0_make_38 ?_
      refine lv_iload_n hx hb dX0_make_41 rfl (lv_at hl 0 rfl) ?_
      refine lv_iconst (v := (1 : Int32)) hx hb dX0_make_42 (by decide) ?_
      refine lv_isub hx hb dX0_make_43 ?_
      obtain ⟨v10, hv10, hf⟩ := g_s1 hf
      refine g_iald X S (kd_N (kd_0_1 hk) (by decide) hN) (ceC_120 (kd_0_1 hk)) hv10 dX0_make_44 ?_
      refine lv_iload_n hx hb dX0_make_45 rfl (lv_at hl 2 rfl) ?_
      refine lv_icmp_le (tgt := 69) hx hb dX0_make_46 (by decide) (fun c11 => ?_) (fun c11 => ?_)
      · have hf := (if_pos c11).symm.trans hf
        cases hf
        exact J _ _ _ S (lv_sub hl [0, 1, 2] rfl)
      · have hf := (if_neg c11).symm.trans hf
        refine lv_aload_n hx hb dX0_make_49 rfl (lv_at hl 1 rfl) ?_
        refine gfX0_9 X S hN hk dX0_make_50 ?_
        refine lv_iload_n hx hb dX0_make_53 rfl (lv_at hl 0 rfl) ?_
        refine lv_aload_n hx hb dX0_make_54 rfl (lv_at hl 1 rfl) ?_
        refine gfX0_9 X S hN hk dX0_make_55 ?_
        refine lv_iload_n hx hb dX0_make_58 rfl (lv_at hl 0 rfl) ?_
        refine lv_iconst (v := (1 : Int32)) hx hb dX0_make_59 (by decide) ?_
        refine lv_isub hx hb dX0_make_60 ?_
        obtain ⟨v12, hv12, hf⟩ := g_s1 hf
        refine g_iald X S (kd_N (kd_0_1 hk) (by decide) hN) (ceC_120 (kd_0_1 hk)) hv12 dX0_make_61 ?_
        obtain ⟨σ13, hσ13, hf⟩ := g_s1 hf
        refine g_iast X S (kd_N (kd_0_1 hk) (by decide) hN) (ceC_120 (kd_0_1 hk)) hσ13 dX0_make_62 (fun H locs S => ?_)
        refine lv_iinc (v := (i5 + (-1))) (lv' := [(2, .int (i5 + (-1))), (0, .ref (ad k)), (1, .int a0)]) hx hb dX0_make_63 hl (k := 0) rfl rfl (by decide) rfl (fun ls hl => ?_)
        refine lv_goto (tgt := 33) hx hb dX0_make_66 (by decide) ?_
        exact ih _ _ _ _  hf J _ _ _ S (lv_sub hl [0, 1, 2] rfl)
noncomputable def f_X0_make (σ : gSt) (k : Nat) (a0 : Int32) : Option (gSt) :=
  (g_k1 (f_X0_holds σ k a0) fun v1 => (if v1 = 0 then (if (σ k 1) < 0 then some σ else (if (σ k 1) < (20 : Int32) then (g_k2 (f_X0_make_l1 σ k a0 FU (σ k 1) σ) fun r7 σ8 => (g_k1 (gast σ8 (k + 1) 20 r7 a0) fun σ15 => (g_k1 (gset σ15 k 1 ((σ15 k 1) + (1 : Int32))) fun σ16 => some σ16))) else some σ)) else some σ))
set_option maxRecDepth 100000 in
set_option maxHeartbeats 4000000 in
theorem c_X0_make (l : Launch) {Γ : gG} {ad : Nat → Nat} {N : Nat} (hN : 202 ≤ N) {σ : gSt} {k : Nat} {a0 : Int32} (hk : gkd k = 0) {σ' : gSt} (hf : f_X0_make σ k a0 = some σ') : gMv l celC Γ ad N yX0_make cX0_make 3 none (gR 3 0 0) [.ref (ad k), .int a0] σ σ' := by
  intro sz
  refine gOf (Qc := fun sz => gQcv celC Γ ad N σ' sz) RX0 (by decide) rfl (by decide) (fun p e s m args below meth c H locs ls X S hl => ?_)
  have hl : lv_has ls 3 [(0, .ref (ad k)), (1, .int a0)] := hl
  have hx := X.1
  have hb := X.2.1
  unfold f_X0_make at hf
  refine lv_aload_n hx hb dX0_make_0 rfl (lv_at hl 0 rfl) ?_
  refine lv_iload_n hx hb dX0_make_1 rfl (lv_at hl 1 rfl) ?_
  obtain ⟨v1, hv1, hf⟩ := g_s1 hf
  refine g_ki S (g_runV (rest := []) X S (c_X0_holds l hN hk hv1 _) cvX0_holds mlX0_36 (kd_N hk (by decide) hN) (ceC_0 hk _) rfl rfl rfl hl.1 (by decide) ⟨⟨rfl, rfl⟩, ⟨Nat.le_of_ble_eq_true rfl, Nat.le_of_ble_eq_true rfl⟩, Nat.le_of_ble_eq_true rfl, Nat.le_of_ble_eq_true rfl⟩ dX0_make_2) (fun H locs S => ?_)
  refine lv_if_ne (tgt := 27) hx hb dX0_make_5 (by decide) (fun c2 => ?_) (fun c2 => ?_)
  · have hf := (if_neg c2).symm.trans hf
    cases hf
    exact g_retv X S dX0_make_27
  · have hf := (if_pos c2).symm.trans hf
    refine lv_aload_n hx hb dX0_make_8 rfl (lv_at hl 0 rfl) ?_
    refine gfX0_15 X S hN hk dX0_make_9 ?_
    refine lv_if_lt (tgt := 27) hx hb dX0_make_12 (by decide) (fun c3 => ?_) (fun c3 => ?_)
    · have hf := (if_pos c3).symm.trans hf
      cases hf
      exact g_retv X S dX0_make_27
    · have hf := (if_neg c3).symm.trans hf
      refine lv_aload_n hx hb dX0_make_15 rfl (lv_at hl 0 rfl) ?_
      refine gfX0_15 X S hN hk dX0_make_16 ?_
      refine lv_aload_n hx hb dX0_make_19 rfl (lv_at hl 0 rfl) ?_
      refine gfX0_9 X S hN hk dX0_make_20 ?_
      refine g_alen (v := (20 : Int32)) X S (kd_N (kd_0_1 hk) (by decide) hN) (ceC_120 (kd_0_1 hk)) (by decide) dX0_make_23 ?_
      refine lv_icmp_lt (tgt := 28) hx hb dX0_make_24 (by decide) (fun c4 => ?_) (fun c4 => ?_)
      · have hf := (if_pos c4).symm.trans hf
        refine lv_aload_n hx hb dX0_make_28 rfl (lv_at hl 0 rfl) ?_
        refine gfX0_15 X S hN hk dX0_make_29 ?_
        refine lv_istore_n (lv' := [(2, .int (σ k 1)), (0, .ref (ad k)), (1, .int a0)]) hx hb dX0_make_32 rfl hl (by decide) rfl (fun ls hl => ?_)
        obtain ⟨r7, σ8, hr14, hf⟩ := g_s2 hf
        refine w_X0_make_l1 hN X hk FU _ _ _ _  hr14 (fun H locs ls S hl => ?_) _ _ _ S (lv_sub hl [0, 1, 2] rfl)
        refine lv_aload_n hx hb dX0_make_69 rfl (lv_at hl 1 rfl) ?_
        refine gfX0_9 X S hN hk dX0_make_70 ?_
        refine lv_iload_n hx hb dX0_make_73 rfl (lv_at hl 0 rfl) ?_
        refine lv_iload_n hx hb dX0_make_74 rfl (lv_at hl 2 rfl) ?_
        obtain ⟨σ15, hσ15, hf⟩ := g_s1 hf
        refine g_iast X S (kd_N (kd_0_1 hk) (by decide) hN) (ceC_120 (kd_0_1 hk)) hσ15 dX0_make_75 (fun H locs S => ?_)
        refine lv_aload_n hx hb dX0_make_76 rfl (lv_at hl 1 rfl) ?_
        refine lv_dup hx hb dX0_make_77 rfl ?_
        refine gfX0_15 X S hN hk dX0_make_78 ?_
        refine lv_iconst (v := (1 : Int32)) hx hb dX0_make_81 (by decide) ?_
        refine lv_iadd hx hb dX0_make_82 ?_
        obtain ⟨σ16, hσ16, hf⟩ := g_s1 hf
        refine pfX0_15 X S hN hk hσ16 dX0_make_83 (fun H locs S => ?_)
        cases hf
        exact g_retv X S dX0_make_86
      · have hf := (if_neg c4).symm.trans hf
        cases hf
        exact g_retv X S dX0_make_27

noncomputable def f_X0_takeAway_l1 (σ : gSt) (k : Nat) : Nat → Int32 → gSt → Option (gSt)
  | 0, _, _ => none
  | n + 1, i4, σ5 => (if i4 ≤ 0 then some σ5 else (if (σ5 k 1) ≤ i4 then some σ5 else (if (20 : Int32) ≤ i4 then some σ5 else (g_k1 (gald σ5 (k + 1) 20 i4) fun v10 => (g_k1 (gast σ5 (k + 1) 20 (i4 - (1 : Int32)) v10) fun σ11 => (f_X0_takeAway_l1 σ k n (i4 + 1) σ11))))))
set_option maxRecDepth 100000 in
set_option maxHeartbeats 4000000 in
theorem w_X0_takeAway_l1 {l : Launch} {Γ : gG} {ad : Nat → Nat} {N : Nat} {p : Program} {e : Env} {s : State} {m : MethodId} {args : Array Value} {below : List Frame} {meth : Method} {c : Code} {Q : State → Prop} (hN : 202 ≤ N) (X : gX celC Γ ad N RX0 cX0_takeAway 3 none p s m args meth c) {σ : gSt} {k : Nat} (hk : gkd k = 0) : ∀ (n : Nat) (i4 : Int32) (σ5 : gSt) (σ6 : gSt), f_X0_takeAway_l1 σ k n i4 σ5 = some σ6 → (∀ (H : Heap) (locs : List Loc) (ls : Array Slot), gS celC Γ ad N σ6 s H locs → lv_has ls 3 [(0, .ref (ad k))] → W p l e (gR 3 0 0) s m args below meth c H locs 0 0 (Q) (F0 m 56 ls [])) → ∀ (H : Heap) (locs : List Loc) (ls : Array Slot), gS celC Γ ad N σ5 s H locs → lv_has ls 3 [(2, .int i4), (0, .ref (ad k))] → W p l e (gR 3 0 0) s m args below meth c H locs 0 0 (Q) (F0 m 15 ls []) := by
  have hx := X.1
  have hb := X.2.1
  intro n
  induction n with
  | zero =>
    intro i4 σ5 σ6 hf
    cases hf
  | succ n ih =>
    intro i4 σ5 σ6 hf J H locs ls S hl
    rw [f_X0_takeAway_l1] at hf
    refine lv_iload_n hx hb dX0_takeAway_15 rfl (lv_at hl 0 rfl) ?_
    refine lv_if_le (tgt := 56) hx hb dX0_takeAway_16 (by decide) (fun c7 => ?_) (fun c7 => ?_)
    · have hf := (if_pos c7).symm.trans hf
      cases hf
      exact J _ _ _ S (lv_sub hl [1] rfl)
    · have hf := (if_neg c7).symm.trans hf
      refine lv_iload_n hx hb dX0_takeAway_19 rfl (lv_at hl 0 rfl) ?_
      refine lv_aload_n hx hb dX0_takeAway_20 rfl (lv_at hl 1 rfl) ?_
      refine gfX0_15 X S hN hk dX0_takeAway_21 ?_
      refine lv_icmp_ge (tgt := 56) hx hb dX0_takeAway_24 (by decide) (fun c8 => ?_) (fun c8 => ?_)
      · have hf := (if_pos c8).symm.trans hf
        cases hf
        exact J _ _ _ S (lv_sub hl [1] rfl)
      · have hf := (if_neg c8).symm.trans hf
        refine lv_iload_n hx hb dX0_takeAway_27 rfl (lv_at hl 0 rfl) ?_
        refine lv_aload_n hx hb dX0_takeAway_28 rfl (lv_at hl 1 rfl) ?_
        refine gfX0_9 X S hN hk dX0_takeAway_29 ?_
        refine g_alen (v := (20 : Int32)) X S (kd_N (kd_0_1 hk) (by decide) hN) (ceC_120 (kd_0_1 hk)) (by decide) dX0_takeAway_32 ?_
        refine lv_icmp_ge (tgt := 56) hx hb dX0_takeAway_33 (by decide) (fun c9 => ?_) (fun c9 => ?_)
        · have hf := (if_pos c9).symm.trans hf
          cases hf
          exact J _ _ _ S (lv_sub hl [1] rfl)
        · have hf := (if_neg c9).symm.trans hf
          refine lv_aload_n hx hb dX0_takeAway_36 rfl (lv_at hl 1 rfl) ?_
          refine gfX0_9 X S hN hk dX0_takeAway_37 ?_
          refine lv_iload_n hx hb dX0_takeAway_40 rfl (lv_at hl 0 rfl) ?_
          refine lv_iconst (v := (1 : Int32)) hx hb dX0_takeAway_41 (by decide) ?_
          refine lv_isub hx hb dX0_takeAway_42 ?_
          refine lv_aload_n hx hb dX0_takeAway_43 rfl (lv_at hl 1 rfl) ?_
          refine gfX0_9 X S hN hk dX0_takeAway_44 ?_
          refine lv_iload_n hx hb dX0_takeAway_47 rfl (lv_at hl 0 rfl) ?_
          obtain ⟨v10, hv10, hf⟩ := g_s1 hf
          refine g_iald X S (kd_N (kd_0_1 hk) (by decide) hN) (ceC_120 (kd_0_1 hk)) hv10 dX0_takeAway_48 ?_
          obtain ⟨σ11, hσ11, hf⟩ := g_s1 hf
          refine g_iast X S (kd_N (kd_0_1 hk) (by decide) hN) (ceC_120 (kd_0_1 hk)) hσ11 dX0_takeAway_49 (fun H locs S => ?_)
          refine lv_iinc (v := (i4 + 1)) (lv' := [(2, .int (i4 + 1)), (0, .ref (ad k))]) hx hb dX0_takeAway_50 hl (k := 0) rfl rfl (by decide) rfl (fun ls hl => ?_)
          refine lv_goto (tgt := 15) hx hb dX0_takeAway_53 (by decide) ?_
          exact ih _ _ _  hf J _ _ _ S (lv_sub hl [0, 1] rfl)
noncomputable def f_X0_takeAway (σ : gSt) (k : Nat) (a0 : Int32) : Option (gSt) :=
  (g_k1 (f_X0_holds σ k a0) fun v1 => (if v1 = 0 then some σ else (g_k1 (f_X0_upTo σ k a0) fun v3 => (g_k1 (f_X0_takeAway_l1 σ k FU v3 σ) fun σ6 => (g_k1 (gset σ6 k 1 ((σ6 k 1) - (1 : Int32))) fun σ13 => some σ13)))))
set_option maxRecDepth 100000 in
set_option maxHeartbeats 4000000 in
theorem c_X0_takeAway (l : Launch) {Γ : gG} {ad : Nat → Nat} {N : Nat} (hN : 202 ≤ N) {σ : gSt} {k : Nat} {a0 : Int32} (hk : gkd k = 0) {σ' : gSt} (hf : f_X0_takeAway σ k a0 = some σ') : gMv l celC Γ ad N yX0_takeAway cX0_takeAway 3 none (gR 3 0 0) [.ref (ad k), .int a0] σ σ' := by
  intro sz
  refine gOf (Qc := fun sz => gQcv celC Γ ad N σ' sz) RX0 (by decide) rfl (by decide) (fun p e s m args below meth c H locs ls X S hl => ?_)
  have hl : lv_has ls 3 [(0, .ref (ad k)), (1, .int a0)] := hl
  have hx := X.1
  have hb := X.2.1
  unfold f_X0_takeAway at hf
  refine lv_aload_n hx hb dX0_takeAway_0 rfl (lv_at hl 0 rfl) ?_
  refine lv_iload_n hx hb dX0_takeAway_1 rfl (lv_at hl 1 rfl) ?_
  obtain ⟨v1, hv1, hf⟩ := g_s1 hf
  refine g_ki S (g_runV (rest := []) X S (c_X0_holds l hN hk hv1 _) cvX0_holds mlX0_36 (kd_N hk (by decide) hN) (ceC_0 hk _) rfl rfl rfl hl.1 (by decide) ⟨⟨rfl, rfl⟩, ⟨Nat.le_of_ble_eq_true rfl, Nat.le_of_ble_eq_true rfl⟩, Nat.le_of_ble_eq_true rfl, Nat.le_of_ble_eq_true rfl⟩ dX0_takeAway_2) (fun H locs S => ?_)
  refine lv_if_ne (tgt := 9) hx hb dX0_takeAway_5 (by decide) (fun c2 => ?_) (fun c2 => ?_)
  · have hf := (if_neg c2).symm.trans hf
    refine lv_aload_n hx hb dX0_takeAway_9 rfl (lv_at hl 0 rfl) ?_
    refine lv_iload_n hx hb dX0_takeAway_10 rfl (lv_at hl 1 rfl) ?_
    obtain ⟨v3, hv3, hf⟩ := g_s1 hf
    refine g_ki S (g_runV (rest := []) X S (c_X0_upTo l hN hk hv3 _) cvX0_upTo mlX0_25 (kd_N hk (by decide) hN) (ceC_0 hk _) rfl rfl rfl hl.1 (by decide) ⟨⟨rfl, rfl⟩, ⟨Nat.le_of_ble_eq_true rfl, Nat.le_of_ble_eq_true rfl⟩, Nat.le_of_ble_eq_true rfl, Nat.le_of_ble_eq_true rfl⟩ dX0_takeAway_11) (fun H locs S => ?_)
    refine lv_istore_n (lv' := [(2, .int v3), (0, .ref (ad k)), (1, .int a0)]) hx hb dX0_takeAway_14 rfl hl (by decide) rfl (fun ls hl => ?_)
    obtain ⟨σ6, hr12, hf⟩ := g_s1 hf
    refine w_X0_takeAway_l1 hN X hk FU _ _ _  hr12 (fun H locs ls S hl => ?_) _ _ _ S (lv_sub hl [0, 1] rfl)
    refine lv_aload_n hx hb dX0_takeAway_56 rfl (lv_at hl 0 rfl) ?_
    refine lv_dup hx hb dX0_takeAway_57 rfl ?_
    refine gfX0_15 X S hN hk dX0_takeAway_58 ?_
    refine lv_iconst (v := (1 : Int32)) hx hb dX0_takeAway_61 (by decide) ?_
    refine lv_isub hx hb dX0_takeAway_62 ?_
    obtain ⟨σ13, hσ13, hf⟩ := g_s1 hf
    refine pfX0_15 X S hN hk hσ13 dX0_takeAway_63 (fun H locs S => ?_)
    cases hf
    exact g_retv X S dX0_takeAway_66
  · have hf := (if_pos c2).symm.trans hf
    cases hf
    exact g_retv X S dX0_takeAway_8

noncomputable def f_X8_has (σ : gSt) (k : Nat) (a0 : Int32) : Option (Int32) :=
  (g_k1 (if a0 < 0 then some (0 : Int32) else (if (σ k 5) ≤ a0 then some (0 : Int32) else (if (16 : Int32) ≤ a0 then some (0 : Int32) else some (1 : Int32)))) fun x1 => (g_k1 (gzb x1) fun v4 => some v4))
set_option maxRecDepth 100000 in
set_option maxHeartbeats 4000000 in
theorem c_X8_has (l : Launch) {Γ : gG} {ad : Nat → Nat} {N : Nat} (hN : 202 ≤ N) {σ : gSt} {k : Nat} {a0 : Int32} (hk : gkd k = 8) {r : Int32} (hf : f_X8_has σ k a0 = some r) : gMi l celC Γ ad N yX8_has cX8_has 2 (some .boolean) (gR 1 0 0) [.ref (ad k), .int a0] σ r σ := by
  intro sz
  refine gOf (Qc := fun sz => gQci celC Γ ad N r σ sz) RX8 (by decide) rfl (by decide) (fun p e s m args below meth c H locs ls X S hl => ?_)
  have hl : lv_has ls 2 [(0, .ref (ad k)), (1, .int a0)] := hl
  have hx := X.1
  have hb := X.2.1
  unfold f_X8_has at hf
  refine lv_iload_n hx hb dX8_has_0 rfl (lv_at hl 1 rfl) ?_
  obtain ⟨x1, hr2, hf⟩ := g_s1 hf
  have J3 : ∀ (H : Heap) (locs : List Loc) (ls : Array Slot), gS celC Γ ad N σ s H locs → lv_has ls 2 [] → W p l e (gR 1 0 0) s m args below meth c H locs 0 0 (gQi celC Γ ad N r σ below args s) (F0 m 23 ls [.int x1]) := by
    intro H locs ls S hl
    obtain ⟨v4, hv4, hf⟩ := g_s1 hf
    obtain ⟨hnv4, rfl⟩ := gzb_some hv4
    cases hf
    exact g_reti X S hnv4 dX8_has_23
  replace hf := hr2
  refine lv_if_lt (tgt := 22) hx hb dX8_has_1 (by decide) (fun c5 => ?_) (fun c5 => ?_)
  · have hf := (if_pos c5).symm.trans hf
    refine lv_iconst (v := (0 : Int32)) hx hb dX8_has_22 (by decide) ?_
    cases hf
    exact J3 _ _ _ S (lv_sub hl [] rfl)
  · have hf := (if_neg c5).symm.trans hf
    refine lv_iload_n hx hb dX8_has_4 rfl (lv_at hl 1 rfl) ?_
    refine lv_aload_n hx hb dX8_has_5 rfl (lv_at hl 0 rfl) ?_
    refine gfX8_27 X S hN hk dX8_has_6 ?_
    refine lv_icmp_ge (tgt := 22) hx hb dX8_has_9 (by decide) (fun c6 => ?_) (fun c6 => ?_)
    · have hf := (if_pos c6).symm.trans hf
      refine lv_iconst (v := (0 : Int32)) hx hb dX8_has_22 (by decide) ?_
      cases hf
      exact J3 _ _ _ S (lv_sub hl [] rfl)
    · have hf := (if_neg c6).symm.trans hf
      refine lv_iload_n hx hb dX8_has_12 rfl (lv_at hl 1 rfl) ?_
      refine lv_bipush (v := (16 : Int32)) hx hb dX8_has_13 (by decide) ?_
      refine lv_icmp_ge (tgt := 22) hx hb dX8_has_15 (by decide) (fun c7 => ?_) (fun c7 => ?_)
      · have hf := (if_pos c7).symm.trans hf
        refine lv_iconst (v := (0 : Int32)) hx hb dX8_has_22 (by decide) ?_
        cases hf
        exact J3 _ _ _ S (lv_sub hl [] rfl)
      · have hf := (if_neg c7).symm.trans hf
        refine lv_iconst (v := (1 : Int32)) hx hb dX8_has_18 (by decide) ?_
        refine lv_goto (tgt := 23) hx hb dX8_has_19 (by decide) ?_
        cases hf
        exact J3 _ _ _ S (lv_sub hl [] rfl)

noncomputable def f_X8_kind (σ : gSt) (k : Nat) (a0 : Int32) : Option (Int32) :=
  (g_k1 (f_X8_has σ k a0) fun v1 => (g_k1 (if v1 = 0 then some (0 : Int32) else (g_k1 (gald σ (k + 3) 16 a0) fun v6 => some v6)) fun x2 => some x2))
set_option maxRecDepth 100000 in
set_option maxHeartbeats 4000000 in
theorem c_X8_kind (l : Launch) {Γ : gG} {ad : Nat → Nat} {N : Nat} (hN : 202 ≤ N) {σ : gSt} {k : Nat} {a0 : Int32} (hk : gkd k = 8) {r : Int32} (hf : f_X8_kind σ k a0 = some r) : gMi l celC Γ ad N yX8_kind cX8_kind 2 (some .int) (gR 2 0 0) [.ref (ad k), .int a0] σ r σ := by
  intro sz
  refine gOf (Qc := fun sz => gQci celC Γ ad N r σ sz) RX8 (by decide) rfl (by decide) (fun p e s m args below meth c H locs ls X S hl => ?_)
  have hl : lv_has ls 2 [(0, .ref (ad k)), (1, .int a0)] := hl
  have hx := X.1
  have hb := X.2.1
  unfold f_X8_kind at hf
  refine lv_aload_n hx hb dX8_kind_0 rfl (lv_at hl 0 rfl) ?_
  refine lv_iload_n hx hb dX8_kind_1 rfl (lv_at hl 1 rfl) ?_
  obtain ⟨v1, hv1, hf⟩ := g_s1 hf
  refine g_ki S (g_runV (rest := []) X S (c_X8_has l hN hk hv1 _) cvX8_has mlX8_37 (kd_N hk (by decide) hN) (ceC_8 hk _) rfl rfl rfl hl.1 (by decide) ⟨⟨rfl, rfl⟩, ⟨Nat.le_of_ble_eq_true rfl, Nat.le_of_ble_eq_true rfl⟩, Nat.le_of_ble_eq_true rfl, Nat.le_of_ble_eq_true rfl⟩ dX8_kind_2) (fun H locs S => ?_)
  obtain ⟨x2, hr3, hf⟩ := g_s1 hf
  have J4 : ∀ (H : Heap) (locs : List Loc) (ls : Array Slot), gS celC Γ ad N σ s H locs → lv_has ls 2 [] → W p l e (gR 2 0 0) s m args below meth c H locs 0 0 (gQi celC Γ ad N r σ below args s) (F0 m 18 ls [.int x2]) := by
    intro H locs ls S hl
    cases hf
    exact g_reti X S rfl dX8_kind_18
  replace hf := hr3
  refine lv_if_eq (tgt := 17) hx hb dX8_kind_5 (by decide) (fun c5 => ?_) (fun c5 => ?_)
  · have hf := (if_pos c5).symm.trans hf
    refine lv_iconst (v := (0 : Int32)) hx hb dX8_kind_17 (by decide) ?_
    cases hf
    exact J4 _ _ _ S (lv_sub hl [] rfl)
  · have hf := (if_neg c5).symm.trans hf
    refine lv_aload_n hx hb dX8_kind_8 rfl (lv_at hl 0 rfl) ?_
    refine gfX8_18 X S hN hk dX8_kind_9 ?_
    refine lv_iload_n hx hb dX8_kind_12 rfl (lv_at hl 1 rfl) ?_
    obtain ⟨v6, hv6, hf⟩ := g_s1 hf
    refine g_iald X S (kd_N (kd_8_3 hk) (by decide) hN) (ceC_116 (kd_8_3 hk)) hv6 dX8_kind_13 ?_
    refine lv_goto (tgt := 18) hx hb dX8_kind_14 (by decide) ?_
    cases hf
    exact J4 _ _ _ S (lv_sub hl [] rfl)

noncomputable def f_X7_clear (σ : gSt) (k : Nat) : Option (gSt) :=
  (g_k1 (gset σ k 1 (0 : Int32)) fun σ1 => some σ1)
set_option maxRecDepth 100000 in
set_option maxHeartbeats 4000000 in
theorem c_X7_clear (l : Launch) {Γ : gG} {ad : Nat → Nat} {N : Nat} (hN : 202 ≤ N) {σ : gSt} {k : Nat} (hk : gkd k = 7) {σ' : gSt} (hf : f_X7_clear σ k = some σ') : gMv l celC Γ ad N yX7_clear cX7_clear 1 none (gR 1 0 0) [.ref (ad k)] σ σ' := by
  intro sz
  refine gOf (Qc := fun sz => gQcv celC Γ ad N σ' sz) RX7 (by decide) rfl (by decide) (fun p e s m args below meth c H locs ls X S hl => ?_)
  have hl : lv_has ls 1 [(0, .ref (ad k))] := hl
  have hx := X.1
  have hb := X.2.1
  unfold f_X7_clear at hf
  refine lv_aload_n hx hb dX7_clear_0 rfl (lv_at hl 0 rfl) ?_
  refine lv_iconst (v := (0 : Int32)) hx hb dX7_clear_1 (by decide) ?_
  obtain ⟨σ1, hσ1, hf⟩ := g_s1 hf
  refine pfX7_15 X S hN hk hσ1 dX7_clear_2 (fun H locs S => ?_)
  cases hf
  exact g_retv X S dX7_clear_5

noncomputable def f_X8_size (σ : gSt) (k : Nat) (a0 : Int32) : Option (Int32) :=
  (g_k1 (f_X8_has σ k a0) fun v1 => (g_k1 (if v1 = 0 then some (0 : Int32) else (g_k1 (gald σ (k + 4) 16 a0) fun v6 => some v6)) fun x2 => some x2))
set_option maxRecDepth 100000 in
set_option maxHeartbeats 4000000 in
theorem c_X8_size (l : Launch) {Γ : gG} {ad : Nat → Nat} {N : Nat} (hN : 202 ≤ N) {σ : gSt} {k : Nat} {a0 : Int32} (hk : gkd k = 8) {r : Int32} (hf : f_X8_size σ k a0 = some r) : gMi l celC Γ ad N yX8_size cX8_size 2 (some .int) (gR 2 0 0) [.ref (ad k), .int a0] σ r σ := by
  intro sz
  refine gOf (Qc := fun sz => gQci celC Γ ad N r σ sz) RX8 (by decide) rfl (by decide) (fun p e s m args below meth c H locs ls X S hl => ?_)
  have hl : lv_has ls 2 [(0, .ref (ad k)), (1, .int a0)] := hl
  have hx := X.1
  have hb := X.2.1
  unfold f_X8_size at hf
  refine lv_aload_n hx hb dX8_size_0 rfl (lv_at hl 0 rfl) ?_
  refine lv_iload_n hx hb dX8_size_1 rfl (lv_at hl 1 rfl) ?_
  obtain ⟨v1, hv1, hf⟩ := g_s1 hf
  refine g_ki S (g_runV (rest := []) X S (c_X8_has l hN hk hv1 _) cvX8_has mlX8_37 (kd_N hk (by decide) hN) (ceC_8 hk _) rfl rfl rfl hl.1 (by decide) ⟨⟨rfl, rfl⟩, ⟨Nat.le_of_ble_eq_true rfl, Nat.le_of_ble_eq_true rfl⟩, Nat.le_of_ble_eq_true rfl, Nat.le_of_ble_eq_true rfl⟩ dX8_size_2) (fun H locs S => ?_)
  obtain ⟨x2, hr3, hf⟩ := g_s1 hf
  have J4 : ∀ (H : Heap) (locs : List Loc) (ls : Array Slot), gS celC Γ ad N σ s H locs → lv_has ls 2 [] → W p l e (gR 2 0 0) s m args below meth c H locs 0 0 (gQi celC Γ ad N r σ below args s) (F0 m 18 ls [.int x2]) := by
    intro H locs ls S hl
    cases hf
    exact g_reti X S rfl dX8_size_18
  replace hf := hr3
  refine lv_if_eq (tgt := 17) hx hb dX8_size_5 (by decide) (fun c5 => ?_) (fun c5 => ?_)
  · have hf := (if_pos c5).symm.trans hf
    refine lv_iconst (v := (0 : Int32)) hx hb dX8_size_17 (by decide) ?_
    cases hf
    exact J4 _ _ _ S (lv_sub hl [] rfl)
  · have hf := (if_neg c5).symm.trans hf
    refine lv_aload_n hx hb dX8_size_8 rfl (lv_at hl 0 rfl) ?_
    refine gfX8_21 X S hN hk dX8_size_9 ?_
    refine lv_iload_n hx hb dX8_size_12 rfl (lv_at hl 1 rfl) ?_
    obtain ⟨v6, hv6, hf⟩ := g_s1 hf
    refine g_iald X S (kd_N (kd_8_4 hk) (by decide) hN) (ceC_116 (kd_8_4 hk)) hv6 dX8_size_13 ?_
    refine lv_goto (tgt := 18) hx hb dX8_size_14 (by decide) ?_
    cases hf
    exact J4 _ _ _ S (lv_sub hl [] rfl)

noncomputable def f_X8_signAt (σ : gSt) (k : Nat) (a0 : Int32) (a1 : Int32) : Option (Int32) :=
  (g_k1 (f_X8_has σ k a0) fun v1 => (if v1 = 0 then some (-1 : Int32) else (if a1 < 0 then some (-1 : Int32) else (g_k1 (gald σ (k + 4) 16 a0) fun v4 => (if v4 ≤ a1 then some (-1 : Int32) else (if a1 < (24 : Int32) then (g_k1 (gald σ (k + 5) 384 ((a0 * (24 : Int32)) + a1)) fun v7 => some v7) else some (-1 : Int32)))))))
set_option maxRecDepth 100000 in
set_option maxHeartbeats 4000000 in
theorem c_X8_signAt (l : Launch) {Γ : gG} {ad : Nat → Nat} {N : Nat} (hN : 202 ≤ N) {σ : gSt} {k : Nat} {a0 : Int32} {a1 : Int32} (hk : gkd k = 8) {r : Int32} (hf : f_X8_signAt σ k a0 a1 = some r) : gMi l celC Γ ad N yX8_signAt cX8_signAt 3 (some .int) (gR 2 0 0) [.ref (ad k), .int a0, .int a1] σ r σ := by
  intro sz
  refine gOf (Qc := fun sz => gQci celC Γ ad N r σ sz) RX8 (by decide) rfl (by decide) (fun p e s m args below meth c H locs ls X S hl => ?_)
  have hl : lv_has ls 3 [(0, .ref (ad k)), (1, .int a0), (2, .int a1)] := hl
  have hx := X.1
  have hb := X.2.1
  unfold f_X8_signAt at hf
  refine lv_aload_n hx hb dX8_signAt_0 rfl (lv_at hl 0 rfl) ?_
  refine lv_iload_n hx hb dX8_signAt_1 rfl (lv_at hl 1 rfl) ?_
  obtain ⟨v1, hv1, hf⟩ := g_s1 hf
  refine g_ki S (g_runV (rest := []) X S (c_X8_has l hN hk hv1 _) cvX8_has mlX8_37 (kd_N hk (by decide) hN) (ceC_8 hk _) rfl rfl rfl hl.1 (by decide) ⟨⟨rfl, rfl⟩, ⟨Nat.le_of_ble_eq_true rfl, Nat.le_of_ble_eq_true rfl⟩, Nat.le_of_ble_eq_true rfl, Nat.le_of_ble_eq_true rfl⟩ dX8_signAt_2) (fun H locs S => ?_)
  refine lv_if_eq (tgt := 28) hx hb dX8_signAt_5 (by decide) (fun c2 => ?_) (fun c2 => ?_)
  · have hf := (if_pos c2).symm.trans hf
    refine lv_iconst (v := (-1 : Int32)) hx hb dX8_signAt_28 (by decide) ?_
    cases hf
    exact g_reti X S rfl dX8_signAt_29
  · have hf := (if_neg c2).symm.trans hf
    refine lv_iload_n hx hb dX8_signAt_8 rfl (lv_at hl 2 rfl) ?_
    refine lv_if_lt (tgt := 28) hx hb dX8_signAt_9 (by decide) (fun c3 => ?_) (fun c3 => ?_)
    · have hf := (if_pos c3).symm.trans hf
      refine lv_iconst (v := (-1 : Int32)) hx hb dX8_signAt_28 (by decide) ?_
      cases hf
      exact g_reti X S rfl dX8_signAt_29
    · have hf := (if_neg c3).symm.trans hf
      refine lv_iload_n hx hb dX8_signAt_12 rfl (lv_at hl 2 rfl) ?_
      refine lv_aload_n hx hb dX8_signAt_13 rfl (lv_at hl 0 rfl) ?_
      refine gfX8_21 X S hN hk dX8_signAt_14 ?_
      refine lv_iload_n hx hb dX8_signAt_17 rfl (lv_at hl 1 rfl) ?_
      obtain ⟨v4, hv4, hf⟩ := g_s1 hf
      refine g_iald X S (kd_N (kd_8_4 hk) (by decide) hN) (ceC_116 (kd_8_4 hk)) hv4 dX8_signAt_18 ?_
      refine lv_icmp_ge (tgt := 28) hx hb dX8_signAt_19 (by decide) (fun c5 => ?_) (fun c5 => ?_)
      · have hf := (if_pos c5).symm.trans hf
        refine lv_iconst (v := (-1 : Int32)) hx hb dX8_signAt_28 (by decide) ?_
        cases hf
        exact g_reti X S rfl dX8_signAt_29
      · have hf := (if_neg c5).symm.trans hf
        refine lv_iload_n hx hb dX8_signAt_22 rfl (lv_at hl 2 rfl) ?_
        refine lv_bipush (v := (24 : Int32)) hx hb dX8_signAt_23 (by decide) ?_
        refine lv_icmp_lt (tgt := 30) hx hb dX8_signAt_25 (by decide) (fun c6 => ?_) (fun c6 => ?_)
        · have hf := (if_pos c6).symm.trans hf
          refine lv_aload_n hx hb dX8_signAt_30 rfl (lv_at hl 0 rfl) ?_
          refine gfX8_24 X S hN hk dX8_signAt_31 ?_
          refine lv_iload_n hx hb dX8_signAt_34 rfl (lv_at hl 1 rfl) ?_
          refine lv_bipush (v := (24 : Int32)) hx hb dX8_signAt_35 (by decide) ?_
          refine lv_imul hx hb dX8_signAt_37 ?_
          refine lv_iload_n hx hb dX8_signAt_38 rfl (lv_at hl 2 rfl) ?_
          refine lv_iadd hx hb dX8_signAt_39 ?_
          obtain ⟨v7, hv7, hf⟩ := g_s1 hf
          refine g_iald X S (kd_N (kd_8_5 hk) (by decide) hN) (ceC_484 (kd_8_5 hk)) hv7 dX8_signAt_40 ?_
          cases hf
          exact g_reti X S rfl dX8_signAt_41
        · have hf := (if_neg c6).symm.trans hf
          refine lv_iconst (v := (-1 : Int32)) hx hb dX8_signAt_28 (by decide) ?_
          cases hf
          exact g_reti X S rfl dX8_signAt_29

noncomputable def f_X7_append (σ : gSt) (k : Nat) (a0 : Int32) : Option (Int32 × gSt) :=
  (if (σ k 1) < 0 then some ((0 : Int32), σ) else (if (σ k 1) < (60 : Int32) then (g_k1 (gast σ (k + 1) 60 (σ k 1) a0) fun σ3 => (g_k1 (gset σ3 k 1 ((σ3 k 1) + (1 : Int32))) fun σ4 => some ((1 : Int32), σ4))) else some ((0 : Int32), σ)))
set_option maxRecDepth 100000 in
set_option maxHeartbeats 4000000 in
theorem c_X7_append (l : Launch) {Γ : gG} {ad : Nat → Nat} {N : Nat} (hN : 202 ≤ N) {σ : gSt} {k : Nat} {a0 : Int32} (hk : gkd k = 7) {r : Int32} {σ' : gSt} (hf : f_X7_append σ k a0 = some (r, σ')) : gMi l celC Γ ad N yX7_append cX7_append 2 (some .boolean) (gR 1 0 0) [.ref (ad k), .int a0] σ r σ' := by
  intro sz
  refine gOf (Qc := fun sz => gQci celC Γ ad N r σ' sz) RX7 (by decide) rfl (by decide) (fun p e s m args below meth c H locs ls X S hl => ?_)
  have hl : lv_has ls 2 [(0, .ref (ad k)), (1, .int a0)] := hl
  have hx := X.1
  have hb := X.2.1
  unfold f_X7_append at hf
  refine lv_aload_n hx hb dX7_append_0 rfl (lv_at hl 0 rfl) ?_
  refine gfX7_15 X S hN hk dX7_append_1 ?_
  refine lv_if_lt (tgt := 19) hx hb dX7_append_4 (by decide) (fun c1 => ?_) (fun c1 => ?_)
  · have hf := (if_pos c1).symm.trans hf
    refine lv_iconst (v := (0 : Int32)) hx hb dX7_append_19 (by decide) ?_
    cases hf
    exact g_reti X S (by decide +kernel) dX7_append_20
  · have hf := (if_neg c1).symm.trans hf
    refine lv_aload_n hx hb dX7_append_7 rfl (lv_at hl 0 rfl) ?_
    refine gfX7_15 X S hN hk dX7_append_8 ?_
    refine lv_aload_n hx hb dX7_append_11 rfl (lv_at hl 0 rfl) ?_
    refine gfX7_9 X S hN hk dX7_append_12 ?_
    refine g_alen (v := (60 : Int32)) X S (kd_N (kd_7_1 hk) (by decide) hN) (ceC_160 (kd_7_1 hk)) (by decide) dX7_append_15 ?_
    refine lv_icmp_lt (tgt := 21) hx hb dX7_append_16 (by decide) (fun c2 => ?_) (fun c2 => ?_)
    · have hf := (if_pos c2).symm.trans hf
      refine lv_aload_n hx hb dX7_append_21 rfl (lv_at hl 0 rfl) ?_
      refine gfX7_9 X S hN hk dX7_append_22 ?_
      refine lv_aload_n hx hb dX7_append_25 rfl (lv_at hl 0 rfl) ?_
      refine gfX7_15 X S hN hk dX7_append_26 ?_
      refine lv_iload_n hx hb dX7_append_29 rfl (lv_at hl 1 rfl) ?_
      obtain ⟨σ3, hσ3, hf⟩ := g_s1 hf
      refine g_iast X S (kd_N (kd_7_1 hk) (by decide) hN) (ceC_160 (kd_7_1 hk)) hσ3 dX7_append_30 (fun H locs S => ?_)
      refine lv_aload_n hx hb dX7_append_31 rfl (lv_at hl 0 rfl) ?_
      refine lv_dup hx hb dX7_append_32 rfl ?_
      refine gfX7_15 X S hN hk dX7_append_33 ?_
      refine lv_iconst (v := (1 : Int32)) hx hb dX7_append_36 (by decide) ?_
      refine lv_iadd hx hb dX7_append_37 ?_
      obtain ⟨σ4, hσ4, hf⟩ := g_s1 hf
      refine pfX7_15 X S hN hk hσ4 dX7_append_38 (fun H locs S => ?_)
      refine lv_iconst (v := (1 : Int32)) hx hb dX7_append_41 (by decide) ?_
      cases hf
      exact g_reti X S (by decide +kernel) dX7_append_42
    · have hf := (if_neg c2).symm.trans hf
      refine lv_iconst (v := (0 : Int32)) hx hb dX7_append_19 (by decide) ?_
      cases hf
      exact g_reti X S (by decide +kernel) dX7_append_20

noncomputable def f_X8_appendTextTo_l1 (σ : gSt) (k : Nat) (a0 : Nat) (a1 : Int32) (a3 : Int32) : Nat → Int32 → gSt → Option (gSt)
  | 0, _, _ => none
  | n + 1, i1, σ2 => (if a3 ≤ i1 then some σ2 else (g_k1 (f_X8_signAt σ2 k a1 i1) fun v5 => (g_k1 (if v5 = (-1 : Int32) then some σ2 else (g_k2 (f_X7_append σ2 a0 v5) fun v10 σ11 => some σ11)) fun σ6 => (f_X8_appendTextTo_l1 σ k a0 a1 a3 n (i1 + 1) σ6))))
set_option maxRecDepth 100000 in
set_option maxHeartbeats 4000000 in
theorem w_X8_appendTextTo_l1 {l : Launch} {Γ : gG} {ad : Nat → Nat} {N : Nat} {p : Program} {e : Env} {s : State} {m : MethodId} {args : Array Value} {below : List Frame} {meth : Method} {c : Code} {Q : State → Prop} (hN : 202 ≤ N) (X : gX celC Γ ad N RX8 cX8_appendTextTo 7 none p s m args meth c) {σ : gSt} {k : Nat} {a0 : Nat} {a1 : Int32} {a3 : Int32} (hk : gkd k = 8) (ha0 : gkd a0 = 7) : ∀ (n : Nat) (i1 : Int32) (σ2 : gSt) (σ3 : gSt), f_X8_appendTextTo_l1 σ k a0 a1 a3 n i1 σ2 = some σ3 → (∀ (H : Heap) (locs : List Loc) (ls : Array Slot), gS celC Γ ad N σ3 s H locs → lv_has ls 7 [] → W p l e (gR 3 0 0) s m args below meth c H locs 0 0 (Q) (F0 m 38 ls [])) → ∀ (H : Heap) (locs : List Loc) (ls : Array Slot), gS celC Γ ad N σ2 s H locs → lv_has ls 7 [(5, .int i1), (0, .ref (ad k)), (1, .ref (ad a0)), (2, .int a1), (4, .int a3)] → W p l e (gR 3 0 0) s m args below meth c H locs 0 0 (Q) (F0 m 3 ls []) := by
  have hx := X.1
  have hb := X.2.1
  intro n
  induction n with
  | zero =>
    intro i1 σ2 σ3 hf
    cases hf
  | succ n ih =>
    intro i1 σ2 σ3 hf J H locs ls S hl
    rw [f_X8_appendTextTo_l1] at hf
    refine lv_iload hx hb dX8_appendTextTo_3 (lv_at hl 0 rfl) ?_
    refine lv_iload hx hb dX8_appendTextTo_5 (lv_at hl 4 rfl) ?_
    refine lv_icmp_ge (tgt := 38) hx hb dX8_appendTextTo_7 (by decide) (fun c4 => ?_) (fun c4 => ?_)
    · have hf := (if_pos c4).symm.trans hf
      cases hf
      exact J _ _ _ S (lv_sub hl [] rfl)
    · have hf := (if_neg c4).symm.trans hf
      refine lv_aload_n hx hb dX8_appendTextTo_10 rfl (lv_at hl 1 rfl) ?_
      refine lv_iload_n hx hb dX8_appendTextTo_11 rfl (lv_at hl 3 rfl) ?_
      refine lv_iload hx hb dX8_appendTextTo_12 (lv_at hl 0 rfl) ?_
      obtain ⟨v5, hv5, hf⟩ := g_s1 hf
      refine g_ki S (g_runV (rest := []) X S (c_X8_signAt l hN hk hv5 _) cvX8_signAt mlX8_55 (kd_N hk (by decide) hN) (ceC_8 hk _) rfl rfl rfl hl.1 (by decide) ⟨⟨rfl, rfl⟩, ⟨Nat.le_of_ble_eq_true rfl, Nat.le_of_ble_eq_true rfl⟩, Nat.le_of_ble_eq_true rfl, Nat.le_of_ble_eq_true rfl⟩ dX8_appendTextTo_14) (fun H locs S => ?_)
      refine lv_istore (lv' := [(6, .int v5), (5, .int i1), (0, .ref (ad k)), (1, .ref (ad a0)), (2, .int a1), (4, .int a3)]) hx hb dX8_appendTextTo_17 hl (by decide) rfl (fun ls hl => ?_)
      refine lv_iload hx hb dX8_appendTextTo_19 (lv_at hl 0 rfl) ?_
      refine lv_iconst (v := (-1 : Int32)) hx hb dX8_appendTextTo_21 (by decide) ?_
      obtain ⟨σ6, hr7, hf⟩ := g_s1 hf
      have J8 : ∀ (H : Heap) (locs : List Loc) (ls : Array Slot), gS celC Γ ad N σ6 s H locs → lv_has ls 7 [(5, .int i1), (0, .ref (ad k)), (1, .ref (ad a0)), (2, .int a1), (4, .int a3)] → W p l e (gR 3 0 0) s m args below meth c H locs 0 0 (Q) (F0 m 32 ls []) := by
        intro H locs ls S hl
        refine lv_iinc (v := (i1 + 1)) (lv' := [(5, .int (i1 + 1)), (0, .ref (ad k)), (1, .ref (ad a0)), (2, .int a1), (4, .int a3)]) hx hb dX8_appendTextTo_32 hl (k := 0) rfl rfl (by decide) rfl (fun ls hl => ?_)
        refine lv_goto (tgt := 3) hx hb dX8_appendTextTo_35 (by decide) ?_
        exact ih _ _ _  hf J _ _ _ S (lv_sub hl [0, 1, 2, 3, 4] rfl)
      replace hf := hr7
      refine lv_icmp_eq (tgt := 32) hx hb dX8_appendTextTo_22 (by decide) (fun c9 => ?_) (fun c9 => ?_)
      · have hf := (if_pos c9).symm.trans hf
        cases hf
        exact J8 _ _ _ S (lv_sub hl [1, 2, 3, 4, 5] rfl)
      · have hf := (if_neg c9).symm.trans hf
        refine lv_aload_n hx hb dX8_appendTextTo_25 rfl (lv_at hl 3 rfl) ?_
        refine lv_iload hx hb dX8_appendTextTo_26 (lv_at hl 0 rfl) ?_
        obtain ⟨v10, σ11, hv10, hf⟩ := g_s2 hf
        refine g_ki S (g_runV (rest := []) X S (c_X7_append l hN ha0 hv10 _) cvX7_append mlX8_76 (kd_N ha0 (by decide) hN) (ceC_7 ha0 _) rfl rfl rfl hl.1 (by decide) ⟨⟨rfl, rfl⟩, ⟨Nat.le_of_ble_eq_true rfl, Nat.le_of_ble_eq_true rfl⟩, Nat.le_of_ble_eq_true rfl, Nat.le_of_ble_eq_true rfl⟩ dX8_appendTextTo_28) (fun H locs S => ?_)
        refine lv_pop hx hb dX8_appendTextTo_31 rfl ?_
        cases hf
        exact J8 _ _ _ S (lv_sub hl [1, 2, 3, 4, 5] rfl)
noncomputable def f_X8_appendTextTo (σ : gSt) (k : Nat) (a0 : Nat) (a1 : Int32) (a2 : Int32) (a3 : Int32) : Option (gSt) :=
  (g_k1 (f_X8_appendTextTo_l1 σ k a0 a1 a3 FU a2 σ) fun σ3 => some σ3)
set_option maxRecDepth 100000 in
set_option maxHeartbeats 4000000 in
theorem c_X8_appendTextTo (l : Launch) {Γ : gG} {ad : Nat → Nat} {N : Nat} (hN : 202 ≤ N) {σ : gSt} {k : Nat} {a0 : Nat} {a1 : Int32} {a2 : Int32} {a3 : Int32} (hk : gkd k = 8) (ha0 : gkd a0 = 7) {σ' : gSt} (hf : f_X8_appendTextTo σ k a0 a1 a2 a3 = some σ') : gMv l celC Γ ad N yX8_appendTextTo cX8_appendTextTo 7 none (gR 3 0 0) [.ref (ad k), .ref (ad a0), .int a1, .int a2, .int a3] σ σ' := by
  intro sz
  refine gOf (Qc := fun sz => gQcv celC Γ ad N σ' sz) RX8 (by decide) rfl (by decide) (fun p e s m args below meth c H locs ls X S hl => ?_)
  have hl : lv_has ls 7 [(5, .int a2), (0, .ref (ad k)), (1, .ref (ad a0)), (2, .int a1), (4, .int a3)] := hl
  have hx := X.1
  have hb := X.2.1
  unfold f_X8_appendTextTo at hf
  refine lv_iload_n hx hb dX8_appendTextTo_0 rfl (lv_at hl 3 rfl) ?_
  refine lv_istore (lv' := [(5, .int a2), (0, .ref (ad k)), (1, .ref (ad a0)), (2, .int a1), (3, .int a2), (4, .int a3)]) hx hb dX8_appendTextTo_1 hl (by decide) rfl (fun ls hl => ?_)
  obtain ⟨σ3, hr12, hf⟩ := g_s1 hf
  refine w_X8_appendTextTo_l1 hN X hk ha0 FU _ _ _  hr12 (fun H locs ls S hl => ?_) _ _ _ S (lv_sub hl [0, 1, 2, 3, 4] rfl)
  cases hf
  exact g_retv X S dX8_appendTextTo_38

noncomputable def f_X8_isRow (σ : gSt) (a0 : Int32) : Option (Int32) :=
  (g_k1 (if a0 < 0 then some (0 : Int32) else (if (16 : Int32) ≤ a0 then some (0 : Int32) else some (1 : Int32))) fun x1 => (g_k1 (gzb x1) fun v4 => some v4))
set_option maxRecDepth 100000 in
set_option maxHeartbeats 4000000 in
theorem c_X8_isRow (l : Launch) {Γ : gG} {ad : Nat → Nat} {N : Nat} (hN : 202 ≤ N) {σ : gSt} {a0 : Int32}  {r : Int32} (hf : f_X8_isRow σ a0 = some r) : gMi l celC Γ ad N yX8_isRow cX8_isRow 1 (some .boolean) (gR 1 0 0) [.int a0] σ r σ := by
  intro sz
  refine gOf (Qc := fun sz => gQci celC Γ ad N r σ sz) RX8 (by decide) rfl (by decide) (fun p e s m args below meth c H locs ls X S hl => ?_)
  have hl : lv_has ls 1 [(0, .int a0)] := hl
  have hx := X.1
  have hb := X.2.1
  unfold f_X8_isRow at hf
  refine lv_iload_n hx hb dX8_isRow_0 rfl (lv_at hl 0 rfl) ?_
  obtain ⟨x1, hr2, hf⟩ := g_s1 hf
  have J3 : ∀ (H : Heap) (locs : List Loc) (ls : Array Slot), gS celC Γ ad N σ s H locs → lv_has ls 1 [] → W p l e (gR 1 0 0) s m args below meth c H locs 0 0 (gQi celC Γ ad N r σ below args s) (F0 m 15 ls [.int x1]) := by
    intro H locs ls S hl
    obtain ⟨v4, hv4, hf⟩ := g_s1 hf
    obtain ⟨hnv4, rfl⟩ := gzb_some hv4
    cases hf
    exact g_reti X S hnv4 dX8_isRow_15
  replace hf := hr2
  refine lv_if_lt (tgt := 14) hx hb dX8_isRow_1 (by decide) (fun c5 => ?_) (fun c5 => ?_)
  · have hf := (if_pos c5).symm.trans hf
    refine lv_iconst (v := (0 : Int32)) hx hb dX8_isRow_14 (by decide) ?_
    cases hf
    exact J3 _ _ _ S (lv_sub hl [] rfl)
  · have hf := (if_neg c5).symm.trans hf
    refine lv_iload_n hx hb dX8_isRow_4 rfl (lv_at hl 0 rfl) ?_
    refine lv_bipush (v := (16 : Int32)) hx hb dX8_isRow_5 (by decide) ?_
    refine lv_icmp_ge (tgt := 14) hx hb dX8_isRow_7 (by decide) (fun c6 => ?_) (fun c6 => ?_)
    · have hf := (if_pos c6).symm.trans hf
      refine lv_iconst (v := (0 : Int32)) hx hb dX8_isRow_14 (by decide) ?_
      cases hf
      exact J3 _ _ _ S (lv_sub hl [] rfl)
    · have hf := (if_neg c6).symm.trans hf
      refine lv_iconst (v := (1 : Int32)) hx hb dX8_isRow_10 (by decide) ?_
      refine lv_goto (tgt := 15) hx hb dX8_isRow_11 (by decide) ?_
      cases hf
      exact J3 _ _ _ S (lv_sub hl [] rfl)

noncomputable def f_X8_copyRow (σ : gSt) (k : Nat) (a0 : Int32) (a1 : Int32) : Option (gSt) :=
  (g_k1 (f_X8_isRow σ a0) fun v1 => (if v1 = 0 then some σ else (g_k1 (f_X8_isRow σ a1) fun v3 => (if v3 = 0 then some σ else (g_k1 (gald σ (k + 1) 16 a0) fun v5 => (g_k1 (gast σ (k + 1) 16 a1 v5) fun σ6 => (g_k1 (gald σ6 (k + 2) 16 a0) fun v7 => (g_k1 (gast σ6 (k + 2) 16 a1 v7) fun σ8 => (g_k1 (gald σ8 (k + 3) 16 a0) fun v9 => (g_k1 (gast σ8 (k + 3) 16 a1 v9) fun σ10 => (g_k1 (gald σ10 (k + 4) 16 a0) fun v11 => (g_k1 (gast σ10 (k + 4) 16 a1 v11) fun σ12 => (g_k1 (gcpy σ12 (k + 5) 384 (k + 5) 384 (a0 * (24 : Int32)) (a1 * (24 : Int32)) (24 : Int32)) fun σ13 => some σ13)))))))))))))
set_option maxRecDepth 100000 in
set_option maxHeartbeats 4000000 in
theorem c_X8_copyRow (l : Launch) {Γ : gG} {ad : Nat → Nat} {N : Nat} (hN : 202 ≤ N) {σ : gSt} {k : Nat} {a0 : Int32} {a1 : Int32} (hk : gkd k = 8) {σ' : gSt} (hf : f_X8_copyRow σ k a0 a1 = some σ') : gMv l celC Γ ad N yX8_copyRow cX8_copyRow 3 none (gR 2 0 0) [.ref (ad k), .int a0, .int a1] σ σ' := by
  intro sz
  refine gOf (Qc := fun sz => gQcv celC Γ ad N σ' sz) RX8 (by decide) rfl (by decide) (fun p e s m args below meth c H locs ls X S hl => ?_)
  have hl : lv_has ls 3 [(0, .ref (ad k)), (1, .int a0), (2, .int a1)] := hl
  have hx := X.1
  have hb := X.2.1
  unfold f_X8_copyRow at hf
  refine lv_iload_n hx hb dX8_copyRow_0 rfl (lv_at hl 1 rfl) ?_
  obtain ⟨v1, hv1, hf⟩ := g_s1 hf
  refine g_ki S (g_runS (rest := []) X S (c_X8_isRow l hN  hv1 _) csX8_isRow mlX8_85 rfl rfl hl.1 (by decide) ⟨⟨rfl, rfl⟩, ⟨Nat.le_of_ble_eq_true rfl, Nat.le_of_ble_eq_true rfl⟩, Nat.le_of_ble_eq_true rfl, Nat.le_of_ble_eq_true rfl⟩ dX8_copyRow_1) (fun H locs S => ?_)
  refine lv_if_eq (tgt := 14) hx hb dX8_copyRow_4 (by decide) (fun c2 => ?_) (fun c2 => ?_)
  · have hf := (if_pos c2).symm.trans hf
    cases hf
    exact g_retv X S dX8_copyRow_14
  · have hf := (if_neg c2).symm.trans hf
    refine lv_iload_n hx hb dX8_copyRow_7 rfl (lv_at hl 2 rfl) ?_
    obtain ⟨v3, hv3, hf⟩ := g_s1 hf
    refine g_ki S (g_runS (rest := []) X S (c_X8_isRow l hN  hv3 _) csX8_isRow mlX8_85 rfl rfl hl.1 (by decide) ⟨⟨rfl, rfl⟩, ⟨Nat.le_of_ble_eq_true rfl, Nat.le_of_ble_eq_true rfl⟩, Nat.le_of_ble_eq_true rfl, Nat.le_of_ble_eq_true rfl⟩ dX8_copyRow_8) (fun H locs S => ?_)
    refine lv_if_ne (tgt := 15) hx hb dX8_copyRow_11 (by decide) (fun c4 => ?_) (fun c4 => ?_)
    · have hf := (if_neg c4).symm.trans hf
      refine lv_aload_n hx hb dX8_copyRow_15 rfl (lv_at hl 0 rfl) ?_
      refine gfX8_9 X S hN hk dX8_copyRow_16 ?_
      refine lv_iload_n hx hb dX8_copyRow_19 rfl (lv_at hl 2 rfl) ?_
      refine lv_aload_n hx hb dX8_copyRow_20 rfl (lv_at hl 0 rfl) ?_
      refine gfX8_9 X S hN hk dX8_copyRow_21 ?_
      refine lv_iload_n hx hb dX8_copyRow_24 rfl (lv_at hl 1 rfl) ?_
      obtain ⟨v5, hv5, hf⟩ := g_s1 hf
      refine g_iald X S (kd_N (kd_8_1 hk) (by decide) hN) (ceC_116 (kd_8_1 hk)) hv5 dX8_copyRow_25 ?_
      obtain ⟨σ6, hσ6, hf⟩ := g_s1 hf
      refine g_iast X S (kd_N (kd_8_1 hk) (by decide) hN) (ceC_116 (kd_8_1 hk)) hσ6 dX8_copyRow_26 (fun H locs S => ?_)
      refine lv_aload_n hx hb dX8_copyRow_27 rfl (lv_at hl 0 rfl) ?_
      refine gfX8_15 X S hN hk dX8_copyRow_28 ?_
      refine lv_iload_n hx hb dX8_copyRow_31 rfl (lv_at hl 2 rfl) ?_
      refine lv_aload_n hx hb dX8_copyRow_32 rfl (lv_at hl 0 rfl) ?_
      refine gfX8_15 X S hN hk dX8_copyRow_33 ?_
      refine lv_iload_n hx hb dX8_copyRow_36 rfl (lv_at hl 1 rfl) ?_
      obtain ⟨v7, hv7, hf⟩ := g_s1 hf
      refine g_iald X S (kd_N (kd_8_2 hk) (by decide) hN) (ceC_116 (kd_8_2 hk)) hv7 dX8_copyRow_37 ?_
      obtain ⟨σ8, hσ8, hf⟩ := g_s1 hf
      refine g_iast X S (kd_N (kd_8_2 hk) (by decide) hN) (ceC_116 (kd_8_2 hk)) hσ8 dX8_copyRow_38 (fun H locs S => ?_)
      refine lv_aload_n hx hb dX8_copyRow_39 rfl (lv_at hl 0 rfl) ?_
      refine gfX8_18 X S hN hk dX8_copyRow_40 ?_
      refine lv_iload_n hx hb dX8_copyRow_43 rfl (lv_at hl 2 rfl) ?_
      refine lv_aload_n hx hb dX8_copyRow_44 rfl (lv_at hl 0 rfl) ?_
      refine gfX8_18 X S hN hk dX8_copyRow_45 ?_
      refine lv_iload_n hx hb dX8_copyRow_48 rfl (lv_at hl 1 rfl) ?_
      obtain ⟨v9, hv9, hf⟩ := g_s1 hf
      refine g_iald X S (kd_N (kd_8_3 hk) (by decide) hN) (ceC_116 (kd_8_3 hk)) hv9 dX8_copyRow_49 ?_
      obtain ⟨σ10, hσ10, hf⟩ := g_s1 hf
      refine g_iast X S (kd_N (kd_8_3 hk) (by decide) hN) (ceC_116 (kd_8_3 hk)) hσ10 dX8_copyRow_50 (fun H locs S => ?_)
      refine lv_aload_n hx hb dX8_copyRow_51 rfl (lv_at hl 0 rfl) ?_
      refine gfX8_21 X S hN hk dX8_copyRow_52 ?_
      refine lv_iload_n hx hb dX8_copyRow_55 rfl (lv_at hl 2 rfl) ?_
      refine lv_aload_n hx hb dX8_copyRow_56 rfl (lv_at hl 0 rfl) ?_
      refine gfX8_21 X S hN hk dX8_copyRow_57 ?_
      refine lv_iload_n hx hb dX8_copyRow_60 rfl (lv_at hl 1 rfl) ?_
      obtain ⟨v11, hv11, hf⟩ := g_s1 hf
      refine g_iald X S (kd_N (kd_8_4 hk) (by decide) hN) (ceC_116 (kd_8_4 hk)) hv11 dX8_copyRow_61 ?_
      obtain ⟨σ12, hσ12, hf⟩ := g_s1 hf
      refine g_iast X S (kd_N (kd_8_4 hk) (by decide) hN) (ceC_116 (kd_8_4 hk)) hσ12 dX8_copyRow_62 (fun H locs S => ?_)
      refine lv_aload_n hx hb dX8_copyRow_63 rfl (lv_at hl 0 rfl) ?_
      refine gfX8_24 X S hN hk dX8_copyRow_64 ?_
      refine lv_iload_n hx hb dX8_copyRow_67 rfl (lv_at hl 1 rfl) ?_
      refine lv_bipush (v := (24 : Int32)) hx hb dX8_copyRow_68 (by decide) ?_
      refine lv_imul hx hb dX8_copyRow_70 ?_
      refine lv_aload_n hx hb dX8_copyRow_71 rfl (lv_at hl 0 rfl) ?_
      refine gfX8_24 X S hN hk dX8_copyRow_72 ?_
      refine lv_iload_n hx hb dX8_copyRow_75 rfl (lv_at hl 2 rfl) ?_
      refine lv_bipush (v := (24 : Int32)) hx hb dX8_copyRow_76 (by decide) ?_
      refine lv_imul hx hb dX8_copyRow_78 ?_
      refine lv_bipush (v := (24 : Int32)) hx hb dX8_copyRow_79 (by decide) ?_
      obtain ⟨σ13, hσ13, hf⟩ := g_s1 hf
      refine g_copy X S hl.1 mlX8_31 wac_n wac_s wac_i (kd_N (kd_8_5 hk) (by decide) hN) (kd_N (kd_8_5 hk) (by decide) hN) (ceC_484 (kd_8_5 hk)) (ceC_484 (kd_8_5 hk)) hσ13 (by decide) (Nat.le_of_ble_eq_true rfl) dX8_copyRow_81 (fun H locs S => ?_)
      cases hf
      exact g_retv X S dX8_copyRow_84
    · have hf := (if_pos c4).symm.trans hf
      cases hf
      exact g_retv X S dX8_copyRow_14

noncomputable def f_X8_closeRow_l1 (σ : gSt) (k : Nat) : Nat → Int32 → gSt → Option (gSt)
  | 0, _, _ => none
  | n + 1, i3, σ4 => (if (σ4 k 5) ≤ i3 then some σ4 else (g_k1 (f_X8_copyRow σ4 k i3 (i3 - (1 : Int32))) fun σ7 => (f_X8_closeRow_l1 σ k n (i3 + 1) σ7)))
set_option maxRecDepth 100000 in
set_option maxHeartbeats 4000000 in
theorem w_X8_closeRow_l1 {l : Launch} {Γ : gG} {ad : Nat → Nat} {N : Nat} {p : Program} {e : Env} {s : State} {m : MethodId} {args : Array Value} {below : List Frame} {meth : Method} {c : Code} {Q : State → Prop} (hN : 202 ≤ N) (X : gX celC Γ ad N RX8 cX8_closeRow 3 none p s m args meth c) {σ : gSt} {k : Nat} (hk : gkd k = 8) : ∀ (n : Nat) (i3 : Int32) (σ4 : gSt) (σ5 : gSt), f_X8_closeRow_l1 σ k n i3 σ4 = some σ5 → (∀ (H : Heap) (locs : List Loc) (ls : Array Slot), gS celC Γ ad N σ5 s H locs → lv_has ls 3 [(0, .ref (ad k))] → W p l e (gR 3 0 0) s m args below meth c H locs 0 0 (Q) (F0 m 35 ls [])) → ∀ (H : Heap) (locs : List Loc) (ls : Array Slot), gS celC Γ ad N σ4 s H locs → lv_has ls 3 [(2, .int i3), (0, .ref (ad k))] → W p l e (gR 3 0 0) s m args below meth c H locs 0 0 (Q) (F0 m 13 ls []) := by
  have hx := X.1
  have hb := X.2.1
  intro n
  induction n with
  | zero =>
    intro i3 σ4 σ5 hf
    cases hf
  | succ n ih =>
    intro i3 σ4 σ5 hf J H locs ls S hl
    rw [f_X8_closeRow_l1] at hf
    refine lv_iload_n hx hb dX8_closeRow_13 rfl (lv_at hl 0 rfl) ?_
    refine lv_aload_n hx hb dX8_closeRow_14 rfl (lv_at hl 1 rfl) ?_
    refine gfX8_27 X S hN hk dX8_closeRow_15 ?_
    refine lv_icmp_ge (tgt := 35) hx hb dX8_closeRow_18 (by decide) (fun c6 => ?_) (fun c6 => ?_)
    · have hf := (if_pos c6).symm.trans hf
      cases hf
      exact J _ _ _ S (lv_sub hl [1] rfl)
    · have hf := (if_neg c6).symm.trans hf
      refine lv_aload_n hx hb dX8_closeRow_21 rfl (lv_at hl 1 rfl) ?_
      refine lv_iload_n hx hb dX8_closeRow_22 rfl (lv_at hl 0 rfl) ?_
      refine lv_iload_n hx hb dX8_closeRow_23 rfl (lv_at hl 0 rfl) ?_
      refine lv_iconst (v := (1 : Int32)) hx hb dX8_closeRow_24 (by decide) ?_
      refine lv_isub hx hb dX8_closeRow_25 ?_
      obtain ⟨σ7, hσ7, hf⟩ := g_s1 hf
      refine g_kv S (g_runV (rest := []) X S (c_X8_copyRow l hN hk hσ7 _) cvX8_copyRow mlX8_88 (kd_N hk (by decide) hN) (ceC_8 hk _) rfl rfl rfl hl.1 (by decide) ⟨⟨rfl, rfl⟩, ⟨Nat.le_of_ble_eq_true rfl, Nat.le_of_ble_eq_true rfl⟩, Nat.le_of_ble_eq_true rfl, Nat.le_of_ble_eq_true rfl⟩ dX8_closeRow_26) (fun H locs S => ?_)
      refine lv_iinc (v := (i3 + 1)) (lv' := [(2, .int (i3 + 1)), (0, .ref (ad k))]) hx hb dX8_closeRow_29 hl (k := 0) rfl rfl (by decide) rfl (fun ls hl => ?_)
      refine lv_goto (tgt := 13) hx hb dX8_closeRow_32 (by decide) ?_
      exact ih _ _ _  hf J _ _ _ S (lv_sub hl [0, 1] rfl)
noncomputable def f_X8_closeRow (σ : gSt) (k : Nat) (a0 : Int32) : Option (gSt) :=
  (g_k1 (f_X8_has σ k a0) fun v1 => (if v1 = 0 then some σ else (g_k1 (f_X8_closeRow_l1 σ k FU (a0 + (1 : Int32)) σ) fun σ5 => (g_k1 (gset σ5 k 5 ((σ5 k 5) - (1 : Int32))) fun σ9 => some σ9))))
set_option maxRecDepth 100000 in
set_option maxHeartbeats 4000000 in
theorem c_X8_closeRow (l : Launch) {Γ : gG} {ad : Nat → Nat} {N : Nat} (hN : 202 ≤ N) {σ : gSt} {k : Nat} {a0 : Int32} (hk : gkd k = 8) {σ' : gSt} (hf : f_X8_closeRow σ k a0 = some σ') : gMv l celC Γ ad N yX8_closeRow cX8_closeRow 3 none (gR 3 0 0) [.ref (ad k), .int a0] σ σ' := by
  intro sz
  refine gOf (Qc := fun sz => gQcv celC Γ ad N σ' sz) RX8 (by decide) rfl (by decide) (fun p e s m args below meth c H locs ls X S hl => ?_)
  have hl : lv_has ls 3 [(0, .ref (ad k)), (1, .int a0)] := hl
  have hx := X.1
  have hb := X.2.1
  unfold f_X8_closeRow at hf
  refine lv_aload_n hx hb dX8_closeRow_0 rfl (lv_at hl 0 rfl) ?_
  refine lv_iload_n hx hb dX8_closeRow_1 rfl (lv_at hl 1 rfl) ?_
  obtain ⟨v1, hv1, hf⟩ := g_s1 hf
  refine g_ki S (g_runV (rest := []) X S (c_X8_has l hN hk hv1 _) cvX8_has mlX8_37 (kd_N hk (by decide) hN) (ceC_8 hk _) rfl rfl rfl hl.1 (by decide) ⟨⟨rfl, rfl⟩, ⟨Nat.le_of_ble_eq_true rfl, Nat.le_of_ble_eq_true rfl⟩, Nat.le_of_ble_eq_true rfl, Nat.le_of_ble_eq_true rfl⟩ dX8_closeRow_2) (fun H locs S => ?_)
  refine lv_if_ne (tgt := 9) hx hb dX8_closeRow_5 (by decide) (fun c2 => ?_) (fun c2 => ?_)
  · have hf := (if_neg c2).symm.trans hf
    refine lv_iload_n hx hb dX8_closeRow_9 rfl (lv_at hl 1 rfl) ?_
    refine lv_iconst (v := (1 : Int32)) hx hb dX8_closeRow_10 (by decide) ?_
    refine lv_iadd hx hb dX8_closeRow_11 ?_
    refine lv_istore_n (lv' := [(2, .int (a0 + (1 : Int32))), (0, .ref (ad k)), (1, .int a0)]) hx hb dX8_closeRow_12 rfl hl (by decide) rfl (fun ls hl => ?_)
    obtain ⟨σ5, hr8, hf⟩ := g_s1 hf
    refine w_X8_closeRow_l1 hN X hk FU _ _ _  hr8 (fun H locs ls S hl => ?_) _ _ _ S (lv_sub hl [0, 1] rfl)
    refine lv_aload_n hx hb dX8_closeRow_35 rfl (lv_at hl 0 rfl) ?_
    refine lv_dup hx hb dX8_closeRow_36 rfl ?_
    refine gfX8_27 X S hN hk dX8_closeRow_37 ?_
    refine lv_iconst (v := (1 : Int32)) hx hb dX8_closeRow_40 (by decide) ?_
    refine lv_isub hx hb dX8_closeRow_41 ?_
    obtain ⟨σ9, hσ9, hf⟩ := g_s1 hf
    refine pfX8_27 X S hN hk hσ9 dX8_closeRow_42 (fun H locs S => ?_)
    cases hf
    exact g_retv X S dX8_closeRow_45
  · have hf := (if_pos c2).symm.trans hf
    cases hf
    exact g_retv X S dX8_closeRow_8

noncomputable def f_X8_first (σ : gSt) (k : Nat) (a0 : Int32) : Option (Int32) :=
  (g_k1 (f_X8_has σ k a0) fun v1 => (g_k1 (if v1 = 0 then some (0 : Int32) else (g_k1 (gald σ (k + 1) 16 a0) fun v6 => some v6)) fun x2 => some x2))
set_option maxRecDepth 100000 in
set_option maxHeartbeats 4000000 in
theorem c_X8_first (l : Launch) {Γ : gG} {ad : Nat → Nat} {N : Nat} (hN : 202 ≤ N) {σ : gSt} {k : Nat} {a0 : Int32} (hk : gkd k = 8) {r : Int32} (hf : f_X8_first σ k a0 = some r) : gMi l celC Γ ad N yX8_first cX8_first 2 (some .int) (gR 2 0 0) [.ref (ad k), .int a0] σ r σ := by
  intro sz
  refine gOf (Qc := fun sz => gQci celC Γ ad N r σ sz) RX8 (by decide) rfl (by decide) (fun p e s m args below meth c H locs ls X S hl => ?_)
  have hl : lv_has ls 2 [(0, .ref (ad k)), (1, .int a0)] := hl
  have hx := X.1
  have hb := X.2.1
  unfold f_X8_first at hf
  refine lv_aload_n hx hb dX8_first_0 rfl (lv_at hl 0 rfl) ?_
  refine lv_iload_n hx hb dX8_first_1 rfl (lv_at hl 1 rfl) ?_
  obtain ⟨v1, hv1, hf⟩ := g_s1 hf
  refine g_ki S (g_runV (rest := []) X S (c_X8_has l hN hk hv1 _) cvX8_has mlX8_37 (kd_N hk (by decide) hN) (ceC_8 hk _) rfl rfl rfl hl.1 (by decide) ⟨⟨rfl, rfl⟩, ⟨Nat.le_of_ble_eq_true rfl, Nat.le_of_ble_eq_true rfl⟩, Nat.le_of_ble_eq_true rfl, Nat.le_of_ble_eq_true rfl⟩ dX8_first_2) (fun H locs S => ?_)
  obtain ⟨x2, hr3, hf⟩ := g_s1 hf
  have J4 : ∀ (H : Heap) (locs : List Loc) (ls : Array Slot), gS celC Γ ad N σ s H locs → lv_has ls 2 [] → W p l e (gR 2 0 0) s m args below meth c H locs 0 0 (gQi celC Γ ad N r σ below args s) (F0 m 18 ls [.int x2]) := by
    intro H locs ls S hl
    cases hf
    exact g_reti X S rfl dX8_first_18
  replace hf := hr3
  refine lv_if_eq (tgt := 17) hx hb dX8_first_5 (by decide) (fun c5 => ?_) (fun c5 => ?_)
  · have hf := (if_pos c5).symm.trans hf
    refine lv_iconst (v := (0 : Int32)) hx hb dX8_first_17 (by decide) ?_
    cases hf
    exact J4 _ _ _ S (lv_sub hl [] rfl)
  · have hf := (if_neg c5).symm.trans hf
    refine lv_aload_n hx hb dX8_first_8 rfl (lv_at hl 0 rfl) ?_
    refine gfX8_9 X S hN hk dX8_first_9 ?_
    refine lv_iload_n hx hb dX8_first_12 rfl (lv_at hl 1 rfl) ?_
    obtain ⟨v6, hv6, hf⟩ := g_s1 hf
    refine g_iald X S (kd_N (kd_8_1 hk) (by decide) hN) (ceC_116 (kd_8_1 hk)) hv6 dX8_first_13 ?_
    refine lv_goto (tgt := 18) hx hb dX8_first_14 (by decide) ?_
    cases hf
    exact J4 _ _ _ S (lv_sub hl [] rfl)

noncomputable def f_X8_setFrames (σ : gSt) (k : Nat) (a0 : Int32) (a1 : Int32) (a2 : Int32) : Option (gSt) :=
  (g_k1 (f_X8_has σ k a0) fun v1 => (g_k1 (if v1 = 0 then some σ else (g_k1 (gast σ (k + 1) 16 a0 a1) fun σ6 => (g_k1 (gast σ6 (k + 2) 16 a0 a2) fun σ7 => some σ7))) fun σ2 => some σ2))
set_option maxRecDepth 100000 in
set_option maxHeartbeats 4000000 in
theorem c_X8_setFrames (l : Launch) {Γ : gG} {ad : Nat → Nat} {N : Nat} (hN : 202 ≤ N) {σ : gSt} {k : Nat} {a0 : Int32} {a1 : Int32} {a2 : Int32} (hk : gkd k = 8) {σ' : gSt} (hf : f_X8_setFrames σ k a0 a1 a2 = some σ') : gMv l celC Γ ad N yX8_setFrames cX8_setFrames 4 none (gR 2 0 0) [.ref (ad k), .int a0, .int a1, .int a2] σ σ' := by
  intro sz
  refine gOf (Qc := fun sz => gQcv celC Γ ad N σ' sz) RX8 (by decide) rfl (by decide) (fun p e s m args below meth c H locs ls X S hl => ?_)
  have hl : lv_has ls 4 [(0, .ref (ad k)), (1, .int a0), (2, .int a1), (3, .int a2)] := hl
  have hx := X.1
  have hb := X.2.1
  unfold f_X8_setFrames at hf
  refine lv_aload_n hx hb dX8_setFrames_0 rfl (lv_at hl 0 rfl) ?_
  refine lv_iload_n hx hb dX8_setFrames_1 rfl (lv_at hl 1 rfl) ?_
  obtain ⟨v1, hv1, hf⟩ := g_s1 hf
  refine g_ki S (g_runV (rest := []) X S (c_X8_has l hN hk hv1 _) cvX8_has mlX8_37 (kd_N hk (by decide) hN) (ceC_8 hk _) rfl rfl rfl hl.1 (by decide) ⟨⟨rfl, rfl⟩, ⟨Nat.le_of_ble_eq_true rfl, Nat.le_of_ble_eq_true rfl⟩, Nat.le_of_ble_eq_true rfl, Nat.le_of_ble_eq_true rfl⟩ dX8_setFrames_2) (fun H locs S => ?_)
  obtain ⟨σ2, hr3, hf⟩ := g_s1 hf
  have J4 : ∀ (H : Heap) (locs : List Loc) (ls : Array Slot), gS celC Γ ad N σ2 s H locs → lv_has ls 4 [] → W p l e (gR 2 0 0) s m args below meth c H locs 0 0 (gQv celC Γ ad N σ' below args s) (F0 m 22 ls []) := by
    intro H locs ls S hl
    cases hf
    exact g_retv X S dX8_setFrames_22
  replace hf := hr3
  refine lv_if_eq (tgt := 22) hx hb dX8_setFrames_5 (by decide) (fun c5 => ?_) (fun c5 => ?_)
  · have hf := (if_pos c5).symm.trans hf
    cases hf
    exact J4 _ _ _ S (lv_sub hl [] rfl)
  · have hf := (if_neg c5).symm.trans hf
    refine lv_aload_n hx hb dX8_setFrames_8 rfl (lv_at hl 0 rfl) ?_
    refine gfX8_9 X S hN hk dX8_setFrames_9 ?_
    refine lv_iload_n hx hb dX8_setFrames_12 rfl (lv_at hl 1 rfl) ?_
    refine lv_iload_n hx hb dX8_setFrames_13 rfl (lv_at hl 2 rfl) ?_
    obtain ⟨σ6, hσ6, hf⟩ := g_s1 hf
    refine g_iast X S (kd_N (kd_8_1 hk) (by decide) hN) (ceC_116 (kd_8_1 hk)) hσ6 dX8_setFrames_14 (fun H locs S => ?_)
    refine lv_aload_n hx hb dX8_setFrames_15 rfl (lv_at hl 0 rfl) ?_
    refine gfX8_15 X S hN hk dX8_setFrames_16 ?_
    refine lv_iload_n hx hb dX8_setFrames_19 rfl (lv_at hl 1 rfl) ?_
    refine lv_iload_n hx hb dX8_setFrames_20 rfl (lv_at hl 3 rfl) ?_
    obtain ⟨σ7, hσ7, hf⟩ := g_s1 hf
    refine g_iast X S (kd_N (kd_8_2 hk) (by decide) hN) (ceC_116 (kd_8_2 hk)) hσ7 dX8_setFrames_21 (fun H locs S => ?_)
    cases hf
    exact J4 _ _ _ S (lv_sub hl [] rfl)

noncomputable def f_X7_signAt (σ : gSt) (k : Nat) (a0 : Int32) : Option (Int32) :=
  (g_k1 (if a0 < 0 then some (-1 : Int32) else (if (σ k 1) ≤ a0 then some (-1 : Int32) else (if (60 : Int32) ≤ a0 then some (-1 : Int32) else (g_k1 (gald σ (k + 1) 60 a0) fun v7 => some v7)))) fun x1 => some x1)
set_option maxRecDepth 100000 in
set_option maxHeartbeats 4000000 in
theorem c_X7_signAt (l : Launch) {Γ : gG} {ad : Nat → Nat} {N : Nat} (hN : 202 ≤ N) {σ : gSt} {k : Nat} {a0 : Int32} (hk : gkd k = 7) {r : Int32} (hf : f_X7_signAt σ k a0 = some r) : gMi l celC Γ ad N yX7_signAt cX7_signAt 2 (some .int) (gR 1 0 0) [.ref (ad k), .int a0] σ r σ := by
  intro sz
  refine gOf (Qc := fun sz => gQci celC Γ ad N r σ sz) RX7 (by decide) rfl (by decide) (fun p e s m args below meth c H locs ls X S hl => ?_)
  have hl : lv_has ls 2 [(0, .ref (ad k)), (1, .int a0)] := hl
  have hx := X.1
  have hb := X.2.1
  unfold f_X7_signAt at hf
  refine lv_iload_n hx hb dX7_signAt_0 rfl (lv_at hl 1 rfl) ?_
  obtain ⟨x1, hr2, hf⟩ := g_s1 hf
  have J3 : ∀ (H : Heap) (locs : List Loc) (ls : Array Slot), gS celC Γ ad N σ s H locs → lv_has ls 2 [] → W p l e (gR 1 0 0) s m args below meth c H locs 0 0 (gQi celC Γ ad N r σ below args s) (F0 m 31 ls [.int x1]) := by
    intro H locs ls S hl
    cases hf
    exact g_reti X S rfl dX7_signAt_31
  replace hf := hr2
  refine lv_if_lt (tgt := 30) hx hb dX7_signAt_1 (by decide) (fun c4 => ?_) (fun c4 => ?_)
  · have hf := (if_pos c4).symm.trans hf
    refine lv_iconst (v := (-1 : Int32)) hx hb dX7_signAt_30 (by decide) ?_
    cases hf
    exact J3 _ _ _ S (lv_sub hl [] rfl)
  · have hf := (if_neg c4).symm.trans hf
    refine lv_iload_n hx hb dX7_signAt_4 rfl (lv_at hl 1 rfl) ?_
    refine lv_aload_n hx hb dX7_signAt_5 rfl (lv_at hl 0 rfl) ?_
    refine gfX7_15 X S hN hk dX7_signAt_6 ?_
    refine lv_icmp_ge (tgt := 30) hx hb dX7_signAt_9 (by decide) (fun c5 => ?_) (fun c5 => ?_)
    · have hf := (if_pos c5).symm.trans hf
      refine lv_iconst (v := (-1 : Int32)) hx hb dX7_signAt_30 (by decide) ?_
      cases hf
      exact J3 _ _ _ S (lv_sub hl [] rfl)
    · have hf := (if_neg c5).symm.trans hf
      refine lv_iload_n hx hb dX7_signAt_12 rfl (lv_at hl 1 rfl) ?_
      refine lv_aload_n hx hb dX7_signAt_13 rfl (lv_at hl 0 rfl) ?_
      refine gfX7_9 X S hN hk dX7_signAt_14 ?_
      refine g_alen (v := (60 : Int32)) X S (kd_N (kd_7_1 hk) (by decide) hN) (ceC_160 (kd_7_1 hk)) (by decide) dX7_signAt_17 ?_
      refine lv_icmp_ge (tgt := 30) hx hb dX7_signAt_18 (by decide) (fun c6 => ?_) (fun c6 => ?_)
      · have hf := (if_pos c6).symm.trans hf
        refine lv_iconst (v := (-1 : Int32)) hx hb dX7_signAt_30 (by decide) ?_
        cases hf
        exact J3 _ _ _ S (lv_sub hl [] rfl)
      · have hf := (if_neg c6).symm.trans hf
        refine lv_aload_n hx hb dX7_signAt_21 rfl (lv_at hl 0 rfl) ?_
        refine gfX7_9 X S hN hk dX7_signAt_22 ?_
        refine lv_iload_n hx hb dX7_signAt_25 rfl (lv_at hl 1 rfl) ?_
        obtain ⟨v7, hv7, hf⟩ := g_s1 hf
        refine g_iald X S (kd_N (kd_7_1 hk) (by decide) hN) (ceC_160 (kd_7_1 hk)) hv7 dX7_signAt_26 ?_
        refine lv_goto (tgt := 31) hx hb dX7_signAt_27 (by decide) ?_
        cases hf
        exact J3 _ _ _ S (lv_sub hl [] rfl)

noncomputable def f_X8_setText_l1 (k : Nat) (a0 : Int32) (a1 : Nat) (σ4 : gSt) : Nat → Int32 → gSt → Option (gSt)
  | 0, _, _ => none
  | n + 1, i5, σ6 => (g_k1 (gald σ6 (k + 4) 16 a0) fun v8 => (if v8 ≤ i5 then some σ6 else (if (24 : Int32) ≤ i5 then some σ6 else (g_k1 (f_X7_signAt σ6 a1 i5) fun v11 => (g_k1 (gast σ6 (k + 5) 384 ((a0 * (24 : Int32)) + i5) v11) fun σ12 => (f_X8_setText_l1 k a0 a1 σ4 n (i5 + 1) σ12))))))
set_option maxRecDepth 100000 in
set_option maxHeartbeats 4000000 in
theorem w_X8_setText_l1 {l : Launch} {Γ : gG} {ad : Nat → Nat} {N : Nat} {p : Program} {e : Env} {s : State} {m : MethodId} {args : Array Value} {below : List Frame} {meth : Method} {c : Code} {Q : State → Prop} (hN : 202 ≤ N) (X : gX celC Γ ad N RX8 cX8_setText 4 none p s m args meth c) {k : Nat} {a0 : Int32} {a1 : Nat} {σ4 : gSt} (hk : gkd k = 8) (ha1 : gkd a1 = 7) : ∀ (n : Nat) (i5 : Int32) (σ6 : gSt) (σ7 : gSt), f_X8_setText_l1 k a0 a1 σ4 n i5 σ6 = some σ7 → (∀ (H : Heap) (locs : List Loc) (ls : Array Slot), gS celC Γ ad N σ7 s H locs → lv_has ls 4 [] → W p l e (gR 2 0 0) s m args below meth c H locs 0 0 (Q) (F0 m 64 ls [])) → ∀ (H : Heap) (locs : List Loc) (ls : Array Slot), gS celC Γ ad N σ6 s H locs → lv_has ls 4 [(3, .int i5), (0, .ref (ad k)), (1, .int a0), (2, .ref (ad a1))] → W p l e (gR 2 0 0) s m args below meth c H locs 0 0 (Q) (F0 m 26 ls []) := by
  have hx := X.1
  have hb := X.2.1
  intro n
  induction n with
  | zero =>
    intro i5 σ6 σ7 hf
    cases hf
  | succ n ih =>
    intro i5 σ6 σ7 hf J H locs ls S hl
    rw [f_X8_setText_l1] at hf
    refine lv_iload_n hx hb dX8_setText_26 rfl (lv_at hl 0 rfl) ?_
    refine lv_aload_n hx hb dX8_setText_27 rfl (lv_at hl 1 rfl) ?_
    refine gfX8_21 X S hN hk dX8_setText_28 ?_
    refine lv_iload_n hx hb dX8_setText_31 rfl (lv_at hl 2 rfl) ?_
    obtain ⟨v8, hv8, hf⟩ := g_s1 hf
    refine g_iald X S (kd_N (kd_8_4 hk) (by decide) hN) (ceC_116 (kd_8_4 hk)) hv8 dX8_setText_32 ?_
    refine lv_icmp_ge (tgt := 64) hx hb dX8_setText_33 (by decide) (fun c9 => ?_) (fun c9 => ?_)
    · have hf := (if_pos c9).symm.trans hf
      cases hf
      exact J _ _ _ S (lv_sub hl [] rfl)
    · have hf := (if_neg c9).symm.trans hf
      refine lv_iload_n hx hb dX8_setText_36 rfl (lv_at hl 0 rfl) ?_
      refine lv_bipush (v := (24 : Int32)) hx hb dX8_setText_37 (by decide) ?_
      refine lv_icmp_ge (tgt := 64) hx hb dX8_setText_39 (by decide) (fun c10 => ?_) (fun c10 => ?_)
      · have hf := (if_pos c10).symm.trans hf
        cases hf
        exact J _ _ _ S (lv_sub hl [] rfl)
      · have hf := (if_neg c10).symm.trans hf
        refine lv_aload_n hx hb dX8_setText_42 rfl (lv_at hl 1 rfl) ?_
        refine gfX8_24 X S hN hk dX8_setText_43 ?_
        refine lv_iload_n hx hb dX8_setText_46 rfl (lv_at hl 2 rfl) ?_
        refine lv_bipush (v := (24 : Int32)) hx hb dX8_setText_47 (by decide) ?_
        refine lv_imul hx hb dX8_setText_49 ?_
        refine lv_iload_n hx hb dX8_setText_50 rfl (lv_at hl 0 rfl) ?_
        refine lv_iadd hx hb dX8_setText_51 ?_
        refine lv_aload_n hx hb dX8_setText_52 rfl (lv_at hl 3 rfl) ?_
        refine lv_iload_n hx hb dX8_setText_53 rfl (lv_at hl 0 rfl) ?_
        obtain ⟨v11, hv11, hf⟩ := g_s1 hf
        refine g_ki S (g_runV (rest := [.int ((a0 * (24 : Int32)) + i5), .ref (ad (k + 5))]) X S (c_X7_signAt l hN ha1 hv11 _) cvX7_signAt mlX8_83 (kd_N ha1 (by decide) hN) (ceC_7 ha1 _) rfl rfl rfl hl.1 (by decide) ⟨⟨rfl, rfl⟩, ⟨Nat.le_of_ble_eq_true rfl, Nat.le_of_ble_eq_true rfl⟩, Nat.le_of_ble_eq_true rfl, Nat.le_of_ble_eq_true rfl⟩ dX8_setText_54) (fun H locs S => ?_)
        obtain ⟨σ12, hσ12, hf⟩ := g_s1 hf
        refine g_iast X S (kd_N (kd_8_5 hk) (by decide) hN) (ceC_484 (kd_8_5 hk)) hσ12 dX8_setText_57 (fun H locs S => ?_)
        refine lv_iinc (v := (i5 + 1)) (lv' := [(3, .int (i5 + 1)), (0, .ref (ad k)), (1, .int a0), (2, .ref (ad a1))]) hx hb dX8_setText_58 hl (k := 0) rfl rfl (by decide) rfl (fun ls hl => ?_)
        refine lv_goto (tgt := 26) hx hb dX8_setText_61 (by decide) ?_
        exact ih _ _ _  hf J _ _ _ S (lv_sub hl [0, 1, 2, 3] rfl)
noncomputable def f_X8_setText (σ : gSt) (k : Nat) (a0 : Int32) (a1 : Nat) : Option (gSt) :=
  (g_k1 (f_X8_has σ k a0) fun v1 => (if v1 = 0 then some σ else (g_k1 (gast σ (k + 4) 16 a0 (if (24 : Int32) < (σ a1 1) then (24 : Int32) else (σ a1 1))) fun σ4 => (g_k1 (f_X8_setText_l1 k a0 a1 σ4 FU (0 : Int32) σ4) fun σ7 => some σ7))))
set_option maxRecDepth 100000 in
set_option maxHeartbeats 4000000 in
theorem c_X8_setText (l : Launch) {Γ : gG} {ad : Nat → Nat} {N : Nat} (hN : 202 ≤ N) {σ : gSt} {k : Nat} {a0 : Int32} {a1 : Nat} (hk : gkd k = 8) (ha1 : gkd a1 = 7) {σ' : gSt} (hf : f_X8_setText σ k a0 a1 = some σ') : gMv l celC Γ ad N yX8_setText cX8_setText 4 none (gR 2 0 0) [.ref (ad k), .int a0, .ref (ad a1)] σ σ' := by
  intro sz
  refine gOf (Qc := fun sz => gQcv celC Γ ad N σ' sz) RX8 (by decide) rfl (by decide) (fun p e s m args below meth c H locs ls X S hl => ?_)
  have hl : lv_has ls 4 [(0, .ref (ad k)), (1, .int a0), (2, .ref (ad a1))] := hl
  have hx := X.1
  have hb := X.2.1
  unfold f_X8_setText at hf
  refine lv_aload_n hx hb dX8_setText_0 rfl (lv_at hl 0 rfl) ?_
  refine lv_iload_n hx hb dX8_setText_1 rfl (lv_at hl 1 rfl) ?_
  obtain ⟨v1, hv1, hf⟩ := g_s1 hf
  refine g_ki S (g_runV (rest := []) X S (c_X8_has l hN hk hv1 _) cvX8_has mlX8_37 (kd_N hk (by decide) hN) (ceC_8 hk _) rfl rfl rfl hl.1 (by decide) ⟨⟨rfl, rfl⟩, ⟨Nat.le_of_ble_eq_true rfl, Nat.le_of_ble_eq_true rfl⟩, Nat.le_of_ble_eq_true rfl, Nat.le_of_ble_eq_true rfl⟩ dX8_setText_2) (fun H locs S => ?_)
  refine lv_if_ne (tgt := 9) hx hb dX8_setText_5 (by decide) (fun c2 => ?_) (fun c2 => ?_)
  · have hf := (if_neg c2).symm.trans hf
    refine lv_aload_n hx hb dX8_setText_9 rfl (lv_at hl 0 rfl) ?_
    refine gfX8_21 X S hN hk dX8_setText_10 ?_
    refine lv_iload_n hx hb dX8_setText_13 rfl (lv_at hl 1 rfl) ?_
    refine lv_aload_n hx hb dX8_setText_14 rfl (lv_at hl 2 rfl) ?_
    refine gfX8_81 X S hN ha1 dX8_setText_15 ?_
    refine lv_bipush (v := (24 : Int32)) hx hb dX8_setText_18 (by decide) ?_
    refine g_min X hl.1 mwX8_64 ⟨⟨by decide, Nat.le_of_ble_eq_true rfl⟩, Nat.le_of_ble_eq_true rfl, Nat.le_of_ble_eq_true rfl⟩ dX8_setText_20 ?_
    obtain ⟨σ4, hσ4, hf⟩ := g_s1 hf
    refine g_iast X S (kd_N (kd_8_4 hk) (by decide) hN) (ceC_116 (kd_8_4 hk)) hσ4 dX8_setText_23 (fun H locs S => ?_)
    refine lv_iconst (v := (0 : Int32)) hx hb dX8_setText_24 (by decide) ?_
    refine lv_istore_n (lv' := [(3, .int (0 : Int32)), (0, .ref (ad k)), (1, .int a0), (2, .ref (ad a1))]) hx hb dX8_setText_25 rfl hl (by decide) rfl (fun ls hl => ?_)
    obtain ⟨σ7, hr13, hf⟩ := g_s1 hf
    refine w_X8_setText_l1 hN X hk ha1 FU _ _ _  hr13 (fun H locs ls S hl => ?_) _ _ _ S (lv_sub hl [0, 1, 2, 3] rfl)
    cases hf
    exact g_retv X S dX8_setText_64
  · have hf := (if_pos c2).symm.trans hf
    cases hf
    exact g_retv X S dX8_setText_8

noncomputable def f_X8_insertCaption_l1 (σ : gSt) (k : Nat) (a0 : Int32) (a1 : Int32) (a2 : Int32) (a3 : Nat) : Nat → Int32 → Option (Int32)
  | 0, _ => none
  | n + 1, i1 => (if (σ k 5) ≤ i1 then some i1 else (g_k1 (f_X8_first σ k i1) fun v4 => (if a1 ≤ v4 then some i1 else (f_X8_insertCaption_l1 σ k a0 a1 a2 a3 n (i1 + 1)))))
set_option maxRecDepth 100000 in
set_option maxHeartbeats 4000000 in
theorem w_X8_insertCaption_l1 {l : Launch} {Γ : gG} {ad : Nat → Nat} {N : Nat} {p : Program} {e : Env} {s : State} {m : MethodId} {args : Array Value} {below : List Frame} {meth : Method} {c : Code} {Q : State → Prop} (hN : 202 ≤ N) (X : gX celC Γ ad N RX8 cX8_insertCaption 7 (some .int) p s m args meth c) {σ : gSt} {k : Nat} {a0 : Int32} {a1 : Int32} {a2 : Int32} {a3 : Nat} (hk : gkd k = 8) (ha3 : gkd a3 = 7) : ∀ (n : Nat) (i1 : Int32) (r2 : Int32), f_X8_insertCaption_l1 σ k a0 a1 a2 a3 n i1 = some r2 → (∀ (H : Heap) (locs : List Loc) (ls : Array Slot), gS celC Γ ad N σ s H locs → lv_has ls 7 [(5, .int r2), (0, .ref (ad k)), (1, .int a0), (2, .int a1), (3, .int a2), (4, .ref (ad a3))] → W p l e (gR 3 0 0) s m args below meth c H locs 0 0 (Q) (F0 m 28 ls [])) → ∀ (H : Heap) (locs : List Loc) (ls : Array Slot), gS celC Γ ad N σ s H locs → lv_has ls 7 [(5, .int i1), (0, .ref (ad k)), (1, .int a0), (2, .int a1), (3, .int a2), (4, .ref (ad a3))] → W p l e (gR 3 0 0) s m args below meth c H locs 0 0 (Q) (F0 m 3 ls []) := by
  have hx := X.1
  have hb := X.2.1
  intro n
  induction n with
  | zero =>
    intro i1 r2 hf
    cases hf
  | succ n ih =>
    intro i1 r2 hf J H locs ls S hl
    rw [f_X8_insertCaption_l1] at hf
    refine lv_iload hx hb dX8_insertCaption_3 (lv_at hl 0 rfl) ?_
    refine lv_aload_n hx hb dX8_insertCaption_5 rfl (lv_at hl 1 rfl) ?_
    refine gfX8_27 X S hN hk dX8_insertCaption_6 ?_
    refine lv_icmp_ge (tgt := 28) hx hb dX8_insertCaption_9 (by decide) (fun c3 => ?_) (fun c3 => ?_)
    · have hf := (if_pos c3).symm.trans hf
      cases hf
      exact J _ _ _ S (lv_sub hl [0, 1, 2, 3, 4, 5] rfl)
    · have hf := (if_neg c3).symm.trans hf
      refine lv_aload_n hx hb dX8_insertCaption_12 rfl (lv_at hl 1 rfl) ?_
      refine lv_iload hx hb dX8_insertCaption_13 (lv_at hl 0 rfl) ?_
      obtain ⟨v4, hv4, hf⟩ := g_s1 hf
      refine g_ki S (g_runV (rest := []) X S (c_X8_first l hN hk hv4 _) cvX8_first mlX8_45 (kd_N hk (by decide) hN) (ceC_8 hk _) rfl rfl rfl hl.1 (by decide) ⟨⟨rfl, rfl⟩, ⟨Nat.le_of_ble_eq_true rfl, Nat.le_of_ble_eq_true rfl⟩, Nat.le_of_ble_eq_true rfl, Nat.le_of_ble_eq_true rfl⟩ dX8_insertCaption_15) (fun H locs S => ?_)
      refine lv_iload_n hx hb dX8_insertCaption_18 rfl (lv_at hl 3 rfl) ?_
      refine lv_icmp_ge (tgt := 28) hx hb dX8_insertCaption_19 (by decide) (fun c5 => ?_) (fun c5 => ?_)
      · have hf := (if_pos c5).symm.trans hf
        cases hf
        exact J _ _ _ S (lv_sub hl [0, 1, 2, 3, 4, 5] rfl)
      · have hf := (if_neg c5).symm.trans hf
        refine lv_iinc (v := (i1 + 1)) (lv' := [(5, .int (i1 + 1)), (0, .ref (ad k)), (1, .int a0), (2, .int a1), (3, .int a2), (4, .ref (ad a3))]) hx hb dX8_insertCaption_22 hl (k := 0) rfl rfl (by decide) rfl (fun ls hl => ?_)
        refine lv_goto (tgt := 3) hx hb dX8_insertCaption_25 (by decide) ?_
        exact ih _ _  hf J _ _ _ S (lv_sub hl [0, 1, 2, 3, 4, 5] rfl)
noncomputable def f_X8_insertCaption_l2 (σ : gSt) (k : Nat) (a0 : Int32) (a1 : Int32) (a2 : Int32) (a3 : Nat) (r2 : Int32) : Nat → Int32 → gSt → Option (gSt)
  | 0, _, _ => none
  | n + 1, i11, σ12 => (if i11 ≤ r2 then some σ12 else (g_k1 (f_X8_copyRow σ12 k (i11 - (1 : Int32)) i11) fun σ15 => (f_X8_insertCaption_l2 σ k a0 a1 a2 a3 r2 n (i11 + (-1)) σ15)))
set_option maxRecDepth 100000 in
set_option maxHeartbeats 4000000 in
theorem w_X8_insertCaption_l2 {l : Launch} {Γ : gG} {ad : Nat → Nat} {N : Nat} {p : Program} {e : Env} {s : State} {m : MethodId} {args : Array Value} {below : List Frame} {meth : Method} {c : Code} {Q : State → Prop} (hN : 202 ≤ N) (X : gX celC Γ ad N RX8 cX8_insertCaption 7 (some .int) p s m args meth c) {σ : gSt} {k : Nat} {a0 : Int32} {a1 : Int32} {a2 : Int32} {a3 : Nat} {r2 : Int32} (hk : gkd k = 8) (ha3 : gkd a3 = 7) : ∀ (n : Nat) (i11 : Int32) (σ12 : gSt) (σ13 : gSt), f_X8_insertCaption_l2 σ k a0 a1 a2 a3 r2 n i11 σ12 = some σ13 → (∀ (H : Heap) (locs : List Loc) (ls : Array Slot), gS celC Γ ad N σ13 s H locs → lv_has ls 7 [(5, .int r2), (0, .ref (ad k)), (1, .int a0), (2, .int a1), (3, .int a2), (4, .ref (ad a3))] → W p l e (gR 3 0 0) s m args below meth c H locs 0 0 (Q) (F0 m 77 ls [])) → ∀ (H : Heap) (locs : List Loc) (ls : Array Slot), gS celC Γ ad N σ12 s H locs → lv_has ls 7 [(6, .int i11), (5, .int r2), (0, .ref (ad k)), (1, .int a0), (2, .int a1), (3, .int a2), (4, .ref (ad a3))] → W p l e (gR 3 0 0) s m args below meth c H locs 0 0 (Q) (F0 m 54 ls []) := by
  have hx := X.1
  have hb := X.2.1
  intro n
  induction n with
  | zero =>
    intro i11 σ12 σ13 hf
    cases hf
  | succ n ih =>
    intro i11 σ12 σ13 hf J H locs ls S hl
    rw [f_X8_insertCaption_l2] at hf
    refine lv_iload hx hb dX8_insertCaption_54 (lv_at hl 0 rfl) ?_
    refine lv_iload hx hb dX8_insertCaption_56 (lv_at hl 1 rfl) ?_
    refine lv_icmp_le (tgt := 77) hx hb dX8_insertCaption_58 (by decide) (fun c14 => ?_) (fun c14 => ?_)
    · have hf := (if_pos c14).symm.trans hf
      cases hf
      exact J _ _ _ S (lv_sub hl [1, 2, 3, 4, 5, 6] rfl)
    · have hf := (if_neg c14).symm.trans hf
      refine lv_aload_n hx hb dX8_insertCaption_61 rfl (lv_at hl 2 rfl) ?_
      refine lv_iload hx hb dX8_insertCaption_62 (lv_at hl 0 rfl) ?_
      refine lv_iconst (v := (1 : Int32)) hx hb dX8_insertCaption_64 (by decide) ?_
      refine lv_isub hx hb dX8_insertCaption_65 ?_
      refine lv_iload hx hb dX8_insertCaption_66 (lv_at hl 0 rfl) ?_
      obtain ⟨σ15, hσ15, hf⟩ := g_s1 hf
      refine g_kv S (g_runV (rest := []) X S (c_X8_copyRow l hN hk hσ15 _) cvX8_copyRow mlX8_88 (kd_N hk (by decide) hN) (ceC_8 hk _) rfl rfl rfl hl.1 (by decide) ⟨⟨rfl, rfl⟩, ⟨Nat.le_of_ble_eq_true rfl, Nat.le_of_ble_eq_true rfl⟩, Nat.le_of_ble_eq_true rfl, Nat.le_of_ble_eq_true rfl⟩ dX8_insertCaption_68) (fun H locs S => ?_)
      refine lv_iinc (v := (i11 + (-1))) (lv' := [(6, .int (i11 + (-1))), (5, .int r2), (0, .ref (ad k)), (1, .int a0), (2, .int a1), (3, .int a2), (4, .ref (ad a3))]) hx hb dX8_insertCaption_71 hl (k := 0) rfl rfl (by decide) rfl (fun ls hl => ?_)
      refine lv_goto (tgt := 54) hx hb dX8_insertCaption_74 (by decide) ?_
      exact ih _ _ _  hf J _ _ _ S (lv_sub hl [0, 1, 2, 3, 4, 5, 6] rfl)
noncomputable def f_X8_insertCaption (σ : gSt) (k : Nat) (a0 : Int32) (a1 : Int32) (a2 : Int32) (a3 : Nat) : Option (Int32 × gSt) :=
  (g_k1 (f_X8_insertCaption_l1 σ k a0 a1 a2 a3 FU (0 : Int32)) fun r2 => (g_k1 (f_X8_isRow σ r2) fun v7 => (if v7 = 0 then some ((-1 : Int32), σ) else (g_k1 (f_X8_isRow σ (σ k 5)) fun v9 => (if v9 = 0 then some ((-1 : Int32), σ) else (g_k1 (f_X8_insertCaption_l2 σ k a0 a1 a2 a3 r2 FU (σ k 5) σ) fun σ13 => (g_k1 (gset σ13 k 5 ((σ13 k 5) + (1 : Int32))) fun σ17 => (g_k1 (gast σ17 (k + 3) 16 r2 a0) fun σ18 => (g_k1 (f_X8_setFrames σ18 k r2 a1 a2) fun σ19 => (g_k1 (f_X8_setText σ19 k r2 a3) fun σ20 => some (r2, σ20)))))))))))
set_option maxRecDepth 100000 in
set_option maxHeartbeats 4000000 in
theorem c_X8_insertCaption (l : Launch) {Γ : gG} {ad : Nat → Nat} {N : Nat} (hN : 202 ≤ N) {σ : gSt} {k : Nat} {a0 : Int32} {a1 : Int32} {a2 : Int32} {a3 : Nat} (hk : gkd k = 8) (ha3 : gkd a3 = 7) {r : Int32} {σ' : gSt} (hf : f_X8_insertCaption σ k a0 a1 a2 a3 = some (r, σ')) : gMi l celC Γ ad N yX8_insertCaption cX8_insertCaption 7 (some .int) (gR 3 0 0) [.ref (ad k), .int a0, .int a1, .int a2, .ref (ad a3)] σ r σ' := by
  intro sz
  refine gOf (Qc := fun sz => gQci celC Γ ad N r σ' sz) RX8 (by decide) rfl (by decide) (fun p e s m args below meth c H locs ls X S hl => ?_)
  have hl : lv_has ls 7 [(5, .int (0 : Int32)), (0, .ref (ad k)), (1, .int a0), (2, .int a1), (3, .int a2), (4, .ref (ad a3))] := hl
  have hx := X.1
  have hb := X.2.1
  unfold f_X8_insertCaption at hf
  refine lv_iconst (v := (0 : Int32)) hx hb dX8_insertCaption_0 (by decide) ?_
  refine lv_istore (lv' := [(5, .int (0 : Int32)), (0, .ref (ad k)), (1, .int a0), (2, .int a1), (3, .int a2), (4, .ref (ad a3))]) hx hb dX8_insertCaption_1 hl (by decide) rfl (fun ls hl => ?_)
  obtain ⟨r2, hr6, hf⟩ := g_s1 hf
  refine w_X8_insertCaption_l1 hN X hk ha3 FU _ _  hr6 (fun H locs ls S hl => ?_) _ _ _ S (lv_sub hl [0, 1, 2, 3, 4, 5] rfl)
  refine lv_iload hx hb dX8_insertCaption_28 (lv_at hl 0 rfl) ?_
  obtain ⟨v7, hv7, hf⟩ := g_s1 hf
  refine g_ki S (g_runS (rest := []) X S (c_X8_isRow l hN  hv7 _) csX8_isRow mlX8_85 rfl rfl hl.1 (by decide) ⟨⟨rfl, rfl⟩, ⟨Nat.le_of_ble_eq_true rfl, Nat.le_of_ble_eq_true rfl⟩, Nat.le_of_ble_eq_true rfl, Nat.le_of_ble_eq_true rfl⟩ dX8_insertCaption_30) (fun H locs S => ?_)
  refine lv_if_eq (tgt := 46) hx hb dX8_insertCaption_33 (by decide) (fun c8 => ?_) (fun c8 => ?_)
  · have hf := (if_pos c8).symm.trans hf
    refine lv_iconst (v := (-1 : Int32)) hx hb dX8_insertCaption_46 (by decide) ?_
    cases hf
    exact g_reti X S rfl dX8_insertCaption_47
  · have hf := (if_neg c8).symm.trans hf
    refine lv_aload_n hx hb dX8_insertCaption_36 rfl (lv_at hl 1 rfl) ?_
    refine gfX8_27 X S hN hk dX8_insertCaption_37 ?_
    obtain ⟨v9, hv9, hf⟩ := g_s1 hf
    refine g_ki S (g_runS (rest := []) X S (c_X8_isRow l hN  hv9 _) csX8_isRow mlX8_85 rfl rfl hl.1 (by decide) ⟨⟨rfl, rfl⟩, ⟨Nat.le_of_ble_eq_true rfl, Nat.le_of_ble_eq_true rfl⟩, Nat.le_of_ble_eq_true rfl, Nat.le_of_ble_eq_true rfl⟩ dX8_insertCaption_40) (fun H locs S => ?_)
    refine lv_if_ne (tgt := 48) hx hb dX8_insertCaption_43 (by decide) (fun c10 => ?_) (fun c10 => ?_)
    · have hf := (if_neg c10).symm.trans hf
      refine lv_aload_n hx hb dX8_insertCaption_48 rfl (lv_at hl 1 rfl) ?_
      refine gfX8_27 X S hN hk dX8_insertCaption_49 ?_
      refine lv_istore (lv' := [(6, .int (σ k 5)), (5, .int r2), (0, .ref (ad k)), (1, .int a0), (2, .int a1), (3, .int a2), (4, .ref (ad a3))]) hx hb dX8_insertCaption_52 hl (by decide) rfl (fun ls hl => ?_)
      obtain ⟨σ13, hr16, hf⟩ := g_s1 hf
      refine w_X8_insertCaption_l2 hN X hk ha3 FU _ _ _  hr16 (fun H locs ls S hl => ?_) _ _ _ S (lv_sub hl [0, 1, 2, 3, 4, 5, 6] rfl)
      refine lv_aload_n hx hb dX8_insertCaption_77 rfl (lv_at hl 1 rfl) ?_
      refine lv_dup hx hb dX8_insertCaption_78 rfl ?_
      refine gfX8_27 X S hN hk dX8_insertCaption_79 ?_
      refine lv_iconst (v := (1 : Int32)) hx hb dX8_insertCaption_82 (by decide) ?_
      refine lv_iadd hx hb dX8_insertCaption_83 ?_
      obtain ⟨σ17, hσ17, hf⟩ := g_s1 hf
      refine pfX8_27 X S hN hk hσ17 dX8_insertCaption_84 (fun H locs S => ?_)
      refine lv_aload_n hx hb dX8_insertCaption_87 rfl (lv_at hl 1 rfl) ?_
      refine gfX8_18 X S hN hk dX8_insertCaption_88 ?_
      refine lv_iload hx hb dX8_insertCaption_91 (lv_at hl 0 rfl) ?_
      refine lv_iload_n hx hb dX8_insertCaption_93 rfl (lv_at hl 2 rfl) ?_
      obtain ⟨σ18, hσ18, hf⟩ := g_s1 hf
      refine g_iast X S (kd_N (kd_8_3 hk) (by decide) hN) (ceC_116 (kd_8_3 hk)) hσ18 dX8_insertCaption_94 (fun H locs S => ?_)
      refine lv_aload_n hx hb dX8_insertCaption_95 rfl (lv_at hl 1 rfl) ?_
      refine lv_iload hx hb dX8_insertCaption_96 (lv_at hl 0 rfl) ?_
      refine lv_iload_n hx hb dX8_insertCaption_98 rfl (lv_at hl 3 rfl) ?_
      refine lv_iload_n hx hb dX8_insertCaption_99 rfl (lv_at hl 4 rfl) ?_
      obtain ⟨σ19, hσ19, hf⟩ := g_s1 hf
      refine g_kv S (g_runV (rest := []) X S (c_X8_setFrames l hN hk hσ19 _) cvX8_setFrames mlX8_92 (kd_N hk (by decide) hN) (ceC_8 hk _) rfl rfl rfl hl.1 (by decide) ⟨⟨rfl, rfl⟩, ⟨Nat.le_of_ble_eq_true rfl, Nat.le_of_ble_eq_true rfl⟩, Nat.le_of_ble_eq_true rfl, Nat.le_of_ble_eq_true rfl⟩ dX8_insertCaption_100) (fun H locs S => ?_)
      refine lv_aload_n hx hb dX8_insertCaption_103 rfl (lv_at hl 1 rfl) ?_
      refine lv_iload hx hb dX8_insertCaption_104 (lv_at hl 0 rfl) ?_
      refine lv_aload hx hb dX8_insertCaption_106 (lv_at hl 5 rfl) ?_
      obtain ⟨σ20, hσ20, hf⟩ := g_s1 hf
      refine g_kv S (g_runV (rest := []) X S (c_X8_setText l hN hk ha3 hσ20 _) cvX8_setText mlX8_96 (kd_N hk (by decide) hN) (ceC_8 hk _) rfl rfl rfl hl.1 (by decide) ⟨⟨rfl, rfl⟩, ⟨Nat.le_of_ble_eq_true rfl, Nat.le_of_ble_eq_true rfl⟩, Nat.le_of_ble_eq_true rfl, Nat.le_of_ble_eq_true rfl⟩ dX8_insertCaption_108) (fun H locs S => ?_)
      refine lv_iload hx hb dX8_insertCaption_111 (lv_at hl 0 rfl) ?_
      cases hf
      exact g_reti X S rfl dX8_insertCaption_113
    · have hf := (if_pos c10).symm.trans hf
      refine lv_iconst (v := (-1 : Int32)) hx hb dX8_insertCaption_46 (by decide) ?_
      cases hf
      exact g_reti X S rfl dX8_insertCaption_47

noncomputable def f_X9_isWordSign (σ : gSt) (a0 : Int32) : Option (Int32) :=
  (g_k1 (if a0 = (95 : Int32) then some (1 : Int32) else (if a0 = (124 : Int32) then some (1 : Int32) else (if a0 < (97 : Int32) then some (0 : Int32) else (if (122 : Int32) < a0 then some (0 : Int32) else some (1 : Int32))))) fun x1 => (g_k1 (gzb x1) fun v4 => some v4))
set_option maxRecDepth 100000 in
set_option maxHeartbeats 4000000 in
theorem c_X9_isWordSign (l : Launch) {Γ : gG} {ad : Nat → Nat} {N : Nat} (hN : 202 ≤ N) {σ : gSt} {a0 : Int32}  {r : Int32} (hf : f_X9_isWordSign σ a0 = some r) : gMi l celC Γ ad N yX9_isWordSign cX9_isWordSign 1 (some .boolean) (gR 1 0 0) [.int a0] σ r σ := by
  intro sz
  refine gOf (Qc := fun sz => gQci celC Γ ad N r σ sz) RX9 (by decide) rfl (by decide) (fun p e s m args below meth c H locs ls X S hl => ?_)
  have hl : lv_has ls 1 [(0, .int a0)] := hl
  have hx := X.1
  have hb := X.2.1
  unfold f_X9_isWordSign at hf
  refine lv_iload_n hx hb dX9_isWordSign_0 rfl (lv_at hl 0 rfl) ?_
  refine lv_bipush (v := (95 : Int32)) hx hb dX9_isWordSign_1 (by decide) ?_
  obtain ⟨x1, hr2, hf⟩ := g_s1 hf
  have J3 : ∀ (H : Heap) (locs : List Loc) (ls : Array Slot), gS celC Γ ad N σ s H locs → lv_has ls 1 [] → W p l e (gR 1 0 0) s m args below meth c H locs 0 0 (gQi celC Γ ad N r σ below args s) (F0 m 29 ls [.int x1]) := by
    intro H locs ls S hl
    obtain ⟨v4, hv4, hf⟩ := g_s1 hf
    obtain ⟨hnv4, rfl⟩ := gzb_some hv4
    cases hf
    exact g_reti X S hnv4 dX9_isWordSign_29
  replace hf := hr2
  refine lv_icmp_eq (tgt := 24) hx hb dX9_isWordSign_3 (by decide) (fun c5 => ?_) (fun c5 => ?_)
  · have hf := (if_pos c5).symm.trans hf
    refine lv_iconst (v := (1 : Int32)) hx hb dX9_isWordSign_24 (by decide) ?_
    refine lv_goto (tgt := 29) hx hb dX9_isWordSign_25 (by decide) ?_
    cases hf
    exact J3 _ _ _ S (lv_sub hl [] rfl)
  · have hf := (if_neg c5).symm.trans hf
    refine lv_iload_n hx hb dX9_isWordSign_6 rfl (lv_at hl 0 rfl) ?_
    refine lv_bipush (v := (124 : Int32)) hx hb dX9_isWordSign_7 (by decide) ?_
    refine lv_icmp_eq (tgt := 24) hx hb dX9_isWordSign_9 (by decide) (fun c6 => ?_) (fun c6 => ?_)
    · have hf := (if_pos c6).symm.trans hf
      refine lv_iconst (v := (1 : Int32)) hx hb dX9_isWordSign_24 (by decide) ?_
      refine lv_goto (tgt := 29) hx hb dX9_isWordSign_25 (by decide) ?_
      cases hf
      exact J3 _ _ _ S (lv_sub hl [] rfl)
    · have hf := (if_neg c6).symm.trans hf
      refine lv_iload_n hx hb dX9_isWordSign_12 rfl (lv_at hl 0 rfl) ?_
      refine lv_bipush (v := (97 : Int32)) hx hb dX9_isWordSign_13 (by decide) ?_
      refine lv_icmp_lt (tgt := 28) hx hb dX9_isWordSign_15 (by decide) (fun c7 => ?_) (fun c7 => ?_)
      · have hf := (if_pos c7).symm.trans hf
        refine lv_iconst (v := (0 : Int32)) hx hb dX9_isWordSign_28 (by decide) ?_
        cases hf
        exact J3 _ _ _ S (lv_sub hl [] rfl)
      · have hf := (if_neg c7).symm.trans hf
        refine lv_iload_n hx hb dX9_isWordSign_18 rfl (lv_at hl 0 rfl) ?_
        refine lv_bipush (v := (122 : Int32)) hx hb dX9_isWordSign_19 (by decide) ?_
        refine lv_icmp_gt (tgt := 28) hx hb dX9_isWordSign_21 (by decide) (fun c8 => ?_) (fun c8 => ?_)
        · have hf := (if_pos c8).symm.trans hf
          refine lv_iconst (v := (0 : Int32)) hx hb dX9_isWordSign_28 (by decide) ?_
          cases hf
          exact J3 _ _ _ S (lv_sub hl [] rfl)
        · have hf := (if_neg c8).symm.trans hf
          refine lv_iconst (v := (1 : Int32)) hx hb dX9_isWordSign_24 (by decide) ?_
          refine lv_goto (tgt := 29) hx hb dX9_isWordSign_25 (by decide) ?_
          cases hf
          exact J3 _ _ _ S (lv_sub hl [] rfl)

noncomputable def f_X7_isValid_l1 (σ : gSt) (k : Nat) : Nat → Int32 → Int32 → Option (Int32)
  | 0, _, _ => none
  | n + 1, i3, i4 => (if (σ k 1) ≤ i3 then (g_k1 (if (1 : Int32) < i4 then some (0 : Int32) else (g_k1 (f_X7_signAt σ k (0 : Int32)) fun v11 => (if v11 = (124 : Int32) then some (0 : Int32) else (g_k1 (f_X7_signAt σ k ((σ k 1) - (1 : Int32))) fun v13 => (if v13 = (124 : Int32) then some (0 : Int32) else some (1 : Int32)))))) fun x6 => (g_k1 (gzb x6) fun v9 => some v9)) else (g_k1 (f_X7_signAt σ k i3) fun v15 => (g_k1 (f_X9_isWordSign σ v15) fun v16 => (if v16 = 0 then some (0 : Int32) else (g_k1 (if v15 = (124 : Int32) then some (i4 + 1) else some i4) fun x18 => (f_X7_isValid_l1 σ k n (i3 + 1) x18))))))
set_option maxRecDepth 100000 in
set_option maxHeartbeats 4000000 in
theorem w_X7_isValid_l1 {l : Launch} {Γ : gG} {ad : Nat → Nat} {N : Nat} {p : Program} {e : Env} {s : State} {m : MethodId} {args : Array Value} {below : List Frame} {meth : Method} {c : Code} (hN : 202 ≤ N) (X : gX celC Γ ad N RX7 cX7_isValid 4 (some .boolean) p s m args meth c) {σ : gSt} {k : Nat} (hk : gkd k = 7) : ∀ (n : Nat) (i3 : Int32) (i4 : Int32) (r : Int32), f_X7_isValid_l1 σ k n i3 i4 = some r → ∀ (H : Heap) (locs : List Loc) (ls : Array Slot), gS celC Γ ad N σ s H locs → lv_has ls 4 [(2, .int i3), (1, .int i4), (0, .ref (ad k))] → W p l e (gR 2 0 0) s m args below meth c H locs 0 0 (gQi celC Γ ad N r σ below args s) (F0 m 23 ls []) := by
  have hx := X.1
  have hb := X.2.1
  intro n
  induction n with
  | zero =>
    intro i3 i4 r hf
    cases hf
  | succ n ih =>
    intro i3 i4 r hf H locs ls S hl
    rw [f_X7_isValid_l1] at hf
    refine lv_iload_n hx hb dX7_isValid_23 rfl (lv_at hl 0 rfl) ?_
    refine lv_aload_n hx hb dX7_isValid_24 rfl (lv_at hl 2 rfl) ?_
    refine gfX7_15 X S hN hk dX7_isValid_25 ?_
    refine lv_icmp_ge (tgt := 61) hx hb dX7_isValid_28 (by decide) (fun c5 => ?_) (fun c5 => ?_)
    · have hf := (if_pos c5).symm.trans hf
      refine lv_iload_n hx hb dX7_isValid_61 rfl (lv_at hl 1 rfl) ?_
      refine lv_iconst (v := (1 : Int32)) hx hb dX7_isValid_62 (by decide) ?_
      obtain ⟨x6, hr7, hf⟩ := g_s1 hf
      have J8 : ∀ (H : Heap) (locs : List Loc) (ls : Array Slot), gS celC Γ ad N σ s H locs → lv_has ls 4 [] → W p l e (gR 2 0 0) s m args below meth c H locs 0 0 (gQi celC Γ ad N r σ below args s) (F0 m 96 ls [.int x6]) := by
        intro H locs ls S hl
        obtain ⟨v9, hv9, hf⟩ := g_s1 hf
        obtain ⟨hnv9, rfl⟩ := gzb_some hv9
        cases hf
        exact g_reti X S hnv9 dX7_isValid_96
      replace hf := hr7
      refine lv_icmp_gt (tgt := 95) hx hb dX7_isValid_63 (by decide) (fun c10 => ?_) (fun c10 => ?_)
      · have hf := (if_pos c10).symm.trans hf
        refine lv_iconst (v := (0 : Int32)) hx hb dX7_isValid_95 (by decide) ?_
        cases hf
        exact J8 _ _ _ S (lv_sub hl [] rfl)
      · have hf := (if_neg c10).symm.trans hf
        refine lv_aload_n hx hb dX7_isValid_66 rfl (lv_at hl 2 rfl) ?_
        refine lv_iconst (v := (0 : Int32)) hx hb dX7_isValid_67 (by decide) ?_
        obtain ⟨v11, hv11, hf⟩ := g_s1 hf
        refine g_ki S (g_runV (rest := []) X S (c_X7_signAt l hN hk hv11 _) cvX7_signAt mlX7_19 (kd_N hk (by decide) hN) (ceC_7 hk _) rfl rfl rfl hl.1 (by decide) ⟨⟨rfl, rfl⟩, ⟨Nat.le_of_ble_eq_true rfl, Nat.le_of_ble_eq_true rfl⟩, Nat.le_of_ble_eq_true rfl, Nat.le_of_ble_eq_true rfl⟩ dX7_isValid_68) (fun H locs S => ?_)
        refine lv_bipush (v := (124 : Int32)) hx hb dX7_isValid_71 (by decide) ?_
        refine lv_icmp_eq (tgt := 95) hx hb dX7_isValid_73 (by decide) (fun c12 => ?_) (fun c12 => ?_)
        · have hf := (if_pos c12).symm.trans hf
          refine lv_iconst (v := (0 : Int32)) hx hb dX7_isValid_95 (by decide) ?_
          cases hf
          exact J8 _ _ _ S (lv_sub hl [] rfl)
        · have hf := (if_neg c12).symm.trans hf
          refine lv_aload_n hx hb dX7_isValid_76 rfl (lv_at hl 2 rfl) ?_
          refine lv_aload_n hx hb dX7_isValid_77 rfl (lv_at hl 2 rfl) ?_
          refine gfX7_15 X S hN hk dX7_isValid_78 ?_
          refine lv_iconst (v := (1 : Int32)) hx hb dX7_isValid_81 (by decide) ?_
          refine lv_isub hx hb dX7_isValid_82 ?_
          obtain ⟨v13, hv13, hf⟩ := g_s1 hf
          refine g_ki S (g_runV (rest := []) X S (c_X7_signAt l hN hk hv13 _) cvX7_signAt mlX7_19 (kd_N hk (by decide) hN) (ceC_7 hk _) rfl rfl rfl hl.1 (by decide) ⟨⟨rfl, rfl⟩, ⟨Nat.le_of_ble_eq_true rfl, Nat.le_of_ble_eq_true rfl⟩, Nat.le_of_ble_eq_true rfl, Nat.le_of_ble_eq_true rfl⟩ dX7_isValid_83) (fun H locs S => ?_)
          refine lv_bipush (v := (124 : Int32)) hx hb dX7_isValid_86 (by decide) ?_
          refine lv_icmp_eq (tgt := 95) hx hb dX7_isValid_88 (by decide) (fun c14 => ?_) (fun c14 => ?_)
          · have hf := (if_pos c14).symm.trans hf
            refine lv_iconst (v := (0 : Int32)) hx hb dX7_isValid_95 (by decide) ?_
            cases hf
            exact J8 _ _ _ S (lv_sub hl [] rfl)
          · have hf := (if_neg c14).symm.trans hf
            refine lv_iconst (v := (1 : Int32)) hx hb dX7_isValid_91 (by decide) ?_
            refine lv_goto (tgt := 96) hx hb dX7_isValid_92 (by decide) ?_
            cases hf
            exact J8 _ _ _ S (lv_sub hl [] rfl)
    · have hf := (if_neg c5).symm.trans hf
      refine lv_aload_n hx hb dX7_isValid_31 rfl (lv_at hl 2 rfl) ?_
      refine lv_iload_n hx hb dX7_isValid_32 rfl (lv_at hl 0 rfl) ?_
      obtain ⟨v15, hv15, hf⟩ := g_s1 hf
      refine g_ki S (g_runV (rest := []) X S (c_X7_signAt l hN hk hv15 _) cvX7_signAt mlX7_19 (kd_N hk (by decide) hN) (ceC_7 hk _) rfl rfl rfl hl.1 (by decide) ⟨⟨rfl, rfl⟩, ⟨Nat.le_of_ble_eq_true rfl, Nat.le_of_ble_eq_true rfl⟩, Nat.le_of_ble_eq_true rfl, Nat.le_of_ble_eq_true rfl⟩ dX7_isValid_33) (fun H locs S => ?_)
      refine lv_istore_n (lv' := [(3, .int v15), (2, .int i3), (1, .int i4), (0, .ref (ad k))]) hx hb dX7_isValid_36 rfl hl (by decide) rfl (fun ls hl => ?_)
      refine lv_iload_n hx hb dX7_isValid_37 rfl (lv_at hl 0 rfl) ?_
      obtain ⟨v16, hv16, hf⟩ := g_s1 hf
      refine g_ki S (g_runN (rest := []) X S (c_X9_isWordSign l hN  hv16 _) csX9_isWordSign mnX7_27 rfl rfl hl.1 (by decide) ⟨⟨rfl, rfl⟩, ⟨Nat.le_of_ble_eq_true rfl, Nat.le_of_ble_eq_true rfl⟩, Nat.le_of_ble_eq_true rfl, Nat.le_of_ble_eq_true rfl⟩ dX7_isValid_38) (fun H locs S => ?_)
      refine lv_if_ne (tgt := 46) hx hb dX7_isValid_41 (by decide) (fun c17 => ?_) (fun c17 => ?_)
      · have hf := (if_neg c17).symm.trans hf
        refine lv_iload_n hx hb dX7_isValid_46 rfl (lv_at hl 0 rfl) ?_
        refine lv_bipush (v := (124 : Int32)) hx hb dX7_isValid_47 (by decide) ?_
        obtain ⟨x18, hr19, hf⟩ := g_s1 hf
        have J20 : ∀ (H : Heap) (locs : List Loc) (ls : Array Slot), gS celC Γ ad N σ s H locs → lv_has ls 4 [(2, .int i3), (1, .int x18), (0, .ref (ad k))] → W p l e (gR 2 0 0) s m args below meth c H locs 0 0 (gQi celC Γ ad N r σ below args s) (F0 m 55 ls []) := by
          intro H locs ls S hl
          refine lv_iinc (v := (i3 + 1)) (lv' := [(2, .int (i3 + 1)), (1, .int x18), (0, .ref (ad k))]) hx hb dX7_isValid_55 hl (k := 0) rfl rfl (by decide) rfl (fun ls hl => ?_)
          refine lv_goto (tgt := 23) hx hb dX7_isValid_58 (by decide) ?_
          exact ih _ _ _  hf _ _ _ S (lv_sub hl [0, 1, 2] rfl)
        replace hf := hr19
        refine lv_icmp_ne (tgt := 55) hx hb dX7_isValid_49 (by decide) (fun c21 => ?_) (fun c21 => ?_)
        · have hf := (if_neg c21).symm.trans hf
          cases hf
          exact J20 _ _ _ S (lv_sub hl [1, 2, 3] rfl)
        · have hf := (if_pos c21).symm.trans hf
          refine lv_iinc (v := (i4 + 1)) (lv' := [(1, .int (i4 + 1)), (3, .int v15), (2, .int i3), (0, .ref (ad k))]) hx hb dX7_isValid_52 hl (k := 2) rfl rfl (by decide) rfl (fun ls hl => ?_)
          cases hf
          exact J20 _ _ _ S (lv_sub hl [2, 0, 3] rfl)
      · have hf := (if_pos c17).symm.trans hf
        refine lv_iconst (v := (0 : Int32)) hx hb dX7_isValid_44 (by decide) ?_
        cases hf
        exact g_reti X S (by decide +kernel) dX7_isValid_45
noncomputable def f_X7_isValid (σ : gSt) (k : Nat) : Option (Int32) :=
  (if (σ k 1) < (1 : Int32) then some (0 : Int32) else (if (σ k 1) ≤ (24 : Int32) then (f_X7_isValid_l1 σ k FU (0 : Int32) (0 : Int32)) else some (0 : Int32)))
set_option maxRecDepth 100000 in
set_option maxHeartbeats 4000000 in
theorem c_X7_isValid (l : Launch) {Γ : gG} {ad : Nat → Nat} {N : Nat} (hN : 202 ≤ N) {σ : gSt} {k : Nat} (hk : gkd k = 7) {r : Int32} (hf : f_X7_isValid σ k = some r) : gMi l celC Γ ad N yX7_isValid cX7_isValid 4 (some .boolean) (gR 2 0 0) [.ref (ad k)] σ r σ := by
  intro sz
  refine gOf (Qc := fun sz => gQci celC Γ ad N r σ sz) RX7 (by decide) rfl (by decide) (fun p e s m args below meth c H locs ls X S hl => ?_)
  have hl : lv_has ls 4 [(0, .ref (ad k))] := hl
  have hx := X.1
  have hb := X.2.1
  unfold f_X7_isValid at hf
  refine lv_aload_n hx hb dX7_isValid_0 rfl (lv_at hl 0 rfl) ?_
  refine gfX7_15 X S hN hk dX7_isValid_1 ?_
  refine lv_iconst (v := (1 : Int32)) hx hb dX7_isValid_4 (by decide) ?_
  refine lv_icmp_lt (tgt := 17) hx hb dX7_isValid_5 (by decide) (fun c1 => ?_) (fun c1 => ?_)
  · have hf := (if_pos c1).symm.trans hf
    refine lv_iconst (v := (0 : Int32)) hx hb dX7_isValid_17 (by decide) ?_
    cases hf
    exact g_reti X S (by decide +kernel) dX7_isValid_18
  · have hf := (if_neg c1).symm.trans hf
    refine lv_aload_n hx hb dX7_isValid_8 rfl (lv_at hl 0 rfl) ?_
    refine gfX7_15 X S hN hk dX7_isValid_9 ?_
    refine lv_bipush (v := (24 : Int32)) hx hb dX7_isValid_12 (by decide) ?_
    refine lv_icmp_le (tgt := 19) hx hb dX7_isValid_14 (by decide) (fun c2 => ?_) (fun c2 => ?_)
    · have hf := (if_pos c2).symm.trans hf
      refine lv_iconst (v := (0 : Int32)) hx hb dX7_isValid_19 (by decide) ?_
      refine lv_istore_n (lv' := [(1, .int (0 : Int32)), (0, .ref (ad k))]) hx hb dX7_isValid_20 rfl hl (by decide) rfl (fun ls hl => ?_)
      refine lv_iconst (v := (0 : Int32)) hx hb dX7_isValid_21 (by decide) ?_
      refine lv_istore_n (lv' := [(2, .int (0 : Int32)), (1, .int (0 : Int32)), (0, .ref (ad k))]) hx hb dX7_isValid_22 rfl hl (by decide) rfl (fun ls hl => ?_)
      exact w_X7_isValid_l1 hN X hk FU _ _ _  hf _ _ _ S (lv_sub hl [0, 1, 2] rfl)
    · have hf := (if_neg c2).symm.trans hf
      refine lv_iconst (v := (0 : Int32)) hx hb dX7_isValid_17 (by decide) ?_
      cases hf
      exact g_reti X S (by decide +kernel) dX7_isValid_18

noncomputable def f_X8_loadBetween_l1 (σ : gSt) (k : Nat) (a0 : Int32) (a2 : Int32) : Nat → Int32 → Int32 → Option (Int32)
  | 0, _, _ => none
  | n + 1, i1, i2 => (if a2 ≤ i1 then some i2 else (g_k1 (f_X8_signAt σ k a0 i1) fun v5 => (g_k1 (if v5 = (124 : Int32) then some i2 else some (i2 + 1)) fun x6 => (f_X8_loadBetween_l1 σ k a0 a2 n (i1 + 1) x6))))
set_option maxRecDepth 100000 in
set_option maxHeartbeats 4000000 in
theorem w_X8_loadBetween_l1 {l : Launch} {Γ : gG} {ad : Nat → Nat} {N : Nat} {p : Program} {e : Env} {s : State} {m : MethodId} {args : Array Value} {below : List Frame} {meth : Method} {c : Code} {Q : State → Prop} (hN : 202 ≤ N) (X : gX celC Γ ad N RX8 cX8_loadBetween 6 (some .int) p s m args meth c) {σ : gSt} {k : Nat} {a0 : Int32} {a2 : Int32} (hk : gkd k = 8) : ∀ (n : Nat) (i1 : Int32) (i2 : Int32) (r3 : Int32), f_X8_loadBetween_l1 σ k a0 a2 n i1 i2 = some r3 → (∀ (H : Heap) (locs : List Loc) (ls : Array Slot), gS celC Γ ad N σ s H locs → lv_has ls 6 [(4, .int r3)] → W p l e (gR 3 0 0) s m args below meth c H locs 0 0 (Q) (F0 m 33 ls [])) → ∀ (H : Heap) (locs : List Loc) (ls : Array Slot), gS celC Γ ad N σ s H locs → lv_has ls 6 [(5, .int i1), (4, .int i2), (0, .ref (ad k)), (1, .int a0), (3, .int a2)] → W p l e (gR 3 0 0) s m args below meth c H locs 0 0 (Q) (F0 m 6 ls []) := by
  have hx := X.1
  have hb := X.2.1
  intro n
  induction n with
  | zero =>
    intro i1 i2 r3 hf
    cases hf
  | succ n ih =>
    intro i1 i2 r3 hf J H locs ls S hl
    rw [f_X8_loadBetween_l1] at hf
    refine lv_iload hx hb dX8_loadBetween_6 (lv_at hl 0 rfl) ?_
    refine lv_iload_n hx hb dX8_loadBetween_8 rfl (lv_at hl 4 rfl) ?_
    refine lv_icmp_ge (tgt := 33) hx hb dX8_loadBetween_9 (by decide) (fun c4 => ?_) (fun c4 => ?_)
    · have hf := (if_pos c4).symm.trans hf
      cases hf
      exact J _ _ _ S (lv_sub hl [1] rfl)
    · have hf := (if_neg c4).symm.trans hf
      refine lv_aload_n hx hb dX8_loadBetween_12 rfl (lv_at hl 2 rfl) ?_
      refine lv_iload_n hx hb dX8_loadBetween_13 rfl (lv_at hl 3 rfl) ?_
      refine lv_iload hx hb dX8_loadBetween_14 (lv_at hl 0 rfl) ?_
      obtain ⟨v5, hv5, hf⟩ := g_s1 hf
      refine g_ki S (g_runV (rest := []) X S (c_X8_signAt l hN hk hv5 _) cvX8_signAt mlX8_55 (kd_N hk (by decide) hN) (ceC_8 hk _) rfl rfl rfl hl.1 (by decide) ⟨⟨rfl, rfl⟩, ⟨Nat.le_of_ble_eq_true rfl, Nat.le_of_ble_eq_true rfl⟩, Nat.le_of_ble_eq_true rfl, Nat.le_of_ble_eq_true rfl⟩ dX8_loadBetween_16) (fun H locs S => ?_)
      refine lv_bipush (v := (124 : Int32)) hx hb dX8_loadBetween_19 (by decide) ?_
      obtain ⟨x6, hr7, hf⟩ := g_s1 hf
      have J8 : ∀ (H : Heap) (locs : List Loc) (ls : Array Slot), gS celC Γ ad N σ s H locs → lv_has ls 6 [(5, .int i1), (4, .int x6), (0, .ref (ad k)), (1, .int a0), (3, .int a2)] → W p l e (gR 3 0 0) s m args below meth c H locs 0 0 (Q) (F0 m 27 ls []) := by
        intro H locs ls S hl
        refine lv_iinc (v := (i1 + 1)) (lv' := [(5, .int (i1 + 1)), (4, .int x6), (0, .ref (ad k)), (1, .int a0), (3, .int a2)]) hx hb dX8_loadBetween_27 hl (k := 0) rfl rfl (by decide) rfl (fun ls hl => ?_)
        refine lv_goto (tgt := 6) hx hb dX8_loadBetween_30 (by decide) ?_
        exact ih _ _ _  hf J _ _ _ S (lv_sub hl [0, 1, 2, 3, 4] rfl)
      replace hf := hr7
      refine lv_icmp_eq (tgt := 27) hx hb dX8_loadBetween_21 (by decide) (fun c9 => ?_) (fun c9 => ?_)
      · have hf := (if_pos c9).symm.trans hf
        cases hf
        exact J8 _ _ _ S (lv_sub hl [0, 1, 2, 3, 4] rfl)
      · have hf := (if_neg c9).symm.trans hf
        refine lv_iinc (v := (i2 + 1)) (lv' := [(4, .int (i2 + 1)), (5, .int i1), (0, .ref (ad k)), (1, .int a0), (3, .int a2)]) hx hb dX8_loadBetween_24 hl (k := 1) rfl rfl (by decide) rfl (fun ls hl => ?_)
        cases hf
        exact J8 _ _ _ S (lv_sub hl [1, 0, 2, 3, 4] rfl)
noncomputable def f_X8_loadBetween (σ : gSt) (k : Nat) (a0 : Int32) (a1 : Int32) (a2 : Int32) : Option (Int32) :=
  (g_k1 (f_X8_loadBetween_l1 σ k a0 a2 FU a1 (0 : Int32)) fun r3 => some r3)
set_option maxRecDepth 100000 in
set_option maxHeartbeats 4000000 in
theorem c_X8_loadBetween (l : Launch) {Γ : gG} {ad : Nat → Nat} {N : Nat} (hN : 202 ≤ N) {σ : gSt} {k : Nat} {a0 : Int32} {a1 : Int32} {a2 : Int32} (hk : gkd k = 8) {r : Int32} (hf : f_X8_loadBetween σ k a0 a1 a2 = some r) : gMi l celC Γ ad N yX8_loadBetween cX8_loadBetween 6 (some .int) (gR 3 0 0) [.ref (ad k), .int a0, .int a1, .int a2] σ r σ := by
  intro sz
  refine gOf (Qc := fun sz => gQci celC Γ ad N r σ sz) RX8 (by decide) rfl (by decide) (fun p e s m args below meth c H locs ls X S hl => ?_)
  have hl : lv_has ls 6 [(5, .int a1), (4, .int (0 : Int32)), (0, .ref (ad k)), (1, .int a0), (3, .int a2)] := hl
  have hx := X.1
  have hb := X.2.1
  unfold f_X8_loadBetween at hf
  refine lv_iconst (v := (0 : Int32)) hx hb dX8_loadBetween_0 (by decide) ?_
  refine lv_istore (lv' := [(4, .int (0 : Int32)), (0, .ref (ad k)), (1, .int a0), (2, .int a1), (3, .int a2)]) hx hb dX8_loadBetween_1 hl (by decide) rfl (fun ls hl => ?_)
  refine lv_iload_n hx hb dX8_loadBetween_3 rfl (lv_at hl 3 rfl) ?_
  refine lv_istore (lv' := [(5, .int a1), (4, .int (0 : Int32)), (0, .ref (ad k)), (1, .int a0), (2, .int a1), (3, .int a2)]) hx hb dX8_loadBetween_4 hl (by decide) rfl (fun ls hl => ?_)
  obtain ⟨r3, hr10, hf⟩ := g_s1 hf
  refine w_X8_loadBetween_l1 hN X hk FU _ _ _  hr10 (fun H locs ls S hl => ?_) _ _ _ S (lv_sub hl [0, 1, 2, 3, 4] rfl)
  refine lv_iload hx hb dX8_loadBetween_33 (lv_at hl 0 rfl) ?_
  cases hf
  exact g_reti X S rfl dX8_loadBetween_35

noncomputable def f_X8_end (σ : gSt) (k : Nat) (a0 : Int32) : Option (Int32) :=
  (g_k1 (f_X8_has σ k a0) fun v1 => (g_k1 (if v1 = 0 then some (0 : Int32) else (g_k1 (gald σ (k + 2) 16 a0) fun v6 => some v6)) fun x2 => some x2))
set_option maxRecDepth 100000 in
set_option maxHeartbeats 4000000 in
theorem c_X8_end (l : Launch) {Γ : gG} {ad : Nat → Nat} {N : Nat} (hN : 202 ≤ N) {σ : gSt} {k : Nat} {a0 : Int32} (hk : gkd k = 8) {r : Int32} (hf : f_X8_end σ k a0 = some r) : gMi l celC Γ ad N yX8_end cX8_end 2 (some .int) (gR 2 0 0) [.ref (ad k), .int a0] σ r σ := by
  intro sz
  refine gOf (Qc := fun sz => gQci celC Γ ad N r σ sz) RX8 (by decide) rfl (by decide) (fun p e s m args below meth c H locs ls X S hl => ?_)
  have hl : lv_has ls 2 [(0, .ref (ad k)), (1, .int a0)] := hl
  have hx := X.1
  have hb := X.2.1
  unfold f_X8_end at hf
  refine lv_aload_n hx hb dX8_end_0 rfl (lv_at hl 0 rfl) ?_
  refine lv_iload_n hx hb dX8_end_1 rfl (lv_at hl 1 rfl) ?_
  obtain ⟨v1, hv1, hf⟩ := g_s1 hf
  refine g_ki S (g_runV (rest := []) X S (c_X8_has l hN hk hv1 _) cvX8_has mlX8_37 (kd_N hk (by decide) hN) (ceC_8 hk _) rfl rfl rfl hl.1 (by decide) ⟨⟨rfl, rfl⟩, ⟨Nat.le_of_ble_eq_true rfl, Nat.le_of_ble_eq_true rfl⟩, Nat.le_of_ble_eq_true rfl, Nat.le_of_ble_eq_true rfl⟩ dX8_end_2) (fun H locs S => ?_)
  obtain ⟨x2, hr3, hf⟩ := g_s1 hf
  have J4 : ∀ (H : Heap) (locs : List Loc) (ls : Array Slot), gS celC Γ ad N σ s H locs → lv_has ls 2 [] → W p l e (gR 2 0 0) s m args below meth c H locs 0 0 (gQi celC Γ ad N r σ below args s) (F0 m 18 ls [.int x2]) := by
    intro H locs ls S hl
    cases hf
    exact g_reti X S rfl dX8_end_18
  replace hf := hr3
  refine lv_if_eq (tgt := 17) hx hb dX8_end_5 (by decide) (fun c5 => ?_) (fun c5 => ?_)
  · have hf := (if_pos c5).symm.trans hf
    refine lv_iconst (v := (0 : Int32)) hx hb dX8_end_17 (by decide) ?_
    cases hf
    exact J4 _ _ _ S (lv_sub hl [] rfl)
  · have hf := (if_neg c5).symm.trans hf
    refine lv_aload_n hx hb dX8_end_8 rfl (lv_at hl 0 rfl) ?_
    refine gfX8_15 X S hN hk dX8_end_9 ?_
    refine lv_iload_n hx hb dX8_end_12 rfl (lv_at hl 1 rfl) ?_
    obtain ⟨v6, hv6, hf⟩ := g_s1 hf
    refine g_iald X S (kd_N (kd_8_2 hk) (by decide) hN) (ceC_116 (kd_8_2 hk)) hv6 dX8_end_13 ?_
    refine lv_goto (tgt := 18) hx hb dX8_end_14 (by decide) ?_
    cases hf
    exact J4 _ _ _ S (lv_sub hl [] rfl)

noncomputable def f_X8_frames (σ : gSt) (k : Nat) (a0 : Int32) : Option (Int32) :=
  (g_k1 (f_X8_end σ k a0) fun v1 => (g_k1 (f_X8_first σ k a0) fun v2 => some (v1 - v2)))
set_option maxRecDepth 100000 in
set_option maxHeartbeats 4000000 in
theorem c_X8_frames (l : Launch) {Γ : gG} {ad : Nat → Nat} {N : Nat} (hN : 202 ≤ N) {σ : gSt} {k : Nat} {a0 : Int32} (hk : gkd k = 8) {r : Int32} (hf : f_X8_frames σ k a0 = some r) : gMi l celC Γ ad N yX8_frames cX8_frames 2 (some .int) (gR 3 0 0) [.ref (ad k), .int a0] σ r σ := by
  intro sz
  refine gOf (Qc := fun sz => gQci celC Γ ad N r σ sz) RX8 (by decide) rfl (by decide) (fun p e s m args below meth c H locs ls X S hl => ?_)
  have hl : lv_has ls 2 [(0, .ref (ad k)), (1, .int a0)] := hl
  have hx := X.1
  have hb := X.2.1
  unfold f_X8_frames at hf
  refine lv_aload_n hx hb dX8_frames_0 rfl (lv_at hl 0 rfl) ?_
  refine lv_iload_n hx hb dX8_frames_1 rfl (lv_at hl 1 rfl) ?_
  obtain ⟨v1, hv1, hf⟩ := g_s1 hf
  refine g_ki S (g_runV (rest := []) X S (c_X8_end l hN hk hv1 _) cvX8_end mlX8_41 (kd_N hk (by decide) hN) (ceC_8 hk _) rfl rfl rfl hl.1 (by decide) ⟨⟨rfl, rfl⟩, ⟨Nat.le_of_ble_eq_true rfl, Nat.le_of_ble_eq_true rfl⟩, Nat.le_of_ble_eq_true rfl, Nat.le_of_ble_eq_true rfl⟩ dX8_frames_2) (fun H locs S => ?_)
  refine lv_aload_n hx hb dX8_frames_5 rfl (lv_at hl 0 rfl) ?_
  refine lv_iload_n hx hb dX8_frames_6 rfl (lv_at hl 1 rfl) ?_
  obtain ⟨v2, hv2, hf⟩ := g_s1 hf
  refine g_ki S (g_runV (rest := [.int v1]) X S (c_X8_first l hN hk hv2 _) cvX8_first mlX8_45 (kd_N hk (by decide) hN) (ceC_8 hk _) rfl rfl rfl hl.1 (by decide) ⟨⟨rfl, rfl⟩, ⟨Nat.le_of_ble_eq_true rfl, Nat.le_of_ble_eq_true rfl⟩, Nat.le_of_ble_eq_true rfl, Nat.le_of_ble_eq_true rfl⟩ dX8_frames_7) (fun H locs S => ?_)
  refine lv_isub hx hb dX8_frames_10 ?_
  cases hf
  exact g_reti X S rfl dX8_frames_11

noncomputable def f_X8_load (σ : gSt) (k : Nat) (a0 : Int32) : Option (Int32) :=
  (g_k1 (f_X8_size σ k a0) fun v1 => (g_k1 (f_X8_loadBetween σ k a0 (0 : Int32) v1) fun v2 => some v2))
set_option maxRecDepth 100000 in
set_option maxHeartbeats 4000000 in
theorem c_X8_load (l : Launch) {Γ : gG} {ad : Nat → Nat} {N : Nat} (hN : 202 ≤ N) {σ : gSt} {k : Nat} {a0 : Int32} (hk : gkd k = 8) {r : Int32} (hf : f_X8_load σ k a0 = some r) : gMi l celC Γ ad N yX8_load cX8_load 2 (some .int) (gR 4 0 0) [.ref (ad k), .int a0] σ r σ := by
  intro sz
  refine gOf (Qc := fun sz => gQci celC Γ ad N r σ sz) RX8 (by decide) rfl (by decide) (fun p e s m args below meth c H locs ls X S hl => ?_)
  have hl : lv_has ls 2 [(0, .ref (ad k)), (1, .int a0)] := hl
  have hx := X.1
  have hb := X.2.1
  unfold f_X8_load at hf
  refine lv_aload_n hx hb dX8_load_0 rfl (lv_at hl 0 rfl) ?_
  refine lv_iload_n hx hb dX8_load_1 rfl (lv_at hl 1 rfl) ?_
  refine lv_iconst (v := (0 : Int32)) hx hb dX8_load_2 (by decide) ?_
  refine lv_aload_n hx hb dX8_load_3 rfl (lv_at hl 0 rfl) ?_
  refine lv_iload_n hx hb dX8_load_4 rfl (lv_at hl 1 rfl) ?_
  obtain ⟨v1, hv1, hf⟩ := g_s1 hf
  refine g_ki S (g_runV (rest := [.int (0 : Int32), .int a0, .ref (ad k)]) X S (c_X8_size l hN hk hv1 _) cvX8_size mlX8_48 (kd_N hk (by decide) hN) (ceC_8 hk _) rfl rfl rfl hl.1 (by decide) ⟨⟨rfl, rfl⟩, ⟨Nat.le_of_ble_eq_true rfl, Nat.le_of_ble_eq_true rfl⟩, Nat.le_of_ble_eq_true rfl, Nat.le_of_ble_eq_true rfl⟩ dX8_load_5) (fun H locs S => ?_)
  obtain ⟨v2, hv2, hf⟩ := g_s1 hf
  refine g_ki S (g_runV (rest := []) X S (c_X8_loadBetween l hN hk hv2 _) cvX8_loadBetween mlX8_51 (kd_N hk (by decide) hN) (ceC_8 hk _) rfl rfl rfl hl.1 (by decide) ⟨⟨rfl, rfl⟩, ⟨Nat.le_of_ble_eq_true rfl, Nat.le_of_ble_eq_true rfl⟩, Nat.le_of_ble_eq_true rfl, Nat.le_of_ble_eq_true rfl⟩ dX8_load_8) (fun H locs S => ?_)
  cases hf
  exact g_reti X S rfl dX8_load_11

noncomputable def f_X9_isSetting (σ : gSt) (a0 : Int32) : Option (Int32) :=
  (g_k1 (if a0 < 0 then some (0 : Int32) else (if (6 : Int32) ≤ a0 then some (0 : Int32) else some (1 : Int32))) fun x1 => (g_k1 (gzb x1) fun v4 => some v4))
set_option maxRecDepth 100000 in
set_option maxHeartbeats 4000000 in
theorem c_X9_isSetting (l : Launch) {Γ : gG} {ad : Nat → Nat} {N : Nat} (hN : 202 ≤ N) {σ : gSt} {a0 : Int32}  {r : Int32} (hf : f_X9_isSetting σ a0 = some r) : gMi l celC Γ ad N yX9_isSetting cX9_isSetting 1 (some .boolean) (gR 1 0 0) [.int a0] σ r σ := by
  intro sz
  refine gOf (Qc := fun sz => gQci celC Γ ad N r σ sz) RX9 (by decide) rfl (by decide) (fun p e s m args below meth c H locs ls X S hl => ?_)
  have hl : lv_has ls 1 [(0, .int a0)] := hl
  have hx := X.1
  have hb := X.2.1
  unfold f_X9_isSetting at hf
  refine lv_iload_n hx hb dX9_isSetting_0 rfl (lv_at hl 0 rfl) ?_
  obtain ⟨x1, hr2, hf⟩ := g_s1 hf
  have J3 : ∀ (H : Heap) (locs : List Loc) (ls : Array Slot), gS celC Γ ad N σ s H locs → lv_has ls 1 [] → W p l e (gR 1 0 0) s m args below meth c H locs 0 0 (gQi celC Γ ad N r σ below args s) (F0 m 15 ls [.int x1]) := by
    intro H locs ls S hl
    obtain ⟨v4, hv4, hf⟩ := g_s1 hf
    obtain ⟨hnv4, rfl⟩ := gzb_some hv4
    cases hf
    exact g_reti X S hnv4 dX9_isSetting_15
  replace hf := hr2
  refine lv_if_lt (tgt := 14) hx hb dX9_isSetting_1 (by decide) (fun c5 => ?_) (fun c5 => ?_)
  · have hf := (if_pos c5).symm.trans hf
    refine lv_iconst (v := (0 : Int32)) hx hb dX9_isSetting_14 (by decide) ?_
    cases hf
    exact J3 _ _ _ S (lv_sub hl [] rfl)
  · have hf := (if_neg c5).symm.trans hf
    refine lv_iload_n hx hb dX9_isSetting_4 rfl (lv_at hl 0 rfl) ?_
    refine lv_bipush (v := (6 : Int32)) hx hb dX9_isSetting_5 (by decide) ?_
    refine lv_icmp_ge (tgt := 14) hx hb dX9_isSetting_7 (by decide) (fun c6 => ?_) (fun c6 => ?_)
    · have hf := (if_pos c6).symm.trans hf
      refine lv_iconst (v := (0 : Int32)) hx hb dX9_isSetting_14 (by decide) ?_
      cases hf
      exact J3 _ _ _ S (lv_sub hl [] rfl)
    · have hf := (if_neg c6).symm.trans hf
      refine lv_iconst (v := (1 : Int32)) hx hb dX9_isSetting_10 (by decide) ?_
      refine lv_goto (tgt := 15) hx hb dX9_isSetting_11 (by decide) ?_
      cases hf
      exact J3 _ _ _ S (lv_sub hl [] rfl)

noncomputable def f_X8_shared (σ : gSt) (k : Nat) (a0 : Int32) (a1 : Int32) (a2 : Int32) : Option (Int32) :=
  (g_k1 (f_X8_has σ k a0) fun v1 => (if v1 = 0 then some (0 : Int32) else (g_k1 (gald σ (k + 2) 16 a0) fun v3 => (g_k1 (gald σ (k + 1) 16 a0) fun v5 => some (if (0 : Int32) < ((if v3 < a2 then v3 else a2) - (if a1 < v5 then v5 else a1)) then ((if v3 < a2 then v3 else a2) - (if a1 < v5 then v5 else a1)) else (0 : Int32))))))
set_option maxRecDepth 100000 in
set_option maxHeartbeats 4000000 in
theorem c_X8_shared (l : Launch) {Γ : gG} {ad : Nat → Nat} {N : Nat} (hN : 202 ≤ N) {σ : gSt} {k : Nat} {a0 : Int32} {a1 : Int32} {a2 : Int32} (hk : gkd k = 8) {r : Int32} (hf : f_X8_shared σ k a0 a1 a2 = some r) : gMi l celC Γ ad N yX8_shared cX8_shared 4 (some .int) (gR 2 0 0) [.ref (ad k), .int a0, .int a1, .int a2] σ r σ := by
  intro sz
  refine gOf (Qc := fun sz => gQci celC Γ ad N r σ sz) RX8 (by decide) rfl (by decide) (fun p e s m args below meth c H locs ls X S hl => ?_)
  have hl : lv_has ls 4 [(0, .ref (ad k)), (1, .int a0), (2, .int a1), (3, .int a2)] := hl
  have hx := X.1
  have hb := X.2.1
  unfold f_X8_shared at hf
  refine lv_aload_n hx hb dX8_shared_0 rfl (lv_at hl 0 rfl) ?_
  refine lv_iload_n hx hb dX8_shared_1 rfl (lv_at hl 1 rfl) ?_
  obtain ⟨v1, hv1, hf⟩ := g_s1 hf
  refine g_ki S (g_runV (rest := []) X S (c_X8_has l hN hk hv1 _) cvX8_has mlX8_37 (kd_N hk (by decide) hN) (ceC_8 hk _) rfl rfl rfl hl.1 (by decide) ⟨⟨rfl, rfl⟩, ⟨Nat.le_of_ble_eq_true rfl, Nat.le_of_ble_eq_true rfl⟩, Nat.le_of_ble_eq_true rfl, Nat.le_of_ble_eq_true rfl⟩ dX8_shared_2) (fun H locs S => ?_)
  refine lv_if_ne (tgt := 10) hx hb dX8_shared_5 (by decide) (fun c2 => ?_) (fun c2 => ?_)
  · have hf := (if_neg c2).symm.trans hf
    refine lv_iconst (v := (0 : Int32)) hx hb dX8_shared_10 (by decide) ?_
    refine lv_iload_n hx hb dX8_shared_11 rfl (lv_at hl 3 rfl) ?_
    refine lv_aload_n hx hb dX8_shared_12 rfl (lv_at hl 0 rfl) ?_
    refine gfX8_15 X S hN hk dX8_shared_13 ?_
    refine lv_iload_n hx hb dX8_shared_16 rfl (lv_at hl 1 rfl) ?_
    obtain ⟨v3, hv3, hf⟩ := g_s1 hf
    refine g_iald X S (kd_N (kd_8_2 hk) (by decide) hN) (ceC_116 (kd_8_2 hk)) hv3 dX8_shared_17 ?_
    refine g_min X hl.1 mwX8_64 ⟨⟨by decide, Nat.le_of_ble_eq_true rfl⟩, Nat.le_of_ble_eq_true rfl, Nat.le_of_ble_eq_true rfl⟩ dX8_shared_18 ?_
    refine lv_iload_n hx hb dX8_shared_21 rfl (lv_at hl 2 rfl) ?_
    refine lv_aload_n hx hb dX8_shared_22 rfl (lv_at hl 0 rfl) ?_
    refine gfX8_9 X S hN hk dX8_shared_23 ?_
    refine lv_iload_n hx hb dX8_shared_26 rfl (lv_at hl 1 rfl) ?_
    obtain ⟨v5, hv5, hf⟩ := g_s1 hf
    refine g_iald X S (kd_N (kd_8_1 hk) (by decide) hN) (ceC_116 (kd_8_1 hk)) hv5 dX8_shared_27 ?_
    refine g_max X hl.1 mwX8_59 ⟨⟨by decide, Nat.le_of_ble_eq_true rfl⟩, Nat.le_of_ble_eq_true rfl, Nat.le_of_ble_eq_true rfl⟩ dX8_shared_28 ?_
    refine lv_isub hx hb dX8_shared_31 ?_
    refine g_max X hl.1 mwX8_59 ⟨⟨by decide, Nat.le_of_ble_eq_true rfl⟩, Nat.le_of_ble_eq_true rfl, Nat.le_of_ble_eq_true rfl⟩ dX8_shared_32 ?_
    cases hf
    exact g_reti X S rfl dX8_shared_35
  · have hf := (if_pos c2).symm.trans hf
    refine lv_iconst (v := (0 : Int32)) hx hb dX8_shared_8 (by decide) ?_
    cases hf
    exact g_reti X S rfl dX8_shared_9

noncomputable def f_X8_sharesWithOthers_l1 (σ : gSt) (k : Nat) (a0 : Int32) (a1 : Int32) (a2 : Int32) : Nat → Int32 → Option (Int32)
  | 0, _ => none
  | n + 1, i1 => (if (σ k 5) ≤ i1 then some (0 : Int32) else (if i1 = a0 then (f_X8_sharesWithOthers_l1 σ k a0 a1 a2 n (i1 + 1)) else (g_k1 (f_X8_shared σ k i1 a1 a2) fun v4 => (if v4 ≤ 0 then (f_X8_sharesWithOthers_l1 σ k a0 a1 a2 n (i1 + 1)) else some (1 : Int32)))))
set_option maxRecDepth 100000 in
set_option maxHeartbeats 4000000 in
theorem w_X8_sharesWithOthers_l1 {l : Launch} {Γ : gG} {ad : Nat → Nat} {N : Nat} {p : Program} {e : Env} {s : State} {m : MethodId} {args : Array Value} {below : List Frame} {meth : Method} {c : Code} (hN : 202 ≤ N) (X : gX celC Γ ad N RX8 cX8_sharesWithOthers 5 (some .boolean) p s m args meth c) {σ : gSt} {k : Nat} {a0 : Int32} {a1 : Int32} {a2 : Int32} (hk : gkd k = 8) : ∀ (n : Nat) (i1 : Int32) (r : Int32), f_X8_sharesWithOthers_l1 σ k a0 a1 a2 n i1 = some r → ∀ (H : Heap) (locs : List Loc) (ls : Array Slot), gS celC Γ ad N σ s H locs → lv_has ls 5 [(4, .int i1), (0, .ref (ad k)), (1, .int a0), (2, .int a1), (3, .int a2)] → W p l e (gR 3 0 0) s m args below meth c H locs 0 0 (gQi celC Γ ad N r σ below args s) (F0 m 3 ls []) := by
  have hx := X.1
  have hb := X.2.1
  intro n
  induction n with
  | zero =>
    intro i1 r hf
    cases hf
  | succ n ih =>
    intro i1 r hf H locs ls S hl
    rw [f_X8_sharesWithOthers_l1] at hf
    refine lv_iload hx hb dX8_sharesWithOthers_3 (lv_at hl 0 rfl) ?_
    refine lv_aload_n hx hb dX8_sharesWithOthers_5 rfl (lv_at hl 1 rfl) ?_
    refine gfX8_27 X S hN hk dX8_sharesWithOthers_6 ?_
    refine lv_icmp_ge (tgt := 37) hx hb dX8_sharesWithOthers_9 (by decide) (fun c2 => ?_) (fun c2 => ?_)
    · have hf := (if_pos c2).symm.trans hf
      refine lv_iconst (v := (0 : Int32)) hx hb dX8_sharesWithOthers_37 (by decide) ?_
      cases hf
      exact g_reti X S (by decide +kernel) dX8_sharesWithOthers_38
    · have hf := (if_neg c2).symm.trans hf
      refine lv_iload hx hb dX8_sharesWithOthers_12 (lv_at hl 0 rfl) ?_
      refine lv_iload_n hx hb dX8_sharesWithOthers_14 rfl (lv_at hl 2 rfl) ?_
      refine lv_icmp_eq (tgt := 31) hx hb dX8_sharesWithOthers_15 (by decide) (fun c3 => ?_) (fun c3 => ?_)
      · have hf := (if_pos c3).symm.trans hf
        refine lv_iinc (v := (i1 + 1)) (lv' := [(4, .int (i1 + 1)), (0, .ref (ad k)), (1, .int a0), (2, .int a1), (3, .int a2)]) hx hb dX8_sharesWithOthers_31 hl (k := 0) rfl rfl (by decide) rfl (fun ls hl => ?_)
        refine lv_goto (tgt := 3) hx hb dX8_sharesWithOthers_34 (by decide) ?_
        exact ih _ _  hf _ _ _ S (lv_sub hl [0, 1, 2, 3, 4] rfl)
      · have hf := (if_neg c3).symm.trans hf
        refine lv_aload_n hx hb dX8_sharesWithOthers_18 rfl (lv_at hl 1 rfl) ?_
        refine lv_iload hx hb dX8_sharesWithOthers_19 (lv_at hl 0 rfl) ?_
        refine lv_iload_n hx hb dX8_sharesWithOthers_21 rfl (lv_at hl 3 rfl) ?_
        refine lv_iload_n hx hb dX8_sharesWithOthers_22 rfl (lv_at hl 4 rfl) ?_
        obtain ⟨v4, hv4, hf⟩ := g_s1 hf
        refine g_ki S (g_runV (rest := []) X S (c_X8_shared l hN hk hv4 _) cvX8_shared mlX8_67 (kd_N hk (by decide) hN) (ceC_8 hk _) rfl rfl rfl hl.1 (by decide) ⟨⟨rfl, rfl⟩, ⟨Nat.le_of_ble_eq_true rfl, Nat.le_of_ble_eq_true rfl⟩, Nat.le_of_ble_eq_true rfl, Nat.le_of_ble_eq_true rfl⟩ dX8_sharesWithOthers_23) (fun H locs S => ?_)
        refine lv_if_le (tgt := 31) hx hb dX8_sharesWithOthers_26 (by decide) (fun c5 => ?_) (fun c5 => ?_)
        · have hf := (if_pos c5).symm.trans hf
          refine lv_iinc (v := (i1 + 1)) (lv' := [(4, .int (i1 + 1)), (0, .ref (ad k)), (1, .int a0), (2, .int a1), (3, .int a2)]) hx hb dX8_sharesWithOthers_31 hl (k := 0) rfl rfl (by decide) rfl (fun ls hl => ?_)
          refine lv_goto (tgt := 3) hx hb dX8_sharesWithOthers_34 (by decide) ?_
          exact ih _ _  hf _ _ _ S (lv_sub hl [0, 1, 2, 3, 4] rfl)
        · have hf := (if_neg c5).symm.trans hf
          refine lv_iconst (v := (1 : Int32)) hx hb dX8_sharesWithOthers_29 (by decide) ?_
          cases hf
          exact g_reti X S (by decide +kernel) dX8_sharesWithOthers_30
noncomputable def f_X8_sharesWithOthers (σ : gSt) (k : Nat) (a0 : Int32) (a1 : Int32) (a2 : Int32) : Option (Int32) :=
  (f_X8_sharesWithOthers_l1 σ k a0 a1 a2 FU (0 : Int32))
set_option maxRecDepth 100000 in
set_option maxHeartbeats 4000000 in
theorem c_X8_sharesWithOthers (l : Launch) {Γ : gG} {ad : Nat → Nat} {N : Nat} (hN : 202 ≤ N) {σ : gSt} {k : Nat} {a0 : Int32} {a1 : Int32} {a2 : Int32} (hk : gkd k = 8) {r : Int32} (hf : f_X8_sharesWithOthers σ k a0 a1 a2 = some r) : gMi l celC Γ ad N yX8_sharesWithOthers cX8_sharesWithOthers 5 (some .boolean) (gR 3 0 0) [.ref (ad k), .int a0, .int a1, .int a2] σ r σ := by
  intro sz
  refine gOf (Qc := fun sz => gQci celC Γ ad N r σ sz) RX8 (by decide) rfl (by decide) (fun p e s m args below meth c H locs ls X S hl => ?_)
  have hl : lv_has ls 5 [(4, .int (0 : Int32)), (0, .ref (ad k)), (1, .int a0), (2, .int a1), (3, .int a2)] := hl
  have hx := X.1
  have hb := X.2.1
  unfold f_X8_sharesWithOthers at hf
  refine lv_iconst (v := (0 : Int32)) hx hb dX8_sharesWithOthers_0 (by decide) ?_
  refine lv_istore (lv' := [(4, .int (0 : Int32)), (0, .ref (ad k)), (1, .int a0), (2, .int a1), (3, .int a2)]) hx hb dX8_sharesWithOthers_1 hl (by decide) rfl (fun ls hl => ?_)
  exact w_X8_sharesWithOthers_l1 hN X hk FU _ _  hf _ _ _ S (lv_sub hl [0, 1, 2, 3, 4] rfl)

noncomputable def f_X9_dividedUp (σ : gSt) (a0 : Int32) (a1 : Int32) : Option (Int32) :=
  (g_k1 (if a1 ≤ 0 then some (0 : Int32) else (g_k1 (gdiv ((a0 + a1) - (1 : Int32)) a1) fun _ => some (((a0 + a1) - (1 : Int32)) / a1))) fun x1 => some x1)
set_option maxRecDepth 100000 in
set_option maxHeartbeats 4000000 in
theorem c_X9_dividedUp (l : Launch) {Γ : gG} {ad : Nat → Nat} {N : Nat} (hN : 202 ≤ N) {σ : gSt} {a0 : Int32} {a1 : Int32}  {r : Int32} (hf : f_X9_dividedUp σ a0 a1 = some r) : gMi l celC Γ ad N yX9_dividedUp cX9_dividedUp 2 (some .int) (gR 1 0 0) [.int a0, .int a1] σ r σ := by
  intro sz
  refine gOf (Qc := fun sz => gQci celC Γ ad N r σ sz) RX9 (by decide) rfl (by decide) (fun p e s m args below meth c H locs ls X S hl => ?_)
  have hl : lv_has ls 2 [(0, .int a0), (1, .int a1)] := hl
  have hx := X.1
  have hb := X.2.1
  unfold f_X9_dividedUp at hf
  refine lv_iload_n hx hb dX9_dividedUp_0 rfl (lv_at hl 1 rfl) ?_
  obtain ⟨x1, hr2, hf⟩ := g_s1 hf
  have J3 : ∀ (H : Heap) (locs : List Loc) (ls : Array Slot), gS celC Γ ad N σ s H locs → lv_has ls 2 [] → W p l e (gR 1 0 0) s m args below meth c H locs 0 0 (gQi celC Γ ad N r σ below args s) (F0 m 15 ls [.int x1]) := by
    intro H locs ls S hl
    cases hf
    exact g_reti X S rfl dX9_dividedUp_15
  replace hf := hr2
  refine lv_if_le (tgt := 14) hx hb dX9_dividedUp_1 (by decide) (fun c4 => ?_) (fun c4 => ?_)
  · have hf := (if_pos c4).symm.trans hf
    refine lv_iconst (v := (0 : Int32)) hx hb dX9_dividedUp_14 (by decide) ?_
    cases hf
    exact J3 _ _ _ S (lv_sub hl [] rfl)
  · have hf := (if_neg c4).symm.trans hf
    refine lv_iload_n hx hb dX9_dividedUp_4 rfl (lv_at hl 0 rfl) ?_
    refine lv_iload_n hx hb dX9_dividedUp_5 rfl (lv_at hl 1 rfl) ?_
    refine lv_iadd hx hb dX9_dividedUp_6 ?_
    refine lv_iconst (v := (1 : Int32)) hx hb dX9_dividedUp_7 (by decide) ?_
    refine lv_isub hx hb dX9_dividedUp_8 ?_
    refine lv_iload_n hx hb dX9_dividedUp_9 rfl (lv_at hl 1 rfl) ?_
    obtain ⟨v5, hv5, hf⟩ := g_s1 hf
    obtain ⟨hzv5, rfl⟩ := gdiv_some hv5
    refine lv_idiv hx hb dX9_dividedUp_10 hzv5 ?_
    refine lv_goto (tgt := 15) hx hb dX9_dividedUp_11 (by decide) ?_
    cases hf
    exact J3 _ _ _ S (lv_sub hl [] rfl)

noncomputable def f_J9_floorDiv_7cf53 (σ : gSt) (a0 : Int32) (a1 : Int32) : Option (Int32) :=
  (g_k1 (gdiv a0 a1) fun _ => (if 0 ≤ (a0 ^^^ a1) then some (a0 / a1) else (if ((a0 / a1) * a1) = a0 then some (a0 / a1) else some ((a0 / a1) - (1 : Int32)))))
set_option maxRecDepth 100000 in
set_option maxHeartbeats 4000000 in
theorem c_J9_floorDiv_7cf53 (l : Launch) {Γ : gG} {ad : Nat → Nat} {N : Nat} (hN : 202 ≤ N) {σ : gSt} {a0 : Int32} {a1 : Int32}  {r : Int32} (hf : f_J9_floorDiv_7cf53 σ a0 a1 = some r) : gMi l celC Γ ad N yJ9_floorDiv_7cf53 cJ9_floorDiv_7cf53 3 (some .int) (gR 1 0 0) [.int a0, .int a1] σ r σ := by
  intro sz
  refine gOf (Qc := fun sz => gQci celC Γ ad N r σ sz) RJ9 (by decide) rfl (by decide) (fun p e s m args below meth c H locs ls X S hl => ?_)
  have hl : lv_has ls 3 [(2, .int (a0 / a1)), (0, .int a0), (1, .int a1)] := hl
  have hx := X.1
  have hb := X.2.1
  unfold f_J9_floorDiv_7cf53 at hf
  refine lv_iload_n hx hb dJ9_floorDiv_7cf53_0 rfl (lv_at hl 0 rfl) ?_
  refine lv_iload_n hx hb dJ9_floorDiv_7cf53_1 rfl (lv_at hl 1 rfl) ?_
  obtain ⟨v1, hv1, hf⟩ := g_s1 hf
  obtain ⟨hzv1, rfl⟩ := gdiv_some hv1
  refine lv_idiv hx hb dJ9_floorDiv_7cf53_2 hzv1 ?_
  refine lv_istore_n (lv' := [(2, .int (a0 / a1)), (0, .int a0), (1, .int a1)]) hx hb dJ9_floorDiv_7cf53_3 rfl hl (by decide) rfl (fun ls hl => ?_)
  refine lv_iload_n hx hb dJ9_floorDiv_7cf53_4 rfl (lv_at hl 1 rfl) ?_
  refine lv_iload_n hx hb dJ9_floorDiv_7cf53_5 rfl (lv_at hl 2 rfl) ?_
  refine lv_ixor hx hb dJ9_floorDiv_7cf53_6 ?_
  refine lv_if_ge (tgt := 21) hx hb dJ9_floorDiv_7cf53_7 (by decide) (fun c2 => ?_) (fun c2 => ?_)
  · have hf := (if_pos c2).symm.trans hf
    refine lv_iload_n hx hb dJ9_floorDiv_7cf53_21 rfl (lv_at hl 0 rfl) ?_
    cases hf
    exact g_reti X S rfl dJ9_floorDiv_7cf53_22
  · have hf := (if_neg c2).symm.trans hf
    refine lv_iload_n hx hb dJ9_floorDiv_7cf53_10 rfl (lv_at hl 0 rfl) ?_
    refine lv_iload_n hx hb dJ9_floorDiv_7cf53_11 rfl (lv_at hl 2 rfl) ?_
    refine lv_imul hx hb dJ9_floorDiv_7cf53_12 ?_
    refine lv_iload_n hx hb dJ9_floorDiv_7cf53_13 rfl (lv_at hl 1 rfl) ?_
    refine lv_icmp_eq (tgt := 21) hx hb dJ9_floorDiv_7cf53_14 (by decide) (fun c3 => ?_) (fun c3 => ?_)
    · have hf := (if_pos c3).symm.trans hf
      refine lv_iload_n hx hb dJ9_floorDiv_7cf53_21 rfl (lv_at hl 0 rfl) ?_
      cases hf
      exact g_reti X S rfl dJ9_floorDiv_7cf53_22
    · have hf := (if_neg c3).symm.trans hf
      refine lv_iload_n hx hb dJ9_floorDiv_7cf53_17 rfl (lv_at hl 0 rfl) ?_
      refine lv_iconst (v := (1 : Int32)) hx hb dJ9_floorDiv_7cf53_18 (by decide) ?_
      refine lv_isub hx hb dJ9_floorDiv_7cf53_19 ?_
      cases hf
      exact g_reti X S rfl dJ9_floorDiv_7cf53_20

noncomputable def f_X6_frameFor (σ : gSt) (k : Nat) (a0 : Int32) : Option (Int32) :=
  (if 0 < (σ k 3) then (g_k1 (f_J9_floorDiv_7cf53 σ ((((2 : Int32) * (a0 - (σ k 0))) * (σ k 2)) + (σ k 3)) ((2 : Int32) * (σ k 3))) fun v2 => some ((σ k 1) + v2)) else some a0)
set_option maxRecDepth 100000 in
set_option maxHeartbeats 4000000 in
theorem c_X6_frameFor (l : Launch) {Γ : gG} {ad : Nat → Nat} {N : Nat} (hN : 202 ≤ N) {σ : gSt} {k : Nat} {a0 : Int32} (hk : gkd k = 6) (hk6 : k < N) {r : Int32} (hf : f_X6_frameFor σ k a0 = some r) : gMi l celC Γ ad N yX6_frameFor cX6_frameFor 2 (some .int) (gR 2 0 0) [.ref (ad k), .int a0] σ r σ := by
  intro sz
  refine gOf (Qc := fun sz => gQci celC Γ ad N r σ sz) RX6 (by decide) rfl (by decide) (fun p e s m args below meth c H locs ls X S hl => ?_)
  have hl : lv_has ls 2 [(0, .ref (ad k)), (1, .int a0)] := hl
  have hx := X.1
  have hb := X.2.1
  unfold f_X6_frameFor at hf
  refine lv_aload_n hx hb dX6_frameFor_0 rfl (lv_at hl 0 rfl) ?_
  refine gfX6_25 X S hN hk hk6 dX6_frameFor_1 ?_
  refine lv_if_gt (tgt := 9) hx hb dX6_frameFor_4 (by decide) (fun c1 => ?_) (fun c1 => ?_)
  · have hf := (if_pos c1).symm.trans hf
    refine lv_aload_n hx hb dX6_frameFor_9 rfl (lv_at hl 0 rfl) ?_
    refine gfX6_13 X S hN hk hk6 dX6_frameFor_10 ?_
    refine lv_iconst (v := (2 : Int32)) hx hb dX6_frameFor_13 (by decide) ?_
    refine lv_iload_n hx hb dX6_frameFor_14 rfl (lv_at hl 1 rfl) ?_
    refine lv_aload_n hx hb dX6_frameFor_15 rfl (lv_at hl 0 rfl) ?_
    refine gfX6_7 X S hN hk hk6 dX6_frameFor_16 ?_
    refine lv_isub hx hb dX6_frameFor_19 ?_
    refine lv_imul hx hb dX6_frameFor_20 ?_
    refine lv_aload_n hx hb dX6_frameFor_21 rfl (lv_at hl 0 rfl) ?_
    refine gfX6_22 X S hN hk hk6 dX6_frameFor_22 ?_
    refine lv_imul hx hb dX6_frameFor_25 ?_
    refine lv_aload_n hx hb dX6_frameFor_26 rfl (lv_at hl 0 rfl) ?_
    refine gfX6_25 X S hN hk hk6 dX6_frameFor_27 ?_
    refine lv_iadd hx hb dX6_frameFor_30 ?_
    refine lv_iconst (v := (2 : Int32)) hx hb dX6_frameFor_31 (by decide) ?_
    refine lv_aload_n hx hb dX6_frameFor_32 rfl (lv_at hl 0 rfl) ?_
    refine gfX6_25 X S hN hk hk6 dX6_frameFor_33 ?_
    refine lv_imul hx hb dX6_frameFor_36 ?_
    obtain ⟨v2, hv2, hf⟩ := g_s1 hf
    refine g_ki S (g_runS (rest := [.int (σ k 1)]) X S (c_J9_floorDiv_7cf53 l hN  hv2 _) csJ9_floorDiv_7cf53 mlX6_28 rfl rfl hl.1 (by decide) ⟨⟨rfl, rfl⟩, ⟨Nat.le_of_ble_eq_true rfl, Nat.le_of_ble_eq_true rfl⟩, Nat.le_of_ble_eq_true rfl, Nat.le_of_ble_eq_true rfl⟩ dX6_frameFor_37) (fun H locs S => ?_)
    refine lv_iadd hx hb dX6_frameFor_40 ?_
    cases hf
    exact g_reti X S rfl dX6_frameFor_41
  · have hf := (if_neg c1).symm.trans hf
    refine lv_iload_n hx hb dX6_frameFor_7 rfl (lv_at hl 1 rfl) ?_
    cases hf
    exact g_reti X S rfl dX6_frameFor_8

noncomputable def f_X8_gapBefore (σ : gSt) (k : Nat) (a0 : Int32) : Option (Int32) :=
  (g_k1 (f_X8_has σ k (a0 - (1 : Int32))) fun v1 => (g_k1 (if v1 = 0 then some (-1 : Int32) else (g_k1 (f_X8_first σ k a0) fun v6 => (g_k1 (f_X8_end σ k (a0 - (1 : Int32))) fun v7 => some (v6 - v7)))) fun x2 => some x2))
set_option maxRecDepth 100000 in
set_option maxHeartbeats 4000000 in
theorem c_X8_gapBefore (l : Launch) {Γ : gG} {ad : Nat → Nat} {N : Nat} (hN : 202 ≤ N) {σ : gSt} {k : Nat} {a0 : Int32} (hk : gkd k = 8) {r : Int32} (hf : f_X8_gapBefore σ k a0 = some r) : gMi l celC Γ ad N yX8_gapBefore cX8_gapBefore 2 (some .int) (gR 3 0 0) [.ref (ad k), .int a0] σ r σ := by
  intro sz
  refine gOf (Qc := fun sz => gQci celC Γ ad N r σ sz) RX8 (by decide) rfl (by decide) (fun p e s m args below meth c H locs ls X S hl => ?_)
  have hl : lv_has ls 2 [(0, .ref (ad k)), (1, .int a0)] := hl
  have hx := X.1
  have hb := X.2.1
  unfold f_X8_gapBefore at hf
  refine lv_aload_n hx hb dX8_gapBefore_0 rfl (lv_at hl 0 rfl) ?_
  refine lv_iload_n hx hb dX8_gapBefore_1 rfl (lv_at hl 1 rfl) ?_
  refine lv_iconst (v := (1 : Int32)) hx hb dX8_gapBefore_2 (by decide) ?_
  refine lv_isub hx hb dX8_gapBefore_3 ?_
  obtain ⟨v1, hv1, hf⟩ := g_s1 hf
  refine g_ki S (g_runV (rest := []) X S (c_X8_has l hN hk hv1 _) cvX8_has mlX8_37 (kd_N hk (by decide) hN) (ceC_8 hk _) rfl rfl rfl hl.1 (by decide) ⟨⟨rfl, rfl⟩, ⟨Nat.le_of_ble_eq_true rfl, Nat.le_of_ble_eq_true rfl⟩, Nat.le_of_ble_eq_true rfl, Nat.le_of_ble_eq_true rfl⟩ dX8_gapBefore_4) (fun H locs S => ?_)
  obtain ⟨x2, hr3, hf⟩ := g_s1 hf
  have J4 : ∀ (H : Heap) (locs : List Loc) (ls : Array Slot), gS celC Γ ad N σ s H locs → lv_has ls 2 [] → W p l e (gR 3 0 0) s m args below meth c H locs 0 0 (gQi celC Γ ad N r σ below args s) (F0 m 27 ls [.int x2]) := by
    intro H locs ls S hl
    cases hf
    exact g_reti X S rfl dX8_gapBefore_27
  replace hf := hr3
  refine lv_if_eq (tgt := 26) hx hb dX8_gapBefore_7 (by decide) (fun c5 => ?_) (fun c5 => ?_)
  · have hf := (if_pos c5).symm.trans hf
    refine lv_iconst (v := (-1 : Int32)) hx hb dX8_gapBefore_26 (by decide) ?_
    cases hf
    exact J4 _ _ _ S (lv_sub hl [] rfl)
  · have hf := (if_neg c5).symm.trans hf
    refine lv_aload_n hx hb dX8_gapBefore_10 rfl (lv_at hl 0 rfl) ?_
    refine lv_iload_n hx hb dX8_gapBefore_11 rfl (lv_at hl 1 rfl) ?_
    obtain ⟨v6, hv6, hf⟩ := g_s1 hf
    refine g_ki S (g_runV (rest := []) X S (c_X8_first l hN hk hv6 _) cvX8_first mlX8_45 (kd_N hk (by decide) hN) (ceC_8 hk _) rfl rfl rfl hl.1 (by decide) ⟨⟨rfl, rfl⟩, ⟨Nat.le_of_ble_eq_true rfl, Nat.le_of_ble_eq_true rfl⟩, Nat.le_of_ble_eq_true rfl, Nat.le_of_ble_eq_true rfl⟩ dX8_gapBefore_12) (fun H locs S => ?_)
    refine lv_aload_n hx hb dX8_gapBefore_15 rfl (lv_at hl 0 rfl) ?_
    refine lv_iload_n hx hb dX8_gapBefore_16 rfl (lv_at hl 1 rfl) ?_
    refine lv_iconst (v := (1 : Int32)) hx hb dX8_gapBefore_17 (by decide) ?_
    refine lv_isub hx hb dX8_gapBefore_18 ?_
    obtain ⟨v7, hv7, hf⟩ := g_s1 hf
    refine g_ki S (g_runV (rest := [.int v6]) X S (c_X8_end l hN hk hv7 _) cvX8_end mlX8_41 (kd_N hk (by decide) hN) (ceC_8 hk _) rfl rfl rfl hl.1 (by decide) ⟨⟨rfl, rfl⟩, ⟨Nat.le_of_ble_eq_true rfl, Nat.le_of_ble_eq_true rfl⟩, Nat.le_of_ble_eq_true rfl, Nat.le_of_ble_eq_true rfl⟩ dX8_gapBefore_19) (fun H locs S => ?_)
    refine lv_isub hx hb dX8_gapBefore_22 ?_
    refine lv_goto (tgt := 27) hx hb dX8_gapBefore_23 (by decide) ?_
    cases hf
    exact J4 _ _ _ S (lv_sub hl [] rfl)

noncomputable def f_X8_longestLine_l1 (σ : gSt) (k : Nat) (a0 : Int32) : Nat → Int32 → Int32 → Int32 → Option (Int32)
  | 0, _, _, _ => none
  | n + 1, i1, i2, i3 => (g_k1 (f_X8_size σ k a0) fun v5 => (if v5 ≤ i1 then some i3 else (g_k1 (f_X8_signAt σ k a0 i1) fun v7 => (g_k1 (if v7 = (124 : Int32) then some (0 : Int32) else some (i2 + (1 : Int32))) fun x8 => (f_X8_longestLine_l1 σ k a0 n (i1 + 1) x8 (if i3 < x8 then x8 else i3))))))
set_option maxRecDepth 100000 in
set_option maxHeartbeats 4000000 in
theorem w_X8_longestLine_l1 {l : Launch} {Γ : gG} {ad : Nat → Nat} {N : Nat} {p : Program} {e : Env} {s : State} {m : MethodId} {args : Array Value} {below : List Frame} {meth : Method} {c : Code} {Q : State → Prop} (hN : 202 ≤ N) (X : gX celC Γ ad N RX8 cX8_longestLine 5 (some .int) p s m args meth c) {σ : gSt} {k : Nat} {a0 : Int32} (hk : gkd k = 8) : ∀ (n : Nat) (i1 : Int32) (i2 : Int32) (i3 : Int32) (r4 : Int32), f_X8_longestLine_l1 σ k a0 n i1 i2 i3 = some r4 → (∀ (H : Heap) (locs : List Loc) (ls : Array Slot), gS celC Γ ad N σ s H locs → lv_has ls 5 [(2, .int r4)] → W p l e (gR 3 0 0) s m args below meth c H locs 0 0 (Q) (F0 m 49 ls [])) → ∀ (H : Heap) (locs : List Loc) (ls : Array Slot), gS celC Γ ad N σ s H locs → lv_has ls 5 [(4, .int i1), (3, .int i2), (2, .int i3), (0, .ref (ad k)), (1, .int a0)] → W p l e (gR 3 0 0) s m args below meth c H locs 0 0 (Q) (F0 m 7 ls []) := by
  have hx := X.1
  have hb := X.2.1
  intro n
  induction n with
  | zero =>
    intro i1 i2 i3 r4 hf
    cases hf
  | succ n ih =>
    intro i1 i2 i3 r4 hf J H locs ls S hl
    rw [f_X8_longestLine_l1] at hf
    refine lv_iload hx hb dX8_longestLine_7 (lv_at hl 0 rfl) ?_
    refine lv_aload_n hx hb dX8_longestLine_9 rfl (lv_at hl 3 rfl) ?_
    refine lv_iload_n hx hb dX8_longestLine_10 rfl (lv_at hl 4 rfl) ?_
    obtain ⟨v5, hv5, hf⟩ := g_s1 hf
    refine g_ki S (g_runV (rest := [.int i1]) X S (c_X8_size l hN hk hv5 _) cvX8_size mlX8_48 (kd_N hk (by decide) hN) (ceC_8 hk _) rfl rfl rfl hl.1 (by decide) ⟨⟨rfl, rfl⟩, ⟨Nat.le_of_ble_eq_true rfl, Nat.le_of_ble_eq_true rfl⟩, Nat.le_of_ble_eq_true rfl, Nat.le_of_ble_eq_true rfl⟩ dX8_longestLine_11) (fun H locs S => ?_)
    refine lv_icmp_ge (tgt := 49) hx hb dX8_longestLine_14 (by decide) (fun c6 => ?_) (fun c6 => ?_)
    · have hf := (if_pos c6).symm.trans hf
      cases hf
      exact J _ _ _ S (lv_sub hl [2] rfl)
    · have hf := (if_neg c6).symm.trans hf
      refine lv_aload_n hx hb dX8_longestLine_17 rfl (lv_at hl 3 rfl) ?_
      refine lv_iload_n hx hb dX8_longestLine_18 rfl (lv_at hl 4 rfl) ?_
      refine lv_iload hx hb dX8_longestLine_19 (lv_at hl 0 rfl) ?_
      obtain ⟨v7, hv7, hf⟩ := g_s1 hf
      refine g_ki S (g_runV (rest := []) X S (c_X8_signAt l hN hk hv7 _) cvX8_signAt mlX8_55 (kd_N hk (by decide) hN) (ceC_8 hk _) rfl rfl rfl hl.1 (by decide) ⟨⟨rfl, rfl⟩, ⟨Nat.le_of_ble_eq_true rfl, Nat.le_of_ble_eq_true rfl⟩, Nat.le_of_ble_eq_true rfl, Nat.le_of_ble_eq_true rfl⟩ dX8_longestLine_21) (fun H locs S => ?_)
      refine lv_bipush (v := (124 : Int32)) hx hb dX8_longestLine_24 (by decide) ?_
      obtain ⟨x8, hr9, hf⟩ := g_s1 hf
      have J10 : ∀ (H : Heap) (locs : List Loc) (ls : Array Slot), gS celC Γ ad N σ s H locs → lv_has ls 5 [(4, .int i1), (2, .int i3), (0, .ref (ad k)), (1, .int a0)] → W p l e (gR 3 0 0) s m args below meth c H locs 0 0 (Q) (F0 m 36 ls [.int x8]) := by
        intro H locs ls S hl
        refine lv_istore_n (lv' := [(3, .int x8), (4, .int i1), (2, .int i3), (0, .ref (ad k)), (1, .int a0)]) hx hb dX8_longestLine_36 rfl hl (by decide) rfl (fun ls hl => ?_)
        refine lv_iload_n hx hb dX8_longestLine_37 rfl (lv_at hl 2 rfl) ?_
        refine lv_iload_n hx hb dX8_longestLine_38 rfl (lv_at hl 0 rfl) ?_
        refine g_max X hl.1 mwX8_59 ⟨⟨by decide, Nat.le_of_ble_eq_true rfl⟩, Nat.le_of_ble_eq_true rfl, Nat.le_of_ble_eq_true rfl⟩ dX8_longestLine_39 ?_
        refine lv_istore_n (lv' := [(2, .int (if i3 < x8 then x8 else i3)), (3, .int x8), (4, .int i1), (0, .ref (ad k)), (1, .int a0)]) hx hb dX8_longestLine_42 rfl hl (by decide) rfl (fun ls hl => ?_)
        refine lv_iinc (v := (i1 + 1)) (lv' := [(4, .int (i1 + 1)), (2, .int (if i3 < x8 then x8 else i3)), (3, .int x8), (0, .ref (ad k)), (1, .int a0)]) hx hb dX8_longestLine_43 hl (k := 2) rfl rfl (by decide) rfl (fun ls hl => ?_)
        refine lv_goto (tgt := 7) hx hb dX8_longestLine_46 (by decide) ?_
        exact ih _ _ _ _  hf J _ _ _ S (lv_sub hl [0, 2, 1, 3, 4] rfl)
      replace hf := hr9
      refine lv_icmp_ne (tgt := 33) hx hb dX8_longestLine_26 (by decide) (fun c12 => ?_) (fun c12 => ?_)
      · have hf := (if_neg c12).symm.trans hf
        refine lv_iload_n hx hb dX8_longestLine_33 rfl (lv_at hl 1 rfl) ?_
        refine lv_iconst (v := (1 : Int32)) hx hb dX8_longestLine_34 (by decide) ?_
        refine lv_iadd hx hb dX8_longestLine_35 ?_
        cases hf
        exact J10 _ _ _ S (lv_sub hl [0, 2, 3, 4] rfl)
      · have hf := (if_pos c12).symm.trans hf
        refine lv_iconst (v := (0 : Int32)) hx hb dX8_longestLine_29 (by decide) ?_
        refine lv_goto (tgt := 36) hx hb dX8_longestLine_30 (by decide) ?_
        cases hf
        exact J10 _ _ _ S (lv_sub hl [0, 2, 3, 4] rfl)
noncomputable def f_X8_longestLine (σ : gSt) (k : Nat) (a0 : Int32) : Option (Int32) :=
  (g_k1 (f_X8_longestLine_l1 σ k a0 FU (0 : Int32) (0 : Int32) (0 : Int32)) fun r4 => some r4)
set_option maxRecDepth 100000 in
set_option maxHeartbeats 4000000 in
theorem c_X8_longestLine (l : Launch) {Γ : gG} {ad : Nat → Nat} {N : Nat} (hN : 202 ≤ N) {σ : gSt} {k : Nat} {a0 : Int32} (hk : gkd k = 8) {r : Int32} (hf : f_X8_longestLine σ k a0 = some r) : gMi l celC Γ ad N yX8_longestLine cX8_longestLine 5 (some .int) (gR 3 0 0) [.ref (ad k), .int a0] σ r σ := by
  intro sz
  refine gOf (Qc := fun sz => gQci celC Γ ad N r σ sz) RX8 (by decide) rfl (by decide) (fun p e s m args below meth c H locs ls X S hl => ?_)
  have hl : lv_has ls 5 [(4, .int (0 : Int32)), (3, .int (0 : Int32)), (2, .int (0 : Int32)), (0, .ref (ad k)), (1, .int a0)] := hl
  have hx := X.1
  have hb := X.2.1
  unfold f_X8_longestLine at hf
  refine lv_iconst (v := (0 : Int32)) hx hb dX8_longestLine_0 (by decide) ?_
  refine lv_istore_n (lv' := [(2, .int (0 : Int32)), (0, .ref (ad k)), (1, .int a0)]) hx hb dX8_longestLine_1 rfl hl (by decide) rfl (fun ls hl => ?_)
  refine lv_iconst (v := (0 : Int32)) hx hb dX8_longestLine_2 (by decide) ?_
  refine lv_istore_n (lv' := [(3, .int (0 : Int32)), (2, .int (0 : Int32)), (0, .ref (ad k)), (1, .int a0)]) hx hb dX8_longestLine_3 rfl hl (by decide) rfl (fun ls hl => ?_)
  refine lv_iconst (v := (0 : Int32)) hx hb dX8_longestLine_4 (by decide) ?_
  refine lv_istore (lv' := [(4, .int (0 : Int32)), (3, .int (0 : Int32)), (2, .int (0 : Int32)), (0, .ref (ad k)), (1, .int a0)]) hx hb dX8_longestLine_5 hl (by decide) rfl (fun ls hl => ?_)
  obtain ⟨r4, hr13, hf⟩ := g_s1 hf
  refine w_X8_longestLine_l1 hN X hk FU _ _ _ _  hr13 (fun H locs ls S hl => ?_) _ _ _ S (lv_sub hl [0, 1, 2, 3, 4] rfl)
  refine lv_iload_n hx hb dX8_longestLine_49 rfl (lv_at hl 0 rfl) ?_
  cases hf
  exact g_reti X S rfl dX8_longestLine_50

noncomputable def f_X8_copyFrom (σ : gSt) (k : Nat) (a0 : Nat) : Option (gSt) :=
  (g_k1 (gcpy σ (a0 + 1) 16 (k + 1) 16 (0 : Int32) (0 : Int32) (16 : Int32)) fun σ1 => (g_k1 (gcpy σ1 (a0 + 2) 16 (k + 2) 16 (0 : Int32) (0 : Int32) (16 : Int32)) fun σ2 => (g_k1 (gcpy σ2 (a0 + 3) 16 (k + 3) 16 (0 : Int32) (0 : Int32) (16 : Int32)) fun σ3 => (g_k1 (gcpy σ3 (a0 + 4) 16 (k + 4) 16 (0 : Int32) (0 : Int32) (16 : Int32)) fun σ4 => (g_k1 (gcpy σ4 (a0 + 5) 384 (k + 5) 384 (0 : Int32) (0 : Int32) (384 : Int32)) fun σ5 => (g_k1 (gset σ5 k 5 (σ5 a0 5)) fun σ6 => some σ6))))))
set_option maxRecDepth 100000 in
set_option maxHeartbeats 4000000 in
theorem c_X8_copyFrom (l : Launch) {Γ : gG} {ad : Nat → Nat} {N : Nat} (hN : 202 ≤ N) {σ : gSt} {k : Nat} {a0 : Nat} (hk : gkd k = 8) (ha0 : gkd a0 = 8) {σ' : gSt} (hf : f_X8_copyFrom σ k a0 = some σ') : gMv l celC Γ ad N yX8_copyFrom cX8_copyFrom 2 none (gR 2 0 0) [.ref (ad k), .ref (ad a0)] σ σ' := by
  intro sz
  refine gOf (Qc := fun sz => gQcv celC Γ ad N σ' sz) RX8 (by decide) rfl (by decide) (fun p e s m args below meth c H locs ls X S hl => ?_)
  have hl : lv_has ls 2 [(0, .ref (ad k)), (1, .ref (ad a0))] := hl
  have hx := X.1
  have hb := X.2.1
  unfold f_X8_copyFrom at hf
  refine lv_aload_n hx hb dX8_copyFrom_0 rfl (lv_at hl 1 rfl) ?_
  refine gfX8_9 X S hN ha0 dX8_copyFrom_1 ?_
  refine lv_iconst (v := (0 : Int32)) hx hb dX8_copyFrom_4 (by decide) ?_
  refine lv_aload_n hx hb dX8_copyFrom_5 rfl (lv_at hl 0 rfl) ?_
  refine gfX8_9 X S hN hk dX8_copyFrom_6 ?_
  refine lv_iconst (v := (0 : Int32)) hx hb dX8_copyFrom_9 (by decide) ?_
  refine lv_bipush (v := (16 : Int32)) hx hb dX8_copyFrom_10 (by decide) ?_
  obtain ⟨σ1, hσ1, hf⟩ := g_s1 hf
  refine g_copy X S hl.1 mlX8_31 wac_n wac_s wac_i (kd_N (kd_8_1 ha0) (by decide) hN) (kd_N (kd_8_1 hk) (by decide) hN) (ceC_116 (kd_8_1 ha0)) (ceC_116 (kd_8_1 hk)) hσ1 (by decide) (Nat.le_of_ble_eq_true rfl) dX8_copyFrom_12 (fun H locs S => ?_)
  refine lv_aload_n hx hb dX8_copyFrom_15 rfl (lv_at hl 1 rfl) ?_
  refine gfX8_15 X S hN ha0 dX8_copyFrom_16 ?_
  refine lv_iconst (v := (0 : Int32)) hx hb dX8_copyFrom_19 (by decide) ?_
  refine lv_aload_n hx hb dX8_copyFrom_20 rfl (lv_at hl 0 rfl) ?_
  refine gfX8_15 X S hN hk dX8_copyFrom_21 ?_
  refine lv_iconst (v := (0 : Int32)) hx hb dX8_copyFrom_24 (by decide) ?_
  refine lv_bipush (v := (16 : Int32)) hx hb dX8_copyFrom_25 (by decide) ?_
  obtain ⟨σ2, hσ2, hf⟩ := g_s1 hf
  refine g_copy X S hl.1 mlX8_31 wac_n wac_s wac_i (kd_N (kd_8_2 ha0) (by decide) hN) (kd_N (kd_8_2 hk) (by decide) hN) (ceC_116 (kd_8_2 ha0)) (ceC_116 (kd_8_2 hk)) hσ2 (by decide) (Nat.le_of_ble_eq_true rfl) dX8_copyFrom_27 (fun H locs S => ?_)
  refine lv_aload_n hx hb dX8_copyFrom_30 rfl (lv_at hl 1 rfl) ?_
  refine gfX8_18 X S hN ha0 dX8_copyFrom_31 ?_
  refine lv_iconst (v := (0 : Int32)) hx hb dX8_copyFrom_34 (by decide) ?_
  refine lv_aload_n hx hb dX8_copyFrom_35 rfl (lv_at hl 0 rfl) ?_
  refine gfX8_18 X S hN hk dX8_copyFrom_36 ?_
  refine lv_iconst (v := (0 : Int32)) hx hb dX8_copyFrom_39 (by decide) ?_
  refine lv_bipush (v := (16 : Int32)) hx hb dX8_copyFrom_40 (by decide) ?_
  obtain ⟨σ3, hσ3, hf⟩ := g_s1 hf
  refine g_copy X S hl.1 mlX8_31 wac_n wac_s wac_i (kd_N (kd_8_3 ha0) (by decide) hN) (kd_N (kd_8_3 hk) (by decide) hN) (ceC_116 (kd_8_3 ha0)) (ceC_116 (kd_8_3 hk)) hσ3 (by decide) (Nat.le_of_ble_eq_true rfl) dX8_copyFrom_42 (fun H locs S => ?_)
  refine lv_aload_n hx hb dX8_copyFrom_45 rfl (lv_at hl 1 rfl) ?_
  refine gfX8_21 X S hN ha0 dX8_copyFrom_46 ?_
  refine lv_iconst (v := (0 : Int32)) hx hb dX8_copyFrom_49 (by decide) ?_
  refine lv_aload_n hx hb dX8_copyFrom_50 rfl (lv_at hl 0 rfl) ?_
  refine gfX8_21 X S hN hk dX8_copyFrom_51 ?_
  refine lv_iconst (v := (0 : Int32)) hx hb dX8_copyFrom_54 (by decide) ?_
  refine lv_bipush (v := (16 : Int32)) hx hb dX8_copyFrom_55 (by decide) ?_
  obtain ⟨σ4, hσ4, hf⟩ := g_s1 hf
  refine g_copy X S hl.1 mlX8_31 wac_n wac_s wac_i (kd_N (kd_8_4 ha0) (by decide) hN) (kd_N (kd_8_4 hk) (by decide) hN) (ceC_116 (kd_8_4 ha0)) (ceC_116 (kd_8_4 hk)) hσ4 (by decide) (Nat.le_of_ble_eq_true rfl) dX8_copyFrom_57 (fun H locs S => ?_)
  refine lv_aload_n hx hb dX8_copyFrom_60 rfl (lv_at hl 1 rfl) ?_
  refine gfX8_24 X S hN ha0 dX8_copyFrom_61 ?_
  refine lv_iconst (v := (0 : Int32)) hx hb dX8_copyFrom_64 (by decide) ?_
  refine lv_aload_n hx hb dX8_copyFrom_65 rfl (lv_at hl 0 rfl) ?_
  refine gfX8_24 X S hN hk dX8_copyFrom_66 ?_
  refine lv_iconst (v := (0 : Int32)) hx hb dX8_copyFrom_69 (by decide) ?_
  refine lv_sipush (v := (384 : Int32)) hx hb dX8_copyFrom_70 (by decide) ?_
  obtain ⟨σ5, hσ5, hf⟩ := g_s1 hf
  refine g_copy X S hl.1 mlX8_31 wac_n wac_s wac_i (kd_N (kd_8_5 ha0) (by decide) hN) (kd_N (kd_8_5 hk) (by decide) hN) (ceC_484 (kd_8_5 ha0)) (ceC_484 (kd_8_5 hk)) hσ5 (by decide) (Nat.le_of_ble_eq_true rfl) dX8_copyFrom_73 (fun H locs S => ?_)
  refine lv_aload_n hx hb dX8_copyFrom_76 rfl (lv_at hl 0 rfl) ?_
  refine lv_aload_n hx hb dX8_copyFrom_77 rfl (lv_at hl 1 rfl) ?_
  refine gfX8_27 X S hN ha0 dX8_copyFrom_78 ?_
  obtain ⟨σ6, hσ6, hf⟩ := g_s1 hf
  refine pfX8_27 X S hN hk hσ6 dX8_copyFrom_81 (fun H locs S => ?_)
  cases hf
  exact g_retv X S dX8_copyFrom_84

noncomputable def f_X7_appendPart_l1 (σ : gSt) (k : Nat) (a0 : Nat) (a2 : Int32) : Nat → Int32 → gSt → Option (gSt)
  | 0, _, _ => none
  | n + 1, i1, σ2 => (if a2 ≤ i1 then some σ2 else (g_k1 (f_X7_signAt σ2 a0 i1) fun v5 => (g_k1 (if v5 = (-1 : Int32) then some σ2 else (g_k2 (f_X7_append σ2 k v5) fun v10 σ11 => some σ11)) fun σ6 => (f_X7_appendPart_l1 σ k a0 a2 n (i1 + 1) σ6))))
set_option maxRecDepth 100000 in
set_option maxHeartbeats 4000000 in
theorem w_X7_appendPart_l1 {l : Launch} {Γ : gG} {ad : Nat → Nat} {N : Nat} {p : Program} {e : Env} {s : State} {m : MethodId} {args : Array Value} {below : List Frame} {meth : Method} {c : Code} {Q : State → Prop} (hN : 202 ≤ N) (X : gX celC Γ ad N RX7 cX7_appendPart 6 none p s m args meth c) {σ : gSt} {k : Nat} {a0 : Nat} {a2 : Int32} (hk : gkd k = 7) (ha0 : gkd a0 = 7) : ∀ (n : Nat) (i1 : Int32) (σ2 : gSt) (σ3 : gSt), f_X7_appendPart_l1 σ k a0 a2 n i1 σ2 = some σ3 → (∀ (H : Heap) (locs : List Loc) (ls : Array Slot), gS celC Γ ad N σ3 s H locs → lv_has ls 6 [] → W p l e (gR 2 0 0) s m args below meth c H locs 0 0 (Q) (F0 m 36 ls [])) → ∀ (H : Heap) (locs : List Loc) (ls : Array Slot), gS celC Γ ad N σ2 s H locs → lv_has ls 6 [(4, .int i1), (0, .ref (ad k)), (1, .ref (ad a0)), (3, .int a2)] → W p l e (gR 2 0 0) s m args below meth c H locs 0 0 (Q) (F0 m 3 ls []) := by
  have hx := X.1
  have hb := X.2.1
  intro n
  induction n with
  | zero =>
    intro i1 σ2 σ3 hf
    cases hf
  | succ n ih =>
    intro i1 σ2 σ3 hf J H locs ls S hl
    rw [f_X7_appendPart_l1] at hf
    refine lv_iload hx hb dX7_appendPart_3 (lv_at hl 0 rfl) ?_
    refine lv_iload_n hx hb dX7_appendPart_5 rfl (lv_at hl 3 rfl) ?_
    refine lv_icmp_ge (tgt := 36) hx hb dX7_appendPart_6 (by decide) (fun c4 => ?_) (fun c4 => ?_)
    · have hf := (if_pos c4).symm.trans hf
      cases hf
      exact J _ _ _ S (lv_sub hl [] rfl)
    · have hf := (if_neg c4).symm.trans hf
      refine lv_aload_n hx hb dX7_appendPart_9 rfl (lv_at hl 2 rfl) ?_
      refine lv_iload hx hb dX7_appendPart_10 (lv_at hl 0 rfl) ?_
      obtain ⟨v5, hv5, hf⟩ := g_s1 hf
      refine g_ki S (g_runV (rest := []) X S (c_X7_signAt l hN ha0 hv5 _) cvX7_signAt mlX7_19 (kd_N ha0 (by decide) hN) (ceC_7 ha0 _) rfl rfl rfl hl.1 (by decide) ⟨⟨rfl, rfl⟩, ⟨Nat.le_of_ble_eq_true rfl, Nat.le_of_ble_eq_true rfl⟩, Nat.le_of_ble_eq_true rfl, Nat.le_of_ble_eq_true rfl⟩ dX7_appendPart_12) (fun H locs S => ?_)
      refine lv_istore (lv' := [(5, .int v5), (4, .int i1), (0, .ref (ad k)), (1, .ref (ad a0)), (3, .int a2)]) hx hb dX7_appendPart_15 hl (by decide) rfl (fun ls hl => ?_)
      refine lv_iload hx hb dX7_appendPart_17 (lv_at hl 0 rfl) ?_
      refine lv_iconst (v := (-1 : Int32)) hx hb dX7_appendPart_19 (by decide) ?_
      obtain ⟨σ6, hr7, hf⟩ := g_s1 hf
      have J8 : ∀ (H : Heap) (locs : List Loc) (ls : Array Slot), gS celC Γ ad N σ6 s H locs → lv_has ls 6 [(4, .int i1), (0, .ref (ad k)), (1, .ref (ad a0)), (3, .int a2)] → W p l e (gR 2 0 0) s m args below meth c H locs 0 0 (Q) (F0 m 30 ls []) := by
        intro H locs ls S hl
        refine lv_iinc (v := (i1 + 1)) (lv' := [(4, .int (i1 + 1)), (0, .ref (ad k)), (1, .ref (ad a0)), (3, .int a2)]) hx hb dX7_appendPart_30 hl (k := 0) rfl rfl (by decide) rfl (fun ls hl => ?_)
        refine lv_goto (tgt := 3) hx hb dX7_appendPart_33 (by decide) ?_
        exact ih _ _ _  hf J _ _ _ S (lv_sub hl [0, 1, 2, 3] rfl)
      replace hf := hr7
      refine lv_icmp_eq (tgt := 30) hx hb dX7_appendPart_20 (by decide) (fun c9 => ?_) (fun c9 => ?_)
      · have hf := (if_pos c9).symm.trans hf
        cases hf
        exact J8 _ _ _ S (lv_sub hl [1, 2, 3, 4] rfl)
      · have hf := (if_neg c9).symm.trans hf
        refine lv_aload_n hx hb dX7_appendPart_23 rfl (lv_at hl 2 rfl) ?_
        refine lv_iload hx hb dX7_appendPart_24 (lv_at hl 0 rfl) ?_
        obtain ⟨v10, σ11, hv10, hf⟩ := g_s2 hf
        refine g_ki S (g_runV (rest := []) X S (c_X7_append l hN hk hv10 _) cvX7_append mlX7_23 (kd_N hk (by decide) hN) (ceC_7 hk _) rfl rfl rfl hl.1 (by decide) ⟨⟨rfl, rfl⟩, ⟨Nat.le_of_ble_eq_true rfl, Nat.le_of_ble_eq_true rfl⟩, Nat.le_of_ble_eq_true rfl, Nat.le_of_ble_eq_true rfl⟩ dX7_appendPart_26) (fun H locs S => ?_)
        refine lv_pop hx hb dX7_appendPart_29 rfl ?_
        cases hf
        exact J8 _ _ _ S (lv_sub hl [1, 2, 3, 4] rfl)
noncomputable def f_X7_appendPart (σ : gSt) (k : Nat) (a0 : Nat) (a1 : Int32) (a2 : Int32) : Option (gSt) :=
  (g_k1 (f_X7_appendPart_l1 σ k a0 a2 FU a1 σ) fun σ3 => some σ3)
set_option maxRecDepth 100000 in
set_option maxHeartbeats 4000000 in
theorem c_X7_appendPart (l : Launch) {Γ : gG} {ad : Nat → Nat} {N : Nat} (hN : 202 ≤ N) {σ : gSt} {k : Nat} {a0 : Nat} {a1 : Int32} {a2 : Int32} (hk : gkd k = 7) (ha0 : gkd a0 = 7) {σ' : gSt} (hf : f_X7_appendPart σ k a0 a1 a2 = some σ') : gMv l celC Γ ad N yX7_appendPart cX7_appendPart 6 none (gR 2 0 0) [.ref (ad k), .ref (ad a0), .int a1, .int a2] σ σ' := by
  intro sz
  refine gOf (Qc := fun sz => gQcv celC Γ ad N σ' sz) RX7 (by decide) rfl (by decide) (fun p e s m args below meth c H locs ls X S hl => ?_)
  have hl : lv_has ls 6 [(4, .int a1), (0, .ref (ad k)), (1, .ref (ad a0)), (3, .int a2)] := hl
  have hx := X.1
  have hb := X.2.1
  unfold f_X7_appendPart at hf
  refine lv_iload_n hx hb dX7_appendPart_0 rfl (lv_at hl 2 rfl) ?_
  refine lv_istore (lv' := [(4, .int a1), (0, .ref (ad k)), (1, .ref (ad a0)), (2, .int a1), (3, .int a2)]) hx hb dX7_appendPart_1 hl (by decide) rfl (fun ls hl => ?_)
  obtain ⟨σ3, hr12, hf⟩ := g_s1 hf
  refine w_X7_appendPart_l1 hN X hk ha0 FU _ _ _  hr12 (fun H locs ls S hl => ?_) _ _ _ S (lv_sub hl [0, 1, 2, 3] rfl)
  cases hf
  exact g_retv X S dX7_appendPart_36

noncomputable def f_X8_captionOn_l1 (σ : gSt) (k : Nat) (a0 : Int32) : Nat → Int32 → Option (Int32)
  | 0, _ => none
  | n + 1, i1 => (if (σ k 5) ≤ i1 then some (-1 : Int32) else (g_k1 (f_X8_first σ k i1) fun v3 => (if a0 < v3 then (f_X8_captionOn_l1 σ k a0 n (i1 + 1)) else (g_k1 (f_X8_end σ k i1) fun v5 => (if v5 ≤ a0 then (f_X8_captionOn_l1 σ k a0 n (i1 + 1)) else some i1)))))
set_option maxRecDepth 100000 in
set_option maxHeartbeats 4000000 in
theorem w_X8_captionOn_l1 {l : Launch} {Γ : gG} {ad : Nat → Nat} {N : Nat} {p : Program} {e : Env} {s : State} {m : MethodId} {args : Array Value} {below : List Frame} {meth : Method} {c : Code} (hN : 202 ≤ N) (X : gX celC Γ ad N RX8 cX8_captionOn 3 (some .int) p s m args meth c) {σ : gSt} {k : Nat} {a0 : Int32} (hk : gkd k = 8) : ∀ (n : Nat) (i1 : Int32) (r : Int32), f_X8_captionOn_l1 σ k a0 n i1 = some r → ∀ (H : Heap) (locs : List Loc) (ls : Array Slot), gS celC Γ ad N σ s H locs → lv_has ls 3 [(2, .int i1), (0, .ref (ad k)), (1, .int a0)] → W p l e (gR 3 0 0) s m args below meth c H locs 0 0 (gQi celC Γ ad N r σ below args s) (F0 m 2 ls []) := by
  have hx := X.1
  have hb := X.2.1
  intro n
  induction n with
  | zero =>
    intro i1 r hf
    cases hf
  | succ n ih =>
    intro i1 r hf H locs ls S hl
    rw [f_X8_captionOn_l1] at hf
    refine lv_iload_n hx hb dX8_captionOn_2 rfl (lv_at hl 0 rfl) ?_
    refine lv_aload_n hx hb dX8_captionOn_3 rfl (lv_at hl 1 rfl) ?_
    refine gfX8_27 X S hN hk dX8_captionOn_4 ?_
    refine lv_icmp_ge (tgt := 36) hx hb dX8_captionOn_7 (by decide) (fun c2 => ?_) (fun c2 => ?_)
    · have hf := (if_pos c2).symm.trans hf
      refine lv_iconst (v := (-1 : Int32)) hx hb dX8_captionOn_36 (by decide) ?_
      cases hf
      exact g_reti X S rfl dX8_captionOn_37
    · have hf := (if_neg c2).symm.trans hf
      refine lv_aload_n hx hb dX8_captionOn_10 rfl (lv_at hl 1 rfl) ?_
      refine lv_iload_n hx hb dX8_captionOn_11 rfl (lv_at hl 0 rfl) ?_
      obtain ⟨v3, hv3, hf⟩ := g_s1 hf
      refine g_ki S (g_runV (rest := []) X S (c_X8_first l hN hk hv3 _) cvX8_first mlX8_45 (kd_N hk (by decide) hN) (ceC_8 hk _) rfl rfl rfl hl.1 (by decide) ⟨⟨rfl, rfl⟩, ⟨Nat.le_of_ble_eq_true rfl, Nat.le_of_ble_eq_true rfl⟩, Nat.le_of_ble_eq_true rfl, Nat.le_of_ble_eq_true rfl⟩ dX8_captionOn_12) (fun H locs S => ?_)
      refine lv_iload_n hx hb dX8_captionOn_15 rfl (lv_at hl 2 rfl) ?_
      refine lv_icmp_gt (tgt := 30) hx hb dX8_captionOn_16 (by decide) (fun c4 => ?_) (fun c4 => ?_)
      · have hf := (if_pos c4).symm.trans hf
        refine lv_iinc (v := (i1 + 1)) (lv' := [(2, .int (i1 + 1)), (0, .ref (ad k)), (1, .int a0)]) hx hb dX8_captionOn_30 hl (k := 0) rfl rfl (by decide) rfl (fun ls hl => ?_)
        refine lv_goto (tgt := 2) hx hb dX8_captionOn_33 (by decide) ?_
        exact ih _ _  hf _ _ _ S (lv_sub hl [0, 1, 2] rfl)
      · have hf := (if_neg c4).symm.trans hf
        refine lv_iload_n hx hb dX8_captionOn_19 rfl (lv_at hl 2 rfl) ?_
        refine lv_aload_n hx hb dX8_captionOn_20 rfl (lv_at hl 1 rfl) ?_
        refine lv_iload_n hx hb dX8_captionOn_21 rfl (lv_at hl 0 rfl) ?_
        obtain ⟨v5, hv5, hf⟩ := g_s1 hf
        refine g_ki S (g_runV (rest := [.int a0]) X S (c_X8_end l hN hk hv5 _) cvX8_end mlX8_41 (kd_N hk (by decide) hN) (ceC_8 hk _) rfl rfl rfl hl.1 (by decide) ⟨⟨rfl, rfl⟩, ⟨Nat.le_of_ble_eq_true rfl, Nat.le_of_ble_eq_true rfl⟩, Nat.le_of_ble_eq_true rfl, Nat.le_of_ble_eq_true rfl⟩ dX8_captionOn_22) (fun H locs S => ?_)
        refine lv_icmp_ge (tgt := 30) hx hb dX8_captionOn_25 (by decide) (fun c6 => ?_) (fun c6 => ?_)
        · have hf := (if_pos c6).symm.trans hf
          refine lv_iinc (v := (i1 + 1)) (lv' := [(2, .int (i1 + 1)), (0, .ref (ad k)), (1, .int a0)]) hx hb dX8_captionOn_30 hl (k := 0) rfl rfl (by decide) rfl (fun ls hl => ?_)
          refine lv_goto (tgt := 2) hx hb dX8_captionOn_33 (by decide) ?_
          exact ih _ _  hf _ _ _ S (lv_sub hl [0, 1, 2] rfl)
        · have hf := (if_neg c6).symm.trans hf
          refine lv_iload_n hx hb dX8_captionOn_28 rfl (lv_at hl 0 rfl) ?_
          cases hf
          exact g_reti X S rfl dX8_captionOn_29
noncomputable def f_X8_captionOn (σ : gSt) (k : Nat) (a0 : Int32) : Option (Int32) :=
  (f_X8_captionOn_l1 σ k a0 FU (0 : Int32))
set_option maxRecDepth 100000 in
set_option maxHeartbeats 4000000 in
theorem c_X8_captionOn (l : Launch) {Γ : gG} {ad : Nat → Nat} {N : Nat} (hN : 202 ≤ N) {σ : gSt} {k : Nat} {a0 : Int32} (hk : gkd k = 8) {r : Int32} (hf : f_X8_captionOn σ k a0 = some r) : gMi l celC Γ ad N yX8_captionOn cX8_captionOn 3 (some .int) (gR 3 0 0) [.ref (ad k), .int a0] σ r σ := by
  intro sz
  refine gOf (Qc := fun sz => gQci celC Γ ad N r σ sz) RX8 (by decide) rfl (by decide) (fun p e s m args below meth c H locs ls X S hl => ?_)
  have hl : lv_has ls 3 [(2, .int (0 : Int32)), (0, .ref (ad k)), (1, .int a0)] := hl
  have hx := X.1
  have hb := X.2.1
  unfold f_X8_captionOn at hf
  refine lv_iconst (v := (0 : Int32)) hx hb dX8_captionOn_0 (by decide) ?_
  refine lv_istore_n (lv' := [(2, .int (0 : Int32)), (0, .ref (ad k)), (1, .int a0)]) hx hb dX8_captionOn_1 rfl hl (by decide) rfl (fun ls hl => ?_)
  exact w_X8_captionOn_l1 hN X hk FU _ _  hf _ _ _ S (lv_sub hl [0, 1, 2] rfl)

noncomputable def f_X8_allFrames_l1 (σ : gSt) (k : Nat) : Nat → Int32 → Int32 → Option (Int32)
  | 0, _, _ => none
  | n + 1, i1, i2 => (if (σ k 5) ≤ i1 then some i2 else (g_k1 (f_X8_frames σ k i1) fun v5 => (f_X8_allFrames_l1 σ k n (i1 + 1) (i2 + v5))))
set_option maxRecDepth 100000 in
set_option maxHeartbeats 4000000 in
theorem w_X8_allFrames_l1 {l : Launch} {Γ : gG} {ad : Nat → Nat} {N : Nat} {p : Program} {e : Env} {s : State} {m : MethodId} {args : Array Value} {below : List Frame} {meth : Method} {c : Code} {Q : State → Prop} (hN : 202 ≤ N) (X : gX celC Γ ad N RX8 cX8_allFrames 3 (some .int) p s m args meth c) {σ : gSt} {k : Nat} (hk : gkd k = 8) : ∀ (n : Nat) (i1 : Int32) (i2 : Int32) (r3 : Int32), f_X8_allFrames_l1 σ k n i1 i2 = some r3 → (∀ (H : Heap) (locs : List Loc) (ls : Array Slot), gS celC Γ ad N σ s H locs → lv_has ls 3 [(1, .int r3)] → W p l e (gR 4 0 0) s m args below meth c H locs 0 0 (Q) (F0 m 26 ls [])) → ∀ (H : Heap) (locs : List Loc) (ls : Array Slot), gS celC Γ ad N σ s H locs → lv_has ls 3 [(2, .int i1), (1, .int i2), (0, .ref (ad k))] → W p l e (gR 4 0 0) s m args below meth c H locs 0 0 (Q) (F0 m 4 ls []) := by
  have hx := X.1
  have hb := X.2.1
  intro n
  induction n with
  | zero =>
    intro i1 i2 r3 hf
    cases hf
  | succ n ih =>
    intro i1 i2 r3 hf J H locs ls S hl
    rw [f_X8_allFrames_l1] at hf
    refine lv_iload_n hx hb dX8_allFrames_4 rfl (lv_at hl 0 rfl) ?_
    refine lv_aload_n hx hb dX8_allFrames_5 rfl (lv_at hl 2 rfl) ?_
    refine gfX8_27 X S hN hk dX8_allFrames_6 ?_
    refine lv_icmp_ge (tgt := 26) hx hb dX8_allFrames_9 (by decide) (fun c4 => ?_) (fun c4 => ?_)
    · have hf := (if_pos c4).symm.trans hf
      cases hf
      exact J _ _ _ S (lv_sub hl [1] rfl)
    · have hf := (if_neg c4).symm.trans hf
      refine lv_iload_n hx hb dX8_allFrames_12 rfl (lv_at hl 1 rfl) ?_
      refine lv_aload_n hx hb dX8_allFrames_13 rfl (lv_at hl 2 rfl) ?_
      refine lv_iload_n hx hb dX8_allFrames_14 rfl (lv_at hl 0 rfl) ?_
      obtain ⟨v5, hv5, hf⟩ := g_s1 hf
      refine g_ki S (g_runV (rest := [.int i2]) X S (c_X8_frames l hN hk hv5 _) cvX8_frames mlX8_70 (kd_N hk (by decide) hN) (ceC_8 hk _) rfl rfl rfl hl.1 (by decide) ⟨⟨rfl, rfl⟩, ⟨Nat.le_of_ble_eq_true rfl, Nat.le_of_ble_eq_true rfl⟩, Nat.le_of_ble_eq_true rfl, Nat.le_of_ble_eq_true rfl⟩ dX8_allFrames_15) (fun H locs S => ?_)
      refine lv_iadd hx hb dX8_allFrames_18 ?_
      refine lv_istore_n (lv' := [(1, .int (i2 + v5)), (2, .int i1), (0, .ref (ad k))]) hx hb dX8_allFrames_19 rfl hl (by decide) rfl (fun ls hl => ?_)
      refine lv_iinc (v := (i1 + 1)) (lv' := [(2, .int (i1 + 1)), (1, .int (i2 + v5)), (0, .ref (ad k))]) hx hb dX8_allFrames_20 hl (k := 1) rfl rfl (by decide) rfl (fun ls hl => ?_)
      refine lv_goto (tgt := 4) hx hb dX8_allFrames_23 (by decide) ?_
      exact ih _ _ _  hf J _ _ _ S (lv_sub hl [0, 1, 2] rfl)
noncomputable def f_X8_allFrames (σ : gSt) (k : Nat) : Option (Int32) :=
  (g_k1 (f_X8_allFrames_l1 σ k FU (0 : Int32) (0 : Int32)) fun r3 => some r3)
set_option maxRecDepth 100000 in
set_option maxHeartbeats 4000000 in
theorem c_X8_allFrames (l : Launch) {Γ : gG} {ad : Nat → Nat} {N : Nat} (hN : 202 ≤ N) {σ : gSt} {k : Nat} (hk : gkd k = 8) {r : Int32} (hf : f_X8_allFrames σ k = some r) : gMi l celC Γ ad N yX8_allFrames cX8_allFrames 3 (some .int) (gR 4 0 0) [.ref (ad k)] σ r σ := by
  intro sz
  refine gOf (Qc := fun sz => gQci celC Γ ad N r σ sz) RX8 (by decide) rfl (by decide) (fun p e s m args below meth c H locs ls X S hl => ?_)
  have hl : lv_has ls 3 [(2, .int (0 : Int32)), (1, .int (0 : Int32)), (0, .ref (ad k))] := hl
  have hx := X.1
  have hb := X.2.1
  unfold f_X8_allFrames at hf
  refine lv_iconst (v := (0 : Int32)) hx hb dX8_allFrames_0 (by decide) ?_
  refine lv_istore_n (lv' := [(1, .int (0 : Int32)), (0, .ref (ad k))]) hx hb dX8_allFrames_1 rfl hl (by decide) rfl (fun ls hl => ?_)
  refine lv_iconst (v := (0 : Int32)) hx hb dX8_allFrames_2 (by decide) ?_
  refine lv_istore_n (lv' := [(2, .int (0 : Int32)), (1, .int (0 : Int32)), (0, .ref (ad k))]) hx hb dX8_allFrames_3 rfl hl (by decide) rfl (fun ls hl => ?_)
  obtain ⟨r3, hr6, hf⟩ := g_s1 hf
  refine w_X8_allFrames_l1 hN X hk FU _ _ _  hr6 (fun H locs ls S hl => ?_) _ _ _ S (lv_sub hl [0, 1, 2] rfl)
  refine lv_iload_n hx hb dX8_allFrames_26 rfl (lv_at hl 0 rfl) ?_
  cases hf
  exact g_reti X S rfl dX8_allFrames_27

noncomputable def f_X8_allLoad_l1 (σ : gSt) (k : Nat) : Nat → Int32 → Int32 → Option (Int32)
  | 0, _, _ => none
  | n + 1, i1, i2 => (if (σ k 5) ≤ i1 then some i2 else (g_k1 (f_X8_load σ k i1) fun v5 => (f_X8_allLoad_l1 σ k n (i1 + 1) (i2 + v5))))
set_option maxRecDepth 100000 in
set_option maxHeartbeats 4000000 in
theorem w_X8_allLoad_l1 {l : Launch} {Γ : gG} {ad : Nat → Nat} {N : Nat} {p : Program} {e : Env} {s : State} {m : MethodId} {args : Array Value} {below : List Frame} {meth : Method} {c : Code} {Q : State → Prop} (hN : 202 ≤ N) (X : gX celC Γ ad N RX8 cX8_allLoad 3 (some .int) p s m args meth c) {σ : gSt} {k : Nat} (hk : gkd k = 8) : ∀ (n : Nat) (i1 : Int32) (i2 : Int32) (r3 : Int32), f_X8_allLoad_l1 σ k n i1 i2 = some r3 → (∀ (H : Heap) (locs : List Loc) (ls : Array Slot), gS celC Γ ad N σ s H locs → lv_has ls 3 [(1, .int r3)] → W p l e (gR 5 0 0) s m args below meth c H locs 0 0 (Q) (F0 m 26 ls [])) → ∀ (H : Heap) (locs : List Loc) (ls : Array Slot), gS celC Γ ad N σ s H locs → lv_has ls 3 [(2, .int i1), (1, .int i2), (0, .ref (ad k))] → W p l e (gR 5 0 0) s m args below meth c H locs 0 0 (Q) (F0 m 4 ls []) := by
  have hx := X.1
  have hb := X.2.1
  intro n
  induction n with
  | zero =>
    intro i1 i2 r3 hf
    cases hf
  | succ n ih =>
    intro i1 i2 r3 hf J H locs ls S hl
    rw [f_X8_allLoad_l1] at hf
    refine lv_iload_n hx hb dX8_allLoad_4 rfl (lv_at hl 0 rfl) ?_
    refine lv_aload_n hx hb dX8_allLoad_5 rfl (lv_at hl 2 rfl) ?_
    refine gfX8_27 X S hN hk dX8_allLoad_6 ?_
    refine lv_icmp_ge (tgt := 26) hx hb dX8_allLoad_9 (by decide) (fun c4 => ?_) (fun c4 => ?_)
    · have hf := (if_pos c4).symm.trans hf
      cases hf
      exact J _ _ _ S (lv_sub hl [1] rfl)
    · have hf := (if_neg c4).symm.trans hf
      refine lv_iload_n hx hb dX8_allLoad_12 rfl (lv_at hl 1 rfl) ?_
      refine lv_aload_n hx hb dX8_allLoad_13 rfl (lv_at hl 2 rfl) ?_
      refine lv_iload_n hx hb dX8_allLoad_14 rfl (lv_at hl 0 rfl) ?_
      obtain ⟨v5, hv5, hf⟩ := g_s1 hf
      refine g_ki S (g_runV (rest := [.int i2]) X S (c_X8_load l hN hk hv5 _) cvX8_load mlX8_73 (kd_N hk (by decide) hN) (ceC_8 hk _) rfl rfl rfl hl.1 (by decide) ⟨⟨rfl, rfl⟩, ⟨Nat.le_of_ble_eq_true rfl, Nat.le_of_ble_eq_true rfl⟩, Nat.le_of_ble_eq_true rfl, Nat.le_of_ble_eq_true rfl⟩ dX8_allLoad_15) (fun H locs S => ?_)
      refine lv_iadd hx hb dX8_allLoad_18 ?_
      refine lv_istore_n (lv' := [(1, .int (i2 + v5)), (2, .int i1), (0, .ref (ad k))]) hx hb dX8_allLoad_19 rfl hl (by decide) rfl (fun ls hl => ?_)
      refine lv_iinc (v := (i1 + 1)) (lv' := [(2, .int (i1 + 1)), (1, .int (i2 + v5)), (0, .ref (ad k))]) hx hb dX8_allLoad_20 hl (k := 1) rfl rfl (by decide) rfl (fun ls hl => ?_)
      refine lv_goto (tgt := 4) hx hb dX8_allLoad_23 (by decide) ?_
      exact ih _ _ _  hf J _ _ _ S (lv_sub hl [0, 1, 2] rfl)
noncomputable def f_X8_allLoad (σ : gSt) (k : Nat) : Option (Int32) :=
  (g_k1 (f_X8_allLoad_l1 σ k FU (0 : Int32) (0 : Int32)) fun r3 => some r3)
set_option maxRecDepth 100000 in
set_option maxHeartbeats 4000000 in
theorem c_X8_allLoad (l : Launch) {Γ : gG} {ad : Nat → Nat} {N : Nat} (hN : 202 ≤ N) {σ : gSt} {k : Nat} (hk : gkd k = 8) {r : Int32} (hf : f_X8_allLoad σ k = some r) : gMi l celC Γ ad N yX8_allLoad cX8_allLoad 3 (some .int) (gR 5 0 0) [.ref (ad k)] σ r σ := by
  intro sz
  refine gOf (Qc := fun sz => gQci celC Γ ad N r σ sz) RX8 (by decide) rfl (by decide) (fun p e s m args below meth c H locs ls X S hl => ?_)
  have hl : lv_has ls 3 [(2, .int (0 : Int32)), (1, .int (0 : Int32)), (0, .ref (ad k))] := hl
  have hx := X.1
  have hb := X.2.1
  unfold f_X8_allLoad at hf
  refine lv_iconst (v := (0 : Int32)) hx hb dX8_allLoad_0 (by decide) ?_
  refine lv_istore_n (lv' := [(1, .int (0 : Int32)), (0, .ref (ad k))]) hx hb dX8_allLoad_1 rfl hl (by decide) rfl (fun ls hl => ?_)
  refine lv_iconst (v := (0 : Int32)) hx hb dX8_allLoad_2 (by decide) ?_
  refine lv_istore_n (lv' := [(2, .int (0 : Int32)), (1, .int (0 : Int32)), (0, .ref (ad k))]) hx hb dX8_allLoad_3 rfl hl (by decide) rfl (fun ls hl => ?_)
  obtain ⟨r3, hr6, hf⟩ := g_s1 hf
  refine w_X8_allLoad_l1 hN X hk FU _ _ _  hr6 (fun H locs ls S hl => ?_) _ _ _ S (lv_sub hl [0, 1, 2] rfl)
  refine lv_iload_n hx hb dX8_allLoad_26 rfl (lv_at hl 0 rfl) ?_
  cases hf
  exact g_reti X S rfl dX8_allLoad_27

noncomputable def f_X8_densest_l1 (σ : gSt) (k : Nat) : Nat → Int32 → Int32 → Option (Int32)
  | 0, _, _ => none
  | n + 1, i1, i2 => (if (σ k 5) ≤ i1 then some i2 else (g_k1 (if i2 = (-1 : Int32) then some i1 else (g_k1 (f_X8_load σ k i1) fun v9 => (g_k1 (f_X8_frames σ k i2) fun v10 => (g_k1 (f_X8_load σ k i2) fun v11 => (g_k1 (f_X8_frames σ k i1) fun v12 => (if (v9 * v10) ≤ (v11 * v12) then some i2 else some i1)))))) fun x5 => (f_X8_densest_l1 σ k n (i1 + 1) x5)))
set_option maxRecDepth 100000 in
set_option maxHeartbeats 4000000 in
theorem w_X8_densest_l1 {l : Launch} {Γ : gG} {ad : Nat → Nat} {N : Nat} {p : Program} {e : Env} {s : State} {m : MethodId} {args : Array Value} {below : List Frame} {meth : Method} {c : Code} {Q : State → Prop} (hN : 202 ≤ N) (X : gX celC Γ ad N RX8 cX8_densest 3 (some .int) p s m args meth c) {σ : gSt} {k : Nat} (hk : gkd k = 8) : ∀ (n : Nat) (i1 : Int32) (i2 : Int32) (r3 : Int32), f_X8_densest_l1 σ k n i1 i2 = some r3 → (∀ (H : Heap) (locs : List Loc) (ls : Array Slot), gS celC Γ ad N σ s H locs → lv_has ls 3 [(1, .int r3)] → W p l e (gR 5 0 0) s m args below meth c H locs 0 0 (Q) (F0 m 50 ls [])) → ∀ (H : Heap) (locs : List Loc) (ls : Array Slot), gS celC Γ ad N σ s H locs → lv_has ls 3 [(2, .int i1), (1, .int i2), (0, .ref (ad k))] → W p l e (gR 5 0 0) s m args below meth c H locs 0 0 (Q) (F0 m 4 ls []) := by
  have hx := X.1
  have hb := X.2.1
  intro n
  induction n with
  | zero =>
    intro i1 i2 r3 hf
    cases hf
  | succ n ih =>
    intro i1 i2 r3 hf J H locs ls S hl
    rw [f_X8_densest_l1] at hf
    refine lv_iload_n hx hb dX8_densest_4 rfl (lv_at hl 0 rfl) ?_
    refine lv_aload_n hx hb dX8_densest_5 rfl (lv_at hl 2 rfl) ?_
    refine gfX8_27 X S hN hk dX8_densest_6 ?_
    refine lv_icmp_ge (tgt := 50) hx hb dX8_densest_9 (by decide) (fun c4 => ?_) (fun c4 => ?_)
    · have hf := (if_pos c4).symm.trans hf
      cases hf
      exact J _ _ _ S (lv_sub hl [1] rfl)
    · have hf := (if_neg c4).symm.trans hf
      refine lv_iload_n hx hb dX8_densest_12 rfl (lv_at hl 1 rfl) ?_
      refine lv_iconst (v := (-1 : Int32)) hx hb dX8_densest_13 (by decide) ?_
      obtain ⟨x5, hr6, hf⟩ := g_s1 hf
      have J7 : ∀ (H : Heap) (locs : List Loc) (ls : Array Slot), gS celC Γ ad N σ s H locs → lv_has ls 3 [(2, .int i1), (1, .int x5), (0, .ref (ad k))] → W p l e (gR 5 0 0) s m args below meth c H locs 0 0 (Q) (F0 m 44 ls []) := by
        intro H locs ls S hl
        refine lv_iinc (v := (i1 + 1)) (lv' := [(2, .int (i1 + 1)), (1, .int x5), (0, .ref (ad k))]) hx hb dX8_densest_44 hl (k := 0) rfl rfl (by decide) rfl (fun ls hl => ?_)
        refine lv_goto (tgt := 4) hx hb dX8_densest_47 (by decide) ?_
        exact ih _ _ _  hf J _ _ _ S (lv_sub hl [0, 1, 2] rfl)
      replace hf := hr6
      refine lv_icmp_eq (tgt := 42) hx hb dX8_densest_14 (by decide) (fun c8 => ?_) (fun c8 => ?_)
      · have hf := (if_pos c8).symm.trans hf
        refine lv_iload_n hx hb dX8_densest_42 rfl (lv_at hl 0 rfl) ?_
        refine lv_istore_n (lv' := [(1, .int i1), (2, .int i1), (0, .ref (ad k))]) hx hb dX8_densest_43 rfl hl (by decide) rfl (fun ls hl => ?_)
        cases hf
        exact J7 _ _ _ S (lv_sub hl [1, 0, 2] rfl)
      · have hf := (if_neg c8).symm.trans hf
        refine lv_aload_n hx hb dX8_densest_17 rfl (lv_at hl 2 rfl) ?_
        refine lv_iload_n hx hb dX8_densest_18 rfl (lv_at hl 0 rfl) ?_
        obtain ⟨v9, hv9, hf⟩ := g_s1 hf
        refine g_ki S (g_runV (rest := []) X S (c_X8_load l hN hk hv9 _) cvX8_load mlX8_73 (kd_N hk (by decide) hN) (ceC_8 hk _) rfl rfl rfl hl.1 (by decide) ⟨⟨rfl, rfl⟩, ⟨Nat.le_of_ble_eq_true rfl, Nat.le_of_ble_eq_true rfl⟩, Nat.le_of_ble_eq_true rfl, Nat.le_of_ble_eq_true rfl⟩ dX8_densest_19) (fun H locs S => ?_)
        refine lv_aload_n hx hb dX8_densest_22 rfl (lv_at hl 2 rfl) ?_
        refine lv_iload_n hx hb dX8_densest_23 rfl (lv_at hl 1 rfl) ?_
        obtain ⟨v10, hv10, hf⟩ := g_s1 hf
        refine g_ki S (g_runV (rest := [.int v9]) X S (c_X8_frames l hN hk hv10 _) cvX8_frames mlX8_70 (kd_N hk (by decide) hN) (ceC_8 hk _) rfl rfl rfl hl.1 (by decide) ⟨⟨rfl, rfl⟩, ⟨Nat.le_of_ble_eq_true rfl, Nat.le_of_ble_eq_true rfl⟩, Nat.le_of_ble_eq_true rfl, Nat.le_of_ble_eq_true rfl⟩ dX8_densest_24) (fun H locs S => ?_)
        refine lv_imul hx hb dX8_densest_27 ?_
        refine lv_aload_n hx hb dX8_densest_28 rfl (lv_at hl 2 rfl) ?_
        refine lv_iload_n hx hb dX8_densest_29 rfl (lv_at hl 1 rfl) ?_
        obtain ⟨v11, hv11, hf⟩ := g_s1 hf
        refine g_ki S (g_runV (rest := [.int (v9 * v10)]) X S (c_X8_load l hN hk hv11 _) cvX8_load mlX8_73 (kd_N hk (by decide) hN) (ceC_8 hk _) rfl rfl rfl hl.1 (by decide) ⟨⟨rfl, rfl⟩, ⟨Nat.le_of_ble_eq_true rfl, Nat.le_of_ble_eq_true rfl⟩, Nat.le_of_ble_eq_true rfl, Nat.le_of_ble_eq_true rfl⟩ dX8_densest_30) (fun H locs S => ?_)
        refine lv_aload_n hx hb dX8_densest_33 rfl (lv_at hl 2 rfl) ?_
        refine lv_iload_n hx hb dX8_densest_34 rfl (lv_at hl 0 rfl) ?_
        obtain ⟨v12, hv12, hf⟩ := g_s1 hf
        refine g_ki S (g_runV (rest := [.int v11, .int (v9 * v10)]) X S (c_X8_frames l hN hk hv12 _) cvX8_frames mlX8_70 (kd_N hk (by decide) hN) (ceC_8 hk _) rfl rfl rfl hl.1 (by decide) ⟨⟨rfl, rfl⟩, ⟨Nat.le_of_ble_eq_true rfl, Nat.le_of_ble_eq_true rfl⟩, Nat.le_of_ble_eq_true rfl, Nat.le_of_ble_eq_true rfl⟩ dX8_densest_35) (fun H locs S => ?_)
        refine lv_imul hx hb dX8_densest_38 ?_
        refine lv_icmp_le (tgt := 44) hx hb dX8_densest_39 (by decide) (fun c13 => ?_) (fun c13 => ?_)
        · have hf := (if_pos c13).symm.trans hf
          cases hf
          exact J7 _ _ _ S (lv_sub hl [0, 1, 2] rfl)
        · have hf := (if_neg c13).symm.trans hf
          refine lv_iload_n hx hb dX8_densest_42 rfl (lv_at hl 0 rfl) ?_
          refine lv_istore_n (lv' := [(1, .int i1), (2, .int i1), (0, .ref (ad k))]) hx hb dX8_densest_43 rfl hl (by decide) rfl (fun ls hl => ?_)
          cases hf
          exact J7 _ _ _ S (lv_sub hl [1, 0, 2] rfl)
noncomputable def f_X8_densest (σ : gSt) (k : Nat) : Option (Int32) :=
  (g_k1 (f_X8_densest_l1 σ k FU (0 : Int32) (-1 : Int32)) fun r3 => some r3)
set_option maxRecDepth 100000 in
set_option maxHeartbeats 4000000 in
theorem c_X8_densest (l : Launch) {Γ : gG} {ad : Nat → Nat} {N : Nat} (hN : 202 ≤ N) {σ : gSt} {k : Nat} (hk : gkd k = 8) {r : Int32} (hf : f_X8_densest σ k = some r) : gMi l celC Γ ad N yX8_densest cX8_densest 3 (some .int) (gR 5 0 0) [.ref (ad k)] σ r σ := by
  intro sz
  refine gOf (Qc := fun sz => gQci celC Γ ad N r σ sz) RX8 (by decide) rfl (by decide) (fun p e s m args below meth c H locs ls X S hl => ?_)
  have hl : lv_has ls 3 [(2, .int (0 : Int32)), (1, .int (-1 : Int32)), (0, .ref (ad k))] := hl
  have hx := X.1
  have hb := X.2.1
  unfold f_X8_densest at hf
  refine lv_iconst (v := (-1 : Int32)) hx hb dX8_densest_0 (by decide) ?_
  refine lv_istore_n (lv' := [(1, .int (-1 : Int32)), (0, .ref (ad k))]) hx hb dX8_densest_1 rfl hl (by decide) rfl (fun ls hl => ?_)
  refine lv_iconst (v := (0 : Int32)) hx hb dX8_densest_2 (by decide) ?_
  refine lv_istore_n (lv' := [(2, .int (0 : Int32)), (1, .int (-1 : Int32)), (0, .ref (ad k))]) hx hb dX8_densest_3 rfl hl (by decide) rfl (fun ls hl => ?_)
  obtain ⟨r3, hr14, hf⟩ := g_s1 hf
  refine w_X8_densest_l1 hN X hk FU _ _ _  hr14 (fun H locs ls S hl => ?_) _ _ _ S (lv_sub hl [0, 1, 2] rfl)
  refine lv_iload_n hx hb dX8_densest_50 rfl (lv_at hl 0 rfl) ?_
  cases hf
  exact g_reti X S rfl dX8_densest_51

noncomputable def f_X9_keepRefusal (σ : gSt) (a0 : Int32) (a1 : Int32) : Option (gSt) :=
  (g_k1 (gset σ 0 10 a0) fun σ1 => (g_k1 (gset σ1 0 11 a1) fun σ2 => some σ2))
set_option maxRecDepth 100000 in
set_option maxHeartbeats 4000000 in
theorem c_X9_keepRefusal (l : Launch) {Γ : gG} {ad : Nat → Nat} {N : Nat} (hN : 202 ≤ N) {σ : gSt} {a0 : Int32} {a1 : Int32}  {σ' : gSt} (hf : f_X9_keepRefusal σ a0 a1 = some σ') : gMv l celC Γ ad N yX9_keepRefusal cX9_keepRefusal 3 none (gR 1 0 0) [.ref (ad 0), .int a0, .int a1] σ σ' := by
  intro sz
  refine gOf (Qc := fun sz => gQcv celC Γ ad N σ' sz) RX9 (by decide) rfl (by decide) (fun p e s m args below meth c H locs ls X S hl => ?_)
  have hl : lv_has ls 3 [(0, .ref (ad 0)), (1, .int a0), (2, .int a1)] := hl
  have hx := X.1
  have hb := X.2.1
  unfold f_X9_keepRefusal at hf
  refine lv_aload_n hx hb dX9_keepRefusal_0 rfl (lv_at hl 0 rfl) ?_
  refine lv_iload_n hx hb dX9_keepRefusal_1 rfl (lv_at hl 1 rfl) ?_
  obtain ⟨σ1, hσ1, hf⟩ := g_s1 hf
  refine pfX9_69 X S hN kd_s0 hσ1 dX9_keepRefusal_2 (fun H locs S => ?_)
  refine lv_aload_n hx hb dX9_keepRefusal_5 rfl (lv_at hl 0 rfl) ?_
  refine lv_iload_n hx hb dX9_keepRefusal_6 rfl (lv_at hl 2 rfl) ?_
  obtain ⟨σ2, hσ2, hf⟩ := g_s1 hf
  refine pfX9_72 X S hN kd_s0 hσ2 dX9_keepRefusal_7 (fun H locs S => ?_)
  cases hf
  exact g_retv X S dX9_keepRefusal_10

noncomputable def f_X9_isSettingValue (σ : gSt) (a0 : Int32) (a1 : Int32) : Option (Int32) :=
  (g_k1 (f_X9_isSetting σ a0) fun v1 => (g_k1 (if v1 = 0 then some (0 : Int32) else (g_k1 (gtl gFrom 6 a0) fun v8 => (if a1 < v8 then some (0 : Int32) else (g_k1 (gtl gTo 6 a0) fun v11 => (if v11 < a1 then some (0 : Int32) else some (1 : Int32)))))) fun x2 => (g_k1 (gzb x2) fun v5 => some v5)))
set_option maxRecDepth 100000 in
set_option maxHeartbeats 4000000 in
theorem c_X9_isSettingValue (l : Launch) {Γ : gG} {ad : Nat → Nat} {N : Nat} (hN : 202 ≤ N) {σ : gSt} {a0 : Int32} {a1 : Int32}  {r : Int32} (hf : f_X9_isSettingValue σ a0 a1 = some r) : gMi l celC Γ ad N yX9_isSettingValue cX9_isSettingValue 2 (some .boolean) (gR 2 0 0) [.int a0, .int a1] σ r σ := by
  intro sz
  refine gOf (Qc := fun sz => gQci celC Γ ad N r σ sz) RX9 (by decide) rfl (by decide) (fun p e s m args below meth c H locs ls X S hl => ?_)
  have hl : lv_has ls 2 [(0, .int a0), (1, .int a1)] := hl
  have hx := X.1
  have hb := X.2.1
  unfold f_X9_isSettingValue at hf
  refine lv_iload_n hx hb dX9_isSettingValue_0 rfl (lv_at hl 0 rfl) ?_
  obtain ⟨v1, hv1, hf⟩ := g_s1 hf
  refine g_ki S (g_runS (rest := []) X S (c_X9_isSetting l hN  hv1 _) csX9_isSetting mlX9_156 rfl rfl hl.1 (by decide) ⟨⟨rfl, rfl⟩, ⟨Nat.le_of_ble_eq_true rfl, Nat.le_of_ble_eq_true rfl⟩, Nat.le_of_ble_eq_true rfl, Nat.le_of_ble_eq_true rfl⟩ dX9_isSettingValue_1) (fun H locs S => ?_)
  obtain ⟨x2, hr3, hf⟩ := g_s1 hf
  have J4 : ∀ (H : Heap) (locs : List Loc) (ls : Array Slot), gS celC Γ ad N σ s H locs → lv_has ls 2 [] → W p l e (gR 2 0 0) s m args below meth c H locs 0 0 (gQi celC Γ ad N r σ below args s) (F0 m 30 ls [.int x2]) := by
    intro H locs ls S hl
    obtain ⟨v5, hv5, hf⟩ := g_s1 hf
    obtain ⟨hnv5, rfl⟩ := gzb_some hv5
    cases hf
    exact g_reti X S hnv5 dX9_isSettingValue_30
  replace hf := hr3
  refine lv_if_eq (tgt := 29) hx hb dX9_isSettingValue_4 (by decide) (fun c6 => ?_) (fun c6 => ?_)
  · have hf := (if_pos c6).symm.trans hf
    refine lv_iconst (v := (0 : Int32)) hx hb dX9_isSettingValue_29 (by decide) ?_
    cases hf
    exact J4 _ _ _ S (lv_sub hl [] rfl)
  · have hf := (if_neg c6).symm.trans hf
    refine lv_iload_n hx hb dX9_isSettingValue_7 rfl (lv_at hl 1 rfl) ?_
    refine g_tab X S X.F.2.2.2.2.2.1 flX9_405 dX9_isSettingValue_8 (fun t7 ht7 => ?_)
    refine lv_iload_n hx hb dX9_isSettingValue_11 rfl (lv_at hl 0 rfl) ?_
    obtain ⟨v8, hv8, hf⟩ := g_s1 hf
    refine g_tald X S ht7 hv8 dX9_isSettingValue_12 ?_
    refine lv_icmp_lt (tgt := 29) hx hb dX9_isSettingValue_13 (by decide) (fun c9 => ?_) (fun c9 => ?_)
    · have hf := (if_pos c9).symm.trans hf
      refine lv_iconst (v := (0 : Int32)) hx hb dX9_isSettingValue_29 (by decide) ?_
      cases hf
      exact J4 _ _ _ S (lv_sub hl [] rfl)
    · have hf := (if_neg c9).symm.trans hf
      refine lv_iload_n hx hb dX9_isSettingValue_16 rfl (lv_at hl 1 rfl) ?_
      refine g_tab X S X.F.2.2.2.2.2.2 flX9_409 dX9_isSettingValue_17 (fun t10 ht10 => ?_)
      refine lv_iload_n hx hb dX9_isSettingValue_20 rfl (lv_at hl 0 rfl) ?_
      obtain ⟨v11, hv11, hf⟩ := g_s1 hf
      refine g_tald X S ht10 hv11 dX9_isSettingValue_21 ?_
      refine lv_icmp_gt (tgt := 29) hx hb dX9_isSettingValue_22 (by decide) (fun c12 => ?_) (fun c12 => ?_)
      · have hf := (if_pos c12).symm.trans hf
        refine lv_iconst (v := (0 : Int32)) hx hb dX9_isSettingValue_29 (by decide) ?_
        cases hf
        exact J4 _ _ _ S (lv_sub hl [] rfl)
      · have hf := (if_neg c12).symm.trans hf
        refine lv_iconst (v := (1 : Int32)) hx hb dX9_isSettingValue_25 (by decide) ?_
        refine lv_goto (tgt := 30) hx hb dX9_isSettingValue_26 (by decide) ?_
        cases hf
        exact J4 _ _ _ S (lv_sub hl [] rfl)

noncomputable def f_X9_isTrack (σ : gSt) (a0 : Int32) : Option (Int32) :=
  (g_k1 (if a0 < 0 then some (0 : Int32) else (if (2 : Int32) ≤ a0 then some (0 : Int32) else some (1 : Int32))) fun x1 => (g_k1 (gzb x1) fun v4 => some v4))
set_option maxRecDepth 100000 in
set_option maxHeartbeats 4000000 in
theorem c_X9_isTrack (l : Launch) {Γ : gG} {ad : Nat → Nat} {N : Nat} (hN : 202 ≤ N) {σ : gSt} {a0 : Int32}  {r : Int32} (hf : f_X9_isTrack σ a0 = some r) : gMi l celC Γ ad N yX9_isTrack cX9_isTrack 1 (some .boolean) (gR 1 0 0) [.int a0] σ r σ := by
  intro sz
  refine gOf (Qc := fun sz => gQci celC Γ ad N r σ sz) RX9 (by decide) rfl (by decide) (fun p e s m args below meth c H locs ls X S hl => ?_)
  have hl : lv_has ls 1 [(0, .int a0)] := hl
  have hx := X.1
  have hb := X.2.1
  unfold f_X9_isTrack at hf
  refine lv_iload_n hx hb dX9_isTrack_0 rfl (lv_at hl 0 rfl) ?_
  obtain ⟨x1, hr2, hf⟩ := g_s1 hf
  have J3 : ∀ (H : Heap) (locs : List Loc) (ls : Array Slot), gS celC Γ ad N σ s H locs → lv_has ls 1 [] → W p l e (gR 1 0 0) s m args below meth c H locs 0 0 (gQi celC Γ ad N r σ below args s) (F0 m 14 ls [.int x1]) := by
    intro H locs ls S hl
    obtain ⟨v4, hv4, hf⟩ := g_s1 hf
    obtain ⟨hnv4, rfl⟩ := gzb_some hv4
    cases hf
    exact g_reti X S hnv4 dX9_isTrack_14
  replace hf := hr2
  refine lv_if_lt (tgt := 13) hx hb dX9_isTrack_1 (by decide) (fun c5 => ?_) (fun c5 => ?_)
  · have hf := (if_pos c5).symm.trans hf
    refine lv_iconst (v := (0 : Int32)) hx hb dX9_isTrack_13 (by decide) ?_
    cases hf
    exact J3 _ _ _ S (lv_sub hl [] rfl)
  · have hf := (if_neg c5).symm.trans hf
    refine lv_iload_n hx hb dX9_isTrack_4 rfl (lv_at hl 0 rfl) ?_
    refine lv_iconst (v := (2 : Int32)) hx hb dX9_isTrack_5 (by decide) ?_
    refine lv_icmp_ge (tgt := 13) hx hb dX9_isTrack_6 (by decide) (fun c6 => ?_) (fun c6 => ?_)
    · have hf := (if_pos c6).symm.trans hf
      refine lv_iconst (v := (0 : Int32)) hx hb dX9_isTrack_13 (by decide) ?_
      cases hf
      exact J3 _ _ _ S (lv_sub hl [] rfl)
    · have hf := (if_neg c6).symm.trans hf
      refine lv_iconst (v := (1 : Int32)) hx hb dX9_isTrack_9 (by decide) ?_
      refine lv_goto (tgt := 14) hx hb dX9_isTrack_10 (by decide) ?_
      cases hf
      exact J3 _ _ _ S (lv_sub hl [] rfl)

noncomputable def f_X9_isPointFrame (σ : gSt) (a0 : Int32) : Option (Int32) :=
  (g_k1 (if a0 < 0 then some (0 : Int32) else (if (9999 : Int32) < a0 then some (0 : Int32) else some (1 : Int32))) fun x1 => (g_k1 (gzb x1) fun v4 => some v4))
set_option maxRecDepth 100000 in
set_option maxHeartbeats 4000000 in
theorem c_X9_isPointFrame (l : Launch) {Γ : gG} {ad : Nat → Nat} {N : Nat} (hN : 202 ≤ N) {σ : gSt} {a0 : Int32}  {r : Int32} (hf : f_X9_isPointFrame σ a0 = some r) : gMi l celC Γ ad N yX9_isPointFrame cX9_isPointFrame 1 (some .boolean) (gR 1 0 0) [.int a0] σ r σ := by
  intro sz
  refine gOf (Qc := fun sz => gQci celC Γ ad N r σ sz) RX9 (by decide) rfl (by decide) (fun p e s m args below meth c H locs ls X S hl => ?_)
  have hl : lv_has ls 1 [(0, .int a0)] := hl
  have hx := X.1
  have hb := X.2.1
  unfold f_X9_isPointFrame at hf
  refine lv_iload_n hx hb dX9_isPointFrame_0 rfl (lv_at hl 0 rfl) ?_
  obtain ⟨x1, hr2, hf⟩ := g_s1 hf
  have J3 : ∀ (H : Heap) (locs : List Loc) (ls : Array Slot), gS celC Γ ad N σ s H locs → lv_has ls 1 [] → W p l e (gR 1 0 0) s m args below meth c H locs 0 0 (gQi celC Γ ad N r σ below args s) (F0 m 16 ls [.int x1]) := by
    intro H locs ls S hl
    obtain ⟨v4, hv4, hf⟩ := g_s1 hf
    obtain ⟨hnv4, rfl⟩ := gzb_some hv4
    cases hf
    exact g_reti X S hnv4 dX9_isPointFrame_16
  replace hf := hr2
  refine lv_if_lt (tgt := 15) hx hb dX9_isPointFrame_1 (by decide) (fun c5 => ?_) (fun c5 => ?_)
  · have hf := (if_pos c5).symm.trans hf
    refine lv_iconst (v := (0 : Int32)) hx hb dX9_isPointFrame_15 (by decide) ?_
    cases hf
    exact J3 _ _ _ S (lv_sub hl [] rfl)
  · have hf := (if_neg c5).symm.trans hf
    refine lv_iload_n hx hb dX9_isPointFrame_4 rfl (lv_at hl 0 rfl) ?_
    refine lv_sipush (v := (9999 : Int32)) hx hb dX9_isPointFrame_5 (by decide) ?_
    refine lv_icmp_gt (tgt := 15) hx hb dX9_isPointFrame_8 (by decide) (fun c6 => ?_) (fun c6 => ?_)
    · have hf := (if_pos c6).symm.trans hf
      refine lv_iconst (v := (0 : Int32)) hx hb dX9_isPointFrame_15 (by decide) ?_
      cases hf
      exact J3 _ _ _ S (lv_sub hl [] rfl)
    · have hf := (if_neg c6).symm.trans hf
      refine lv_iconst (v := (1 : Int32)) hx hb dX9_isPointFrame_11 (by decide) ?_
      refine lv_goto (tgt := 16) hx hb dX9_isPointFrame_12 (by decide) ?_
      cases hf
      exact J3 _ _ _ S (lv_sub hl [] rfl)

noncomputable def f_X9_arePoints (σ : gSt) (a0 : Int32) (a1 : Int32) (a2 : Int32) (a3 : Int32) : Option (Int32) :=
  (g_k1 (f_X9_isPointFrame σ a0) fun v1 => (if v1 = 0 then some (0 : Int32) else (g_k1 (f_X9_isPointFrame σ a1) fun v3 => (if v3 = 0 then some (0 : Int32) else (g_k1 (f_X9_isPointFrame σ a2) fun v5 => (if v5 = 0 then some (0 : Int32) else (g_k1 (f_X9_isPointFrame σ a3) fun v7 => (if v7 = 0 then some (0 : Int32) else (g_k1 (if a0 = a2 then some (0 : Int32) else (if a1 = a3 then some (0 : Int32) else (g_k1 (if a2 ≤ a0 then some (0 : Int32) else some (1 : Int32)) fun x15 => (g_k1 (if a3 ≤ a1 then some (0 : Int32) else some (1 : Int32)) fun x18 => (if x15 = x18 then some (1 : Int32) else some (0 : Int32)))))) fun x9 => (g_k1 (gzb x9) fun v12 => some v12))))))))))
set_option maxRecDepth 100000 in
set_option maxHeartbeats 4000000 in
theorem c_X9_arePoints (l : Launch) {Γ : gG} {ad : Nat → Nat} {N : Nat} (hN : 202 ≤ N) {σ : gSt} {a0 : Int32} {a1 : Int32} {a2 : Int32} {a3 : Int32}  {r : Int32} (hf : f_X9_arePoints σ a0 a1 a2 a3 = some r) : gMi l celC Γ ad N yX9_arePoints cX9_arePoints 4 (some .boolean) (gR 2 0 0) [.int a0, .int a1, .int a2, .int a3] σ r σ := by
  intro sz
  refine gOf (Qc := fun sz => gQci celC Γ ad N r σ sz) RX9 (by decide) rfl (by decide) (fun p e s m args below meth c H locs ls X S hl => ?_)
  have hl : lv_has ls 4 [(0, .int a0), (1, .int a1), (2, .int a2), (3, .int a3)] := hl
  have hx := X.1
  have hb := X.2.1
  unfold f_X9_arePoints at hf
  refine lv_iload_n hx hb dX9_arePoints_0 rfl (lv_at hl 0 rfl) ?_
  obtain ⟨v1, hv1, hf⟩ := g_s1 hf
  refine g_ki S (g_runS (rest := []) X S (c_X9_isPointFrame l hN  hv1 _) csX9_isPointFrame mlX9_412 rfl rfl hl.1 (by decide) ⟨⟨rfl, rfl⟩, ⟨Nat.le_of_ble_eq_true rfl, Nat.le_of_ble_eq_true rfl⟩, Nat.le_of_ble_eq_true rfl, Nat.le_of_ble_eq_true rfl⟩ dX9_arePoints_1) (fun H locs S => ?_)
  refine lv_if_eq (tgt := 28) hx hb dX9_arePoints_4 (by decide) (fun c2 => ?_) (fun c2 => ?_)
  · have hf := (if_pos c2).symm.trans hf
    refine lv_iconst (v := (0 : Int32)) hx hb dX9_arePoints_28 (by decide) ?_
    cases hf
    exact g_reti X S (by decide +kernel) dX9_arePoints_29
  · have hf := (if_neg c2).symm.trans hf
    refine lv_iload_n hx hb dX9_arePoints_7 rfl (lv_at hl 1 rfl) ?_
    obtain ⟨v3, hv3, hf⟩ := g_s1 hf
    refine g_ki S (g_runS (rest := []) X S (c_X9_isPointFrame l hN  hv3 _) csX9_isPointFrame mlX9_412 rfl rfl hl.1 (by decide) ⟨⟨rfl, rfl⟩, ⟨Nat.le_of_ble_eq_true rfl, Nat.le_of_ble_eq_true rfl⟩, Nat.le_of_ble_eq_true rfl, Nat.le_of_ble_eq_true rfl⟩ dX9_arePoints_8) (fun H locs S => ?_)
    refine lv_if_eq (tgt := 28) hx hb dX9_arePoints_11 (by decide) (fun c4 => ?_) (fun c4 => ?_)
    · have hf := (if_pos c4).symm.trans hf
      refine lv_iconst (v := (0 : Int32)) hx hb dX9_arePoints_28 (by decide) ?_
      cases hf
      exact g_reti X S (by decide +kernel) dX9_arePoints_29
    · have hf := (if_neg c4).symm.trans hf
      refine lv_iload_n hx hb dX9_arePoints_14 rfl (lv_at hl 2 rfl) ?_
      obtain ⟨v5, hv5, hf⟩ := g_s1 hf
      refine g_ki S (g_runS (rest := []) X S (c_X9_isPointFrame l hN  hv5 _) csX9_isPointFrame mlX9_412 rfl rfl hl.1 (by decide) ⟨⟨rfl, rfl⟩, ⟨Nat.le_of_ble_eq_true rfl, Nat.le_of_ble_eq_true rfl⟩, Nat.le_of_ble_eq_true rfl, Nat.le_of_ble_eq_true rfl⟩ dX9_arePoints_15) (fun H locs S => ?_)
      refine lv_if_eq (tgt := 28) hx hb dX9_arePoints_18 (by decide) (fun c6 => ?_) (fun c6 => ?_)
      · have hf := (if_pos c6).symm.trans hf
        refine lv_iconst (v := (0 : Int32)) hx hb dX9_arePoints_28 (by decide) ?_
        cases hf
        exact g_reti X S (by decide +kernel) dX9_arePoints_29
      · have hf := (if_neg c6).symm.trans hf
        refine lv_iload_n hx hb dX9_arePoints_21 rfl (lv_at hl 3 rfl) ?_
        obtain ⟨v7, hv7, hf⟩ := g_s1 hf
        refine g_ki S (g_runS (rest := []) X S (c_X9_isPointFrame l hN  hv7 _) csX9_isPointFrame mlX9_412 rfl rfl hl.1 (by decide) ⟨⟨rfl, rfl⟩, ⟨Nat.le_of_ble_eq_true rfl, Nat.le_of_ble_eq_true rfl⟩, Nat.le_of_ble_eq_true rfl, Nat.le_of_ble_eq_true rfl⟩ dX9_arePoints_22) (fun H locs S => ?_)
        refine lv_if_ne (tgt := 30) hx hb dX9_arePoints_25 (by decide) (fun c8 => ?_) (fun c8 => ?_)
        · have hf := (if_neg c8).symm.trans hf
          refine lv_iload_n hx hb dX9_arePoints_30 rfl (lv_at hl 0 rfl) ?_
          refine lv_iload_n hx hb dX9_arePoints_31 rfl (lv_at hl 2 rfl) ?_
          obtain ⟨x9, hr10, hf⟩ := g_s1 hf
          have J11 : ∀ (H : Heap) (locs : List Loc) (ls : Array Slot), gS celC Γ ad N σ s H locs → lv_has ls 4 [] → W p l e (gR 2 0 0) s m args below meth c H locs 0 0 (gQi celC Γ ad N r σ below args s) (F0 m 68 ls [.int x9]) := by
            intro H locs ls S hl
            obtain ⟨v12, hv12, hf⟩ := g_s1 hf
            obtain ⟨hnv12, rfl⟩ := gzb_some hv12
            cases hf
            exact g_reti X S hnv12 dX9_arePoints_68
          replace hf := hr10
          refine lv_icmp_eq (tgt := 67) hx hb dX9_arePoints_32 (by decide) (fun c13 => ?_) (fun c13 => ?_)
          · have hf := (if_pos c13).symm.trans hf
            refine lv_iconst (v := (0 : Int32)) hx hb dX9_arePoints_67 (by decide) ?_
            cases hf
            exact J11 _ _ _ S (lv_sub hl [] rfl)
          · have hf := (if_neg c13).symm.trans hf
            refine lv_iload_n hx hb dX9_arePoints_35 rfl (lv_at hl 1 rfl) ?_
            refine lv_iload_n hx hb dX9_arePoints_36 rfl (lv_at hl 3 rfl) ?_
            refine lv_icmp_eq (tgt := 67) hx hb dX9_arePoints_37 (by decide) (fun c14 => ?_) (fun c14 => ?_)
            · have hf := (if_pos c14).symm.trans hf
              refine lv_iconst (v := (0 : Int32)) hx hb dX9_arePoints_67 (by decide) ?_
              cases hf
              exact J11 _ _ _ S (lv_sub hl [] rfl)
            · have hf := (if_neg c14).symm.trans hf
              refine lv_iload_n hx hb dX9_arePoints_40 rfl (lv_at hl 0 rfl) ?_
              refine lv_iload_n hx hb dX9_arePoints_41 rfl (lv_at hl 2 rfl) ?_
              obtain ⟨x15, hr16, hf⟩ := g_s1 hf
              have J17 : ∀ (H : Heap) (locs : List Loc) (ls : Array Slot), gS celC Γ ad N σ s H locs → lv_has ls 4 [(1, .int a1), (3, .int a3)] → W p l e (gR 2 0 0) s m args below meth c H locs 0 0 (gQi celC Γ ad N r σ below args s) (F0 m 50 ls [.int x15]) := by
                intro H locs ls S hl
                refine lv_iload_n hx hb dX9_arePoints_50 rfl (lv_at hl 0 rfl) ?_
                refine lv_iload_n hx hb dX9_arePoints_51 rfl (lv_at hl 1 rfl) ?_
                obtain ⟨x18, hr19, hf⟩ := g_s1 hf
                have J20 : ∀ (H : Heap) (locs : List Loc) (ls : Array Slot), gS celC Γ ad N σ s H locs → lv_has ls 4 [] → W p l e (gR 2 0 0) s m args below meth c H locs 0 0 (gQi celC Γ ad N r σ below args s) (F0 m 60 ls [.int x18, .int x15]) := by
                  intro H locs ls S hl
                  refine lv_icmp_ne (tgt := 67) hx hb dX9_arePoints_60 (by decide) (fun c21 => ?_) (fun c21 => ?_)
                  · have hf := (if_neg c21).symm.trans hf
                    refine lv_iconst (v := (0 : Int32)) hx hb dX9_arePoints_67 (by decide) ?_
                    cases hf
                    exact J11 _ _ _ S (lv_sub hl [] rfl)
                  · have hf := (if_pos c21).symm.trans hf
                    refine lv_iconst (v := (1 : Int32)) hx hb dX9_arePoints_63 (by decide) ?_
                    refine lv_goto (tgt := 68) hx hb dX9_arePoints_64 (by decide) ?_
                    cases hf
                    exact J11 _ _ _ S (lv_sub hl [] rfl)
                replace hf := hr19
                refine lv_icmp_ge (tgt := 59) hx hb dX9_arePoints_52 (by decide) (fun c22 => ?_) (fun c22 => ?_)
                · have hf := (if_pos c22).symm.trans hf
                  refine lv_iconst (v := (0 : Int32)) hx hb dX9_arePoints_59 (by decide) ?_
                  cases hf
                  exact J20 _ _ _ S (lv_sub hl [] rfl)
                · have hf := (if_neg c22).symm.trans hf
                  refine lv_iconst (v := (1 : Int32)) hx hb dX9_arePoints_55 (by decide) ?_
                  refine lv_goto (tgt := 60) hx hb dX9_arePoints_56 (by decide) ?_
                  cases hf
                  exact J20 _ _ _ S (lv_sub hl [] rfl)
              replace hf := hr16
              refine lv_icmp_ge (tgt := 49) hx hb dX9_arePoints_42 (by decide) (fun c23 => ?_) (fun c23 => ?_)
              · have hf := (if_pos c23).symm.trans hf
                refine lv_iconst (v := (0 : Int32)) hx hb dX9_arePoints_49 (by decide) ?_
                cases hf
                exact J17 _ _ _ S (lv_sub hl [1, 3] rfl)
              · have hf := (if_neg c23).symm.trans hf
                refine lv_iconst (v := (1 : Int32)) hx hb dX9_arePoints_45 (by decide) ?_
                refine lv_goto (tgt := 50) hx hb dX9_arePoints_46 (by decide) ?_
                cases hf
                exact J17 _ _ _ S (lv_sub hl [1, 3] rfl)
        · have hf := (if_pos c8).symm.trans hf
          refine lv_iconst (v := (0 : Int32)) hx hb dX9_arePoints_28 (by decide) ?_
          cases hf
          exact g_reti X S (by decide +kernel) dX9_arePoints_29

