noncomputable def f_X10_feed (σ : gSt) (a0 : Int32) : Option (Int32 × gSt) :=
  (g_k1 (if (σ 0 12) = (60 : Int32) then some (1 : Int32) else some (0 : Int32)) fun x1 => (g_k1 (gset σ 0 10 x1) fun σ4 => (if (σ4 0 10) ≤ 0 then (g_k1 (gast σ4 6 60 (σ4 0 12) a0) fun σ6 => (g_k1 (gset σ6 0 12 ((σ6 0 12) + (1 : Int32))) fun σ7 => some ((σ7 0 12), σ7))) else some ((0 : Int32), σ4))))
set_option maxRecDepth 100000 in
set_option maxHeartbeats 4000000 in
theorem c_X10_feed (l : Launch) {Γ : gG} {ad : Nat → Nat} {N : Nat} (hN : 8 ≤ N) {σ : gSt} {a0 : Int32}  {r : Int32} {σ' : gSt} (hf : f_X10_feed σ a0 = some (r, σ')) : gMi l celM Γ ad N yX10_feed cX10_feed 2 (some .int) (gR 1 0 0) [.ref (ad 0), .int a0] σ r σ' := by
  intro sz
  refine gOf (Qc := fun sz => gQci celM Γ ad N r σ' sz) RX10 (by decide) rfl (by decide) (fun p e s m args below meth c H locs ls X S hl => ?_)
  have hl : lv_has ls 2 [(0, .ref (ad 0)), (1, .int a0)] := hl
  have hx := X.1
  have hb := X.2.1
  unfold f_X10_feed at hf
  refine lv_aload_n hx hb dX10_feed_0 rfl (lv_at hl 0 rfl) ?_
  refine lv_aload_n hx hb dX10_feed_1 rfl (lv_at hl 0 rfl) ?_
  refine gfX10_137 X S hN dX10_feed_2 ?_
  refine lv_bipush (v := (60 : Int32)) hx hb dX10_feed_5 (by decide) ?_
  obtain ⟨x1, hr2, hf⟩ := g_s1 hf
  have J3 : ∀ (H : Heap) (locs : List Loc) (ls : Array Slot), gS celM Γ ad N σ s H locs → lv_has ls 2 [(0, .ref (ad 0)), (1, .int a0)] → W p l e (gR 1 0 0) s m args below meth c H locs 0 0 (gQi celM Γ ad N r σ' below args s) (F0 m 15 ls [.int x1, .ref (ad 0)]) := by
    intro H locs ls S hl
    obtain ⟨σ4, hσ4, hf⟩ := g_s1 hf
    refine pfX10_35 X S hN hσ4 dX10_feed_15 (fun H locs S => ?_)
    refine lv_aload_n hx hb dX10_feed_18 rfl (lv_at hl 0 rfl) ?_
    refine gfX10_35 X S hN dX10_feed_19 ?_
    refine lv_if_le (tgt := 27) hx hb dX10_feed_22 (by decide) (fun c5 => ?_) (fun c5 => ?_)
    · have hf := (if_pos c5).symm.trans hf
      refine lv_aload_n hx hb dX10_feed_27 rfl (lv_at hl 0 rfl) ?_
      refine gfX10_29 X S hN dX10_feed_28 ?_
      refine lv_aload_n hx hb dX10_feed_31 rfl (lv_at hl 0 rfl) ?_
      refine gfX10_137 X S hN dX10_feed_32 ?_
      refine lv_iload_n hx hb dX10_feed_35 rfl (lv_at hl 1 rfl) ?_
      obtain ⟨σ6, hσ6, hf⟩ := g_s1 hf
      refine g_iast X S (by omega) (ceM_a (rfl : gma 6 = true)) hσ6 dX10_feed_36 (fun H locs S => ?_)
      refine lv_aload_n hx hb dX10_feed_37 rfl (lv_at hl 0 rfl) ?_
      refine lv_dup hx hb dX10_feed_38 rfl ?_
      refine gfX10_137 X S hN dX10_feed_39 ?_
      refine lv_iconst (v := (1 : Int32)) hx hb dX10_feed_42 (by decide) ?_
      refine lv_iadd hx hb dX10_feed_43 ?_
      obtain ⟨σ7, hσ7, hf⟩ := g_s1 hf
      refine pfX10_137 X S hN hσ7 dX10_feed_44 (fun H locs S => ?_)
      refine lv_aload_n hx hb dX10_feed_47 rfl (lv_at hl 0 rfl) ?_
      refine gfX10_137 X S hN dX10_feed_48 ?_
      cases hf
      exact g_reti X S rfl dX10_feed_51
    · have hf := (if_neg c5).symm.trans hf
      refine lv_iconst (v := (0 : Int32)) hx hb dX10_feed_25 (by decide) ?_
      cases hf
      exact g_reti X S rfl dX10_feed_26
  replace hf := hr2
  refine lv_icmp_ne (tgt := 14) hx hb dX10_feed_7 (by decide) (fun c8 => ?_) (fun c8 => ?_)
  · have hf := (if_neg c8).symm.trans hf
    refine lv_iconst (v := (0 : Int32)) hx hb dX10_feed_14 (by decide) ?_
    cases hf
    exact J3 _ _ _ S (lv_sub hl [0, 1] rfl)
  · have hf := (if_pos c8).symm.trans hf
    refine lv_iconst (v := (1 : Int32)) hx hb dX10_feed_10 (by decide) ?_
    refine lv_goto (tgt := 15) hx hb dX10_feed_11 (by decide) ?_
    cases hf
    exact J3 _ _ _ S (lv_sub hl [0, 1] rfl)

noncomputable def f_X10_againstPlace_l1 (σ : gSt) (a0 : Int32) (a1 : Int32) (a2 : Int32) (a3 : Int32) : Nat → Int32 → Option (Int32)
  | 0, _ => none
  | n + 1, i4 => (g_k1 (gald σ 1 926 ((28 : Int32) + a0)) fun v5 => (if v5 ≤ i4 then some (0 : Int32) else (if i4 = a1 then (f_X10_againstPlace_l1 σ a0 a1 a2 a3 n (i4 + 1)) else (g_k1 (f_X10_end σ a0 i4) fun v8 => (if v8 ≤ a2 then (f_X10_againstPlace_l1 σ a0 a1 a2 a3 n (i4 + 1)) else (g_k1 (f_X10_first σ a0 i4) fun v10 => (if a3 ≤ v10 then (f_X10_againstPlace_l1 σ a0 a1 a2 a3 n (i4 + 1)) else some (3 : Int32))))))))
set_option maxRecDepth 100000 in
set_option maxHeartbeats 4000000 in
theorem w_X10_againstPlace_l1 {l : Launch} {Γ : gG} {ad : Nat → Nat} {N : Nat} {p : Program} {e : Env} {s : State} {m : MethodId} {args : Array Value} {below : List Frame} {meth : Method} {c : Code} (hN : 8 ≤ N) (X : gX celM Γ ad N RX10 cX10_againstPlace 6 (some .int) p s m args meth c) {σ : gSt} {a0 : Int32} {a1 : Int32} {a2 : Int32} {a3 : Int32}  : ∀ (n : Nat) (i4 : Int32) (r : Int32), f_X10_againstPlace_l1 σ a0 a1 a2 a3 n i4 = some r → ∀ (H : Heap) (locs : List Loc) (ls : Array Slot), gS celM Γ ad N σ s H locs → lv_has ls 6 [(5, .int i4), (0, .ref (ad 0)), (1, .int a0), (2, .int a1), (3, .int a2), (4, .int a3)] → W p l e (gR 3 0 0) s m args below meth c H locs 0 0 (gQi celM Γ ad N r σ below args s) (F0 m 28 ls []) := by
  have hx := X.1
  have hb := X.2.1
  intro n
  induction n with
  | zero =>
    intro i4 r hf
    cases hf
  | succ n ih =>
    intro i4 r hf H locs ls S hl
    rw [f_X10_againstPlace_l1] at hf
    refine lv_iload hx hb dX10_againstPlace_28 (lv_at hl 0 rfl) ?_
    refine lv_aload_n hx hb dX10_againstPlace_30 rfl (lv_at hl 1 rfl) ?_
    refine gfX10_7 X S hN dX10_againstPlace_31 ?_
    refine lv_bipush (v := (28 : Int32)) hx hb dX10_againstPlace_34 (by decide) ?_
    refine lv_iload_n hx hb dX10_againstPlace_36 rfl (lv_at hl 2 rfl) ?_
    refine lv_iadd hx hb dX10_againstPlace_37 ?_
    obtain ⟨v5, hv5, hf⟩ := g_s1 hf
    refine g_iald X S (by omega) (ceM_a (rfl : gma 1 = true)) hv5 dX10_againstPlace_38 ?_
    refine lv_icmp_ge (tgt := 79) hx hb dX10_againstPlace_39 (by decide) (fun c6 => ?_) (fun c6 => ?_)
    · have hf := (if_pos c6).symm.trans hf
      refine lv_iconst (v := (0 : Int32)) hx hb dX10_againstPlace_79 (by decide) ?_
      cases hf
      exact g_reti X S rfl dX10_againstPlace_80
    · have hf := (if_neg c6).symm.trans hf
      refine lv_iload hx hb dX10_againstPlace_42 (lv_at hl 0 rfl) ?_
      refine lv_iload_n hx hb dX10_againstPlace_44 rfl (lv_at hl 3 rfl) ?_
      refine lv_icmp_eq (tgt := 73) hx hb dX10_againstPlace_45 (by decide) (fun c7 => ?_) (fun c7 => ?_)
      · have hf := (if_pos c7).symm.trans hf
        refine lv_iinc (v := (i4 + 1)) (lv' := [(5, .int (i4 + 1)), (0, .ref (ad 0)), (1, .int a0), (2, .int a1), (3, .int a2), (4, .int a3)]) hx hb dX10_againstPlace_73 hl (k := 0) rfl rfl (by decide) rfl (fun ls hl => ?_)
        refine lv_goto (tgt := 28) hx hb dX10_againstPlace_76 (by decide) ?_
        exact ih _ _  hf _ _ _ S (lv_sub hl [0, 1, 2, 3, 4, 5] rfl)
      · have hf := (if_neg c7).symm.trans hf
        refine lv_iload_n hx hb dX10_againstPlace_48 rfl (lv_at hl 4 rfl) ?_
        refine lv_aload_n hx hb dX10_againstPlace_49 rfl (lv_at hl 1 rfl) ?_
        refine lv_iload_n hx hb dX10_againstPlace_50 rfl (lv_at hl 2 rfl) ?_
        refine lv_iload hx hb dX10_againstPlace_51 (lv_at hl 0 rfl) ?_
        obtain ⟨v8, hv8, hf⟩ := g_s1 hf
        refine g_ki S (g_runV (rest := [.int a2]) X S (c_X10_end l hN  hv8 _) cvX10_end mlX10_71 (by omega) (ceM_10 _) rfl rfl rfl hl.1 (by decide) ⟨⟨rfl, rfl⟩, ⟨Nat.le_of_ble_eq_true rfl, Nat.le_of_ble_eq_true rfl⟩, Nat.le_of_ble_eq_true rfl, Nat.le_of_ble_eq_true rfl⟩ dX10_againstPlace_53) (fun H locs S => ?_)
        refine lv_icmp_ge (tgt := 73) hx hb dX10_againstPlace_56 (by decide) (fun c9 => ?_) (fun c9 => ?_)
        · have hf := (if_pos c9).symm.trans hf
          refine lv_iinc (v := (i4 + 1)) (lv' := [(5, .int (i4 + 1)), (0, .ref (ad 0)), (1, .int a0), (2, .int a1), (3, .int a2), (4, .int a3)]) hx hb dX10_againstPlace_73 hl (k := 0) rfl rfl (by decide) rfl (fun ls hl => ?_)
          refine lv_goto (tgt := 28) hx hb dX10_againstPlace_76 (by decide) ?_
          exact ih _ _  hf _ _ _ S (lv_sub hl [0, 1, 2, 3, 4, 5] rfl)
        · have hf := (if_neg c9).symm.trans hf
          refine lv_iload hx hb dX10_againstPlace_59 (lv_at hl 5 rfl) ?_
          refine lv_aload_n hx hb dX10_againstPlace_61 rfl (lv_at hl 1 rfl) ?_
          refine lv_iload_n hx hb dX10_againstPlace_62 rfl (lv_at hl 2 rfl) ?_
          refine lv_iload hx hb dX10_againstPlace_63 (lv_at hl 0 rfl) ?_
          obtain ⟨v10, hv10, hf⟩ := g_s1 hf
          refine g_ki S (g_runV (rest := [.int a3]) X S (c_X10_first l hN  hv10 _) cvX10_first mlX10_113 (by omega) (ceM_10 _) rfl rfl rfl hl.1 (by decide) ⟨⟨rfl, rfl⟩, ⟨Nat.le_of_ble_eq_true rfl, Nat.le_of_ble_eq_true rfl⟩, Nat.le_of_ble_eq_true rfl, Nat.le_of_ble_eq_true rfl⟩ dX10_againstPlace_65) (fun H locs S => ?_)
          refine lv_icmp_le (tgt := 73) hx hb dX10_againstPlace_68 (by decide) (fun c11 => ?_) (fun c11 => ?_)
          · have hf := (if_pos c11).symm.trans hf
            refine lv_iinc (v := (i4 + 1)) (lv' := [(5, .int (i4 + 1)), (0, .ref (ad 0)), (1, .int a0), (2, .int a1), (3, .int a2), (4, .int a3)]) hx hb dX10_againstPlace_73 hl (k := 0) rfl rfl (by decide) rfl (fun ls hl => ?_)
            refine lv_goto (tgt := 28) hx hb dX10_againstPlace_76 (by decide) ?_
            exact ih _ _  hf _ _ _ S (lv_sub hl [0, 1, 2, 3, 4, 5] rfl)
          · have hf := (if_neg c11).symm.trans hf
            refine lv_iconst (v := (3 : Int32)) hx hb dX10_againstPlace_71 (by decide) ?_
            cases hf
            exact g_reti X S rfl dX10_againstPlace_72
noncomputable def f_X10_againstPlace (σ : gSt) (a0 : Int32) (a1 : Int32) (a2 : Int32) (a3 : Int32) : Option (Int32) :=
  (if a2 < 0 then some (1 : Int32) else (if a3 ≤ (σ 1 0) then (if a2 < a3 then (f_X10_againstPlace_l1 σ a0 a1 a2 a3 FU (0 : Int32)) else some (2 : Int32)) else some (1 : Int32)))
set_option maxRecDepth 100000 in
set_option maxHeartbeats 4000000 in
theorem c_X10_againstPlace (l : Launch) {Γ : gG} {ad : Nat → Nat} {N : Nat} (hN : 8 ≤ N) {σ : gSt} {a0 : Int32} {a1 : Int32} {a2 : Int32} {a3 : Int32}  {r : Int32} (hf : f_X10_againstPlace σ a0 a1 a2 a3 = some r) : gMi l celM Γ ad N yX10_againstPlace cX10_againstPlace 6 (some .int) (gR 3 0 0) [.ref (ad 0), .int a0, .int a1, .int a2, .int a3] σ r σ := by
  intro sz
  refine gOf (Qc := fun sz => gQci celM Γ ad N r σ sz) RX10 (by decide) rfl (by decide) (fun p e s m args below meth c H locs ls X S hl => ?_)
  have hl : lv_has ls 6 [(0, .ref (ad 0)), (1, .int a0), (2, .int a1), (3, .int a2), (4, .int a3)] := hl
  have hx := X.1
  have hb := X.2.1
  unfold f_X10_againstPlace at hf
  refine lv_iload_n hx hb dX10_againstPlace_0 rfl (lv_at hl 3 rfl) ?_
  refine lv_if_lt (tgt := 15) hx hb dX10_againstPlace_1 (by decide) (fun c1 => ?_) (fun c1 => ?_)
  · have hf := (if_pos c1).symm.trans hf
    refine lv_iconst (v := (1 : Int32)) hx hb dX10_againstPlace_15 (by decide) ?_
    cases hf
    exact g_reti X S rfl dX10_againstPlace_16
  · have hf := (if_neg c1).symm.trans hf
    refine lv_iload hx hb dX10_againstPlace_4 (lv_at hl 4 rfl) ?_
    refine lv_aload_n hx hb dX10_againstPlace_6 rfl (lv_at hl 0 rfl) ?_
    refine gfX10_7 X S hN dX10_againstPlace_7 ?_
    refine lv_iconst (v := (0 : Int32)) hx hb dX10_againstPlace_10 (by decide) ?_
    refine g_ialdC X S (by omega) (ceM_a (rfl : gma 1 = true)) 0 (by decide) (by decide) dX10_againstPlace_11 ?_
    refine lv_icmp_le (tgt := 17) hx hb dX10_againstPlace_12 (by decide) (fun c2 => ?_) (fun c2 => ?_)
    · have hf := (if_pos c2).symm.trans hf
      refine lv_iload_n hx hb dX10_againstPlace_17 rfl (lv_at hl 3 rfl) ?_
      refine lv_iload hx hb dX10_againstPlace_18 (lv_at hl 4 rfl) ?_
      refine lv_icmp_lt (tgt := 25) hx hb dX10_againstPlace_20 (by decide) (fun c3 => ?_) (fun c3 => ?_)
      · have hf := (if_pos c3).symm.trans hf
        refine lv_iconst (v := (0 : Int32)) hx hb dX10_againstPlace_25 (by decide) ?_
        refine lv_istore (lv' := [(5, .int (0 : Int32)), (0, .ref (ad 0)), (1, .int a0), (2, .int a1), (3, .int a2), (4, .int a3)]) hx hb dX10_againstPlace_26 hl (by decide) rfl (fun ls hl => ?_)
        exact w_X10_againstPlace_l1 hN X  FU _ _  hf _ _ _ S (lv_sub hl [0, 1, 2, 3, 4, 5] rfl)
      · have hf := (if_neg c3).symm.trans hf
        refine lv_iconst (v := (2 : Int32)) hx hb dX10_againstPlace_23 (by decide) ?_
        cases hf
        exact g_reti X S rfl dX10_againstPlace_24
    · have hf := (if_neg c2).symm.trans hf
      refine lv_iconst (v := (1 : Int32)) hx hb dX10_againstPlace_15 (by decide) ?_
      cases hf
      exact g_reti X S rfl dX10_againstPlace_16

noncomputable def f_X10_againstAdd (σ : gSt) (a0 : Int32) (a1 : Int32) (a2 : Int32) (a3 : Int32) (a4 : Int32) : Option (Int32) :=
  (g_k1 (f_X10_againstPlace σ a0 (-1 : Int32) a1 a2) fun v1 => (g_k1 (if v1 ≤ 0 then (g_k1 (f_X10_isText σ 6 a3 a4) fun v6 => (if v6 = 0 then some (4 : Int32) else (g_k1 (gald σ 1 926 ((28 : Int32) + a0)) fun v8 => (if v8 = (16 : Int32) then some (8 : Int32) else some (0 : Int32))))) else some v1) fun x2 => some x2))
set_option maxRecDepth 100000 in
set_option maxHeartbeats 4000000 in
theorem c_X10_againstAdd (l : Launch) {Γ : gG} {ad : Nat → Nat} {N : Nat} (hN : 8 ≤ N) {σ : gSt} {a0 : Int32} {a1 : Int32} {a2 : Int32} {a3 : Int32} {a4 : Int32}  {r : Int32} (hf : f_X10_againstAdd σ a0 a1 a2 a3 a4 = some r) : gMi l celM Γ ad N yX10_againstAdd cX10_againstAdd 7 (some .int) (gR 4 0 0) [.ref (ad 0), .int a0, .int a1, .int a2, .int a3, .int a4] σ r σ := by
  intro sz
  refine gOf (Qc := fun sz => gQci celM Γ ad N r σ sz) RX10 (by decide) rfl (by decide) (fun p e s m args below meth c H locs ls X S hl => ?_)
  have hl : lv_has ls 7 [(6, .int v1), (0, .ref (ad 0)), (1, .int a0), (2, .int a1), (3, .int a2), (4, .int a3), (5, .int a4)] := hl
  have hx := X.1
  have hb := X.2.1
  unfold f_X10_againstAdd at hf
  refine lv_aload_n hx hb dX10_againstAdd_0 rfl (lv_at hl 0 rfl) ?_
  refine lv_iload_n hx hb dX10_againstAdd_1 rfl (lv_at hl 1 rfl) ?_
  refine lv_iconst (v := (-1 : Int32)) hx hb dX10_againstAdd_2 (by decide) ?_
  refine lv_iload_n hx hb dX10_againstAdd_3 rfl (lv_at hl 2 rfl) ?_
  refine lv_iload_n hx hb dX10_againstAdd_4 rfl (lv_at hl 3 rfl) ?_
  obtain ⟨v1, hv1, hf⟩ := g_s1 hf
  refine g_ki S (g_runV (rest := []) X S (c_X10_againstPlace l hN  hv1 _) cvX10_againstPlace mlX10_140 (by omega) (ceM_10 _) rfl rfl rfl hl.1 (by decide) ⟨⟨rfl, rfl⟩, ⟨Nat.le_of_ble_eq_true rfl, Nat.le_of_ble_eq_true rfl⟩, Nat.le_of_ble_eq_true rfl, Nat.le_of_ble_eq_true rfl⟩ dX10_againstAdd_5) (fun H locs S => ?_)
  refine lv_istore (lv' := [(6, .int v1), (0, .ref (ad 0)), (1, .int a0), (2, .int a1), (3, .int a2), (4, .int a3), (5, .int a4)]) hx hb dX10_againstAdd_8 hl (by decide) rfl (fun ls hl => ?_)
  refine lv_iload hx hb dX10_againstAdd_10 (lv_at hl 0 rfl) ?_
  obtain ⟨x2, hr3, hf⟩ := g_s1 hf
  have J4 : ∀ (H : Heap) (locs : List Loc) (ls : Array Slot), gS celM Γ ad N σ s H locs → lv_has ls 7 [] → W p l e (gR 4 0 0) s m args below meth c H locs 0 0 (gQi celM Γ ad N r σ below args s) (F0 m 58 ls [.int x2]) := by
    intro H locs ls S hl
    cases hf
    exact g_reti X S rfl dX10_againstAdd_58
  replace hf := hr3
  refine lv_if_le (tgt := 20) hx hb dX10_againstAdd_12 (by decide) (fun c5 => ?_) (fun c5 => ?_)
  · have hf := (if_pos c5).symm.trans hf
    refine lv_aload_n hx hb dX10_againstAdd_20 rfl (lv_at hl 1 rfl) ?_
    refine gfX10_29 X S hN dX10_againstAdd_21 ?_
    refine lv_iload hx hb dX10_againstAdd_24 (lv_at hl 5 rfl) ?_
    refine lv_iload hx hb dX10_againstAdd_26 (lv_at hl 6 rfl) ?_
    obtain ⟨v6, hv6, hf⟩ := g_s1 hf
    refine g_ki S (g_runS (rest := []) X S (c_X10_isText l hN (by rfl : gma 6 = true) hv6 _) csX10_isText mlX10_144 rfl rfl hl.1 (by decide) ⟨⟨rfl, rfl⟩, ⟨Nat.le_of_ble_eq_true rfl, Nat.le_of_ble_eq_true rfl⟩, Nat.le_of_ble_eq_true rfl, Nat.le_of_ble_eq_true rfl⟩ dX10_againstAdd_28) (fun H locs S => ?_)
    refine lv_if_ne (tgt := 38) hx hb dX10_againstAdd_31 (by decide) (fun c7 => ?_) (fun c7 => ?_)
    · have hf := (if_neg c7).symm.trans hf
      refine lv_aload_n hx hb dX10_againstAdd_38 rfl (lv_at hl 1 rfl) ?_
      refine gfX10_7 X S hN dX10_againstAdd_39 ?_
      refine lv_bipush (v := (28 : Int32)) hx hb dX10_againstAdd_42 (by decide) ?_
      refine lv_iload_n hx hb dX10_againstAdd_44 rfl (lv_at hl 2 rfl) ?_
      refine lv_iadd hx hb dX10_againstAdd_45 ?_
      obtain ⟨v8, hv8, hf⟩ := g_s1 hf
      refine g_iald X S (by omega) (ceM_a (rfl : gma 1 = true)) hv8 dX10_againstAdd_46 ?_
      refine lv_bipush (v := (16 : Int32)) hx hb dX10_againstAdd_47 (by decide) ?_
      refine lv_icmp_ne (tgt := 57) hx hb dX10_againstAdd_49 (by decide) (fun c9 => ?_) (fun c9 => ?_)
      · have hf := (if_neg c9).symm.trans hf
        refine lv_iconst (v := (0 : Int32)) hx hb dX10_againstAdd_57 (by decide) ?_
        cases hf
        exact J4 _ _ _ S (lv_sub hl [] rfl)
      · have hf := (if_pos c9).symm.trans hf
        refine lv_bipush (v := (8 : Int32)) hx hb dX10_againstAdd_52 (by decide) ?_
        refine lv_goto (tgt := 58) hx hb dX10_againstAdd_54 (by decide) ?_
        cases hf
        exact J4 _ _ _ S (lv_sub hl [] rfl)
    · have hf := (if_pos c7).symm.trans hf
      refine lv_iconst (v := (4 : Int32)) hx hb dX10_againstAdd_34 (by decide) ?_
      refine lv_goto (tgt := 58) hx hb dX10_againstAdd_35 (by decide) ?_
      cases hf
      exact J4 _ _ _ S (lv_sub hl [] rfl)
  · have hf := (if_neg c5).symm.trans hf
    refine lv_iload hx hb dX10_againstAdd_15 (lv_at hl 0 rfl) ?_
    refine lv_goto (tgt := 58) hx hb dX10_againstAdd_17 (by decide) ?_
    cases hf
    exact J4 _ _ _ S (lv_sub hl [] rfl)

noncomputable def f_X10_puts_l2 (a0 : Int32) (i2 : Int32) (σ3 : gSt) : Nat → Int32 → gSt → Option (gSt)
  | 0, _, _ => none
  | n + 1, i9, σ10 => (if (28 : Int32) ≤ i9 then some σ10 else (g_k1 (f_X10_at σ10 a0 i2 i9) fun v13 => (g_k1 (f_X10_at σ10 a0 (i2 - (1 : Int32)) i9) fun v14 => (g_k1 (gald σ10 1 926 v14) fun v15 => (g_k1 (gast σ10 1 926 v13 v15) fun σ16 => (f_X10_puts_l2 a0 i2 σ3 n (i9 + 1) σ16))))))
set_option maxRecDepth 100000 in
set_option maxHeartbeats 4000000 in
theorem w_X10_puts_l2 {l : Launch} {Γ : gG} {ad : Nat → Nat} {N : Nat} {p : Program} {e : Env} {s : State} {m : MethodId} {args : Array Value} {below : List Frame} {meth : Method} {c : Code} {Q : State → Prop} (hN : 8 ≤ N) (X : gX celM Γ ad N RX10 cX10_puts 4 (some .int) p s m args meth c) {a0 : Int32} {i2 : Int32} {σ3 : gSt}  : ∀ (n : Nat) (i9 : Int32) (σ10 : gSt) (σ11 : gSt), f_X10_puts_l2 a0 i2 σ3 n i9 σ10 = some σ11 → (∀ (H : Heap) (locs : List Loc) (ls : Array Slot), gS celM Γ ad N σ11 s H locs → lv_has ls 4 [(2, .int i2), (0, .ref (ad 0)), (1, .int a0)] → W p l e (gR 3 0 0) s m args below meth c H locs 0 0 (Q) (F0 m 69 ls [])) → ∀ (H : Heap) (locs : List Loc) (ls : Array Slot), gS celM Γ ad N σ10 s H locs → lv_has ls 4 [(3, .int i9), (2, .int i2), (0, .ref (ad 0)), (1, .int a0)] → W p l e (gR 3 0 0) s m args below meth c H locs 0 0 (Q) (F0 m 33 ls []) := by
  have hx := X.1
  have hb := X.2.1
  intro n
  induction n with
  | zero =>
    intro i9 σ10 σ11 hf
    cases hf
  | succ n ih =>
    intro i9 σ10 σ11 hf J H locs ls S hl
    rw [f_X10_puts_l2] at hf
    refine lv_iload_n hx hb dX10_puts_33 rfl (lv_at hl 0 rfl) ?_
    refine lv_bipush (v := (28 : Int32)) hx hb dX10_puts_34 (by decide) ?_
    refine lv_icmp_ge (tgt := 69) hx hb dX10_puts_36 (by decide) (fun c12 => ?_) (fun c12 => ?_)
    · have hf := (if_pos c12).symm.trans hf
      cases hf
      exact J _ _ _ S (lv_sub hl [1, 2, 3] rfl)
    · have hf := (if_neg c12).symm.trans hf
      refine lv_aload_n hx hb dX10_puts_39 rfl (lv_at hl 2 rfl) ?_
      refine gfX10_7 X S hN dX10_puts_40 ?_
      refine lv_iload_n hx hb dX10_puts_43 rfl (lv_at hl 3 rfl) ?_
      refine lv_iload_n hx hb dX10_puts_44 rfl (lv_at hl 1 rfl) ?_
      refine lv_iload_n hx hb dX10_puts_45 rfl (lv_at hl 0 rfl) ?_
      obtain ⟨v13, hv13, hf⟩ := g_s1 hf
      refine g_ki S (g_runS (rest := [.ref (ad 1)]) X S (c_X10_at l hN  hv13 _) csX10_at mlX10_56 rfl rfl hl.1 (by decide) ⟨⟨rfl, rfl⟩, ⟨Nat.le_of_ble_eq_true rfl, Nat.le_of_ble_eq_true rfl⟩, Nat.le_of_ble_eq_true rfl, Nat.le_of_ble_eq_true rfl⟩ dX10_puts_46) (fun H locs S => ?_)
      refine lv_aload_n hx hb dX10_puts_49 rfl (lv_at hl 2 rfl) ?_
      refine gfX10_7 X S hN dX10_puts_50 ?_
      refine lv_iload_n hx hb dX10_puts_53 rfl (lv_at hl 3 rfl) ?_
      refine lv_iload_n hx hb dX10_puts_54 rfl (lv_at hl 1 rfl) ?_
      refine lv_iconst (v := (1 : Int32)) hx hb dX10_puts_55 (by decide) ?_
      refine lv_isub hx hb dX10_puts_56 ?_
      refine lv_iload_n hx hb dX10_puts_57 rfl (lv_at hl 0 rfl) ?_
      obtain ⟨v14, hv14, hf⟩ := g_s1 hf
      refine g_ki S (g_runS (rest := [.ref (ad 1), .int v13, .ref (ad 1)]) X S (c_X10_at l hN  hv14 _) csX10_at mlX10_56 rfl rfl hl.1 (by decide) ⟨⟨rfl, rfl⟩, ⟨Nat.le_of_ble_eq_true rfl, Nat.le_of_ble_eq_true rfl⟩, Nat.le_of_ble_eq_true rfl, Nat.le_of_ble_eq_true rfl⟩ dX10_puts_58) (fun H locs S => ?_)
      obtain ⟨v15, hv15, hf⟩ := g_s1 hf
      refine g_iald X S (by omega) (ceM_a (rfl : gma 1 = true)) hv15 dX10_puts_61 ?_
      obtain ⟨σ16, hσ16, hf⟩ := g_s1 hf
      refine g_iast X S (by omega) (ceM_a (rfl : gma 1 = true)) hσ16 dX10_puts_62 (fun H locs S => ?_)
      refine lv_iinc (v := (i9 + 1)) (lv' := [(3, .int (i9 + 1)), (2, .int i2), (0, .ref (ad 0)), (1, .int a0)]) hx hb dX10_puts_63 hl (k := 0) rfl rfl (by decide) rfl (fun ls hl => ?_)
      refine lv_goto (tgt := 33) hx hb dX10_puts_66 (by decide) ?_
      exact ih _ _ _  hf J _ _ _ S (lv_sub hl [0, 1, 2, 3] rfl)
noncomputable def f_X10_puts_l1 (σ : gSt) (a0 : Int32) : Nat → Int32 → gSt → Option (Int32 × gSt)
  | 0, _, _ => none
  | n + 1, i2, σ3 => (if i2 ≤ 0 then some (i2, σ3) else (g_k1 (f_X10_first σ3 a0 (i2 - (1 : Int32))) fun v7 => (if v7 ≤ (σ3 5 0) then some (i2, σ3) else (g_k1 (f_X10_puts_l2 a0 i2 σ3 FU (0 : Int32) σ3) fun σ11 => (f_X10_puts_l1 σ a0 n (i2 + (-1)) σ11)))))
set_option maxRecDepth 100000 in
set_option maxHeartbeats 4000000 in
theorem w_X10_puts_l1 {l : Launch} {Γ : gG} {ad : Nat → Nat} {N : Nat} {p : Program} {e : Env} {s : State} {m : MethodId} {args : Array Value} {below : List Frame} {meth : Method} {c : Code} {Q : State → Prop} (hN : 8 ≤ N) (X : gX celM Γ ad N RX10 cX10_puts 4 (some .int) p s m args meth c) {σ : gSt} {a0 : Int32}  : ∀ (n : Nat) (i2 : Int32) (σ3 : gSt) (r4 : Int32) (σ5 : gSt), f_X10_puts_l1 σ a0 n i2 σ3 = some (r4, σ5) → (∀ (H : Heap) (locs : List Loc) (ls : Array Slot), gS celM Γ ad N σ5 s H locs → lv_has ls 4 [(2, .int r4), (0, .ref (ad 0)), (1, .int a0)] → W p l e (gR 3 0 0) s m args below meth c H locs 0 0 (Q) (F0 m 75 ls [])) → ∀ (H : Heap) (locs : List Loc) (ls : Array Slot), gS celM Γ ad N σ3 s H locs → lv_has ls 4 [(2, .int i2), (0, .ref (ad 0)), (1, .int a0)] → W p l e (gR 3 0 0) s m args below meth c H locs 0 0 (Q) (F0 m 10 ls []) := by
  have hx := X.1
  have hb := X.2.1
  intro n
  induction n with
  | zero =>
    intro i2 σ3 r4 σ5 hf
    cases hf
  | succ n ih =>
    intro i2 σ3 r4 σ5 hf J H locs ls S hl
    rw [f_X10_puts_l1] at hf
    refine lv_iload_n hx hb dX10_puts_10 rfl (lv_at hl 0 rfl) ?_
    refine lv_if_le (tgt := 75) hx hb dX10_puts_11 (by decide) (fun c6 => ?_) (fun c6 => ?_)
    · have hf := (if_pos c6).symm.trans hf
      cases hf
      exact J _ _ _ S (lv_sub hl [0, 1, 2] rfl)
    · have hf := (if_neg c6).symm.trans hf
      refine lv_aload_n hx hb dX10_puts_14 rfl (lv_at hl 1 rfl) ?_
      refine lv_iload_n hx hb dX10_puts_15 rfl (lv_at hl 2 rfl) ?_
      refine lv_iload_n hx hb dX10_puts_16 rfl (lv_at hl 0 rfl) ?_
      refine lv_iconst (v := (1 : Int32)) hx hb dX10_puts_17 (by decide) ?_
      refine lv_isub hx hb dX10_puts_18 ?_
      obtain ⟨v7, hv7, hf⟩ := g_s1 hf
      refine g_ki S (g_runV (rest := []) X S (c_X10_first l hN  hv7 _) cvX10_first mlX10_113 (by omega) (ceM_10 _) rfl rfl rfl hl.1 (by decide) ⟨⟨rfl, rfl⟩, ⟨Nat.le_of_ble_eq_true rfl, Nat.le_of_ble_eq_true rfl⟩, Nat.le_of_ble_eq_true rfl, Nat.le_of_ble_eq_true rfl⟩ dX10_puts_19) (fun H locs S => ?_)
      refine lv_aload_n hx hb dX10_puts_22 rfl (lv_at hl 1 rfl) ?_
      refine gfX10_22 X S hN dX10_puts_23 ?_
      refine lv_iconst (v := (0 : Int32)) hx hb dX10_puts_26 (by decide) ?_
      refine g_ialdC X S (by omega) (ceM_a (rfl : gma 5 = true)) 0 (by decide) (by decide) dX10_puts_27 ?_
      refine lv_icmp_le (tgt := 75) hx hb dX10_puts_28 (by decide) (fun c8 => ?_) (fun c8 => ?_)
      · have hf := (if_pos c8).symm.trans hf
        cases hf
        exact J _ _ _ S (lv_sub hl [0, 1, 2] rfl)
      · have hf := (if_neg c8).symm.trans hf
        refine lv_iconst (v := (0 : Int32)) hx hb dX10_puts_31 (by decide) ?_
        refine lv_istore_n (lv' := [(3, .int (0 : Int32)), (2, .int i2), (0, .ref (ad 0)), (1, .int a0)]) hx hb dX10_puts_32 rfl hl (by decide) rfl (fun ls hl => ?_)
        obtain ⟨σ11, hr17, hf⟩ := g_s1 hf
        refine w_X10_puts_l2 hN X  FU _ _ _  hr17 (fun H locs ls S hl => ?_) _ _ _ S (lv_sub hl [0, 1, 2, 3] rfl)
        refine lv_iinc (v := (i2 + (-1))) (lv' := [(2, .int (i2 + (-1))), (0, .ref (ad 0)), (1, .int a0)]) hx hb dX10_puts_69 hl (k := 0) rfl rfl (by decide) rfl (fun ls hl => ?_)
        refine lv_goto (tgt := 10) hx hb dX10_puts_72 (by decide) ?_
        exact ih _ _ _ _  hf J _ _ _ S (lv_sub hl [0, 1, 2] rfl)
noncomputable def f_X10_puts_l3 (a0 : Int32) (r4 : Int32) (σ5 : gSt) : Nat → Int32 → gSt → Option (gSt)
  | 0, _, _ => none
  | n + 1, i19, σ20 => (if (28 : Int32) ≤ i19 then some σ20 else (g_k1 (f_X10_at σ20 a0 r4 i19) fun v23 => (g_k1 (gald σ20 5 28 i19) fun v24 => (g_k1 (gast σ20 1 926 v23 v24) fun σ25 => (f_X10_puts_l3 a0 r4 σ5 n (i19 + 1) σ25)))))
set_option maxRecDepth 100000 in
set_option maxHeartbeats 4000000 in
theorem w_X10_puts_l3 {l : Launch} {Γ : gG} {ad : Nat → Nat} {N : Nat} {p : Program} {e : Env} {s : State} {m : MethodId} {args : Array Value} {below : List Frame} {meth : Method} {c : Code} {Q : State → Prop} (hN : 8 ≤ N) (X : gX celM Γ ad N RX10 cX10_puts 4 (some .int) p s m args meth c) {a0 : Int32} {r4 : Int32} {σ5 : gSt}  : ∀ (n : Nat) (i19 : Int32) (σ20 : gSt) (σ21 : gSt), f_X10_puts_l3 a0 r4 σ5 n i19 σ20 = some σ21 → (∀ (H : Heap) (locs : List Loc) (ls : Array Slot), gS celM Γ ad N σ21 s H locs → lv_has ls 4 [(2, .int r4), (0, .ref (ad 0)), (1, .int a0)] → W p l e (gR 3 0 0) s m args below meth c H locs 0 0 (Q) (F0 m 106 ls [])) → ∀ (H : Heap) (locs : List Loc) (ls : Array Slot), gS celM Γ ad N σ20 s H locs → lv_has ls 4 [(3, .int i19), (2, .int r4), (0, .ref (ad 0)), (1, .int a0)] → W p l e (gR 3 0 0) s m args below meth c H locs 0 0 (Q) (F0 m 77 ls []) := by
  have hx := X.1
  have hb := X.2.1
  intro n
  induction n with
  | zero =>
    intro i19 σ20 σ21 hf
    cases hf
  | succ n ih =>
    intro i19 σ20 σ21 hf J H locs ls S hl
    rw [f_X10_puts_l3] at hf
    refine lv_iload_n hx hb dX10_puts_77 rfl (lv_at hl 0 rfl) ?_
    refine lv_bipush (v := (28 : Int32)) hx hb dX10_puts_78 (by decide) ?_
    refine lv_icmp_ge (tgt := 106) hx hb dX10_puts_80 (by decide) (fun c22 => ?_) (fun c22 => ?_)
    · have hf := (if_pos c22).symm.trans hf
      cases hf
      exact J _ _ _ S (lv_sub hl [1, 2, 3] rfl)
    · have hf := (if_neg c22).symm.trans hf
      refine lv_aload_n hx hb dX10_puts_83 rfl (lv_at hl 2 rfl) ?_
      refine gfX10_7 X S hN dX10_puts_84 ?_
      refine lv_iload_n hx hb dX10_puts_87 rfl (lv_at hl 3 rfl) ?_
      refine lv_iload_n hx hb dX10_puts_88 rfl (lv_at hl 1 rfl) ?_
      refine lv_iload_n hx hb dX10_puts_89 rfl (lv_at hl 0 rfl) ?_
      obtain ⟨v23, hv23, hf⟩ := g_s1 hf
      refine g_ki S (g_runS (rest := [.ref (ad 1)]) X S (c_X10_at l hN  hv23 _) csX10_at mlX10_56 rfl rfl hl.1 (by decide) ⟨⟨rfl, rfl⟩, ⟨Nat.le_of_ble_eq_true rfl, Nat.le_of_ble_eq_true rfl⟩, Nat.le_of_ble_eq_true rfl, Nat.le_of_ble_eq_true rfl⟩ dX10_puts_90) (fun H locs S => ?_)
      refine lv_aload_n hx hb dX10_puts_93 rfl (lv_at hl 2 rfl) ?_
      refine gfX10_22 X S hN dX10_puts_94 ?_
      refine lv_iload_n hx hb dX10_puts_97 rfl (lv_at hl 0 rfl) ?_
      obtain ⟨v24, hv24, hf⟩ := g_s1 hf
      refine g_iald X S (by omega) (ceM_a (rfl : gma 5 = true)) hv24 dX10_puts_98 ?_
      obtain ⟨σ25, hσ25, hf⟩ := g_s1 hf
      refine g_iast X S (by omega) (ceM_a (rfl : gma 1 = true)) hσ25 dX10_puts_99 (fun H locs S => ?_)
      refine lv_iinc (v := (i19 + 1)) (lv' := [(3, .int (i19 + 1)), (2, .int r4), (0, .ref (ad 0)), (1, .int a0)]) hx hb dX10_puts_100 hl (k := 0) rfl rfl (by decide) rfl (fun ls hl => ?_)
      refine lv_goto (tgt := 77) hx hb dX10_puts_103 (by decide) ?_
      exact ih _ _ _  hf J _ _ _ S (lv_sub hl [0, 1, 2, 3] rfl)
noncomputable def f_X10_puts (σ : gSt) (a0 : Int32) : Option (Int32 × gSt) :=
  (g_k1 (gald σ 1 926 ((28 : Int32) + a0)) fun v1 => (g_k2 (f_X10_puts_l1 σ a0 FU v1 σ) fun r4 σ5 => (g_k1 (f_X10_puts_l3 a0 r4 σ5 FU (0 : Int32) σ5) fun σ21 => (g_k1 (gald σ21 1 926 ((28 : Int32) + a0)) fun v27 => (g_k1 (gast σ21 1 926 ((28 : Int32) + a0) (v27 + (1 : Int32))) fun σ28 => some (r4, σ28))))))
set_option maxRecDepth 100000 in
set_option maxHeartbeats 4000000 in
theorem c_X10_puts (l : Launch) {Γ : gG} {ad : Nat → Nat} {N : Nat} (hN : 8 ≤ N) {σ : gSt} {a0 : Int32}  {r : Int32} {σ' : gSt} (hf : f_X10_puts σ a0 = some (r, σ')) : gMi l celM Γ ad N yX10_puts cX10_puts 4 (some .int) (gR 3 0 0) [.ref (ad 0), .int a0] σ r σ' := by
  intro sz
  refine gOf (Qc := fun sz => gQci celM Γ ad N r σ' sz) RX10 (by decide) rfl (by decide) (fun p e s m args below meth c H locs ls X S hl => ?_)
  have hl : lv_has ls 4 [(2, .int v1), (0, .ref (ad 0)), (1, .int a0)] := hl
  have hx := X.1
  have hb := X.2.1
  unfold f_X10_puts at hf
  refine lv_aload_n hx hb dX10_puts_0 rfl (lv_at hl 0 rfl) ?_
  refine gfX10_7 X S hN dX10_puts_1 ?_
  refine lv_bipush (v := (28 : Int32)) hx hb dX10_puts_4 (by decide) ?_
  refine lv_iload_n hx hb dX10_puts_6 rfl (lv_at hl 1 rfl) ?_
  refine lv_iadd hx hb dX10_puts_7 ?_
  obtain ⟨v1, hv1, hf⟩ := g_s1 hf
  refine g_iald X S (by omega) (ceM_a (rfl : gma 1 = true)) hv1 dX10_puts_8 ?_
  refine lv_istore_n (lv' := [(2, .int v1), (0, .ref (ad 0)), (1, .int a0)]) hx hb dX10_puts_9 rfl hl (by decide) rfl (fun ls hl => ?_)
  obtain ⟨r4, σ5, hr18, hf⟩ := g_s2 hf
  refine w_X10_puts_l1 hN X  FU _ _ _ _  hr18 (fun H locs ls S hl => ?_) _ _ _ S (lv_sub hl [0, 1, 2] rfl)
  refine lv_iconst (v := (0 : Int32)) hx hb dX10_puts_75 (by decide) ?_
  refine lv_istore_n (lv' := [(3, .int (0 : Int32)), (2, .int r4), (0, .ref (ad 0)), (1, .int a0)]) hx hb dX10_puts_76 rfl hl (by decide) rfl (fun ls hl => ?_)
  obtain ⟨σ21, hr26, hf⟩ := g_s1 hf
  refine w_X10_puts_l3 hN X  FU _ _ _  hr26 (fun H locs ls S hl => ?_) _ _ _ S (lv_sub hl [0, 1, 2, 3] rfl)
  refine lv_aload_n hx hb dX10_puts_106 rfl (lv_at hl 1 rfl) ?_
  refine gfX10_7 X S hN dX10_puts_107 ?_
  refine lv_bipush (v := (28 : Int32)) hx hb dX10_puts_110 (by decide) ?_
  refine lv_iload_n hx hb dX10_puts_112 rfl (lv_at hl 2 rfl) ?_
  refine lv_iadd hx hb dX10_puts_113 ?_
  refine lv_dup2_11 hx hb dX10_puts_114 rfl rfl ?_
  obtain ⟨v27, hv27, hf⟩ := g_s1 hf
  refine g_iald X S (by omega) (ceM_a (rfl : gma 1 = true)) hv27 dX10_puts_115 ?_
  refine lv_iconst (v := (1 : Int32)) hx hb dX10_puts_116 (by decide) ?_
  refine lv_iadd hx hb dX10_puts_117 ?_
  obtain ⟨σ28, hσ28, hf⟩ := g_s1 hf
  refine g_iast X S (by omega) (ceM_a (rfl : gma 1 = true)) hσ28 dX10_puts_118 (fun H locs S => ?_)
  refine lv_iload_n hx hb dX10_puts_119 rfl (lv_at hl 0 rfl) ?_
  cases hf
  exact g_reti X S rfl dX10_puts_120

noncomputable def f_X10_takes_l2 (a0 : Int32) (i3 : Int32) (σ4 : gSt) : Nat → Int32 → gSt → Option (gSt)
  | 0, _, _ => none
  | n + 1, i8, σ9 => (if (28 : Int32) ≤ i8 then some σ9 else (g_k1 (f_X10_at σ9 a0 i3 i8) fun v12 => (g_k1 (f_X10_at σ9 a0 (i3 + (1 : Int32)) i8) fun v13 => (g_k1 (gald σ9 1 926 v13) fun v14 => (g_k1 (gast σ9 1 926 v12 v14) fun σ15 => (f_X10_takes_l2 a0 i3 σ4 n (i8 + 1) σ15))))))
set_option maxRecDepth 100000 in
set_option maxHeartbeats 4000000 in
theorem w_X10_takes_l2 {l : Launch} {Γ : gG} {ad : Nat → Nat} {N : Nat} {p : Program} {e : Env} {s : State} {m : MethodId} {args : Array Value} {below : List Frame} {meth : Method} {c : Code} {Q : State → Prop} (hN : 8 ≤ N) (X : gX celM Γ ad N RX10 cX10_takes 5 none p s m args meth c) {a0 : Int32} {i3 : Int32} {σ4 : gSt}  : ∀ (n : Nat) (i8 : Int32) (σ9 : gSt) (σ10 : gSt), f_X10_takes_l2 a0 i3 σ4 n i8 σ9 = some σ10 → (∀ (H : Heap) (locs : List Loc) (ls : Array Slot), gS celM Γ ad N σ10 s H locs → lv_has ls 5 [(3, .int i3), (0, .ref (ad 0)), (1, .int a0)] → W p l e (gR 2 0 0) s m args below meth c H locs 0 0 (Q) (F0 m 70 ls [])) → ∀ (H : Heap) (locs : List Loc) (ls : Array Slot), gS celM Γ ad N σ9 s H locs → lv_has ls 5 [(4, .int i8), (3, .int i3), (0, .ref (ad 0)), (1, .int a0)] → W p l e (gR 2 0 0) s m args below meth c H locs 0 0 (Q) (F0 m 31 ls []) := by
  have hx := X.1
  have hb := X.2.1
  intro n
  induction n with
  | zero =>
    intro i8 σ9 σ10 hf
    cases hf
  | succ n ih =>
    intro i8 σ9 σ10 hf J H locs ls S hl
    rw [f_X10_takes_l2] at hf
    refine lv_iload hx hb dX10_takes_31 (lv_at hl 0 rfl) ?_
    refine lv_bipush (v := (28 : Int32)) hx hb dX10_takes_33 (by decide) ?_
    refine lv_icmp_ge (tgt := 70) hx hb dX10_takes_35 (by decide) (fun c11 => ?_) (fun c11 => ?_)
    · have hf := (if_pos c11).symm.trans hf
      cases hf
      exact J _ _ _ S (lv_sub hl [1, 2, 3] rfl)
    · have hf := (if_neg c11).symm.trans hf
      refine lv_aload_n hx hb dX10_takes_38 rfl (lv_at hl 2 rfl) ?_
      refine gfX10_7 X S hN dX10_takes_39 ?_
      refine lv_iload_n hx hb dX10_takes_42 rfl (lv_at hl 3 rfl) ?_
      refine lv_iload_n hx hb dX10_takes_43 rfl (lv_at hl 1 rfl) ?_
      refine lv_iload hx hb dX10_takes_44 (lv_at hl 0 rfl) ?_
      obtain ⟨v12, hv12, hf⟩ := g_s1 hf
      refine g_ki S (g_runS (rest := [.ref (ad 1)]) X S (c_X10_at l hN  hv12 _) csX10_at mlX10_56 rfl rfl hl.1 (by decide) ⟨⟨rfl, rfl⟩, ⟨Nat.le_of_ble_eq_true rfl, Nat.le_of_ble_eq_true rfl⟩, Nat.le_of_ble_eq_true rfl, Nat.le_of_ble_eq_true rfl⟩ dX10_takes_46) (fun H locs S => ?_)
      refine lv_aload_n hx hb dX10_takes_49 rfl (lv_at hl 2 rfl) ?_
      refine gfX10_7 X S hN dX10_takes_50 ?_
      refine lv_iload_n hx hb dX10_takes_53 rfl (lv_at hl 3 rfl) ?_
      refine lv_iload_n hx hb dX10_takes_54 rfl (lv_at hl 1 rfl) ?_
      refine lv_iconst (v := (1 : Int32)) hx hb dX10_takes_55 (by decide) ?_
      refine lv_iadd hx hb dX10_takes_56 ?_
      refine lv_iload hx hb dX10_takes_57 (lv_at hl 0 rfl) ?_
      obtain ⟨v13, hv13, hf⟩ := g_s1 hf
      refine g_ki S (g_runS (rest := [.ref (ad 1), .int v12, .ref (ad 1)]) X S (c_X10_at l hN  hv13 _) csX10_at mlX10_56 rfl rfl hl.1 (by decide) ⟨⟨rfl, rfl⟩, ⟨Nat.le_of_ble_eq_true rfl, Nat.le_of_ble_eq_true rfl⟩, Nat.le_of_ble_eq_true rfl, Nat.le_of_ble_eq_true rfl⟩ dX10_takes_59) (fun H locs S => ?_)
      obtain ⟨v14, hv14, hf⟩ := g_s1 hf
      refine g_iald X S (by omega) (ceM_a (rfl : gma 1 = true)) hv14 dX10_takes_62 ?_
      obtain ⟨σ15, hσ15, hf⟩ := g_s1 hf
      refine g_iast X S (by omega) (ceM_a (rfl : gma 1 = true)) hσ15 dX10_takes_63 (fun H locs S => ?_)
      refine lv_iinc (v := (i8 + 1)) (lv' := [(4, .int (i8 + 1)), (3, .int i3), (0, .ref (ad 0)), (1, .int a0)]) hx hb dX10_takes_64 hl (k := 0) rfl rfl (by decide) rfl (fun ls hl => ?_)
      refine lv_goto (tgt := 31) hx hb dX10_takes_67 (by decide) ?_
      exact ih _ _ _  hf J _ _ _ S (lv_sub hl [0, 1, 2, 3] rfl)
noncomputable def f_X10_takes_l1 (a0 : Int32) (σ2 : gSt) : Nat → Int32 → gSt → Option (gSt)
  | 0, _, _ => none
  | n + 1, i3, σ4 => (g_k1 (gald σ4 1 926 ((28 : Int32) + a0)) fun v6 => (if v6 ≤ i3 then some σ4 else (g_k1 (f_X10_takes_l2 a0 i3 σ4 FU (0 : Int32) σ4) fun σ10 => (f_X10_takes_l1 a0 σ2 n (i3 + 1) σ10))))
set_option maxRecDepth 100000 in
set_option maxHeartbeats 4000000 in
theorem w_X10_takes_l1 {l : Launch} {Γ : gG} {ad : Nat → Nat} {N : Nat} {p : Program} {e : Env} {s : State} {m : MethodId} {args : Array Value} {below : List Frame} {meth : Method} {c : Code} {Q : State → Prop} (hN : 8 ≤ N) (X : gX celM Γ ad N RX10 cX10_takes 5 none p s m args meth c) {a0 : Int32} {σ2 : gSt}  : ∀ (n : Nat) (i3 : Int32) (σ4 : gSt) (σ5 : gSt), f_X10_takes_l1 a0 σ2 n i3 σ4 = some σ5 → (∀ (H : Heap) (locs : List Loc) (ls : Array Slot), gS celM Γ ad N σ5 s H locs → lv_has ls 5 [] → W p l e (gR 2 0 0) s m args below meth c H locs 0 0 (Q) (F0 m 76 ls [])) → ∀ (H : Heap) (locs : List Loc) (ls : Array Slot), gS celM Γ ad N σ4 s H locs → lv_has ls 5 [(3, .int i3), (0, .ref (ad 0)), (1, .int a0)] → W p l e (gR 2 0 0) s m args below meth c H locs 0 0 (Q) (F0 m 15 ls []) := by
  have hx := X.1
  have hb := X.2.1
  intro n
  induction n with
  | zero =>
    intro i3 σ4 σ5 hf
    cases hf
  | succ n ih =>
    intro i3 σ4 σ5 hf J H locs ls S hl
    rw [f_X10_takes_l1] at hf
    refine lv_iload_n hx hb dX10_takes_15 rfl (lv_at hl 0 rfl) ?_
    refine lv_aload_n hx hb dX10_takes_16 rfl (lv_at hl 1 rfl) ?_
    refine gfX10_7 X S hN dX10_takes_17 ?_
    refine lv_bipush (v := (28 : Int32)) hx hb dX10_takes_20 (by decide) ?_
    refine lv_iload_n hx hb dX10_takes_22 rfl (lv_at hl 2 rfl) ?_
    refine lv_iadd hx hb dX10_takes_23 ?_
    obtain ⟨v6, hv6, hf⟩ := g_s1 hf
    refine g_iald X S (by omega) (ceM_a (rfl : gma 1 = true)) hv6 dX10_takes_24 ?_
    refine lv_icmp_ge (tgt := 76) hx hb dX10_takes_25 (by decide) (fun c7 => ?_) (fun c7 => ?_)
    · have hf := (if_pos c7).symm.trans hf
      cases hf
      exact J _ _ _ S (lv_sub hl [] rfl)
    · have hf := (if_neg c7).symm.trans hf
      refine lv_iconst (v := (0 : Int32)) hx hb dX10_takes_28 (by decide) ?_
      refine lv_istore (lv' := [(4, .int (0 : Int32)), (3, .int i3), (0, .ref (ad 0)), (1, .int a0)]) hx hb dX10_takes_29 hl (by decide) rfl (fun ls hl => ?_)
      obtain ⟨σ10, hr16, hf⟩ := g_s1 hf
      refine w_X10_takes_l2 hN X  FU _ _ _  hr16 (fun H locs ls S hl => ?_) _ _ _ S (lv_sub hl [0, 1, 2, 3] rfl)
      refine lv_iinc (v := (i3 + 1)) (lv' := [(3, .int (i3 + 1)), (0, .ref (ad 0)), (1, .int a0)]) hx hb dX10_takes_70 hl (k := 0) rfl rfl (by decide) rfl (fun ls hl => ?_)
      refine lv_goto (tgt := 15) hx hb dX10_takes_73 (by decide) ?_
      exact ih _ _ _  hf J _ _ _ S (lv_sub hl [0, 1, 2] rfl)
noncomputable def f_X10_takes (σ : gSt) (a0 : Int32) (a1 : Int32) : Option (gSt) :=
  (g_k1 (gald σ 1 926 ((28 : Int32) + a0)) fun v1 => (g_k1 (gast σ 1 926 ((28 : Int32) + a0) (v1 - (1 : Int32))) fun σ2 => (g_k1 (f_X10_takes_l1 a0 σ2 FU a1 σ2) fun σ5 => some σ5)))
set_option maxRecDepth 100000 in
set_option maxHeartbeats 4000000 in
theorem c_X10_takes (l : Launch) {Γ : gG} {ad : Nat → Nat} {N : Nat} (hN : 8 ≤ N) {σ : gSt} {a0 : Int32} {a1 : Int32}  {σ' : gSt} (hf : f_X10_takes σ a0 a1 = some σ') : gMv l celM Γ ad N yX10_takes cX10_takes 5 none (gR 2 0 0) [.ref (ad 0), .int a0, .int a1] σ σ' := by
  intro sz
  refine gOf (Qc := fun sz => gQcv celM Γ ad N σ' sz) RX10 (by decide) rfl (by decide) (fun p e s m args below meth c H locs ls X S hl => ?_)
  have hl : lv_has ls 5 [(3, .int a1), (0, .ref (ad 0)), (1, .int a0)] := hl
  have hx := X.1
  have hb := X.2.1
  unfold f_X10_takes at hf
  refine lv_aload_n hx hb dX10_takes_0 rfl (lv_at hl 0 rfl) ?_
  refine gfX10_7 X S hN dX10_takes_1 ?_
  refine lv_bipush (v := (28 : Int32)) hx hb dX10_takes_4 (by decide) ?_
  refine lv_iload_n hx hb dX10_takes_6 rfl (lv_at hl 1 rfl) ?_
  refine lv_iadd hx hb dX10_takes_7 ?_
  refine lv_dup2_11 hx hb dX10_takes_8 rfl rfl ?_
  obtain ⟨v1, hv1, hf⟩ := g_s1 hf
  refine g_iald X S (by omega) (ceM_a (rfl : gma 1 = true)) hv1 dX10_takes_9 ?_
  refine lv_iconst (v := (1 : Int32)) hx hb dX10_takes_10 (by decide) ?_
  refine lv_isub hx hb dX10_takes_11 ?_
  obtain ⟨σ2, hσ2, hf⟩ := g_s1 hf
  refine g_iast X S (by omega) (ceM_a (rfl : gma 1 = true)) hσ2 dX10_takes_12 (fun H locs S => ?_)
  refine lv_iload_n hx hb dX10_takes_13 rfl (lv_at hl 2 rfl) ?_
  refine lv_istore_n (lv' := [(3, .int a1), (0, .ref (ad 0)), (1, .int a0), (2, .int a1)]) hx hb dX10_takes_14 rfl hl (by decide) rfl (fun ls hl => ?_)
  obtain ⟨σ5, hr17, hf⟩ := g_s1 hf
  refine w_X10_takes_l1 hN X  FU _ _ _  hr17 (fun H locs ls S hl => ?_) _ _ _ S (lv_sub hl [0, 1, 2] rfl)
  cases hf
  exact g_retv X S dX10_takes_76

noncomputable def f_X10_owns_l1 (σ : gSt) (a0 : Int32) (a1 : Int32) : Nat → Int32 → gSt → Option (gSt)
  | 0, _, _ => none
  | n + 1, i1, σ2 => (if (28 : Int32) ≤ i1 then some σ2 else (g_k1 (f_X10_at σ2 a0 a1 i1) fun v5 => (g_k1 (gald σ2 1 926 v5) fun v6 => (g_k1 (gast σ2 5 28 i1 v6) fun σ7 => (f_X10_owns_l1 σ a0 a1 n (i1 + 1) σ7)))))
set_option maxRecDepth 100000 in
set_option maxHeartbeats 4000000 in
theorem w_X10_owns_l1 {l : Launch} {Γ : gG} {ad : Nat → Nat} {N : Nat} {p : Program} {e : Env} {s : State} {m : MethodId} {args : Array Value} {below : List Frame} {meth : Method} {c : Code} {Q : State → Prop} (hN : 8 ≤ N) (X : gX celM Γ ad N RX10 cX10_owns 4 none p s m args meth c) {σ : gSt} {a0 : Int32} {a1 : Int32}  : ∀ (n : Nat) (i1 : Int32) (σ2 : gSt) (σ3 : gSt), f_X10_owns_l1 σ a0 a1 n i1 σ2 = some σ3 → (∀ (H : Heap) (locs : List Loc) (ls : Array Slot), gS celM Γ ad N σ3 s H locs → lv_has ls 4 [] → W p l e (gR 2 0 0) s m args below meth c H locs 0 0 (Q) (F0 m 31 ls [])) → ∀ (H : Heap) (locs : List Loc) (ls : Array Slot), gS celM Γ ad N σ2 s H locs → lv_has ls 4 [(3, .int i1), (0, .ref (ad 0)), (1, .int a0), (2, .int a1)] → W p l e (gR 2 0 0) s m args below meth c H locs 0 0 (Q) (F0 m 2 ls []) := by
  have hx := X.1
  have hb := X.2.1
  intro n
  induction n with
  | zero =>
    intro i1 σ2 σ3 hf
    cases hf
  | succ n ih =>
    intro i1 σ2 σ3 hf J H locs ls S hl
    rw [f_X10_owns_l1] at hf
    refine lv_iload_n hx hb dX10_owns_2 rfl (lv_at hl 0 rfl) ?_
    refine lv_bipush (v := (28 : Int32)) hx hb dX10_owns_3 (by decide) ?_
    refine lv_icmp_ge (tgt := 31) hx hb dX10_owns_5 (by decide) (fun c4 => ?_) (fun c4 => ?_)
    · have hf := (if_pos c4).symm.trans hf
      cases hf
      exact J _ _ _ S (lv_sub hl [] rfl)
    · have hf := (if_neg c4).symm.trans hf
      refine lv_aload_n hx hb dX10_owns_8 rfl (lv_at hl 1 rfl) ?_
      refine gfX10_22 X S hN dX10_owns_9 ?_
      refine lv_iload_n hx hb dX10_owns_12 rfl (lv_at hl 0 rfl) ?_
      refine lv_aload_n hx hb dX10_owns_13 rfl (lv_at hl 1 rfl) ?_
      refine gfX10_7 X S hN dX10_owns_14 ?_
      refine lv_iload_n hx hb dX10_owns_17 rfl (lv_at hl 2 rfl) ?_
      refine lv_iload_n hx hb dX10_owns_18 rfl (lv_at hl 3 rfl) ?_
      refine lv_iload_n hx hb dX10_owns_19 rfl (lv_at hl 0 rfl) ?_
      obtain ⟨v5, hv5, hf⟩ := g_s1 hf
      refine g_ki S (g_runS (rest := [.ref (ad 1), .int i1, .ref (ad 5)]) X S (c_X10_at l hN  hv5 _) csX10_at mlX10_56 rfl rfl hl.1 (by decide) ⟨⟨rfl, rfl⟩, ⟨Nat.le_of_ble_eq_true rfl, Nat.le_of_ble_eq_true rfl⟩, Nat.le_of_ble_eq_true rfl, Nat.le_of_ble_eq_true rfl⟩ dX10_owns_20) (fun H locs S => ?_)
      obtain ⟨v6, hv6, hf⟩ := g_s1 hf
      refine g_iald X S (by omega) (ceM_a (rfl : gma 1 = true)) hv6 dX10_owns_23 ?_
      obtain ⟨σ7, hσ7, hf⟩ := g_s1 hf
      refine g_iast X S (by omega) (ceM_a (rfl : gma 5 = true)) hσ7 dX10_owns_24 (fun H locs S => ?_)
      refine lv_iinc (v := (i1 + 1)) (lv' := [(3, .int (i1 + 1)), (0, .ref (ad 0)), (1, .int a0), (2, .int a1)]) hx hb dX10_owns_25 hl (k := 0) rfl rfl (by decide) rfl (fun ls hl => ?_)
      refine lv_goto (tgt := 2) hx hb dX10_owns_28 (by decide) ?_
      exact ih _ _ _  hf J _ _ _ S (lv_sub hl [0, 1, 2, 3] rfl)
noncomputable def f_X10_owns (σ : gSt) (a0 : Int32) (a1 : Int32) : Option (gSt) :=
  (g_k1 (f_X10_owns_l1 σ a0 a1 FU (0 : Int32) σ) fun σ3 => some σ3)
set_option maxRecDepth 100000 in
set_option maxHeartbeats 4000000 in
theorem c_X10_owns (l : Launch) {Γ : gG} {ad : Nat → Nat} {N : Nat} (hN : 8 ≤ N) {σ : gSt} {a0 : Int32} {a1 : Int32}  {σ' : gSt} (hf : f_X10_owns σ a0 a1 = some σ') : gMv l celM Γ ad N yX10_owns cX10_owns 4 none (gR 2 0 0) [.ref (ad 0), .int a0, .int a1] σ σ' := by
  intro sz
  refine gOf (Qc := fun sz => gQcv celM Γ ad N σ' sz) RX10 (by decide) rfl (by decide) (fun p e s m args below meth c H locs ls X S hl => ?_)
  have hl : lv_has ls 4 [(3, .int (0 : Int32)), (0, .ref (ad 0)), (1, .int a0), (2, .int a1)] := hl
  have hx := X.1
  have hb := X.2.1
  unfold f_X10_owns at hf
  refine lv_iconst (v := (0 : Int32)) hx hb dX10_owns_0 (by decide) ?_
  refine lv_istore_n (lv' := [(3, .int (0 : Int32)), (0, .ref (ad 0)), (1, .int a0), (2, .int a1)]) hx hb dX10_owns_1 rfl hl (by decide) rfl (fun ls hl => ?_)
  obtain ⟨σ3, hr8, hf⟩ := g_s1 hf
  refine w_X10_owns_l1 hN X  FU _ _ _  hr8 (fun H locs ls S hl => ?_) _ _ _ S (lv_sub hl [0, 1, 2, 3] rfl)
  cases hf
  exact g_retv X S dX10_owns_31

noncomputable def f_X10_adds_l1 (a0 : Int32) (a4 : Int32) (a5 : Int32) (σ4 : gSt) : Nat → Int32 → gSt → Option (gSt)
  | 0, _, _ => none
  | n + 1, i5, σ6 => (if (24 : Int32) ≤ i5 then some σ6 else (g_k1 (if a5 ≤ i5 then some (0 : Int32) else (g_k1 (gald σ6 6 60 (a4 + i5)) fun v14 => some v14)) fun x9 => (g_k1 (gast σ6 5 28 ((4 : Int32) + i5) x9) fun σ12 => (f_X10_adds_l1 a0 a4 a5 σ4 n (i5 + 1) σ12))))
set_option maxRecDepth 100000 in
set_option maxHeartbeats 4000000 in
theorem w_X10_adds_l1 {l : Launch} {Γ : gG} {ad : Nat → Nat} {N : Nat} {p : Program} {e : Env} {s : State} {m : MethodId} {args : Array Value} {below : List Frame} {meth : Method} {c : Code} {Q : State → Prop} (hN : 8 ≤ N) (X : gX celM Γ ad N RX10 cX10_adds 8 (some .int) p s m args meth c) {a0 : Int32} {a4 : Int32} {a5 : Int32} {σ4 : gSt}  : ∀ (n : Nat) (i5 : Int32) (σ6 : gSt) (σ7 : gSt), f_X10_adds_l1 a0 a4 a5 σ4 n i5 σ6 = some σ7 → (∀ (H : Heap) (locs : List Loc) (ls : Array Slot), gS celM Γ ad N σ7 s H locs → lv_has ls 8 [(0, .ref (ad 0)), (1, .int a0)] → W p l e (gR 4 0 0) s m args below meth c H locs 0 0 (Q) (F0 m 76 ls [])) → ∀ (H : Heap) (locs : List Loc) (ls : Array Slot), gS celM Γ ad N σ6 s H locs → lv_has ls 8 [(7, .int i5), (0, .ref (ad 0)), (1, .int a0), (5, .int a4), (6, .int a5)] → W p l e (gR 4 0 0) s m args below meth c H locs 0 0 (Q) (F0 m 33 ls []) := by
  have hx := X.1
  have hb := X.2.1
  intro n
  induction n with
  | zero =>
    intro i5 σ6 σ7 hf
    cases hf
  | succ n ih =>
    intro i5 σ6 σ7 hf J H locs ls S hl
    rw [f_X10_adds_l1] at hf
    refine lv_iload hx hb dX10_adds_33 (lv_at hl 0 rfl) ?_
    refine lv_bipush (v := (24 : Int32)) hx hb dX10_adds_35 (by decide) ?_
    refine lv_icmp_ge (tgt := 76) hx hb dX10_adds_37 (by decide) (fun c8 => ?_) (fun c8 => ?_)
    · have hf := (if_pos c8).symm.trans hf
      cases hf
      exact J _ _ _ S (lv_sub hl [1, 2] rfl)
    · have hf := (if_neg c8).symm.trans hf
      refine lv_aload_n hx hb dX10_adds_40 rfl (lv_at hl 1 rfl) ?_
      refine gfX10_22 X S hN dX10_adds_41 ?_
      refine lv_iconst (v := (4 : Int32)) hx hb dX10_adds_44 (by decide) ?_
      refine lv_iload hx hb dX10_adds_45 (lv_at hl 0 rfl) ?_
      refine lv_iadd hx hb dX10_adds_47 ?_
      refine lv_iload hx hb dX10_adds_48 (lv_at hl 0 rfl) ?_
      refine lv_iload hx hb dX10_adds_50 (lv_at hl 4 rfl) ?_
      obtain ⟨x9, hr10, hf⟩ := g_s1 hf
      have J11 : ∀ (H : Heap) (locs : List Loc) (ls : Array Slot), gS celM Γ ad N σ6 s H locs → lv_has ls 8 [(7, .int i5), (0, .ref (ad 0)), (1, .int a0), (5, .int a4), (6, .int a5)] → W p l e (gR 4 0 0) s m args below meth c H locs 0 0 (Q) (F0 m 69 ls [.int x9, .int ((4 : Int32) + i5), .ref (ad 5)]) := by
        intro H locs ls S hl
        obtain ⟨σ12, hσ12, hf⟩ := g_s1 hf
        refine g_iast X S (by omega) (ceM_a (rfl : gma 5 = true)) hσ12 dX10_adds_69 (fun H locs S => ?_)
        refine lv_iinc (v := (i5 + 1)) (lv' := [(7, .int (i5 + 1)), (0, .ref (ad 0)), (1, .int a0), (5, .int a4), (6, .int a5)]) hx hb dX10_adds_70 hl (k := 0) rfl rfl (by decide) rfl (fun ls hl => ?_)
        refine lv_goto (tgt := 33) hx hb dX10_adds_73 (by decide) ?_
        exact ih _ _ _  hf J _ _ _ S (lv_sub hl [0, 1, 2, 3, 4] rfl)
      replace hf := hr10
      refine lv_icmp_ge (tgt := 68) hx hb dX10_adds_52 (by decide) (fun c13 => ?_) (fun c13 => ?_)
      · have hf := (if_pos c13).symm.trans hf
        refine lv_iconst (v := (0 : Int32)) hx hb dX10_adds_68 (by decide) ?_
        cases hf
        exact J11 _ _ _ S (lv_sub hl [0, 1, 2, 3, 4] rfl)
      · have hf := (if_neg c13).symm.trans hf
        refine lv_aload_n hx hb dX10_adds_55 rfl (lv_at hl 1 rfl) ?_
        refine gfX10_29 X S hN dX10_adds_56 ?_
        refine lv_iload hx hb dX10_adds_59 (lv_at hl 3 rfl) ?_
        refine lv_iload hx hb dX10_adds_61 (lv_at hl 0 rfl) ?_
        refine lv_iadd hx hb dX10_adds_63 ?_
        obtain ⟨v14, hv14, hf⟩ := g_s1 hf
        refine g_iald X S (by omega) (ceM_a (rfl : gma 6 = true)) hv14 dX10_adds_64 ?_
        refine lv_goto (tgt := 69) hx hb dX10_adds_65 (by decide) ?_
        cases hf
        exact J11 _ _ _ S (lv_sub hl [0, 1, 2, 3, 4] rfl)
noncomputable def f_X10_adds (σ : gSt) (a0 : Int32) (a1 : Int32) (a2 : Int32) (a3 : Int32) (a4 : Int32) (a5 : Int32) : Option (Int32 × gSt) :=
  (g_k1 (gset σ 5 0 a2) fun σ1 => (g_k1 (gset σ1 5 1 a3) fun σ2 => (g_k1 (gset σ2 5 2 a1) fun σ3 => (g_k1 (gset σ3 5 3 a5) fun σ4 => (g_k1 (f_X10_adds_l1 a0 a4 a5 σ4 FU (0 : Int32) σ4) fun σ7 => (g_k2 (f_X10_puts σ7 a0) fun v16 σ17 => some (v16, σ17)))))))
set_option maxRecDepth 100000 in
set_option maxHeartbeats 4000000 in
theorem c_X10_adds (l : Launch) {Γ : gG} {ad : Nat → Nat} {N : Nat} (hN : 8 ≤ N) {σ : gSt} {a0 : Int32} {a1 : Int32} {a2 : Int32} {a3 : Int32} {a4 : Int32} {a5 : Int32}  {r : Int32} {σ' : gSt} (hf : f_X10_adds σ a0 a1 a2 a3 a4 a5 = some (r, σ')) : gMi l celM Γ ad N yX10_adds cX10_adds 8 (some .int) (gR 4 0 0) [.ref (ad 0), .int a0, .int a1, .int a2, .int a3, .int a4, .int a5] σ r σ' := by
  intro sz
  refine gOf (Qc := fun sz => gQci celM Γ ad N r σ' sz) RX10 (by decide) rfl (by decide) (fun p e s m args below meth c H locs ls X S hl => ?_)
  have hl : lv_has ls 8 [(7, .int (0 : Int32)), (0, .ref (ad 0)), (1, .int a0), (5, .int a4), (6, .int a5)] := hl
  have hx := X.1
  have hb := X.2.1
  unfold f_X10_adds at hf
  refine lv_aload_n hx hb dX10_adds_0 rfl (lv_at hl 0 rfl) ?_
  refine gfX10_22 X S hN dX10_adds_1 ?_
  refine lv_iconst (v := (0 : Int32)) hx hb dX10_adds_4 (by decide) ?_
  refine lv_iload_n hx hb dX10_adds_5 rfl (lv_at hl 3 rfl) ?_
  obtain ⟨σ1, hσ1, hf⟩ := g_s1 hf
  refine g_iastC X S (by omega) (ceM_a (rfl : gma 5 = true)) 0 (by decide) (by decide) hσ1 dX10_adds_6 (fun H locs S => ?_)
  refine lv_aload_n hx hb dX10_adds_7 rfl (lv_at hl 0 rfl) ?_
  refine gfX10_22 X S hN dX10_adds_8 ?_
  refine lv_iconst (v := (1 : Int32)) hx hb dX10_adds_11 (by decide) ?_
  refine lv_iload hx hb dX10_adds_12 (lv_at hl 4 rfl) ?_
  obtain ⟨σ2, hσ2, hf⟩ := g_s1 hf
  refine g_iastC X S (by omega) (ceM_a (rfl : gma 5 = true)) 1 (by decide) (by decide) hσ2 dX10_adds_14 (fun H locs S => ?_)
  refine lv_aload_n hx hb dX10_adds_15 rfl (lv_at hl 0 rfl) ?_
  refine gfX10_22 X S hN dX10_adds_16 ?_
  refine lv_iconst (v := (2 : Int32)) hx hb dX10_adds_19 (by decide) ?_
  refine lv_iload_n hx hb dX10_adds_20 rfl (lv_at hl 2 rfl) ?_
  obtain ⟨σ3, hσ3, hf⟩ := g_s1 hf
  refine g_iastC X S (by omega) (ceM_a (rfl : gma 5 = true)) 2 (by decide) (by decide) hσ3 dX10_adds_21 (fun H locs S => ?_)
  refine lv_aload_n hx hb dX10_adds_22 rfl (lv_at hl 0 rfl) ?_
  refine gfX10_22 X S hN dX10_adds_23 ?_
  refine lv_iconst (v := (3 : Int32)) hx hb dX10_adds_26 (by decide) ?_
  refine lv_iload hx hb dX10_adds_27 (lv_at hl 6 rfl) ?_
  obtain ⟨σ4, hσ4, hf⟩ := g_s1 hf
  refine g_iastC X S (by omega) (ceM_a (rfl : gma 5 = true)) 3 (by decide) (by decide) hσ4 dX10_adds_29 (fun H locs S => ?_)
  refine lv_iconst (v := (0 : Int32)) hx hb dX10_adds_30 (by decide) ?_
  refine lv_istore (lv' := [(7, .int (0 : Int32)), (0, .ref (ad 0)), (1, .int a0), (2, .int a1), (3, .int a2), (4, .int a3), (5, .int a4), (6, .int a5)]) hx hb dX10_adds_31 hl (by decide) rfl (fun ls hl => ?_)
  obtain ⟨σ7, hr15, hf⟩ := g_s1 hf
  refine w_X10_adds_l1 hN X  FU _ _ _  hr15 (fun H locs ls S hl => ?_) _ _ _ S (lv_sub hl [0, 1, 2, 3, 4] rfl)
  refine lv_aload_n hx hb dX10_adds_76 rfl (lv_at hl 0 rfl) ?_
  refine lv_iload_n hx hb dX10_adds_77 rfl (lv_at hl 1 rfl) ?_
  obtain ⟨v16, σ17, hv16, hf⟩ := g_s2 hf
  refine g_ki S (g_runV (rest := []) X S (c_X10_puts l hN  hv16 _) cvX10_puts mlX10_148 (by omega) (ceM_10 _) rfl rfl rfl hl.1 (by decide) ⟨⟨rfl, rfl⟩, ⟨Nat.le_of_ble_eq_true rfl, Nat.le_of_ble_eq_true rfl⟩, Nat.le_of_ble_eq_true rfl, Nat.le_of_ble_eq_true rfl⟩ dX10_adds_78) (fun H locs S => ?_)
  cases hf
  exact g_reti X S rfl dX10_adds_81

noncomputable def f_X10_add (σ : gSt) (a0 : Int32) (a1 : Int32) (a2 : Int32) (a3 : Int32) : Option (Int32 × gSt) :=
  (g_k1 (gset σ 0 12 (0 : Int32)) fun σ1 => (g_k1 (f_X10_isTrack σ1 a0) fun v2 => (g_k1 (if v2 = 0 then some (1 : Int32) else (g_k1 (f_X10_in σ1 a1 (0 : Int32) (2 : Int32)) fun v16 => (if v16 = 0 then some (2 : Int32) else some (0 : Int32)))) fun x3 => (g_k1 (gset σ1 0 10 x3) fun σ6 => (if (σ6 0 10) ≤ 0 then (g_k1 (f_X10_againstAdd σ6 a0 a2 a3 (0 : Int32) (σ 0 12)) fun v8 => (if v8 ≤ 0 then (g_k1 (f_X10_changes σ6 1) fun σ10 => (g_k2 (f_X10_adds σ10 a0 a1 a2 a3 (0 : Int32) (σ 0 12)) fun v11 σ12 => some (v11, σ12))) else (g_k2 (f_X10_refuses σ6 (3 : Int32) v8) fun v13 σ14 => some (v13, σ14)))) else some ((0 : Int32), σ6))))))
set_option maxRecDepth 100000 in
set_option maxHeartbeats 4000000 in
theorem c_X10_add (l : Launch) {Γ : gG} {ad : Nat → Nat} {N : Nat} (hN : 8 ≤ N) {σ : gSt} {a0 : Int32} {a1 : Int32} {a2 : Int32} {a3 : Int32}  {r : Int32} {σ' : gSt} (hf : f_X10_add σ a0 a1 a2 a3 = some (r, σ')) : gMi l celM Γ ad N yX10_add cX10_add 7 (some .int) (gR 5 0 0) [.ref (ad 0), .int a0, .int a1, .int a2, .int a3] σ r σ' := by
  intro sz
  refine gOf (Qc := fun sz => gQci celM Γ ad N r σ' sz) RX10 (by decide) rfl (by decide) (fun p e s m args below meth c H locs ls X S hl => ?_)
  have hl : lv_has ls 7 [(5, .int (σ 0 12)), (0, .ref (ad 0)), (1, .int a0), (2, .int a1), (3, .int a2), (4, .int a3)] := hl
  have hx := X.1
  have hb := X.2.1
  unfold f_X10_add at hf
  refine lv_aload_n hx hb dX10_add_0 rfl (lv_at hl 0 rfl) ?_
  refine gfX10_137 X S hN dX10_add_1 ?_
  refine lv_istore (lv' := [(5, .int (σ 0 12)), (0, .ref (ad 0)), (1, .int a0), (2, .int a1), (3, .int a2), (4, .int a3)]) hx hb dX10_add_4 hl (by decide) rfl (fun ls hl => ?_)
  refine lv_aload_n hx hb dX10_add_6 rfl (lv_at hl 1 rfl) ?_
  refine lv_iconst (v := (0 : Int32)) hx hb dX10_add_7 (by decide) ?_
  obtain ⟨σ1, hσ1, hf⟩ := g_s1 hf
  refine pfX10_137 X S hN hσ1 dX10_add_8 (fun H locs S => ?_)
  refine lv_aload_n hx hb dX10_add_11 rfl (lv_at hl 1 rfl) ?_
  refine lv_iload_n hx hb dX10_add_12 rfl (lv_at hl 2 rfl) ?_
  obtain ⟨v2, hv2, hf⟩ := g_s1 hf
  refine g_ki S (g_runS (rest := [.ref (ad 0)]) X S (c_X10_isTrack l hN  hv2 _) csX10_isTrack mlX10_52 rfl rfl hl.1 (by decide) ⟨⟨rfl, rfl⟩, ⟨Nat.le_of_ble_eq_true rfl, Nat.le_of_ble_eq_true rfl⟩, Nat.le_of_ble_eq_true rfl, Nat.le_of_ble_eq_true rfl⟩ dX10_add_13) (fun H locs S => ?_)
  obtain ⟨x3, hr4, hf⟩ := g_s1 hf
  have J5 : ∀ (H : Heap) (locs : List Loc) (ls : Array Slot), gS celM Γ ad N σ1 s H locs → lv_has ls 7 [(5, .int (σ 0 12)), (0, .ref (ad 0)), (1, .int a0), (2, .int a1), (3, .int a2), (4, .int a3)] → W p l e (gR 5 0 0) s m args below meth c H locs 0 0 (gQi celM Γ ad N r σ' below args s) (F0 m 37 ls [.int x3, .ref (ad 0)]) := by
    intro H locs ls S hl
    obtain ⟨σ6, hσ6, hf⟩ := g_s1 hf
    refine pfX10_35 X S hN hσ6 dX10_add_37 (fun H locs S => ?_)
    refine lv_aload_n hx hb dX10_add_40 rfl (lv_at hl 1 rfl) ?_
    refine gfX10_35 X S hN dX10_add_41 ?_
    refine lv_if_le (tgt := 49) hx hb dX10_add_44 (by decide) (fun c7 => ?_) (fun c7 => ?_)
    · have hf := (if_pos c7).symm.trans hf
      refine lv_aload_n hx hb dX10_add_49 rfl (lv_at hl 1 rfl) ?_
      refine lv_iload_n hx hb dX10_add_50 rfl (lv_at hl 2 rfl) ?_
      refine lv_iload_n hx hb dX10_add_51 rfl (lv_at hl 4 rfl) ?_
      refine lv_iload hx hb dX10_add_52 (lv_at hl 5 rfl) ?_
      refine lv_iconst (v := (0 : Int32)) hx hb dX10_add_54 (by decide) ?_
      refine lv_iload hx hb dX10_add_55 (lv_at hl 0 rfl) ?_
      obtain ⟨v8, hv8, hf⟩ := g_s1 hf
      refine g_ki S (g_runV (rest := []) X S (c_X10_againstAdd l hN  hv8 _) cvX10_againstAdd mlX10_151 (by omega) (ceM_10 _) rfl rfl rfl hl.1 (by decide) ⟨⟨rfl, rfl⟩, ⟨Nat.le_of_ble_eq_true rfl, Nat.le_of_ble_eq_true rfl⟩, Nat.le_of_ble_eq_true rfl, Nat.le_of_ble_eq_true rfl⟩ dX10_add_57) (fun H locs S => ?_)
      refine lv_istore (lv' := [(6, .int v8), (5, .int (σ 0 12)), (0, .ref (ad 0)), (1, .int a0), (2, .int a1), (3, .int a2), (4, .int a3)]) hx hb dX10_add_60 hl (by decide) rfl (fun ls hl => ?_)
      refine lv_iload hx hb dX10_add_62 (lv_at hl 0 rfl) ?_
      refine lv_if_le (tgt := 75) hx hb dX10_add_64 (by decide) (fun c9 => ?_) (fun c9 => ?_)
      · have hf := (if_pos c9).symm.trans hf
        refine lv_aload_n hx hb dX10_add_75 rfl (lv_at hl 2 rfl) ?_
        refine lv_aload_n hx hb dX10_add_76 rfl (lv_at hl 2 rfl) ?_
        refine gfX10_7 X S hN dX10_add_77 ?_
        obtain ⟨σ10, hσ10, hf⟩ := g_s1 hf
        refine g_kv S (g_runV (rest := []) X S (c_X10_changes l hN (by rfl : gma 1 = true) hσ10 _) cvX10_changes mlX10_78 (by omega) (ceM_10 _) rfl rfl rfl hl.1 (by decide) ⟨⟨rfl, rfl⟩, ⟨Nat.le_of_ble_eq_true rfl, Nat.le_of_ble_eq_true rfl⟩, Nat.le_of_ble_eq_true rfl, Nat.le_of_ble_eq_true rfl⟩ dX10_add_80) (fun H locs S => ?_)
        refine lv_aload_n hx hb dX10_add_83 rfl (lv_at hl 2 rfl) ?_
        refine lv_iload_n hx hb dX10_add_84 rfl (lv_at hl 3 rfl) ?_
        refine lv_iload_n hx hb dX10_add_85 rfl (lv_at hl 4 rfl) ?_
        refine lv_iload_n hx hb dX10_add_86 rfl (lv_at hl 5 rfl) ?_
        refine lv_iload hx hb dX10_add_87 (lv_at hl 6 rfl) ?_
        refine lv_iconst (v := (0 : Int32)) hx hb dX10_add_89 (by decide) ?_
        refine lv_iload hx hb dX10_add_90 (lv_at hl 1 rfl) ?_
        obtain ⟨v11, σ12, hv11, hf⟩ := g_s2 hf
        refine g_ki S (g_runV (rest := []) X S (c_X10_adds l hN  hv11 _) cvX10_adds mlX10_155 (by omega) (ceM_10 _) rfl rfl rfl hl.1 (by decide) ⟨⟨rfl, rfl⟩, ⟨Nat.le_of_ble_eq_true rfl, Nat.le_of_ble_eq_true rfl⟩, Nat.le_of_ble_eq_true rfl, Nat.le_of_ble_eq_true rfl⟩ dX10_add_92) (fun H locs S => ?_)
        cases hf
        exact g_reti X S rfl dX10_add_95
      · have hf := (if_neg c9).symm.trans hf
        refine lv_aload_n hx hb dX10_add_67 rfl (lv_at hl 2 rfl) ?_
        refine lv_iconst (v := (3 : Int32)) hx hb dX10_add_68 (by decide) ?_
        refine lv_iload hx hb dX10_add_69 (lv_at hl 0 rfl) ?_
        obtain ⟨v13, σ14, hv13, hf⟩ := g_s2 hf
        refine g_ki S (g_runV (rest := []) X S (c_X10_refuses l hN  hv13 _) cvX10_refuses mlX10_75 (by omega) (ceM_10 _) rfl rfl rfl hl.1 (by decide) ⟨⟨rfl, rfl⟩, ⟨Nat.le_of_ble_eq_true rfl, Nat.le_of_ble_eq_true rfl⟩, Nat.le_of_ble_eq_true rfl, Nat.le_of_ble_eq_true rfl⟩ dX10_add_71) (fun H locs S => ?_)
        cases hf
        exact g_reti X S rfl dX10_add_74
    · have hf := (if_neg c7).symm.trans hf
      refine lv_iconst (v := (0 : Int32)) hx hb dX10_add_47 (by decide) ?_
      cases hf
      exact g_reti X S rfl dX10_add_48
  replace hf := hr4
  refine lv_if_eq (tgt := 36) hx hb dX10_add_16 (by decide) (fun c15 => ?_) (fun c15 => ?_)
  · have hf := (if_pos c15).symm.trans hf
    refine lv_iconst (v := (1 : Int32)) hx hb dX10_add_36 (by decide) ?_
    cases hf
    exact J5 _ _ _ S (lv_sub hl [0, 1, 2, 3, 4, 5] rfl)
  · have hf := (if_neg c15).symm.trans hf
    refine lv_iload_n hx hb dX10_add_19 rfl (lv_at hl 3 rfl) ?_
    refine lv_iconst (v := (0 : Int32)) hx hb dX10_add_20 (by decide) ?_
    refine lv_iconst (v := (2 : Int32)) hx hb dX10_add_21 (by decide) ?_
    obtain ⟨v16, hv16, hf⟩ := g_s1 hf
    refine g_ki S (g_runS (rest := [.ref (ad 0)]) X S (c_X10_in l hN  hv16 _) csX10_in mlX10_48 rfl rfl hl.1 (by decide) ⟨⟨rfl, rfl⟩, ⟨Nat.le_of_ble_eq_true rfl, Nat.le_of_ble_eq_true rfl⟩, Nat.le_of_ble_eq_true rfl, Nat.le_of_ble_eq_true rfl⟩ dX10_add_22) (fun H locs S => ?_)
    refine lv_if_eq (tgt := 32) hx hb dX10_add_25 (by decide) (fun c17 => ?_) (fun c17 => ?_)
    · have hf := (if_pos c17).symm.trans hf
      refine lv_iconst (v := (2 : Int32)) hx hb dX10_add_32 (by decide) ?_
      refine lv_goto (tgt := 37) hx hb dX10_add_33 (by decide) ?_
      cases hf
      exact J5 _ _ _ S (lv_sub hl [0, 1, 2, 3, 4, 5] rfl)
    · have hf := (if_neg c17).symm.trans hf
      refine lv_iconst (v := (0 : Int32)) hx hb dX10_add_28 (by decide) ?_
      refine lv_goto (tgt := 37) hx hb dX10_add_29 (by decide) ?_
      cases hf
      exact J5 _ _ _ S (lv_sub hl [0, 1, 2, 3, 4, 5] rfl)

noncomputable def f_X10_remove (σ : gSt) (a0 : Int32) (a1 : Int32) : Option (Int32 × gSt) :=
  (g_k1 (f_X10_isCaption σ a0 a1) fun v1 => (g_k1 (if v1 = 0 then some (1 : Int32) else some (0 : Int32)) fun x2 => (g_k1 (gset σ 0 10 x2) fun σ5 => (if (σ5 0 10) ≤ 0 then (g_k1 (f_X10_changes σ5 1) fun σ7 => (g_k1 (f_X10_takes σ7 a0 a1) fun σ8 => (g_k1 (gald σ8 1 926 ((28 : Int32) + a0)) fun v9 => some (v9, σ8)))) else some ((0 : Int32), σ5)))))
set_option maxRecDepth 100000 in
set_option maxHeartbeats 4000000 in
theorem c_X10_remove (l : Launch) {Γ : gG} {ad : Nat → Nat} {N : Nat} (hN : 8 ≤ N) {σ : gSt} {a0 : Int32} {a1 : Int32}  {r : Int32} {σ' : gSt} (hf : f_X10_remove σ a0 a1 = some (r, σ')) : gMi l celM Γ ad N yX10_remove cX10_remove 3 (some .int) (gR 4 0 0) [.ref (ad 0), .int a0, .int a1] σ r σ' := by
  intro sz
  refine gOf (Qc := fun sz => gQci celM Γ ad N r σ' sz) RX10 (by decide) rfl (by decide) (fun p e s m args below meth c H locs ls X S hl => ?_)
  have hl : lv_has ls 3 [(0, .ref (ad 0)), (1, .int a0), (2, .int a1)] := hl
  have hx := X.1
  have hb := X.2.1
  unfold f_X10_remove at hf
  refine lv_aload_n hx hb dX10_remove_0 rfl (lv_at hl 0 rfl) ?_
  refine lv_aload_n hx hb dX10_remove_1 rfl (lv_at hl 0 rfl) ?_
  refine lv_iload_n hx hb dX10_remove_2 rfl (lv_at hl 1 rfl) ?_
  refine lv_iload_n hx hb dX10_remove_3 rfl (lv_at hl 2 rfl) ?_
  obtain ⟨v1, hv1, hf⟩ := g_s1 hf
  refine g_ki S (g_runV (rest := [.ref (ad 0)]) X S (c_X10_isCaption l hN  hv1 _) cvX10_isCaption mlX10_159 (by omega) (ceM_10 _) rfl rfl rfl hl.1 (by decide) ⟨⟨rfl, rfl⟩, ⟨Nat.le_of_ble_eq_true rfl, Nat.le_of_ble_eq_true rfl⟩, Nat.le_of_ble_eq_true rfl, Nat.le_of_ble_eq_true rfl⟩ dX10_remove_4) (fun H locs S => ?_)
  obtain ⟨x2, hr3, hf⟩ := g_s1 hf
  have J4 : ∀ (H : Heap) (locs : List Loc) (ls : Array Slot), gS celM Γ ad N σ s H locs → lv_has ls 3 [(0, .ref (ad 0)), (1, .int a0), (2, .int a1)] → W p l e (gR 4 0 0) s m args below meth c H locs 0 0 (gQi celM Γ ad N r σ' below args s) (F0 m 15 ls [.int x2, .ref (ad 0)]) := by
    intro H locs ls S hl
    obtain ⟨σ5, hσ5, hf⟩ := g_s1 hf
    refine pfX10_35 X S hN hσ5 dX10_remove_15 (fun H locs S => ?_)
    refine lv_aload_n hx hb dX10_remove_18 rfl (lv_at hl 0 rfl) ?_
    refine gfX10_35 X S hN dX10_remove_19 ?_
    refine lv_if_le (tgt := 27) hx hb dX10_remove_22 (by decide) (fun c6 => ?_) (fun c6 => ?_)
    · have hf := (if_pos c6).symm.trans hf
      refine lv_aload_n hx hb dX10_remove_27 rfl (lv_at hl 0 rfl) ?_
      refine lv_aload_n hx hb dX10_remove_28 rfl (lv_at hl 0 rfl) ?_
      refine gfX10_7 X S hN dX10_remove_29 ?_
      obtain ⟨σ7, hσ7, hf⟩ := g_s1 hf
      refine g_kv S (g_runV (rest := []) X S (c_X10_changes l hN (by rfl : gma 1 = true) hσ7 _) cvX10_changes mlX10_78 (by omega) (ceM_10 _) rfl rfl rfl hl.1 (by decide) ⟨⟨rfl, rfl⟩, ⟨Nat.le_of_ble_eq_true rfl, Nat.le_of_ble_eq_true rfl⟩, Nat.le_of_ble_eq_true rfl, Nat.le_of_ble_eq_true rfl⟩ dX10_remove_32) (fun H locs S => ?_)
      refine lv_aload_n hx hb dX10_remove_35 rfl (lv_at hl 0 rfl) ?_
      refine lv_iload_n hx hb dX10_remove_36 rfl (lv_at hl 1 rfl) ?_
      refine lv_iload_n hx hb dX10_remove_37 rfl (lv_at hl 2 rfl) ?_
      obtain ⟨σ8, hσ8, hf⟩ := g_s1 hf
      refine g_kv S (g_runV (rest := []) X S (c_X10_takes l hN  hσ8 _) cvX10_takes mlX10_162 (by omega) (ceM_10 _) rfl rfl rfl hl.1 (by decide) ⟨⟨rfl, rfl⟩, ⟨Nat.le_of_ble_eq_true rfl, Nat.le_of_ble_eq_true rfl⟩, Nat.le_of_ble_eq_true rfl, Nat.le_of_ble_eq_true rfl⟩ dX10_remove_38) (fun H locs S => ?_)
      refine lv_aload_n hx hb dX10_remove_41 rfl (lv_at hl 0 rfl) ?_
      refine gfX10_7 X S hN dX10_remove_42 ?_
      refine lv_bipush (v := (28 : Int32)) hx hb dX10_remove_45 (by decide) ?_
      refine lv_iload_n hx hb dX10_remove_47 rfl (lv_at hl 1 rfl) ?_
      refine lv_iadd hx hb dX10_remove_48 ?_
      obtain ⟨v9, hv9, hf⟩ := g_s1 hf
      refine g_iald X S (by omega) (ceM_a (rfl : gma 1 = true)) hv9 dX10_remove_49 ?_
      cases hf
      exact g_reti X S rfl dX10_remove_50
    · have hf := (if_neg c6).symm.trans hf
      refine lv_iconst (v := (0 : Int32)) hx hb dX10_remove_25 (by decide) ?_
      cases hf
      exact g_reti X S rfl dX10_remove_26
  replace hf := hr3
  refine lv_if_eq (tgt := 14) hx hb dX10_remove_7 (by decide) (fun c10 => ?_) (fun c10 => ?_)
  · have hf := (if_pos c10).symm.trans hf
    refine lv_iconst (v := (1 : Int32)) hx hb dX10_remove_14 (by decide) ?_
    cases hf
    exact J4 _ _ _ S (lv_sub hl [0, 1, 2] rfl)
  · have hf := (if_neg c10).symm.trans hf
    refine lv_iconst (v := (0 : Int32)) hx hb dX10_remove_10 (by decide) ?_
    refine lv_goto (tgt := 15) hx hb dX10_remove_11 (by decide) ?_
    cases hf
    exact J4 _ _ _ S (lv_sub hl [0, 1, 2] rfl)

noncomputable def f_X10_moves (σ : gSt) (a0 : Int32) (a1 : Int32) (a2 : Int32) (a3 : Int32) : Option (Int32 × gSt) :=
  (g_k1 (f_X10_owns σ a0 a1) fun σ1 => (g_k1 (f_X10_takes σ1 a0 a1) fun σ2 => (g_k1 (gset σ2 5 0 a2) fun σ3 => (g_k1 (gset σ3 5 1 a3) fun σ4 => (g_k2 (f_X10_puts σ4 a0) fun v5 σ6 => some (v5, σ6))))))
set_option maxRecDepth 100000 in
set_option maxHeartbeats 4000000 in
theorem c_X10_moves (l : Launch) {Γ : gG} {ad : Nat → Nat} {N : Nat} (hN : 8 ≤ N) {σ : gSt} {a0 : Int32} {a1 : Int32} {a2 : Int32} {a3 : Int32}  {r : Int32} {σ' : gSt} (hf : f_X10_moves σ a0 a1 a2 a3 = some (r, σ')) : gMi l celM Γ ad N yX10_moves cX10_moves 5 (some .int) (gR 4 0 0) [.ref (ad 0), .int a0, .int a1, .int a2, .int a3] σ r σ' := by
  intro sz
  refine gOf (Qc := fun sz => gQci celM Γ ad N r σ' sz) RX10 (by decide) rfl (by decide) (fun p e s m args below meth c H locs ls X S hl => ?_)
  have hl : lv_has ls 5 [(0, .ref (ad 0)), (1, .int a0), (2, .int a1), (3, .int a2), (4, .int a3)] := hl
  have hx := X.1
  have hb := X.2.1
  unfold f_X10_moves at hf
  refine lv_aload_n hx hb dX10_moves_0 rfl (lv_at hl 0 rfl) ?_
  refine lv_iload_n hx hb dX10_moves_1 rfl (lv_at hl 1 rfl) ?_
  refine lv_iload_n hx hb dX10_moves_2 rfl (lv_at hl 2 rfl) ?_
  obtain ⟨σ1, hσ1, hf⟩ := g_s1 hf
  refine g_kv S (g_runV (rest := []) X S (c_X10_owns l hN  hσ1 _) cvX10_owns mlX10_166 (by omega) (ceM_10 _) rfl rfl rfl hl.1 (by decide) ⟨⟨rfl, rfl⟩, ⟨Nat.le_of_ble_eq_true rfl, Nat.le_of_ble_eq_true rfl⟩, Nat.le_of_ble_eq_true rfl, Nat.le_of_ble_eq_true rfl⟩ dX10_moves_3) (fun H locs S => ?_)
  refine lv_aload_n hx hb dX10_moves_6 rfl (lv_at hl 0 rfl) ?_
  refine lv_iload_n hx hb dX10_moves_7 rfl (lv_at hl 1 rfl) ?_
  refine lv_iload_n hx hb dX10_moves_8 rfl (lv_at hl 2 rfl) ?_
  obtain ⟨σ2, hσ2, hf⟩ := g_s1 hf
  refine g_kv S (g_runV (rest := []) X S (c_X10_takes l hN  hσ2 _) cvX10_takes mlX10_162 (by omega) (ceM_10 _) rfl rfl rfl hl.1 (by decide) ⟨⟨rfl, rfl⟩, ⟨Nat.le_of_ble_eq_true rfl, Nat.le_of_ble_eq_true rfl⟩, Nat.le_of_ble_eq_true rfl, Nat.le_of_ble_eq_true rfl⟩ dX10_moves_9) (fun H locs S => ?_)
  refine lv_aload_n hx hb dX10_moves_12 rfl (lv_at hl 0 rfl) ?_
  refine gfX10_22 X S hN dX10_moves_13 ?_
  refine lv_iconst (v := (0 : Int32)) hx hb dX10_moves_16 (by decide) ?_
  refine lv_iload_n hx hb dX10_moves_17 rfl (lv_at hl 3 rfl) ?_
  obtain ⟨σ3, hσ3, hf⟩ := g_s1 hf
  refine g_iastC X S (by omega) (ceM_a (rfl : gma 5 = true)) 0 (by decide) (by decide) hσ3 dX10_moves_18 (fun H locs S => ?_)
  refine lv_aload_n hx hb dX10_moves_19 rfl (lv_at hl 0 rfl) ?_
  refine gfX10_22 X S hN dX10_moves_20 ?_
  refine lv_iconst (v := (1 : Int32)) hx hb dX10_moves_23 (by decide) ?_
  refine lv_iload hx hb dX10_moves_24 (lv_at hl 4 rfl) ?_
  obtain ⟨σ4, hσ4, hf⟩ := g_s1 hf
  refine g_iastC X S (by omega) (ceM_a (rfl : gma 5 = true)) 1 (by decide) (by decide) hσ4 dX10_moves_26 (fun H locs S => ?_)
  refine lv_aload_n hx hb dX10_moves_27 rfl (lv_at hl 0 rfl) ?_
  refine lv_iload_n hx hb dX10_moves_28 rfl (lv_at hl 1 rfl) ?_
  obtain ⟨v5, σ6, hv5, hf⟩ := g_s2 hf
  refine g_ki S (g_runV (rest := []) X S (c_X10_puts l hN  hv5 _) cvX10_puts mlX10_148 (by omega) (ceM_10 _) rfl rfl rfl hl.1 (by decide) ⟨⟨rfl, rfl⟩, ⟨Nat.le_of_ble_eq_true rfl, Nat.le_of_ble_eq_true rfl⟩, Nat.le_of_ble_eq_true rfl, Nat.le_of_ble_eq_true rfl⟩ dX10_moves_29) (fun H locs S => ?_)
  cases hf
  exact g_reti X S rfl dX10_moves_32

noncomputable def f_X10_move (σ : gSt) (a0 : Int32) (a1 : Int32) (a2 : Int32) (a3 : Int32) : Option (Int32 × gSt) :=
  (g_k1 (f_X10_isCaption σ a0 a1) fun v1 => (g_k1 (if v1 = 0 then some (1 : Int32) else some (0 : Int32)) fun x2 => (g_k1 (gset σ 0 10 x2) fun σ5 => (if (σ5 0 10) ≤ 0 then (g_k1 (f_X10_againstPlace σ5 a0 a1 a2 a3) fun v7 => (if v7 ≤ 0 then (g_k1 (f_X10_changes σ5 1) fun σ9 => (g_k2 (f_X10_moves σ9 a0 a1 a2 a3) fun v10 σ11 => some (v10, σ11))) else (g_k2 (f_X10_refuses σ5 (2 : Int32) v7) fun v12 σ13 => some (v12, σ13)))) else some ((0 : Int32), σ5)))))
set_option maxRecDepth 100000 in
set_option maxHeartbeats 4000000 in
theorem c_X10_move (l : Launch) {Γ : gG} {ad : Nat → Nat} {N : Nat} (hN : 8 ≤ N) {σ : gSt} {a0 : Int32} {a1 : Int32} {a2 : Int32} {a3 : Int32}  {r : Int32} {σ' : gSt} (hf : f_X10_move σ a0 a1 a2 a3 = some (r, σ')) : gMi l celM Γ ad N yX10_move cX10_move 6 (some .int) (gR 5 0 0) [.ref (ad 0), .int a0, .int a1, .int a2, .int a3] σ r σ' := by
  intro sz
  refine gOf (Qc := fun sz => gQci celM Γ ad N r σ' sz) RX10 (by decide) rfl (by decide) (fun p e s m args below meth c H locs ls X S hl => ?_)
  have hl : lv_has ls 6 [(0, .ref (ad 0)), (1, .int a0), (2, .int a1), (3, .int a2), (4, .int a3)] := hl
  have hx := X.1
  have hb := X.2.1
  unfold f_X10_move at hf
  refine lv_aload_n hx hb dX10_move_0 rfl (lv_at hl 0 rfl) ?_
  refine lv_aload_n hx hb dX10_move_1 rfl (lv_at hl 0 rfl) ?_
  refine lv_iload_n hx hb dX10_move_2 rfl (lv_at hl 1 rfl) ?_
  refine lv_iload_n hx hb dX10_move_3 rfl (lv_at hl 2 rfl) ?_
  obtain ⟨v1, hv1, hf⟩ := g_s1 hf
  refine g_ki S (g_runV (rest := [.ref (ad 0)]) X S (c_X10_isCaption l hN  hv1 _) cvX10_isCaption mlX10_159 (by omega) (ceM_10 _) rfl rfl rfl hl.1 (by decide) ⟨⟨rfl, rfl⟩, ⟨Nat.le_of_ble_eq_true rfl, Nat.le_of_ble_eq_true rfl⟩, Nat.le_of_ble_eq_true rfl, Nat.le_of_ble_eq_true rfl⟩ dX10_move_4) (fun H locs S => ?_)
  obtain ⟨x2, hr3, hf⟩ := g_s1 hf
  have J4 : ∀ (H : Heap) (locs : List Loc) (ls : Array Slot), gS celM Γ ad N σ s H locs → lv_has ls 6 [(0, .ref (ad 0)), (1, .int a0), (2, .int a1), (3, .int a2), (4, .int a3)] → W p l e (gR 5 0 0) s m args below meth c H locs 0 0 (gQi celM Γ ad N r σ' below args s) (F0 m 15 ls [.int x2, .ref (ad 0)]) := by
    intro H locs ls S hl
    obtain ⟨σ5, hσ5, hf⟩ := g_s1 hf
    refine pfX10_35 X S hN hσ5 dX10_move_15 (fun H locs S => ?_)
    refine lv_aload_n hx hb dX10_move_18 rfl (lv_at hl 0 rfl) ?_
    refine gfX10_35 X S hN dX10_move_19 ?_
    refine lv_if_le (tgt := 27) hx hb dX10_move_22 (by decide) (fun c6 => ?_) (fun c6 => ?_)
    · have hf := (if_pos c6).symm.trans hf
      refine lv_aload_n hx hb dX10_move_27 rfl (lv_at hl 0 rfl) ?_
      refine lv_iload_n hx hb dX10_move_28 rfl (lv_at hl 1 rfl) ?_
      refine lv_iload_n hx hb dX10_move_29 rfl (lv_at hl 2 rfl) ?_
      refine lv_iload_n hx hb dX10_move_30 rfl (lv_at hl 3 rfl) ?_
      refine lv_iload hx hb dX10_move_31 (lv_at hl 4 rfl) ?_
      obtain ⟨v7, hv7, hf⟩ := g_s1 hf
      refine g_ki S (g_runV (rest := []) X S (c_X10_againstPlace l hN  hv7 _) cvX10_againstPlace mlX10_140 (by omega) (ceM_10 _) rfl rfl rfl hl.1 (by decide) ⟨⟨rfl, rfl⟩, ⟨Nat.le_of_ble_eq_true rfl, Nat.le_of_ble_eq_true rfl⟩, Nat.le_of_ble_eq_true rfl, Nat.le_of_ble_eq_true rfl⟩ dX10_move_33) (fun H locs S => ?_)
      refine lv_istore (lv' := [(5, .int v7), (0, .ref (ad 0)), (1, .int a0), (2, .int a1), (3, .int a2), (4, .int a3)]) hx hb dX10_move_36 hl (by decide) rfl (fun ls hl => ?_)
      refine lv_iload hx hb dX10_move_38 (lv_at hl 0 rfl) ?_
      refine lv_if_le (tgt := 51) hx hb dX10_move_40 (by decide) (fun c8 => ?_) (fun c8 => ?_)
      · have hf := (if_pos c8).symm.trans hf
        refine lv_aload_n hx hb dX10_move_51 rfl (lv_at hl 1 rfl) ?_
        refine lv_aload_n hx hb dX10_move_52 rfl (lv_at hl 1 rfl) ?_
        refine gfX10_7 X S hN dX10_move_53 ?_
        obtain ⟨σ9, hσ9, hf⟩ := g_s1 hf
        refine g_kv S (g_runV (rest := []) X S (c_X10_changes l hN (by rfl : gma 1 = true) hσ9 _) cvX10_changes mlX10_78 (by omega) (ceM_10 _) rfl rfl rfl hl.1 (by decide) ⟨⟨rfl, rfl⟩, ⟨Nat.le_of_ble_eq_true rfl, Nat.le_of_ble_eq_true rfl⟩, Nat.le_of_ble_eq_true rfl, Nat.le_of_ble_eq_true rfl⟩ dX10_move_56) (fun H locs S => ?_)
        refine lv_aload_n hx hb dX10_move_59 rfl (lv_at hl 1 rfl) ?_
        refine lv_iload_n hx hb dX10_move_60 rfl (lv_at hl 2 rfl) ?_
        refine lv_iload_n hx hb dX10_move_61 rfl (lv_at hl 3 rfl) ?_
        refine lv_iload_n hx hb dX10_move_62 rfl (lv_at hl 4 rfl) ?_
        refine lv_iload hx hb dX10_move_63 (lv_at hl 5 rfl) ?_
        obtain ⟨v10, σ11, hv10, hf⟩ := g_s2 hf
        refine g_ki S (g_runV (rest := []) X S (c_X10_moves l hN  hv10 _) cvX10_moves mlX10_169 (by omega) (ceM_10 _) rfl rfl rfl hl.1 (by decide) ⟨⟨rfl, rfl⟩, ⟨Nat.le_of_ble_eq_true rfl, Nat.le_of_ble_eq_true rfl⟩, Nat.le_of_ble_eq_true rfl, Nat.le_of_ble_eq_true rfl⟩ dX10_move_65) (fun H locs S => ?_)
        cases hf
        exact g_reti X S rfl dX10_move_68
      · have hf := (if_neg c8).symm.trans hf
        refine lv_aload_n hx hb dX10_move_43 rfl (lv_at hl 1 rfl) ?_
        refine lv_iconst (v := (2 : Int32)) hx hb dX10_move_44 (by decide) ?_
        refine lv_iload hx hb dX10_move_45 (lv_at hl 0 rfl) ?_
        obtain ⟨v12, σ13, hv12, hf⟩ := g_s2 hf
        refine g_ki S (g_runV (rest := []) X S (c_X10_refuses l hN  hv12 _) cvX10_refuses mlX10_75 (by omega) (ceM_10 _) rfl rfl rfl hl.1 (by decide) ⟨⟨rfl, rfl⟩, ⟨Nat.le_of_ble_eq_true rfl, Nat.le_of_ble_eq_true rfl⟩, Nat.le_of_ble_eq_true rfl, Nat.le_of_ble_eq_true rfl⟩ dX10_move_47) (fun H locs S => ?_)
        cases hf
        exact g_reti X S rfl dX10_move_50
    · have hf := (if_neg c6).symm.trans hf
      refine lv_iconst (v := (0 : Int32)) hx hb dX10_move_25 (by decide) ?_
      cases hf
      exact g_reti X S rfl dX10_move_26
  replace hf := hr3
  refine lv_if_eq (tgt := 14) hx hb dX10_move_7 (by decide) (fun c14 => ?_) (fun c14 => ?_)
  · have hf := (if_pos c14).symm.trans hf
    refine lv_iconst (v := (1 : Int32)) hx hb dX10_move_14 (by decide) ?_
    cases hf
    exact J4 _ _ _ S (lv_sub hl [0, 1, 2, 3, 4] rfl)
  · have hf := (if_neg c14).symm.trans hf
    refine lv_iconst (v := (0 : Int32)) hx hb dX10_move_10 (by decide) ?_
    refine lv_goto (tgt := 15) hx hb dX10_move_11 (by decide) ?_
    cases hf
    exact J4 _ _ _ S (lv_sub hl [0, 1, 2, 3, 4] rfl)

noncomputable def f_X10_split_l2 (a0 : Int32) (a1 : Int32) (a2 : Int32) (b13 : Int32) (x26 : Int32) (σ35 : gSt) : Nat → Int32 → gSt → Option (gSt)
  | 0, _, _ => none
  | n + 1, i36, σ37 => (if (24 : Int32) ≤ i36 then some σ37 else (g_k1 (if (σ37 5 3) ≤ i36 then some (0 : Int32) else (g_k1 (gald σ37 1 926 (((b13 + a2) + (1 : Int32)) + i36)) fun v45 => some v45)) fun x40 => (g_k1 (gast σ37 5 28 ((4 : Int32) + i36) x40) fun σ43 => (f_X10_split_l2 a0 a1 a2 b13 x26 σ35 n (i36 + 1) σ43))))
set_option maxRecDepth 100000 in
set_option maxHeartbeats 4000000 in
theorem w_X10_split_l2 {l : Launch} {Γ : gG} {ad : Nat → Nat} {N : Nat} {p : Program} {e : Env} {s : State} {m : MethodId} {args : Array Value} {below : List Frame} {meth : Method} {c : Code} {Q : State → Prop} (hN : 8 ≤ N) (X : gX celM Γ ad N RX10 cX10_split 12 (some .int) p s m args meth c) {a0 : Int32} {a1 : Int32} {a2 : Int32} {b13 : Int32} {x26 : Int32} {σ35 : gSt}  : ∀ (n : Nat) (i36 : Int32) (σ37 : gSt) (σ38 : gSt), f_X10_split_l2 a0 a1 a2 b13 x26 σ35 n i36 σ37 = some σ38 → (∀ (H : Heap) (locs : List Loc) (ls : Array Slot), gS celM Γ ad N σ38 s H locs → lv_has ls 12 [(10, .int x26), (4, .int b13), (0, .ref (ad 0)), (1, .int a0), (2, .int a1), (3, .int a2)] → W p l e (gR 4 0 0) s m args below meth c H locs 0 0 (Q) (F0 m 347 ls [])) → ∀ (H : Heap) (locs : List Loc) (ls : Array Slot), gS celM Γ ad N σ37 s H locs → lv_has ls 12 [(11, .int i36), (10, .int x26), (4, .int b13), (0, .ref (ad 0)), (1, .int a0), (2, .int a1), (3, .int a2)] → W p l e (gR 4 0 0) s m args below meth c H locs 0 0 (Q) (F0 m 296 ls []) := by
  have hx := X.1
  have hb := X.2.1
  intro n
  induction n with
  | zero =>
    intro i36 σ37 σ38 hf
    cases hf
  | succ n ih =>
    intro i36 σ37 σ38 hf J H locs ls S hl
    rw [f_X10_split_l2] at hf
    refine lv_iload hx hb dX10_split_296 (lv_at hl 0 rfl) ?_
    refine lv_bipush (v := (24 : Int32)) hx hb dX10_split_298 (by decide) ?_
    refine lv_icmp_ge (tgt := 347) hx hb dX10_split_300 (by decide) (fun c39 => ?_) (fun c39 => ?_)
    · have hf := (if_pos c39).symm.trans hf
      cases hf
      exact J _ _ _ S (lv_sub hl [1, 2, 3, 4, 5, 6] rfl)
    · have hf := (if_neg c39).symm.trans hf
      refine lv_aload_n hx hb dX10_split_303 rfl (lv_at hl 3 rfl) ?_
      refine gfX10_22 X S hN dX10_split_304 ?_
      refine lv_iconst (v := (4 : Int32)) hx hb dX10_split_307 (by decide) ?_
      refine lv_iload hx hb dX10_split_308 (lv_at hl 0 rfl) ?_
      refine lv_iadd hx hb dX10_split_310 ?_
      refine lv_iload hx hb dX10_split_311 (lv_at hl 0 rfl) ?_
      refine lv_aload_n hx hb dX10_split_313 rfl (lv_at hl 3 rfl) ?_
      refine gfX10_22 X S hN dX10_split_314 ?_
      refine lv_iconst (v := (3 : Int32)) hx hb dX10_split_317 (by decide) ?_
      refine g_ialdC X S (by omega) (ceM_a (rfl : gma 5 = true)) 3 (by decide) (by decide) dX10_split_318 ?_
      obtain ⟨x40, hr41, hf⟩ := g_s1 hf
      have J42 : ∀ (H : Heap) (locs : List Loc) (ls : Array Slot), gS celM Γ ad N σ37 s H locs → lv_has ls 12 [(11, .int i36), (10, .int x26), (4, .int b13), (0, .ref (ad 0)), (1, .int a0), (2, .int a1), (3, .int a2)] → W p l e (gR 4 0 0) s m args below meth c H locs 0 0 (Q) (F0 m 340 ls [.int x40, .int ((4 : Int32) + i36), .ref (ad 5)]) := by
        intro H locs ls S hl
        obtain ⟨σ43, hσ43, hf⟩ := g_s1 hf
        refine g_iast X S (by omega) (ceM_a (rfl : gma 5 = true)) hσ43 dX10_split_340 (fun H locs S => ?_)
        refine lv_iinc (v := (i36 + 1)) (lv' := [(11, .int (i36 + 1)), (10, .int x26), (4, .int b13), (0, .ref (ad 0)), (1, .int a0), (2, .int a1), (3, .int a2)]) hx hb dX10_split_341 hl (k := 0) rfl rfl (by decide) rfl (fun ls hl => ?_)
        refine lv_goto (tgt := 296) hx hb dX10_split_344 (by decide) ?_
        exact ih _ _ _  hf J _ _ _ S (lv_sub hl [0, 1, 2, 3, 4, 5, 6] rfl)
      replace hf := hr41
      refine lv_icmp_ge (tgt := 339) hx hb dX10_split_319 (by decide) (fun c44 => ?_) (fun c44 => ?_)
      · have hf := (if_pos c44).symm.trans hf
        refine lv_iconst (v := (0 : Int32)) hx hb dX10_split_339 (by decide) ?_
        cases hf
        exact J42 _ _ _ S (lv_sub hl [0, 1, 2, 3, 4, 5, 6] rfl)
      · have hf := (if_neg c44).symm.trans hf
        refine lv_aload_n hx hb dX10_split_322 rfl (lv_at hl 3 rfl) ?_
        refine gfX10_7 X S hN dX10_split_323 ?_
        refine lv_iload hx hb dX10_split_326 (lv_at hl 2 rfl) ?_
        refine lv_iload_n hx hb dX10_split_328 rfl (lv_at hl 6 rfl) ?_
        refine lv_iadd hx hb dX10_split_329 ?_
        refine lv_iconst (v := (1 : Int32)) hx hb dX10_split_330 (by decide) ?_
        refine lv_iadd hx hb dX10_split_331 ?_
        refine lv_iload hx hb dX10_split_332 (lv_at hl 0 rfl) ?_
        refine lv_iadd hx hb dX10_split_334 ?_
        obtain ⟨v45, hv45, hf⟩ := g_s1 hf
        refine g_iald X S (by omega) (ceM_a (rfl : gma 1 = true)) hv45 dX10_split_335 ?_
        refine lv_goto (tgt := 340) hx hb dX10_split_336 (by decide) ?_
        cases hf
        exact J42 _ _ _ S (lv_sub hl [0, 1, 2, 3, 4, 5, 6] rfl)
noncomputable def f_X10_split_l3 (a0 : Int32) (b13 : Int32) (x26 : Int32) (σ50 : gSt) : Nat → Int32 → gSt → Option (gSt)
  | 0, _, _ => none
  | n + 1, i51, σ52 => (if (24 : Int32) ≤ i51 then some σ52 else (g_k1 (gast σ52 1 926 (b13 + i51) (0 : Int32)) fun σ55 => (f_X10_split_l3 a0 b13 x26 σ50 n (i51 + 1) σ55)))
set_option maxRecDepth 100000 in
set_option maxHeartbeats 4000000 in
theorem w_X10_split_l3 {l : Launch} {Γ : gG} {ad : Nat → Nat} {N : Nat} {p : Program} {e : Env} {s : State} {m : MethodId} {args : Array Value} {below : List Frame} {meth : Method} {c : Code} {Q : State → Prop} (hN : 8 ≤ N) (X : gX celM Γ ad N RX10 cX10_split 12 (some .int) p s m args meth c) {a0 : Int32} {b13 : Int32} {x26 : Int32} {σ50 : gSt}  : ∀ (n : Nat) (i51 : Int32) (σ52 : gSt) (σ53 : gSt), f_X10_split_l3 a0 b13 x26 σ50 n i51 σ52 = some σ53 → (∀ (H : Heap) (locs : List Loc) (ls : Array Slot), gS celM Γ ad N σ53 s H locs → lv_has ls 12 [(10, .int x26), (0, .ref (ad 0)), (1, .int a0)] → W p l e (gR 4 0 0) s m args below meth c H locs 0 0 (Q) (F0 m 403 ls [])) → ∀ (H : Heap) (locs : List Loc) (ls : Array Slot), gS celM Γ ad N σ52 s H locs → lv_has ls 12 [(11, .int i51), (10, .int x26), (4, .int b13), (0, .ref (ad 0)), (1, .int a0)] → W p l e (gR 4 0 0) s m args below meth c H locs 0 0 (Q) (F0 m 379 ls []) := by
  have hx := X.1
  have hb := X.2.1
  intro n
  induction n with
  | zero =>
    intro i51 σ52 σ53 hf
    cases hf
  | succ n ih =>
    intro i51 σ52 σ53 hf J H locs ls S hl
    rw [f_X10_split_l3] at hf
    refine lv_iload hx hb dX10_split_379 (lv_at hl 0 rfl) ?_
    refine lv_bipush (v := (24 : Int32)) hx hb dX10_split_381 (by decide) ?_
    refine lv_icmp_ge (tgt := 403) hx hb dX10_split_383 (by decide) (fun c54 => ?_) (fun c54 => ?_)
    · have hf := (if_pos c54).symm.trans hf
      cases hf
      exact J _ _ _ S (lv_sub hl [1, 3, 4] rfl)
    · have hf := (if_neg c54).symm.trans hf
      refine lv_aload_n hx hb dX10_split_386 rfl (lv_at hl 3 rfl) ?_
      refine gfX10_7 X S hN dX10_split_387 ?_
      refine lv_iload hx hb dX10_split_390 (lv_at hl 2 rfl) ?_
      refine lv_iload hx hb dX10_split_392 (lv_at hl 0 rfl) ?_
      refine lv_iadd hx hb dX10_split_394 ?_
      refine lv_iconst (v := (0 : Int32)) hx hb dX10_split_395 (by decide) ?_
      obtain ⟨σ55, hσ55, hf⟩ := g_s1 hf
      refine g_iast X S (by omega) (ceM_a (rfl : gma 1 = true)) hσ55 dX10_split_396 (fun H locs S => ?_)
      refine lv_iinc (v := (i51 + 1)) (lv' := [(11, .int (i51 + 1)), (10, .int x26), (4, .int b13), (0, .ref (ad 0)), (1, .int a0)]) hx hb dX10_split_397 hl (k := 0) rfl rfl (by decide) rfl (fun ls hl => ?_)
      refine lv_goto (tgt := 379) hx hb dX10_split_400 (by decide) ?_
      exact ih _ _ _  hf J _ _ _ S (lv_sub hl [0, 1, 2, 3, 4] rfl)
noncomputable def f_X10_split_b1 (a0 : Int32) (a1 : Int32) (a2 : Int32) (b12 : Int32) (b13 : Int32) (σ14 : gSt) : Option (Int32 × gSt) :=
  (g_k1 (f_X10_isText σ14 1 b13 a2) fun v15 => (if v15 = 0 then (g_k2 (f_X10_refuses σ14 (2 : Int32) (4 : Int32)) fun v17 σ18 => some (v17, σ18)) else (g_k1 (f_X10_isText σ14 1 ((b13 + a2) + (1 : Int32)) ((b12 - a2) - (1 : Int32))) fun v19 => (if v19 = 0 then (g_k2 (f_X10_refuses σ14 (2 : Int32) (4 : Int32)) fun v64 σ65 => some (v64, σ65)) else (g_k1 (f_X10_bars σ14 1 b13 a2) fun v21 => (g_k1 (f_X10_bars σ14 1 ((b13 + a2) + (1 : Int32)) ((b12 - a2) - (1 : Int32))) fun v22 => (g_k1 (f_X10_end σ14 a0 a1) fun v23 => (g_k1 (f_X10_first σ14 a0 a1) fun v24 => (g_k1 (gdiv ((v23 - v24) * (a2 - v21)) ((a2 - v21) + (((b12 - a2) - (1 : Int32)) - v22))) fun _ => (g_k1 (if (1 : Int32) ≤ (((v23 - v24) * (a2 - v21)) / ((a2 - v21) + (((b12 - a2) - (1 : Int32)) - v22))) then some (((v23 - v24) * (a2 - v21)) / ((a2 - v21) + (((b12 - a2) - (1 : Int32)) - v22))) else some (1 : Int32)) fun x26 => (if x26 < (v23 - v24) then (g_k1 (gald σ14 1 926 ((28 : Int32) + a0)) fun v30 => (if v30 = (16 : Int32) then (g_k2 (f_X10_refuses σ14 (2 : Int32) (8 : Int32)) fun v59 σ60 => some (v59, σ60)) else (g_k1 (f_X10_changes σ14 1) fun σ32 => (g_k1 (f_X10_owns σ32 a0 a1) fun σ33 => (g_k1 (gset σ33 5 0 ((σ33 5 0) + x26)) fun σ34 => (g_k1 (gset σ34 5 3 ((b12 - a2) - (1 : Int32))) fun σ35 => (g_k1 (f_X10_split_l2 a0 a1 a2 b13 x26 σ35 FU (0 : Int32) σ35) fun σ38 => (g_k1 (f_X10_at σ38 a0 a1 (1 : Int32)) fun v47 => (g_k1 (gast σ38 1 926 v47 (σ38 5 0)) fun σ48 => (g_k1 (f_X10_at σ48 a0 a1 (3 : Int32)) fun v49 => (g_k1 (gast σ48 1 926 v49 a2) fun σ50 => (g_k1 (f_X10_split_l3 a0 b13 x26 σ50 FU a2 σ50) fun σ53 => (g_k2 (f_X10_puts σ53 a0) fun v57 σ58 => some (x26, σ58)))))))))))))) else (g_k2 (f_X10_refuses σ14 (2 : Int32) (2 : Int32)) fun v61 σ62 => some (v61, σ62)))))))))))))
set_option maxRecDepth 100000 in
set_option maxHeartbeats 4000000 in
theorem w_X10_split_b1 {l : Launch} {Γ : gG} {ad : Nat → Nat} {N : Nat} {p : Program} {e : Env} {s : State} {m : MethodId} {args : Array Value} {below : List Frame} {meth : Method} {c : Code} (hN : 8 ≤ N) (X : gX celM Γ ad N RX10 cX10_split 12 (some .int) p s m args meth c) {a0 : Int32} {a1 : Int32} {a2 : Int32} {b12 : Int32} {b13 : Int32} {σ14 : gSt}  {r : Int32} {σ' : gSt} (hf : f_X10_split_b1 a0 a1 a2 b12 b13 σ14 = some (r, σ')) (H : Heap) (locs : List Loc) (ls : Array Slot) (S : gS celM Γ ad N σ14 s H locs) (hl : lv_has ls 12 [(5, .int b12), (4, .int b13), (0, .ref (ad 0)), (1, .int a0), (2, .int a1), (3, .int a2)]) : W p l e (gR 4 0 0) s m args below meth c H locs 0 0 (gQi celM Γ ad N r σ' below args s) (F0 m 94 ls []) := by
  have hx := X.1
  have hb := X.2.1
  unfold f_X10_split_b1 at hf
  refine lv_aload_n hx hb dX10_split_94 rfl (lv_at hl 2 rfl) ?_
  refine gfX10_7 X S hN dX10_split_95 ?_
  refine lv_iload hx hb dX10_split_98 (lv_at hl 1 rfl) ?_
  refine lv_iload_n hx hb dX10_split_100 rfl (lv_at hl 5 rfl) ?_
  obtain ⟨v15, hv15, hf⟩ := g_s1 hf
  refine g_ki S (g_runS (rest := []) X S (c_X10_isText l hN (by rfl : gma 1 = true) hv15 _) csX10_isText mlX10_144 rfl rfl hl.1 (by decide) ⟨⟨rfl, rfl⟩, ⟨Nat.le_of_ble_eq_true rfl, Nat.le_of_ble_eq_true rfl⟩, Nat.le_of_ble_eq_true rfl, Nat.le_of_ble_eq_true rfl⟩ dX10_split_101) (fun H locs S => ?_)
  refine lv_if_eq (tgt := 129) hx hb dX10_split_104 (by decide) (fun c16 => ?_) (fun c16 => ?_)
  · have hf := (if_pos c16).symm.trans hf
    refine lv_aload_n hx hb dX10_split_129 rfl (lv_at hl 2 rfl) ?_
    refine lv_iconst (v := (2 : Int32)) hx hb dX10_split_130 (by decide) ?_
    refine lv_iconst (v := (4 : Int32)) hx hb dX10_split_131 (by decide) ?_
    obtain ⟨v17, σ18, hv17, hf⟩ := g_s2 hf
    refine g_ki S (g_runV (rest := []) X S (c_X10_refuses l hN  hv17 _) cvX10_refuses mlX10_75 (by omega) (ceM_10 _) rfl rfl rfl hl.1 (by decide) ⟨⟨rfl, rfl⟩, ⟨Nat.le_of_ble_eq_true rfl, Nat.le_of_ble_eq_true rfl⟩, Nat.le_of_ble_eq_true rfl, Nat.le_of_ble_eq_true rfl⟩ dX10_split_132) (fun H locs S => ?_)
    cases hf
    exact g_reti X S rfl dX10_split_135
  · have hf := (if_neg c16).symm.trans hf
    refine lv_aload_n hx hb dX10_split_107 rfl (lv_at hl 2 rfl) ?_
    refine gfX10_7 X S hN dX10_split_108 ?_
    refine lv_iload hx hb dX10_split_111 (lv_at hl 1 rfl) ?_
    refine lv_iload_n hx hb dX10_split_113 rfl (lv_at hl 5 rfl) ?_
    refine lv_iadd hx hb dX10_split_114 ?_
    refine lv_iconst (v := (1 : Int32)) hx hb dX10_split_115 (by decide) ?_
    refine lv_iadd hx hb dX10_split_116 ?_
    refine lv_iload hx hb dX10_split_117 (lv_at hl 0 rfl) ?_
    refine lv_iload_n hx hb dX10_split_119 rfl (lv_at hl 5 rfl) ?_
    refine lv_isub hx hb dX10_split_120 ?_
    refine lv_iconst (v := (1 : Int32)) hx hb dX10_split_121 (by decide) ?_
    refine lv_isub hx hb dX10_split_122 ?_
    obtain ⟨v19, hv19, hf⟩ := g_s1 hf
    refine g_ki S (g_runS (rest := []) X S (c_X10_isText l hN (by rfl : gma 1 = true) hv19 _) csX10_isText mlX10_144 rfl rfl hl.1 (by decide) ⟨⟨rfl, rfl⟩, ⟨Nat.le_of_ble_eq_true rfl, Nat.le_of_ble_eq_true rfl⟩, Nat.le_of_ble_eq_true rfl, Nat.le_of_ble_eq_true rfl⟩ dX10_split_123) (fun H locs S => ?_)
    refine lv_if_ne (tgt := 136) hx hb dX10_split_126 (by decide) (fun c20 => ?_) (fun c20 => ?_)
    · have hf := (if_neg c20).symm.trans hf
      refine lv_iload_n hx hb dX10_split_136 rfl (lv_at hl 5 rfl) ?_
      refine lv_aload_n hx hb dX10_split_137 rfl (lv_at hl 2 rfl) ?_
      refine gfX10_7 X S hN dX10_split_138 ?_
      refine lv_iload hx hb dX10_split_141 (lv_at hl 1 rfl) ?_
      refine lv_iload_n hx hb dX10_split_143 rfl (lv_at hl 5 rfl) ?_
      obtain ⟨v21, hv21, hf⟩ := g_s1 hf
      refine g_ki S (g_runS (rest := [.int a2]) X S (c_X10_bars l hN (by rfl : gma 1 = true) hv21 _) csX10_bars mlX10_103 rfl rfl hl.1 (by decide) ⟨⟨rfl, rfl⟩, ⟨Nat.le_of_ble_eq_true rfl, Nat.le_of_ble_eq_true rfl⟩, Nat.le_of_ble_eq_true rfl, Nat.le_of_ble_eq_true rfl⟩ dX10_split_144) (fun H locs S => ?_)
      refine lv_isub hx hb dX10_split_147 ?_
      refine lv_istore (lv' := [(7, .int (a2 - v21)), (5, .int b12), (4, .int b13), (0, .ref (ad 0)), (1, .int a0), (2, .int a1), (3, .int a2)]) hx hb dX10_split_148 hl (by decide) rfl (fun ls hl => ?_)
      refine lv_iload hx hb dX10_split_150 (lv_at hl 1 rfl) ?_
      refine lv_iload_n hx hb dX10_split_152 rfl (lv_at hl 6 rfl) ?_
      refine lv_isub hx hb dX10_split_153 ?_
      refine lv_iconst (v := (1 : Int32)) hx hb dX10_split_154 (by decide) ?_
      refine lv_isub hx hb dX10_split_155 ?_
      refine lv_aload_n hx hb dX10_split_156 rfl (lv_at hl 3 rfl) ?_
      refine gfX10_7 X S hN dX10_split_157 ?_
      refine lv_iload hx hb dX10_split_160 (lv_at hl 2 rfl) ?_
      refine lv_iload_n hx hb dX10_split_162 rfl (lv_at hl 6 rfl) ?_
      refine lv_iadd hx hb dX10_split_163 ?_
      refine lv_iconst (v := (1 : Int32)) hx hb dX10_split_164 (by decide) ?_
      refine lv_iadd hx hb dX10_split_165 ?_
      refine lv_iload hx hb dX10_split_166 (lv_at hl 1 rfl) ?_
      refine lv_iload_n hx hb dX10_split_168 rfl (lv_at hl 6 rfl) ?_
      refine lv_isub hx hb dX10_split_169 ?_
      refine lv_iconst (v := (1 : Int32)) hx hb dX10_split_170 (by decide) ?_
      refine lv_isub hx hb dX10_split_171 ?_
      obtain ⟨v22, hv22, hf⟩ := g_s1 hf
      refine g_ki S (g_runS (rest := [.int ((b12 - a2) - (1 : Int32))]) X S (c_X10_bars l hN (by rfl : gma 1 = true) hv22 _) csX10_bars mlX10_103 rfl rfl hl.1 (by decide) ⟨⟨rfl, rfl⟩, ⟨Nat.le_of_ble_eq_true rfl, Nat.le_of_ble_eq_true rfl⟩, Nat.le_of_ble_eq_true rfl, Nat.le_of_ble_eq_true rfl⟩ dX10_split_172) (fun H locs S => ?_)
      refine lv_isub hx hb dX10_split_175 ?_
      refine lv_istore (lv' := [(8, .int (((b12 - a2) - (1 : Int32)) - v22)), (7, .int (a2 - v21)), (5, .int b12), (4, .int b13), (0, .ref (ad 0)), (1, .int a0), (2, .int a1), (3, .int a2)]) hx hb dX10_split_176 hl (by decide) rfl (fun ls hl => ?_)
      refine lv_aload_n hx hb dX10_split_178 rfl (lv_at hl 4 rfl) ?_
      refine lv_iload_n hx hb dX10_split_179 rfl (lv_at hl 5 rfl) ?_
      refine lv_iload_n hx hb dX10_split_180 rfl (lv_at hl 6 rfl) ?_
      obtain ⟨v23, hv23, hf⟩ := g_s1 hf
      refine g_ki S (g_runV (rest := []) X S (c_X10_end l hN  hv23 _) cvX10_end mlX10_71 (by omega) (ceM_10 _) rfl rfl rfl hl.1 (by decide) ⟨⟨rfl, rfl⟩, ⟨Nat.le_of_ble_eq_true rfl, Nat.le_of_ble_eq_true rfl⟩, Nat.le_of_ble_eq_true rfl, Nat.le_of_ble_eq_true rfl⟩ dX10_split_181) (fun H locs S => ?_)
      refine lv_aload_n hx hb dX10_split_184 rfl (lv_at hl 4 rfl) ?_
      refine lv_iload_n hx hb dX10_split_185 rfl (lv_at hl 5 rfl) ?_
      refine lv_iload_n hx hb dX10_split_186 rfl (lv_at hl 6 rfl) ?_
      obtain ⟨v24, hv24, hf⟩ := g_s1 hf
      refine g_ki S (g_runV (rest := [.int v23]) X S (c_X10_first l hN  hv24 _) cvX10_first mlX10_113 (by omega) (ceM_10 _) rfl rfl rfl hl.1 (by decide) ⟨⟨rfl, rfl⟩, ⟨Nat.le_of_ble_eq_true rfl, Nat.le_of_ble_eq_true rfl⟩, Nat.le_of_ble_eq_true rfl, Nat.le_of_ble_eq_true rfl⟩ dX10_split_187) (fun H locs S => ?_)
      refine lv_isub hx hb dX10_split_190 ?_
      refine lv_istore (lv' := [(9, .int (v23 - v24)), (8, .int (((b12 - a2) - (1 : Int32)) - v22)), (7, .int (a2 - v21)), (5, .int b12), (4, .int b13), (0, .ref (ad 0)), (1, .int a0), (2, .int a1), (3, .int a2)]) hx hb dX10_split_191 hl (by decide) rfl (fun ls hl => ?_)
      refine lv_iload hx hb dX10_split_193 (lv_at hl 0 rfl) ?_
      refine lv_iload hx hb dX10_split_195 (lv_at hl 2 rfl) ?_
      refine lv_imul hx hb dX10_split_197 ?_
      refine lv_iload hx hb dX10_split_198 (lv_at hl 2 rfl) ?_
      refine lv_iload hx hb dX10_split_200 (lv_at hl 1 rfl) ?_
      refine lv_iadd hx hb dX10_split_202 ?_
      obtain ⟨v25, hv25, hf⟩ := g_s1 hf
      obtain ⟨hzv25, rfl⟩ := gdiv_some hv25
      refine lv_idiv hx hb dX10_split_203 hzv25 ?_
      refine lv_istore (lv' := [(10, .int (((v23 - v24) * (a2 - v21)) / ((a2 - v21) + (((b12 - a2) - (1 : Int32)) - v22)))), (9, .int (v23 - v24)), (8, .int (((b12 - a2) - (1 : Int32)) - v22)), (7, .int (a2 - v21)), (5, .int b12), (4, .int b13), (0, .ref (ad 0)), (1, .int a0), (2, .int a1), (3, .int a2)]) hx hb dX10_split_204 hl (by decide) rfl (fun ls hl => ?_)
      refine lv_iload hx hb dX10_split_206 (lv_at hl 0 rfl) ?_
      refine lv_iconst (v := (1 : Int32)) hx hb dX10_split_208 (by decide) ?_
      obtain ⟨x26, hr27, hf⟩ := g_s1 hf
      have J28 : ∀ (H : Heap) (locs : List Loc) (ls : Array Slot), gS celM Γ ad N σ14 s H locs → lv_has ls 12 [(9, .int (v23 - v24)), (5, .int b12), (4, .int b13), (0, .ref (ad 0)), (1, .int a0), (2, .int a1), (3, .int a2)] → W p l e (gR 4 0 0) s m args below meth c H locs 0 0 (gQi celM Γ ad N r σ' below args s) (F0 m 218 ls [.int x26]) := by
        intro H locs ls S hl
        refine lv_istore (lv' := [(10, .int x26), (9, .int (v23 - v24)), (5, .int b12), (4, .int b13), (0, .ref (ad 0)), (1, .int a0), (2, .int a1), (3, .int a2)]) hx hb dX10_split_218 hl (by decide) rfl (fun ls hl => ?_)
        refine lv_iload hx hb dX10_split_220 (lv_at hl 0 rfl) ?_
        refine lv_iload hx hb dX10_split_222 (lv_at hl 1 rfl) ?_
        refine lv_icmp_lt (tgt := 234) hx hb dX10_split_224 (by decide) (fun c29 => ?_) (fun c29 => ?_)
        · have hf := (if_pos c29).symm.trans hf
          refine lv_aload_n hx hb dX10_split_234 rfl (lv_at hl 4 rfl) ?_
          refine gfX10_7 X S hN dX10_split_235 ?_
          refine lv_bipush (v := (28 : Int32)) hx hb dX10_split_238 (by decide) ?_
          refine lv_iload_n hx hb dX10_split_240 rfl (lv_at hl 5 rfl) ?_
          refine lv_iadd hx hb dX10_split_241 ?_
          obtain ⟨v30, hv30, hf⟩ := g_s1 hf
          refine g_iald X S (by omega) (ceM_a (rfl : gma 1 = true)) hv30 dX10_split_242 ?_
          refine lv_bipush (v := (16 : Int32)) hx hb dX10_split_243 (by decide) ?_
          refine lv_icmp_ne (tgt := 256) hx hb dX10_split_245 (by decide) (fun c31 => ?_) (fun c31 => ?_)
          · have hf := (if_neg c31).symm.trans hf
            refine lv_aload_n hx hb dX10_split_256 rfl (lv_at hl 4 rfl) ?_
            refine lv_aload_n hx hb dX10_split_257 rfl (lv_at hl 4 rfl) ?_
            refine gfX10_7 X S hN dX10_split_258 ?_
            obtain ⟨σ32, hσ32, hf⟩ := g_s1 hf
            refine g_kv S (g_runV (rest := []) X S (c_X10_changes l hN (by rfl : gma 1 = true) hσ32 _) cvX10_changes mlX10_78 (by omega) (ceM_10 _) rfl rfl rfl hl.1 (by decide) ⟨⟨rfl, rfl⟩, ⟨Nat.le_of_ble_eq_true rfl, Nat.le_of_ble_eq_true rfl⟩, Nat.le_of_ble_eq_true rfl, Nat.le_of_ble_eq_true rfl⟩ dX10_split_261) (fun H locs S => ?_)
            refine lv_aload_n hx hb dX10_split_264 rfl (lv_at hl 4 rfl) ?_
            refine lv_iload_n hx hb dX10_split_265 rfl (lv_at hl 5 rfl) ?_
            refine lv_iload_n hx hb dX10_split_266 rfl (lv_at hl 6 rfl) ?_
            obtain ⟨σ33, hσ33, hf⟩ := g_s1 hf
            refine g_kv S (g_runV (rest := []) X S (c_X10_owns l hN  hσ33 _) cvX10_owns mlX10_166 (by omega) (ceM_10 _) rfl rfl rfl hl.1 (by decide) ⟨⟨rfl, rfl⟩, ⟨Nat.le_of_ble_eq_true rfl, Nat.le_of_ble_eq_true rfl⟩, Nat.le_of_ble_eq_true rfl, Nat.le_of_ble_eq_true rfl⟩ dX10_split_267) (fun H locs S => ?_)
            refine lv_aload_n hx hb dX10_split_270 rfl (lv_at hl 4 rfl) ?_
            refine gfX10_22 X S hN dX10_split_271 ?_
            refine lv_iconst (v := (0 : Int32)) hx hb dX10_split_274 (by decide) ?_
            refine lv_dup2_11 hx hb dX10_split_275 rfl rfl ?_
            refine g_ialdC X S (by omega) (ceM_a (rfl : gma 5 = true)) 0 (by decide) (by decide) dX10_split_276 ?_
            refine lv_iload hx hb dX10_split_277 (lv_at hl 0 rfl) ?_
            refine lv_iadd hx hb dX10_split_279 ?_
            obtain ⟨σ34, hσ34, hf⟩ := g_s1 hf
            refine g_iastC X S (by omega) (ceM_a (rfl : gma 5 = true)) 0 (by decide) (by decide) hσ34 dX10_split_280 (fun H locs S => ?_)
            refine lv_aload_n hx hb dX10_split_281 rfl (lv_at hl 4 rfl) ?_
            refine gfX10_22 X S hN dX10_split_282 ?_
            refine lv_iconst (v := (3 : Int32)) hx hb dX10_split_285 (by decide) ?_
            refine lv_iload hx hb dX10_split_286 (lv_at hl 2 rfl) ?_
            refine lv_iload_n hx hb dX10_split_288 rfl (lv_at hl 7 rfl) ?_
            refine lv_isub hx hb dX10_split_289 ?_
            refine lv_iconst (v := (1 : Int32)) hx hb dX10_split_290 (by decide) ?_
            refine lv_isub hx hb dX10_split_291 ?_
            obtain ⟨σ35, hσ35, hf⟩ := g_s1 hf
            refine g_iastC X S (by omega) (ceM_a (rfl : gma 5 = true)) 3 (by decide) (by decide) hσ35 dX10_split_292 (fun H locs S => ?_)
            refine lv_iconst (v := (0 : Int32)) hx hb dX10_split_293 (by decide) ?_
            refine lv_istore (lv' := [(11, .int (0 : Int32)), (10, .int x26), (9, .int (v23 - v24)), (5, .int b12), (4, .int b13), (0, .ref (ad 0)), (1, .int a0), (2, .int a1), (3, .int a2)]) hx hb dX10_split_294 hl (by decide) rfl (fun ls hl => ?_)
            obtain ⟨σ38, hr46, hf⟩ := g_s1 hf
            refine w_X10_split_l2 hN X  FU _ _ _  hr46 (fun H locs ls S hl => ?_) _ _ _ S (lv_sub hl [0, 1, 2, 3, 4, 5, 6] rfl)
            refine lv_aload_n hx hb dX10_split_347 rfl (lv_at hl 2 rfl) ?_
            refine gfX10_7 X S hN dX10_split_348 ?_
            refine lv_iload_n hx hb dX10_split_351 rfl (lv_at hl 3 rfl) ?_
            refine lv_iload_n hx hb dX10_split_352 rfl (lv_at hl 4 rfl) ?_
            refine lv_iconst (v := (1 : Int32)) hx hb dX10_split_353 (by decide) ?_
            obtain ⟨v47, hv47, hf⟩ := g_s1 hf
            refine g_ki S (g_runS (rest := [.ref (ad 1)]) X S (c_X10_at l hN  hv47 _) csX10_at mlX10_56 rfl rfl hl.1 (by decide) ⟨⟨rfl, rfl⟩, ⟨Nat.le_of_ble_eq_true rfl, Nat.le_of_ble_eq_true rfl⟩, Nat.le_of_ble_eq_true rfl, Nat.le_of_ble_eq_true rfl⟩ dX10_split_354) (fun H locs S => ?_)
            refine lv_aload_n hx hb dX10_split_357 rfl (lv_at hl 2 rfl) ?_
            refine gfX10_22 X S hN dX10_split_358 ?_
            refine lv_iconst (v := (0 : Int32)) hx hb dX10_split_361 (by decide) ?_
            refine g_ialdC X S (by omega) (ceM_a (rfl : gma 5 = true)) 0 (by decide) (by decide) dX10_split_362 ?_
            obtain ⟨σ48, hσ48, hf⟩ := g_s1 hf
            refine g_iast X S (by omega) (ceM_a (rfl : gma 1 = true)) hσ48 dX10_split_363 (fun H locs S => ?_)
            refine lv_aload_n hx hb dX10_split_364 rfl (lv_at hl 2 rfl) ?_
            refine gfX10_7 X S hN dX10_split_365 ?_
            refine lv_iload_n hx hb dX10_split_368 rfl (lv_at hl 3 rfl) ?_
            refine lv_iload_n hx hb dX10_split_369 rfl (lv_at hl 4 rfl) ?_
            refine lv_iconst (v := (3 : Int32)) hx hb dX10_split_370 (by decide) ?_
            obtain ⟨v49, hv49, hf⟩ := g_s1 hf
            refine g_ki S (g_runS (rest := [.ref (ad 1)]) X S (c_X10_at l hN  hv49 _) csX10_at mlX10_56 rfl rfl hl.1 (by decide) ⟨⟨rfl, rfl⟩, ⟨Nat.le_of_ble_eq_true rfl, Nat.le_of_ble_eq_true rfl⟩, Nat.le_of_ble_eq_true rfl, Nat.le_of_ble_eq_true rfl⟩ dX10_split_371) (fun H locs S => ?_)
            refine lv_iload_n hx hb dX10_split_374 rfl (lv_at hl 5 rfl) ?_
            obtain ⟨σ50, hσ50, hf⟩ := g_s1 hf
            refine g_iast X S (by omega) (ceM_a (rfl : gma 1 = true)) hσ50 dX10_split_375 (fun H locs S => ?_)
            refine lv_iload_n hx hb dX10_split_376 rfl (lv_at hl 5 rfl) ?_
            refine lv_istore (lv' := [(11, .int a2), (10, .int x26), (4, .int b13), (0, .ref (ad 0)), (1, .int a0), (2, .int a1), (3, .int a2)]) hx hb dX10_split_377 hl (by decide) rfl (fun ls hl => ?_)
            obtain ⟨σ53, hr56, hf⟩ := g_s1 hf
            refine w_X10_split_l3 hN X  FU _ _ _  hr56 (fun H locs ls S hl => ?_) _ _ _ S (lv_sub hl [0, 1, 2, 3, 4] rfl)
            refine lv_aload_n hx hb dX10_split_403 rfl (lv_at hl 1 rfl) ?_
            refine lv_iload_n hx hb dX10_split_404 rfl (lv_at hl 2 rfl) ?_
            obtain ⟨v57, σ58, hv57, hf⟩ := g_s2 hf
            refine g_ki S (g_runV (rest := []) X S (c_X10_puts l hN  hv57 _) cvX10_puts mlX10_148 (by omega) (ceM_10 _) rfl rfl rfl hl.1 (by decide) ⟨⟨rfl, rfl⟩, ⟨Nat.le_of_ble_eq_true rfl, Nat.le_of_ble_eq_true rfl⟩, Nat.le_of_ble_eq_true rfl, Nat.le_of_ble_eq_true rfl⟩ dX10_split_405) (fun H locs S => ?_)
            refine lv_pop hx hb dX10_split_408 rfl ?_
            refine lv_iload hx hb dX10_split_409 (lv_at hl 0 rfl) ?_
            cases hf
            exact g_reti X S rfl dX10_split_411
          · have hf := (if_pos c31).symm.trans hf
            refine lv_aload_n hx hb dX10_split_248 rfl (lv_at hl 4 rfl) ?_
            refine lv_iconst (v := (2 : Int32)) hx hb dX10_split_249 (by decide) ?_
            refine lv_bipush (v := (8 : Int32)) hx hb dX10_split_250 (by decide) ?_
            obtain ⟨v59, σ60, hv59, hf⟩ := g_s2 hf
            refine g_ki S (g_runV (rest := []) X S (c_X10_refuses l hN  hv59 _) cvX10_refuses mlX10_75 (by omega) (ceM_10 _) rfl rfl rfl hl.1 (by decide) ⟨⟨rfl, rfl⟩, ⟨Nat.le_of_ble_eq_true rfl, Nat.le_of_ble_eq_true rfl⟩, Nat.le_of_ble_eq_true rfl, Nat.le_of_ble_eq_true rfl⟩ dX10_split_252) (fun H locs S => ?_)
            cases hf
            exact g_reti X S rfl dX10_split_255
        · have hf := (if_neg c29).symm.trans hf
          refine lv_aload_n hx hb dX10_split_227 rfl (lv_at hl 4 rfl) ?_
          refine lv_iconst (v := (2 : Int32)) hx hb dX10_split_228 (by decide) ?_
          refine lv_iconst (v := (2 : Int32)) hx hb dX10_split_229 (by decide) ?_
          obtain ⟨v61, σ62, hv61, hf⟩ := g_s2 hf
          refine g_ki S (g_runV (rest := []) X S (c_X10_refuses l hN  hv61 _) cvX10_refuses mlX10_75 (by omega) (ceM_10 _) rfl rfl rfl hl.1 (by decide) ⟨⟨rfl, rfl⟩, ⟨Nat.le_of_ble_eq_true rfl, Nat.le_of_ble_eq_true rfl⟩, Nat.le_of_ble_eq_true rfl, Nat.le_of_ble_eq_true rfl⟩ dX10_split_230) (fun H locs S => ?_)
          cases hf
          exact g_reti X S rfl dX10_split_233
      replace hf := hr27
      refine lv_icmp_ge (tgt := 216) hx hb dX10_split_209 (by decide) (fun c63 => ?_) (fun c63 => ?_)
      · have hf := (if_pos c63).symm.trans hf
        refine lv_iload hx hb dX10_split_216 (lv_at hl 0 rfl) ?_
        cases hf
        exact J28 _ _ _ S (lv_sub hl [1, 4, 5, 6, 7, 8, 9] rfl)
      · have hf := (if_neg c63).symm.trans hf
        refine lv_iconst (v := (1 : Int32)) hx hb dX10_split_212 (by decide) ?_
        refine lv_goto (tgt := 218) hx hb dX10_split_213 (by decide) ?_
        cases hf
        exact J28 _ _ _ S (lv_sub hl [1, 4, 5, 6, 7, 8, 9] rfl)
    · have hf := (if_pos c20).symm.trans hf
      refine lv_aload_n hx hb dX10_split_129 rfl (lv_at hl 2 rfl) ?_
      refine lv_iconst (v := (2 : Int32)) hx hb dX10_split_130 (by decide) ?_
      refine lv_iconst (v := (4 : Int32)) hx hb dX10_split_131 (by decide) ?_
      obtain ⟨v64, σ65, hv64, hf⟩ := g_s2 hf
      refine g_ki S (g_runV (rest := []) X S (c_X10_refuses l hN  hv64 _) cvX10_refuses mlX10_75 (by omega) (ceM_10 _) rfl rfl rfl hl.1 (by decide) ⟨⟨rfl, rfl⟩, ⟨Nat.le_of_ble_eq_true rfl, Nat.le_of_ble_eq_true rfl⟩, Nat.le_of_ble_eq_true rfl, Nat.le_of_ble_eq_true rfl⟩ dX10_split_132) (fun H locs S => ?_)
      cases hf
      exact g_reti X S rfl dX10_split_135
noncomputable def f_X10_split (σ : gSt) (a0 : Int32) (a1 : Int32) (a2 : Int32) : Option (Int32 × gSt) :=
  (g_k1 (f_X10_isCaption σ a0 a1) fun v1 => (g_k1 (if v1 = 0 then some (1 : Int32) else (g_k1 (f_X10_at σ a0 a1 (3 : Int32)) fun v70 => (g_k1 (gald σ 1 926 v70) fun v71 => (g_k1 (f_X10_in σ a2 (0 : Int32) (v71 - (1 : Int32))) fun v72 => (if v72 = 0 then some (1 : Int32) else some (0 : Int32)))))) fun x2 => (g_k1 (gset σ 0 10 x2) fun σ5 => (if (σ5 0 10) ≤ 0 then (g_k1 (f_X10_at σ5 a0 a1 (4 : Int32)) fun v7 => (g_k1 (f_X10_at σ5 a0 a1 (3 : Int32)) fun v8 => (g_k1 (gald σ5 1 926 v8) fun v9 => (g_k1 (gald σ5 1 926 (v7 + a2)) fun v10 => (if v10 = (95 : Int32) then (f_X10_split_b1 a0 a1 a2 v9 v7 σ5) else (if v10 = (124 : Int32) then (f_X10_split_b1 a0 a1 a2 v9 v7 σ5) else (g_k2 (f_X10_refuses σ5 (2 : Int32) (4 : Int32)) fun v67 σ68 => some (v67, σ68)))))))) else some ((0 : Int32), σ5)))))
set_option maxRecDepth 100000 in
set_option maxHeartbeats 4000000 in
theorem c_X10_split (l : Launch) {Γ : gG} {ad : Nat → Nat} {N : Nat} (hN : 8 ≤ N) {σ : gSt} {a0 : Int32} {a1 : Int32} {a2 : Int32}  {r : Int32} {σ' : gSt} (hf : f_X10_split σ a0 a1 a2 = some (r, σ')) : gMi l celM Γ ad N yX10_split cX10_split 12 (some .int) (gR 4 0 0) [.ref (ad 0), .int a0, .int a1, .int a2] σ r σ' := by
  intro sz
  refine gOf (Qc := fun sz => gQci celM Γ ad N r σ' sz) RX10 (by decide) rfl (by decide) (fun p e s m args below meth c H locs ls X S hl => ?_)
  have hl : lv_has ls 12 [(0, .ref (ad 0)), (1, .int a0), (2, .int a1), (3, .int a2)] := hl
  have hx := X.1
  have hb := X.2.1
  unfold f_X10_split at hf
  refine lv_aload_n hx hb dX10_split_0 rfl (lv_at hl 0 rfl) ?_
  refine lv_aload_n hx hb dX10_split_1 rfl (lv_at hl 0 rfl) ?_
  refine lv_iload_n hx hb dX10_split_2 rfl (lv_at hl 1 rfl) ?_
  refine lv_iload_n hx hb dX10_split_3 rfl (lv_at hl 2 rfl) ?_
  obtain ⟨v1, hv1, hf⟩ := g_s1 hf
  refine g_ki S (g_runV (rest := [.ref (ad 0)]) X S (c_X10_isCaption l hN  hv1 _) cvX10_isCaption mlX10_159 (by omega) (ceM_10 _) rfl rfl rfl hl.1 (by decide) ⟨⟨rfl, rfl⟩, ⟨Nat.le_of_ble_eq_true rfl, Nat.le_of_ble_eq_true rfl⟩, Nat.le_of_ble_eq_true rfl, Nat.le_of_ble_eq_true rfl⟩ dX10_split_4) (fun H locs S => ?_)
  obtain ⟨x2, hr3, hf⟩ := g_s1 hf
  have J4 : ∀ (H : Heap) (locs : List Loc) (ls : Array Slot), gS celM Γ ad N σ s H locs → lv_has ls 12 [(0, .ref (ad 0)), (1, .int a0), (2, .int a1), (3, .int a2)] → W p l e (gR 4 0 0) s m args below meth c H locs 0 0 (gQi celM Γ ad N r σ' below args s) (F0 m 36 ls [.int x2, .ref (ad 0)]) := by
    intro H locs ls S hl
    obtain ⟨σ5, hσ5, hf⟩ := g_s1 hf
    refine pfX10_35 X S hN hσ5 dX10_split_36 (fun H locs S => ?_)
    refine lv_aload_n hx hb dX10_split_39 rfl (lv_at hl 0 rfl) ?_
    refine gfX10_35 X S hN dX10_split_40 ?_
    refine lv_if_le (tgt := 48) hx hb dX10_split_43 (by decide) (fun c6 => ?_) (fun c6 => ?_)
    · have hf := (if_pos c6).symm.trans hf
      refine lv_iload_n hx hb dX10_split_48 rfl (lv_at hl 1 rfl) ?_
      refine lv_iload_n hx hb dX10_split_49 rfl (lv_at hl 2 rfl) ?_
      refine lv_iconst (v := (4 : Int32)) hx hb dX10_split_50 (by decide) ?_
      obtain ⟨v7, hv7, hf⟩ := g_s1 hf
      refine g_ki S (g_runS (rest := []) X S (c_X10_at l hN  hv7 _) csX10_at mlX10_56 rfl rfl hl.1 (by decide) ⟨⟨rfl, rfl⟩, ⟨Nat.le_of_ble_eq_true rfl, Nat.le_of_ble_eq_true rfl⟩, Nat.le_of_ble_eq_true rfl, Nat.le_of_ble_eq_true rfl⟩ dX10_split_51) (fun H locs S => ?_)
      refine lv_istore (lv' := [(4, .int v7), (0, .ref (ad 0)), (1, .int a0), (2, .int a1), (3, .int a2)]) hx hb dX10_split_54 hl (by decide) rfl (fun ls hl => ?_)
      refine lv_aload_n hx hb dX10_split_56 rfl (lv_at hl 1 rfl) ?_
      refine gfX10_7 X S hN dX10_split_57 ?_
      refine lv_iload_n hx hb dX10_split_60 rfl (lv_at hl 2 rfl) ?_
      refine lv_iload_n hx hb dX10_split_61 rfl (lv_at hl 3 rfl) ?_
      refine lv_iconst (v := (3 : Int32)) hx hb dX10_split_62 (by decide) ?_
      obtain ⟨v8, hv8, hf⟩ := g_s1 hf
      refine g_ki S (g_runS (rest := [.ref (ad 1)]) X S (c_X10_at l hN  hv8 _) csX10_at mlX10_56 rfl rfl hl.1 (by decide) ⟨⟨rfl, rfl⟩, ⟨Nat.le_of_ble_eq_true rfl, Nat.le_of_ble_eq_true rfl⟩, Nat.le_of_ble_eq_true rfl, Nat.le_of_ble_eq_true rfl⟩ dX10_split_63) (fun H locs S => ?_)
      obtain ⟨v9, hv9, hf⟩ := g_s1 hf
      refine g_iald X S (by omega) (ceM_a (rfl : gma 1 = true)) hv9 dX10_split_66 ?_
      refine lv_istore (lv' := [(5, .int v9), (4, .int v7), (0, .ref (ad 0)), (1, .int a0), (2, .int a1), (3, .int a2)]) hx hb dX10_split_67 hl (by decide) rfl (fun ls hl => ?_)
      refine lv_aload_n hx hb dX10_split_69 rfl (lv_at hl 2 rfl) ?_
      refine gfX10_7 X S hN dX10_split_70 ?_
      refine lv_iload hx hb dX10_split_73 (lv_at hl 1 rfl) ?_
      refine lv_iload_n hx hb dX10_split_75 rfl (lv_at hl 5 rfl) ?_
      refine lv_iadd hx hb dX10_split_76 ?_
      obtain ⟨v10, hv10, hf⟩ := g_s1 hf
      refine g_iald X S (by omega) (ceM_a (rfl : gma 1 = true)) hv10 dX10_split_77 ?_
      refine lv_istore (lv' := [(6, .int v10), (5, .int v9), (4, .int v7), (0, .ref (ad 0)), (1, .int a0), (2, .int a1), (3, .int a2)]) hx hb dX10_split_78 hl (by decide) rfl (fun ls hl => ?_)
      refine lv_iload hx hb dX10_split_80 (lv_at hl 0 rfl) ?_
      refine lv_bipush (v := (95 : Int32)) hx hb dX10_split_82 (by decide) ?_
      refine lv_icmp_eq (tgt := 94) hx hb dX10_split_84 (by decide) (fun c11 => ?_) (fun c11 => ?_)
      · have hf := (if_pos c11).symm.trans hf
        exact w_X10_split_b1 hN X  hf _ _ _ S (lv_sub hl [0, 1, 2, 3, 4, 5] rfl)
      · have hf := (if_neg c11).symm.trans hf
        refine lv_iload hx hb dX10_split_87 (lv_at hl 0 rfl) ?_
        refine lv_bipush (v := (124 : Int32)) hx hb dX10_split_89 (by decide) ?_
        refine lv_icmp_ne (tgt := 129) hx hb dX10_split_91 (by decide) (fun c66 => ?_) (fun c66 => ?_)
        · have hf := (if_neg c66).symm.trans hf
          refine lv_aload_n hx hb dX10_split_129 rfl (lv_at hl 3 rfl) ?_
          refine lv_iconst (v := (2 : Int32)) hx hb dX10_split_130 (by decide) ?_
          refine lv_iconst (v := (4 : Int32)) hx hb dX10_split_131 (by decide) ?_
          obtain ⟨v67, σ68, hv67, hf⟩ := g_s2 hf
          refine g_ki S (g_runV (rest := []) X S (c_X10_refuses l hN  hv67 _) cvX10_refuses mlX10_75 (by omega) (ceM_10 _) rfl rfl rfl hl.1 (by decide) ⟨⟨rfl, rfl⟩, ⟨Nat.le_of_ble_eq_true rfl, Nat.le_of_ble_eq_true rfl⟩, Nat.le_of_ble_eq_true rfl, Nat.le_of_ble_eq_true rfl⟩ dX10_split_132) (fun H locs S => ?_)
          cases hf
          exact g_reti X S rfl dX10_split_135
        · have hf := (if_pos c66).symm.trans hf
          exact w_X10_split_b1 hN X  hf _ _ _ S (lv_sub hl [0, 1, 2, 3, 4, 5] rfl)
    · have hf := (if_neg c6).symm.trans hf
      refine lv_iconst (v := (0 : Int32)) hx hb dX10_split_46 (by decide) ?_
      cases hf
      exact g_reti X S rfl dX10_split_47
  replace hf := hr3
  refine lv_if_eq (tgt := 35) hx hb dX10_split_7 (by decide) (fun c69 => ?_) (fun c69 => ?_)
  · have hf := (if_pos c69).symm.trans hf
    refine lv_iconst (v := (1 : Int32)) hx hb dX10_split_35 (by decide) ?_
    cases hf
    exact J4 _ _ _ S (lv_sub hl [0, 1, 2, 3] rfl)
  · have hf := (if_neg c69).symm.trans hf
    refine lv_iload_n hx hb dX10_split_10 rfl (lv_at hl 3 rfl) ?_
    refine lv_iconst (v := (0 : Int32)) hx hb dX10_split_11 (by decide) ?_
    refine lv_aload_n hx hb dX10_split_12 rfl (lv_at hl 0 rfl) ?_
    refine gfX10_7 X S hN dX10_split_13 ?_
    refine lv_iload_n hx hb dX10_split_16 rfl (lv_at hl 1 rfl) ?_
    refine lv_iload_n hx hb dX10_split_17 rfl (lv_at hl 2 rfl) ?_
    refine lv_iconst (v := (3 : Int32)) hx hb dX10_split_18 (by decide) ?_
    obtain ⟨v70, hv70, hf⟩ := g_s1 hf
    refine g_ki S (g_runS (rest := [.ref (ad 1), .int (0 : Int32), .int a2, .ref (ad 0)]) X S (c_X10_at l hN  hv70 _) csX10_at mlX10_56 rfl rfl hl.1 (by decide) ⟨⟨rfl, rfl⟩, ⟨Nat.le_of_ble_eq_true rfl, Nat.le_of_ble_eq_true rfl⟩, Nat.le_of_ble_eq_true rfl, Nat.le_of_ble_eq_true rfl⟩ dX10_split_19) (fun H locs S => ?_)
    obtain ⟨v71, hv71, hf⟩ := g_s1 hf
    refine g_iald X S (by omega) (ceM_a (rfl : gma 1 = true)) hv71 dX10_split_22 ?_
    refine lv_iconst (v := (1 : Int32)) hx hb dX10_split_23 (by decide) ?_
    refine lv_isub hx hb dX10_split_24 ?_
    obtain ⟨v72, hv72, hf⟩ := g_s1 hf
    refine g_ki S (g_runS (rest := [.ref (ad 0)]) X S (c_X10_in l hN  hv72 _) csX10_in mlX10_48 rfl rfl hl.1 (by decide) ⟨⟨rfl, rfl⟩, ⟨Nat.le_of_ble_eq_true rfl, Nat.le_of_ble_eq_true rfl⟩, Nat.le_of_ble_eq_true rfl, Nat.le_of_ble_eq_true rfl⟩ dX10_split_25) (fun H locs S => ?_)
    refine lv_if_eq (tgt := 35) hx hb dX10_split_28 (by decide) (fun c73 => ?_) (fun c73 => ?_)
    · have hf := (if_pos c73).symm.trans hf
      refine lv_iconst (v := (1 : Int32)) hx hb dX10_split_35 (by decide) ?_
      cases hf
      exact J4 _ _ _ S (lv_sub hl [0, 1, 2, 3] rfl)
    · have hf := (if_neg c73).symm.trans hf
      refine lv_iconst (v := (0 : Int32)) hx hb dX10_split_31 (by decide) ?_
      refine lv_goto (tgt := 36) hx hb dX10_split_32 (by decide) ?_
      cases hf
      exact J4 _ _ _ S (lv_sub hl [0, 1, 2, 3] rfl)

noncomputable def f_X10_againstMerge (σ : gSt) (a0 : Int32) (a1 : Int32) : Option (Int32) :=
  (g_k1 (gald σ 1 926 ((28 : Int32) + a0)) fun v1 => (if (a1 + (1 : Int32)) = v1 then some (5 : Int32) else (g_k1 (f_X10_at σ a0 a1 (2 : Int32)) fun v3 => (g_k1 (gald σ 1 926 v3) fun v4 => (g_k1 (f_X10_at σ a0 (a1 + (1 : Int32)) (2 : Int32)) fun v5 => (g_k1 (gald σ 1 926 v5) fun v6 => (if v4 = v6 then (g_k1 (f_X10_before σ a0 (a1 + (1 : Int32))) fun v8 => (if v8 ≤ (σ 1 4) then (g_k1 (f_X10_at σ a0 a1 (3 : Int32)) fun v10 => (g_k1 (gald σ 1 926 v10) fun v11 => (g_k1 (f_X10_at σ a0 (a1 + (1 : Int32)) (3 : Int32)) fun v12 => (g_k1 (gald σ 1 926 v12) fun v13 => (g_k1 (if (24 : Int32) < ((v11 + v13) + (1 : Int32)) then some (4 : Int32) else (g_k1 (f_X10_at σ a0 a1 (4 : Int32)) fun v18 => (g_k1 (f_X10_bars σ 1 v18 v11) fun v19 => (g_k1 (f_X10_at σ a0 (a1 + (1 : Int32)) (4 : Int32)) fun v20 => (g_k1 (f_X10_bars σ 1 v20 v13) fun v21 => (if (v19 + v21) ≤ (1 : Int32) then some (0 : Int32) else some (4 : Int32))))))) fun x14 => some x14))))) else some (7 : Int32))) else some (6 : Int32))))))))
set_option maxRecDepth 100000 in
set_option maxHeartbeats 4000000 in
theorem c_X10_againstMerge (l : Launch) {Γ : gG} {ad : Nat → Nat} {N : Nat} (hN : 8 ≤ N) {σ : gSt} {a0 : Int32} {a1 : Int32}  {r : Int32} (hf : f_X10_againstMerge σ a0 a1 = some r) : gMi l celM Γ ad N yX10_againstMerge cX10_againstMerge 5 (some .int) (gR 4 0 0) [.ref (ad 0), .int a0, .int a1] σ r σ := by
  intro sz
  refine gOf (Qc := fun sz => gQci celM Γ ad N r σ sz) RX10 (by decide) rfl (by decide) (fun p e s m args below meth c H locs ls X S hl => ?_)
  have hl : lv_has ls 5 [(0, .ref (ad 0)), (1, .int a0), (2, .int a1)] := hl
  have hx := X.1
  have hb := X.2.1
  unfold f_X10_againstMerge at hf
  refine lv_iload_n hx hb dX10_againstMerge_0 rfl (lv_at hl 2 rfl) ?_
  refine lv_iconst (v := (1 : Int32)) hx hb dX10_againstMerge_1 (by decide) ?_
  refine lv_iadd hx hb dX10_againstMerge_2 ?_
  refine lv_aload_n hx hb dX10_againstMerge_3 rfl (lv_at hl 0 rfl) ?_
  refine gfX10_7 X S hN dX10_againstMerge_4 ?_
  refine lv_bipush (v := (28 : Int32)) hx hb dX10_againstMerge_7 (by decide) ?_
  refine lv_iload_n hx hb dX10_againstMerge_9 rfl (lv_at hl 1 rfl) ?_
  refine lv_iadd hx hb dX10_againstMerge_10 ?_
  obtain ⟨v1, hv1, hf⟩ := g_s1 hf
  refine g_iald X S (by omega) (ceM_a (rfl : gma 1 = true)) hv1 dX10_againstMerge_11 ?_
  refine lv_icmp_ne (tgt := 17) hx hb dX10_againstMerge_12 (by decide) (fun c2 => ?_) (fun c2 => ?_)
  · have hf := (if_neg c2).symm.trans hf
    refine lv_aload_n hx hb dX10_againstMerge_17 rfl (lv_at hl 0 rfl) ?_
    refine gfX10_7 X S hN dX10_againstMerge_18 ?_
    refine lv_iload_n hx hb dX10_againstMerge_21 rfl (lv_at hl 1 rfl) ?_
    refine lv_iload_n hx hb dX10_againstMerge_22 rfl (lv_at hl 2 rfl) ?_
    refine lv_iconst (v := (2 : Int32)) hx hb dX10_againstMerge_23 (by decide) ?_
    obtain ⟨v3, hv3, hf⟩ := g_s1 hf
    refine g_ki S (g_runS (rest := [.ref (ad 1)]) X S (c_X10_at l hN  hv3 _) csX10_at mlX10_56 rfl rfl hl.1 (by decide) ⟨⟨rfl, rfl⟩, ⟨Nat.le_of_ble_eq_true rfl, Nat.le_of_ble_eq_true rfl⟩, Nat.le_of_ble_eq_true rfl, Nat.le_of_ble_eq_true rfl⟩ dX10_againstMerge_24) (fun H locs S => ?_)
    obtain ⟨v4, hv4, hf⟩ := g_s1 hf
    refine g_iald X S (by omega) (ceM_a (rfl : gma 1 = true)) hv4 dX10_againstMerge_27 ?_
    refine lv_aload_n hx hb dX10_againstMerge_28 rfl (lv_at hl 0 rfl) ?_
    refine gfX10_7 X S hN dX10_againstMerge_29 ?_
    refine lv_iload_n hx hb dX10_againstMerge_32 rfl (lv_at hl 1 rfl) ?_
    refine lv_iload_n hx hb dX10_againstMerge_33 rfl (lv_at hl 2 rfl) ?_
    refine lv_iconst (v := (1 : Int32)) hx hb dX10_againstMerge_34 (by decide) ?_
    refine lv_iadd hx hb dX10_againstMerge_35 ?_
    refine lv_iconst (v := (2 : Int32)) hx hb dX10_againstMerge_36 (by decide) ?_
    obtain ⟨v5, hv5, hf⟩ := g_s1 hf
    refine g_ki S (g_runS (rest := [.ref (ad 1), .int v4]) X S (c_X10_at l hN  hv5 _) csX10_at mlX10_56 rfl rfl hl.1 (by decide) ⟨⟨rfl, rfl⟩, ⟨Nat.le_of_ble_eq_true rfl, Nat.le_of_ble_eq_true rfl⟩, Nat.le_of_ble_eq_true rfl, Nat.le_of_ble_eq_true rfl⟩ dX10_againstMerge_37) (fun H locs S => ?_)
    obtain ⟨v6, hv6, hf⟩ := g_s1 hf
    refine g_iald X S (by omega) (ceM_a (rfl : gma 1 = true)) hv6 dX10_againstMerge_40 ?_
    refine lv_icmp_eq (tgt := 47) hx hb dX10_againstMerge_41 (by decide) (fun c7 => ?_) (fun c7 => ?_)
    · have hf := (if_pos c7).symm.trans hf
      refine lv_aload_n hx hb dX10_againstMerge_47 rfl (lv_at hl 0 rfl) ?_
      refine lv_iload_n hx hb dX10_againstMerge_48 rfl (lv_at hl 1 rfl) ?_
      refine lv_iload_n hx hb dX10_againstMerge_49 rfl (lv_at hl 2 rfl) ?_
      refine lv_iconst (v := (1 : Int32)) hx hb dX10_againstMerge_50 (by decide) ?_
      refine lv_iadd hx hb dX10_againstMerge_51 ?_
      obtain ⟨v8, hv8, hf⟩ := g_s1 hf
      refine g_ki S (g_runV (rest := []) X S (c_X10_before l hN  hv8 _) cvX10_before mlX10_128 (by omega) (ceM_10 _) rfl rfl rfl hl.1 (by decide) ⟨⟨rfl, rfl⟩, ⟨Nat.le_of_ble_eq_true rfl, Nat.le_of_ble_eq_true rfl⟩, Nat.le_of_ble_eq_true rfl, Nat.le_of_ble_eq_true rfl⟩ dX10_againstMerge_52) (fun H locs S => ?_)
      refine lv_aload_n hx hb dX10_againstMerge_55 rfl (lv_at hl 0 rfl) ?_
      refine gfX10_7 X S hN dX10_againstMerge_56 ?_
      refine lv_iconst (v := (4 : Int32)) hx hb dX10_againstMerge_59 (by decide) ?_
      refine g_ialdC X S (by omega) (ceM_a (rfl : gma 1 = true)) 4 (by decide) (by decide) dX10_againstMerge_60 ?_
      refine lv_icmp_le (tgt := 67) hx hb dX10_againstMerge_61 (by decide) (fun c9 => ?_) (fun c9 => ?_)
      · have hf := (if_pos c9).symm.trans hf
        refine lv_aload_n hx hb dX10_againstMerge_67 rfl (lv_at hl 0 rfl) ?_
        refine gfX10_7 X S hN dX10_againstMerge_68 ?_
        refine lv_iload_n hx hb dX10_againstMerge_71 rfl (lv_at hl 1 rfl) ?_
        refine lv_iload_n hx hb dX10_againstMerge_72 rfl (lv_at hl 2 rfl) ?_
        refine lv_iconst (v := (3 : Int32)) hx hb dX10_againstMerge_73 (by decide) ?_
        obtain ⟨v10, hv10, hf⟩ := g_s1 hf
        refine g_ki S (g_runS (rest := [.ref (ad 1)]) X S (c_X10_at l hN  hv10 _) csX10_at mlX10_56 rfl rfl hl.1 (by decide) ⟨⟨rfl, rfl⟩, ⟨Nat.le_of_ble_eq_true rfl, Nat.le_of_ble_eq_true rfl⟩, Nat.le_of_ble_eq_true rfl, Nat.le_of_ble_eq_true rfl⟩ dX10_againstMerge_74) (fun H locs S => ?_)
        obtain ⟨v11, hv11, hf⟩ := g_s1 hf
        refine g_iald X S (by omega) (ceM_a (rfl : gma 1 = true)) hv11 dX10_againstMerge_77 ?_
        refine lv_istore_n (lv' := [(3, .int v11), (0, .ref (ad 0)), (1, .int a0), (2, .int a1)]) hx hb dX10_againstMerge_78 rfl hl (by decide) rfl (fun ls hl => ?_)
        refine lv_aload_n hx hb dX10_againstMerge_79 rfl (lv_at hl 1 rfl) ?_
        refine gfX10_7 X S hN dX10_againstMerge_80 ?_
        refine lv_iload_n hx hb dX10_againstMerge_83 rfl (lv_at hl 2 rfl) ?_
        refine lv_iload_n hx hb dX10_againstMerge_84 rfl (lv_at hl 3 rfl) ?_
        refine lv_iconst (v := (1 : Int32)) hx hb dX10_againstMerge_85 (by decide) ?_
        refine lv_iadd hx hb dX10_againstMerge_86 ?_
        refine lv_iconst (v := (3 : Int32)) hx hb dX10_againstMerge_87 (by decide) ?_
        obtain ⟨v12, hv12, hf⟩ := g_s1 hf
        refine g_ki S (g_runS (rest := [.ref (ad 1)]) X S (c_X10_at l hN  hv12 _) csX10_at mlX10_56 rfl rfl hl.1 (by decide) ⟨⟨rfl, rfl⟩, ⟨Nat.le_of_ble_eq_true rfl, Nat.le_of_ble_eq_true rfl⟩, Nat.le_of_ble_eq_true rfl, Nat.le_of_ble_eq_true rfl⟩ dX10_againstMerge_88) (fun H locs S => ?_)
        obtain ⟨v13, hv13, hf⟩ := g_s1 hf
        refine g_iald X S (by omega) (ceM_a (rfl : gma 1 = true)) hv13 dX10_againstMerge_91 ?_
        refine lv_istore (lv' := [(4, .int v13), (3, .int v11), (0, .ref (ad 0)), (1, .int a0), (2, .int a1)]) hx hb dX10_againstMerge_92 hl (by decide) rfl (fun ls hl => ?_)
        refine lv_iload_n hx hb dX10_againstMerge_94 rfl (lv_at hl 1 rfl) ?_
        refine lv_iload hx hb dX10_againstMerge_95 (lv_at hl 0 rfl) ?_
        refine lv_iadd hx hb dX10_againstMerge_97 ?_
        refine lv_iconst (v := (1 : Int32)) hx hb dX10_againstMerge_98 (by decide) ?_
        refine lv_iadd hx hb dX10_againstMerge_99 ?_
        refine lv_bipush (v := (24 : Int32)) hx hb dX10_againstMerge_100 (by decide) ?_
        obtain ⟨x14, hr15, hf⟩ := g_s1 hf
        have J16 : ∀ (H : Heap) (locs : List Loc) (ls : Array Slot), gS celM Γ ad N σ s H locs → lv_has ls 5 [] → W p l e (gR 4 0 0) s m args below meth c H locs 0 0 (gQi celM Γ ad N r σ below args s) (F0 m 146 ls [.int x14]) := by
          intro H locs ls S hl
          cases hf
          exact g_reti X S rfl dX10_againstMerge_146
        replace hf := hr15
        refine lv_icmp_gt (tgt := 141) hx hb dX10_againstMerge_102 (by decide) (fun c17 => ?_) (fun c17 => ?_)
        · have hf := (if_pos c17).symm.trans hf
          refine lv_iconst (v := (4 : Int32)) hx hb dX10_againstMerge_141 (by decide) ?_
          refine lv_goto (tgt := 146) hx hb dX10_againstMerge_142 (by decide) ?_
          cases hf
          exact J16 _ _ _ S (lv_sub hl [] rfl)
        · have hf := (if_neg c17).symm.trans hf
          refine lv_aload_n hx hb dX10_againstMerge_105 rfl (lv_at hl 2 rfl) ?_
          refine gfX10_7 X S hN dX10_againstMerge_106 ?_
          refine lv_iload_n hx hb dX10_againstMerge_109 rfl (lv_at hl 3 rfl) ?_
          refine lv_iload_n hx hb dX10_againstMerge_110 rfl (lv_at hl 4 rfl) ?_
          refine lv_iconst (v := (4 : Int32)) hx hb dX10_againstMerge_111 (by decide) ?_
          obtain ⟨v18, hv18, hf⟩ := g_s1 hf
          refine g_ki S (g_runS (rest := [.ref (ad 1)]) X S (c_X10_at l hN  hv18 _) csX10_at mlX10_56 rfl rfl hl.1 (by decide) ⟨⟨rfl, rfl⟩, ⟨Nat.le_of_ble_eq_true rfl, Nat.le_of_ble_eq_true rfl⟩, Nat.le_of_ble_eq_true rfl, Nat.le_of_ble_eq_true rfl⟩ dX10_againstMerge_112) (fun H locs S => ?_)
          refine lv_iload_n hx hb dX10_againstMerge_115 rfl (lv_at hl 1 rfl) ?_
          obtain ⟨v19, hv19, hf⟩ := g_s1 hf
          refine g_ki S (g_runS (rest := []) X S (c_X10_bars l hN (by rfl : gma 1 = true) hv19 _) csX10_bars mlX10_103 rfl rfl hl.1 (by decide) ⟨⟨rfl, rfl⟩, ⟨Nat.le_of_ble_eq_true rfl, Nat.le_of_ble_eq_true rfl⟩, Nat.le_of_ble_eq_true rfl, Nat.le_of_ble_eq_true rfl⟩ dX10_againstMerge_116) (fun H locs S => ?_)
          refine lv_aload_n hx hb dX10_againstMerge_119 rfl (lv_at hl 2 rfl) ?_
          refine gfX10_7 X S hN dX10_againstMerge_120 ?_
          refine lv_iload_n hx hb dX10_againstMerge_123 rfl (lv_at hl 3 rfl) ?_
          refine lv_iload_n hx hb dX10_againstMerge_124 rfl (lv_at hl 4 rfl) ?_
          refine lv_iconst (v := (1 : Int32)) hx hb dX10_againstMerge_125 (by decide) ?_
          refine lv_iadd hx hb dX10_againstMerge_126 ?_
          refine lv_iconst (v := (4 : Int32)) hx hb dX10_againstMerge_127 (by decide) ?_
          obtain ⟨v20, hv20, hf⟩ := g_s1 hf
          refine g_ki S (g_runS (rest := [.ref (ad 1), .int v19]) X S (c_X10_at l hN  hv20 _) csX10_at mlX10_56 rfl rfl hl.1 (by decide) ⟨⟨rfl, rfl⟩, ⟨Nat.le_of_ble_eq_true rfl, Nat.le_of_ble_eq_true rfl⟩, Nat.le_of_ble_eq_true rfl, Nat.le_of_ble_eq_true rfl⟩ dX10_againstMerge_128) (fun H locs S => ?_)
          refine lv_iload hx hb dX10_againstMerge_131 (lv_at hl 0 rfl) ?_
          obtain ⟨v21, hv21, hf⟩ := g_s1 hf
          refine g_ki S (g_runS (rest := [.int v19]) X S (c_X10_bars l hN (by rfl : gma 1 = true) hv21 _) csX10_bars mlX10_103 rfl rfl hl.1 (by decide) ⟨⟨rfl, rfl⟩, ⟨Nat.le_of_ble_eq_true rfl, Nat.le_of_ble_eq_true rfl⟩, Nat.le_of_ble_eq_true rfl, Nat.le_of_ble_eq_true rfl⟩ dX10_againstMerge_133) (fun H locs S => ?_)
          refine lv_iadd hx hb dX10_againstMerge_136 ?_
          refine lv_iconst (v := (1 : Int32)) hx hb dX10_againstMerge_137 (by decide) ?_
          refine lv_icmp_le (tgt := 145) hx hb dX10_againstMerge_138 (by decide) (fun c22 => ?_) (fun c22 => ?_)
          · have hf := (if_pos c22).symm.trans hf
            refine lv_iconst (v := (0 : Int32)) hx hb dX10_againstMerge_145 (by decide) ?_
            cases hf
            exact J16 _ _ _ S (lv_sub hl [] rfl)
          · have hf := (if_neg c22).symm.trans hf
            refine lv_iconst (v := (4 : Int32)) hx hb dX10_againstMerge_141 (by decide) ?_
            refine lv_goto (tgt := 146) hx hb dX10_againstMerge_142 (by decide) ?_
            cases hf
            exact J16 _ _ _ S (lv_sub hl [] rfl)
      · have hf := (if_neg c9).symm.trans hf
        refine lv_bipush (v := (7 : Int32)) hx hb dX10_againstMerge_64 (by decide) ?_
        cases hf
        exact g_reti X S rfl dX10_againstMerge_66
    · have hf := (if_neg c7).symm.trans hf
      refine lv_bipush (v := (6 : Int32)) hx hb dX10_againstMerge_44 (by decide) ?_
      cases hf
      exact g_reti X S rfl dX10_againstMerge_46
  · have hf := (if_pos c2).symm.trans hf
    refine lv_iconst (v := (5 : Int32)) hx hb dX10_againstMerge_15 (by decide) ?_
    cases hf
    exact g_reti X S rfl dX10_againstMerge_16

noncomputable def f_X10_merge_l1 (a0 : Int32) (a1 : Int32) (v11 : Int32) (v13 : Int32) (σ15 : gSt) : Nat → Int32 → gSt → Option (gSt)
  | 0, _, _ => none
  | n + 1, i16, σ17 => (if v13 ≤ i16 then some σ17 else (g_k1 (f_X10_at σ17 a0 a1 ((((4 : Int32) + v11) + (1 : Int32)) + i16)) fun v20 => (g_k1 (f_X10_at σ17 a0 (a1 + (1 : Int32)) ((4 : Int32) + i16)) fun v21 => (g_k1 (gald σ17 1 926 v21) fun v22 => (g_k1 (gast σ17 1 926 v20 v22) fun σ23 => (f_X10_merge_l1 a0 a1 v11 v13 σ15 n (i16 + 1) σ23))))))
set_option maxRecDepth 100000 in
set_option maxHeartbeats 4000000 in
theorem w_X10_merge_l1 {l : Launch} {Γ : gG} {ad : Nat → Nat} {N : Nat} {p : Program} {e : Env} {s : State} {m : MethodId} {args : Array Value} {below : List Frame} {meth : Method} {c : Code} {Q : State → Prop} (hN : 8 ≤ N) (X : gX celM Γ ad N RX10 cX10_merge 7 (some .int) p s m args meth c) {a0 : Int32} {a1 : Int32} {v11 : Int32} {v13 : Int32} {σ15 : gSt}  : ∀ (n : Nat) (i16 : Int32) (σ17 : gSt) (σ18 : gSt), f_X10_merge_l1 a0 a1 v11 v13 σ15 n i16 σ17 = some σ18 → (∀ (H : Heap) (locs : List Loc) (ls : Array Slot), gS celM Γ ad N σ18 s H locs → lv_has ls 7 [(5, .int v13), (4, .int v11), (0, .ref (ad 0)), (1, .int a0), (2, .int a1)] → W p l e (gR 5 0 0) s m args below meth c H locs 0 0 (Q) (F0 m 148 ls [])) → ∀ (H : Heap) (locs : List Loc) (ls : Array Slot), gS celM Γ ad N σ17 s H locs → lv_has ls 7 [(6, .int i16), (5, .int v13), (4, .int v11), (0, .ref (ad 0)), (1, .int a0), (2, .int a1)] → W p l e (gR 5 0 0) s m args below meth c H locs 0 0 (Q) (F0 m 100 ls []) := by
  have hx := X.1
  have hb := X.2.1
  intro n
  induction n with
  | zero =>
    intro i16 σ17 σ18 hf
    cases hf
  | succ n ih =>
    intro i16 σ17 σ18 hf J H locs ls S hl
    rw [f_X10_merge_l1] at hf
    refine lv_iload hx hb dX10_merge_100 (lv_at hl 0 rfl) ?_
    refine lv_iload hx hb dX10_merge_102 (lv_at hl 1 rfl) ?_
    refine lv_icmp_ge (tgt := 148) hx hb dX10_merge_104 (by decide) (fun c19 => ?_) (fun c19 => ?_)
    · have hf := (if_pos c19).symm.trans hf
      cases hf
      exact J _ _ _ S (lv_sub hl [1, 2, 3, 4, 5] rfl)
    · have hf := (if_neg c19).symm.trans hf
      refine lv_aload_n hx hb dX10_merge_107 rfl (lv_at hl 3 rfl) ?_
      refine gfX10_7 X S hN dX10_merge_108 ?_
      refine lv_iload_n hx hb dX10_merge_111 rfl (lv_at hl 4 rfl) ?_
      refine lv_iload_n hx hb dX10_merge_112 rfl (lv_at hl 5 rfl) ?_
      refine lv_iconst (v := (4 : Int32)) hx hb dX10_merge_113 (by decide) ?_
      refine lv_iload hx hb dX10_merge_114 (lv_at hl 2 rfl) ?_
      refine lv_iadd hx hb dX10_merge_116 ?_
      refine lv_iconst (v := (1 : Int32)) hx hb dX10_merge_117 (by decide) ?_
      refine lv_iadd hx hb dX10_merge_118 ?_
      refine lv_iload hx hb dX10_merge_119 (lv_at hl 0 rfl) ?_
      refine lv_iadd hx hb dX10_merge_121 ?_
      obtain ⟨v20, hv20, hf⟩ := g_s1 hf
      refine g_ki S (g_runS (rest := [.ref (ad 1)]) X S (c_X10_at l hN  hv20 _) csX10_at mlX10_56 rfl rfl hl.1 (by decide) ⟨⟨rfl, rfl⟩, ⟨Nat.le_of_ble_eq_true rfl, Nat.le_of_ble_eq_true rfl⟩, Nat.le_of_ble_eq_true rfl, Nat.le_of_ble_eq_true rfl⟩ dX10_merge_122) (fun H locs S => ?_)
      refine lv_aload_n hx hb dX10_merge_125 rfl (lv_at hl 3 rfl) ?_
      refine gfX10_7 X S hN dX10_merge_126 ?_
      refine lv_iload_n hx hb dX10_merge_129 rfl (lv_at hl 4 rfl) ?_
      refine lv_iload_n hx hb dX10_merge_130 rfl (lv_at hl 5 rfl) ?_
      refine lv_iconst (v := (1 : Int32)) hx hb dX10_merge_131 (by decide) ?_
      refine lv_iadd hx hb dX10_merge_132 ?_
      refine lv_iconst (v := (4 : Int32)) hx hb dX10_merge_133 (by decide) ?_
      refine lv_iload hx hb dX10_merge_134 (lv_at hl 0 rfl) ?_
      refine lv_iadd hx hb dX10_merge_136 ?_
      obtain ⟨v21, hv21, hf⟩ := g_s1 hf
      refine g_ki S (g_runS (rest := [.ref (ad 1), .int v20, .ref (ad 1)]) X S (c_X10_at l hN  hv21 _) csX10_at mlX10_56 rfl rfl hl.1 (by decide) ⟨⟨rfl, rfl⟩, ⟨Nat.le_of_ble_eq_true rfl, Nat.le_of_ble_eq_true rfl⟩, Nat.le_of_ble_eq_true rfl, Nat.le_of_ble_eq_true rfl⟩ dX10_merge_137) (fun H locs S => ?_)
      obtain ⟨v22, hv22, hf⟩ := g_s1 hf
      refine g_iald X S (by omega) (ceM_a (rfl : gma 1 = true)) hv22 dX10_merge_140 ?_
      obtain ⟨σ23, hσ23, hf⟩ := g_s1 hf
      refine g_iast X S (by omega) (ceM_a (rfl : gma 1 = true)) hσ23 dX10_merge_141 (fun H locs S => ?_)
      refine lv_iinc (v := (i16 + 1)) (lv' := [(6, .int (i16 + 1)), (5, .int v13), (4, .int v11), (0, .ref (ad 0)), (1, .int a0), (2, .int a1)]) hx hb dX10_merge_142 hl (k := 0) rfl rfl (by decide) rfl (fun ls hl => ?_)
      refine lv_goto (tgt := 100) hx hb dX10_merge_145 (by decide) ?_
      exact ih _ _ _  hf J _ _ _ S (lv_sub hl [0, 1, 2, 3, 4, 5] rfl)
noncomputable def f_X10_merge (σ : gSt) (a0 : Int32) (a1 : Int32) : Option (Int32 × gSt) :=
  (g_k1 (f_X10_isCaption σ a0 a1) fun v1 => (g_k1 (if v1 = 0 then some (1 : Int32) else some (0 : Int32)) fun x2 => (g_k1 (gset σ 0 10 x2) fun σ5 => (if (σ5 0 10) ≤ 0 then (g_k1 (f_X10_againstMerge σ5 a0 a1) fun v7 => (if v7 ≤ 0 then (g_k1 (f_X10_changes σ5 1) fun σ9 => (g_k1 (f_X10_at σ9 a0 a1 (3 : Int32)) fun v10 => (g_k1 (gald σ9 1 926 v10) fun v11 => (g_k1 (f_X10_at σ9 a0 (a1 + (1 : Int32)) (3 : Int32)) fun v12 => (g_k1 (gald σ9 1 926 v12) fun v13 => (g_k1 (f_X10_at σ9 a0 a1 ((4 : Int32) + v11)) fun v14 => (g_k1 (gast σ9 1 926 v14 (95 : Int32)) fun σ15 => (g_k1 (f_X10_merge_l1 a0 a1 v11 v13 σ15 FU (0 : Int32) σ15) fun σ18 => (g_k1 (f_X10_at σ18 a0 a1 (3 : Int32)) fun v25 => (g_k1 (gast σ18 1 926 v25 ((v11 + v13) + (1 : Int32))) fun σ26 => (g_k1 (f_X10_at σ26 a0 a1 (1 : Int32)) fun v27 => (g_k1 (f_X10_end σ26 a0 (a1 + (1 : Int32))) fun v28 => (g_k1 (gast σ26 1 926 v27 v28) fun σ29 => (g_k1 (f_X10_takes σ29 a0 (a1 + (1 : Int32))) fun σ30 => (g_k1 (f_X10_load σ30 a0 a1) fun v31 => some (v31, σ30)))))))))))))))) else (g_k2 (f_X10_refuses σ5 (2 : Int32) v7) fun v32 σ33 => some (v32, σ33)))) else some ((0 : Int32), σ5)))))
set_option maxRecDepth 100000 in
set_option maxHeartbeats 4000000 in
theorem c_X10_merge (l : Launch) {Γ : gG} {ad : Nat → Nat} {N : Nat} (hN : 8 ≤ N) {σ : gSt} {a0 : Int32} {a1 : Int32}  {r : Int32} {σ' : gSt} (hf : f_X10_merge σ a0 a1 = some (r, σ')) : gMi l celM Γ ad N yX10_merge cX10_merge 7 (some .int) (gR 5 0 0) [.ref (ad 0), .int a0, .int a1] σ r σ' := by
  intro sz
  refine gOf (Qc := fun sz => gQci celM Γ ad N r σ' sz) RX10 (by decide) rfl (by decide) (fun p e s m args below meth c H locs ls X S hl => ?_)
  have hl : lv_has ls 7 [(0, .ref (ad 0)), (1, .int a0), (2, .int a1)] := hl
  have hx := X.1
  have hb := X.2.1
  unfold f_X10_merge at hf
  refine lv_aload_n hx hb dX10_merge_0 rfl (lv_at hl 0 rfl) ?_
  refine lv_aload_n hx hb dX10_merge_1 rfl (lv_at hl 0 rfl) ?_
  refine lv_iload_n hx hb dX10_merge_2 rfl (lv_at hl 1 rfl) ?_
  refine lv_iload_n hx hb dX10_merge_3 rfl (lv_at hl 2 rfl) ?_
  obtain ⟨v1, hv1, hf⟩ := g_s1 hf
  refine g_ki S (g_runV (rest := [.ref (ad 0)]) X S (c_X10_isCaption l hN  hv1 _) cvX10_isCaption mlX10_159 (by omega) (ceM_10 _) rfl rfl rfl hl.1 (by decide) ⟨⟨rfl, rfl⟩, ⟨Nat.le_of_ble_eq_true rfl, Nat.le_of_ble_eq_true rfl⟩, Nat.le_of_ble_eq_true rfl, Nat.le_of_ble_eq_true rfl⟩ dX10_merge_4) (fun H locs S => ?_)
  obtain ⟨x2, hr3, hf⟩ := g_s1 hf
  have J4 : ∀ (H : Heap) (locs : List Loc) (ls : Array Slot), gS celM Γ ad N σ s H locs → lv_has ls 7 [(0, .ref (ad 0)), (1, .int a0), (2, .int a1)] → W p l e (gR 5 0 0) s m args below meth c H locs 0 0 (gQi celM Γ ad N r σ' below args s) (F0 m 15 ls [.int x2, .ref (ad 0)]) := by
    intro H locs ls S hl
    obtain ⟨σ5, hσ5, hf⟩ := g_s1 hf
    refine pfX10_35 X S hN hσ5 dX10_merge_15 (fun H locs S => ?_)
    refine lv_aload_n hx hb dX10_merge_18 rfl (lv_at hl 0 rfl) ?_
    refine gfX10_35 X S hN dX10_merge_19 ?_
    refine lv_if_le (tgt := 27) hx hb dX10_merge_22 (by decide) (fun c6 => ?_) (fun c6 => ?_)
    · have hf := (if_pos c6).symm.trans hf
      refine lv_aload_n hx hb dX10_merge_27 rfl (lv_at hl 0 rfl) ?_
      refine lv_iload_n hx hb dX10_merge_28 rfl (lv_at hl 1 rfl) ?_
      refine lv_iload_n hx hb dX10_merge_29 rfl (lv_at hl 2 rfl) ?_
      obtain ⟨v7, hv7, hf⟩ := g_s1 hf
      refine g_ki S (g_runV (rest := []) X S (c_X10_againstMerge l hN  hv7 _) cvX10_againstMerge mlX10_172 (by omega) (ceM_10 _) rfl rfl rfl hl.1 (by decide) ⟨⟨rfl, rfl⟩, ⟨Nat.le_of_ble_eq_true rfl, Nat.le_of_ble_eq_true rfl⟩, Nat.le_of_ble_eq_true rfl, Nat.le_of_ble_eq_true rfl⟩ dX10_merge_30) (fun H locs S => ?_)
      refine lv_istore_n (lv' := [(3, .int v7), (0, .ref (ad 0)), (1, .int a0), (2, .int a1)]) hx hb dX10_merge_33 rfl hl (by decide) rfl (fun ls hl => ?_)
      refine lv_iload_n hx hb dX10_merge_34 rfl (lv_at hl 0 rfl) ?_
      refine lv_if_le (tgt := 45) hx hb dX10_merge_35 (by decide) (fun c8 => ?_) (fun c8 => ?_)
      · have hf := (if_pos c8).symm.trans hf
        refine lv_aload_n hx hb dX10_merge_45 rfl (lv_at hl 1 rfl) ?_
        refine lv_aload_n hx hb dX10_merge_46 rfl (lv_at hl 1 rfl) ?_
        refine gfX10_7 X S hN dX10_merge_47 ?_
        obtain ⟨σ9, hσ9, hf⟩ := g_s1 hf
        refine g_kv S (g_runV (rest := []) X S (c_X10_changes l hN (by rfl : gma 1 = true) hσ9 _) cvX10_changes mlX10_78 (by omega) (ceM_10 _) rfl rfl rfl hl.1 (by decide) ⟨⟨rfl, rfl⟩, ⟨Nat.le_of_ble_eq_true rfl, Nat.le_of_ble_eq_true rfl⟩, Nat.le_of_ble_eq_true rfl, Nat.le_of_ble_eq_true rfl⟩ dX10_merge_50) (fun H locs S => ?_)
        refine lv_aload_n hx hb dX10_merge_53 rfl (lv_at hl 1 rfl) ?_
        refine gfX10_7 X S hN dX10_merge_54 ?_
        refine lv_iload_n hx hb dX10_merge_57 rfl (lv_at hl 2 rfl) ?_
        refine lv_iload_n hx hb dX10_merge_58 rfl (lv_at hl 3 rfl) ?_
        refine lv_iconst (v := (3 : Int32)) hx hb dX10_merge_59 (by decide) ?_
        obtain ⟨v10, hv10, hf⟩ := g_s1 hf
        refine g_ki S (g_runS (rest := [.ref (ad 1)]) X S (c_X10_at l hN  hv10 _) csX10_at mlX10_56 rfl rfl hl.1 (by decide) ⟨⟨rfl, rfl⟩, ⟨Nat.le_of_ble_eq_true rfl, Nat.le_of_ble_eq_true rfl⟩, Nat.le_of_ble_eq_true rfl, Nat.le_of_ble_eq_true rfl⟩ dX10_merge_60) (fun H locs S => ?_)
        obtain ⟨v11, hv11, hf⟩ := g_s1 hf
        refine g_iald X S (by omega) (ceM_a (rfl : gma 1 = true)) hv11 dX10_merge_63 ?_
        refine lv_istore (lv' := [(4, .int v11), (3, .int v7), (0, .ref (ad 0)), (1, .int a0), (2, .int a1)]) hx hb dX10_merge_64 hl (by decide) rfl (fun ls hl => ?_)
        refine lv_aload_n hx hb dX10_merge_66 rfl (lv_at hl 2 rfl) ?_
        refine gfX10_7 X S hN dX10_merge_67 ?_
        refine lv_iload_n hx hb dX10_merge_70 rfl (lv_at hl 3 rfl) ?_
        refine lv_iload_n hx hb dX10_merge_71 rfl (lv_at hl 4 rfl) ?_
        refine lv_iconst (v := (1 : Int32)) hx hb dX10_merge_72 (by decide) ?_
        refine lv_iadd hx hb dX10_merge_73 ?_
        refine lv_iconst (v := (3 : Int32)) hx hb dX10_merge_74 (by decide) ?_
        obtain ⟨v12, hv12, hf⟩ := g_s1 hf
        refine g_ki S (g_runS (rest := [.ref (ad 1)]) X S (c_X10_at l hN  hv12 _) csX10_at mlX10_56 rfl rfl hl.1 (by decide) ⟨⟨rfl, rfl⟩, ⟨Nat.le_of_ble_eq_true rfl, Nat.le_of_ble_eq_true rfl⟩, Nat.le_of_ble_eq_true rfl, Nat.le_of_ble_eq_true rfl⟩ dX10_merge_75) (fun H locs S => ?_)
        obtain ⟨v13, hv13, hf⟩ := g_s1 hf
        refine g_iald X S (by omega) (ceM_a (rfl : gma 1 = true)) hv13 dX10_merge_78 ?_
        refine lv_istore (lv' := [(5, .int v13), (4, .int v11), (3, .int v7), (0, .ref (ad 0)), (1, .int a0), (2, .int a1)]) hx hb dX10_merge_79 hl (by decide) rfl (fun ls hl => ?_)
        refine lv_aload_n hx hb dX10_merge_81 rfl (lv_at hl 3 rfl) ?_
        refine gfX10_7 X S hN dX10_merge_82 ?_
        refine lv_iload_n hx hb dX10_merge_85 rfl (lv_at hl 4 rfl) ?_
        refine lv_iload_n hx hb dX10_merge_86 rfl (lv_at hl 5 rfl) ?_
        refine lv_iconst (v := (4 : Int32)) hx hb dX10_merge_87 (by decide) ?_
        refine lv_iload hx hb dX10_merge_88 (lv_at hl 1 rfl) ?_
        refine lv_iadd hx hb dX10_merge_90 ?_
        obtain ⟨v14, hv14, hf⟩ := g_s1 hf
        refine g_ki S (g_runS (rest := [.ref (ad 1)]) X S (c_X10_at l hN  hv14 _) csX10_at mlX10_56 rfl rfl hl.1 (by decide) ⟨⟨rfl, rfl⟩, ⟨Nat.le_of_ble_eq_true rfl, Nat.le_of_ble_eq_true rfl⟩, Nat.le_of_ble_eq_true rfl, Nat.le_of_ble_eq_true rfl⟩ dX10_merge_91) (fun H locs S => ?_)
        refine lv_bipush (v := (95 : Int32)) hx hb dX10_merge_94 (by decide) ?_
        obtain ⟨σ15, hσ15, hf⟩ := g_s1 hf
        refine g_iast X S (by omega) (ceM_a (rfl : gma 1 = true)) hσ15 dX10_merge_96 (fun H locs S => ?_)
        refine lv_iconst (v := (0 : Int32)) hx hb dX10_merge_97 (by decide) ?_
        refine lv_istore (lv' := [(6, .int (0 : Int32)), (5, .int v13), (4, .int v11), (3, .int v7), (0, .ref (ad 0)), (1, .int a0), (2, .int a1)]) hx hb dX10_merge_98 hl (by decide) rfl (fun ls hl => ?_)
        obtain ⟨σ18, hr24, hf⟩ := g_s1 hf
        refine w_X10_merge_l1 hN X  FU _ _ _  hr24 (fun H locs ls S hl => ?_) _ _ _ S (lv_sub hl [0, 1, 2, 3, 4, 5] rfl)
        refine lv_aload_n hx hb dX10_merge_148 rfl (lv_at hl 2 rfl) ?_
        refine gfX10_7 X S hN dX10_merge_149 ?_
        refine lv_iload_n hx hb dX10_merge_152 rfl (lv_at hl 3 rfl) ?_
        refine lv_iload_n hx hb dX10_merge_153 rfl (lv_at hl 4 rfl) ?_
        refine lv_iconst (v := (3 : Int32)) hx hb dX10_merge_154 (by decide) ?_
        obtain ⟨v25, hv25, hf⟩ := g_s1 hf
        refine g_ki S (g_runS (rest := [.ref (ad 1)]) X S (c_X10_at l hN  hv25 _) csX10_at mlX10_56 rfl rfl hl.1 (by decide) ⟨⟨rfl, rfl⟩, ⟨Nat.le_of_ble_eq_true rfl, Nat.le_of_ble_eq_true rfl⟩, Nat.le_of_ble_eq_true rfl, Nat.le_of_ble_eq_true rfl⟩ dX10_merge_155) (fun H locs S => ?_)
        refine lv_iload hx hb dX10_merge_158 (lv_at hl 1 rfl) ?_
        refine lv_iload hx hb dX10_merge_160 (lv_at hl 0 rfl) ?_
        refine lv_iadd hx hb dX10_merge_162 ?_
        refine lv_iconst (v := (1 : Int32)) hx hb dX10_merge_163 (by decide) ?_
        refine lv_iadd hx hb dX10_merge_164 ?_
        obtain ⟨σ26, hσ26, hf⟩ := g_s1 hf
        refine g_iast X S (by omega) (ceM_a (rfl : gma 1 = true)) hσ26 dX10_merge_165 (fun H locs S => ?_)
        refine lv_aload_n hx hb dX10_merge_166 rfl (lv_at hl 2 rfl) ?_
        refine gfX10_7 X S hN dX10_merge_167 ?_
        refine lv_iload_n hx hb dX10_merge_170 rfl (lv_at hl 3 rfl) ?_
        refine lv_iload_n hx hb dX10_merge_171 rfl (lv_at hl 4 rfl) ?_
        refine lv_iconst (v := (1 : Int32)) hx hb dX10_merge_172 (by decide) ?_
        obtain ⟨v27, hv27, hf⟩ := g_s1 hf
        refine g_ki S (g_runS (rest := [.ref (ad 1)]) X S (c_X10_at l hN  hv27 _) csX10_at mlX10_56 rfl rfl hl.1 (by decide) ⟨⟨rfl, rfl⟩, ⟨Nat.le_of_ble_eq_true rfl, Nat.le_of_ble_eq_true rfl⟩, Nat.le_of_ble_eq_true rfl, Nat.le_of_ble_eq_true rfl⟩ dX10_merge_173) (fun H locs S => ?_)
        refine lv_aload_n hx hb dX10_merge_176 rfl (lv_at hl 2 rfl) ?_
        refine lv_iload_n hx hb dX10_merge_177 rfl (lv_at hl 3 rfl) ?_
        refine lv_iload_n hx hb dX10_merge_178 rfl (lv_at hl 4 rfl) ?_
        refine lv_iconst (v := (1 : Int32)) hx hb dX10_merge_179 (by decide) ?_
        refine lv_iadd hx hb dX10_merge_180 ?_
        obtain ⟨v28, hv28, hf⟩ := g_s1 hf
        refine g_ki S (g_runV (rest := [.int v27, .ref (ad 1)]) X S (c_X10_end l hN  hv28 _) cvX10_end mlX10_71 (by omega) (ceM_10 _) rfl rfl rfl hl.1 (by decide) ⟨⟨rfl, rfl⟩, ⟨Nat.le_of_ble_eq_true rfl, Nat.le_of_ble_eq_true rfl⟩, Nat.le_of_ble_eq_true rfl, Nat.le_of_ble_eq_true rfl⟩ dX10_merge_181) (fun H locs S => ?_)
        obtain ⟨σ29, hσ29, hf⟩ := g_s1 hf
        refine g_iast X S (by omega) (ceM_a (rfl : gma 1 = true)) hσ29 dX10_merge_184 (fun H locs S => ?_)
        refine lv_aload_n hx hb dX10_merge_185 rfl (lv_at hl 2 rfl) ?_
        refine lv_iload_n hx hb dX10_merge_186 rfl (lv_at hl 3 rfl) ?_
        refine lv_iload_n hx hb dX10_merge_187 rfl (lv_at hl 4 rfl) ?_
        refine lv_iconst (v := (1 : Int32)) hx hb dX10_merge_188 (by decide) ?_
        refine lv_iadd hx hb dX10_merge_189 ?_
        obtain ⟨σ30, hσ30, hf⟩ := g_s1 hf
        refine g_kv S (g_runV (rest := []) X S (c_X10_takes l hN  hσ30 _) cvX10_takes mlX10_162 (by omega) (ceM_10 _) rfl rfl rfl hl.1 (by decide) ⟨⟨rfl, rfl⟩, ⟨Nat.le_of_ble_eq_true rfl, Nat.le_of_ble_eq_true rfl⟩, Nat.le_of_ble_eq_true rfl, Nat.le_of_ble_eq_true rfl⟩ dX10_merge_190) (fun H locs S => ?_)
        refine lv_aload_n hx hb dX10_merge_193 rfl (lv_at hl 2 rfl) ?_
        refine lv_iload_n hx hb dX10_merge_194 rfl (lv_at hl 3 rfl) ?_
        refine lv_iload_n hx hb dX10_merge_195 rfl (lv_at hl 4 rfl) ?_
        obtain ⟨v31, hv31, hf⟩ := g_s1 hf
        refine g_ki S (g_runV (rest := []) X S (c_X10_load l hN  hv31 _) cvX10_load mlX10_107 (by omega) (ceM_10 _) rfl rfl rfl hl.1 (by decide) ⟨⟨rfl, rfl⟩, ⟨Nat.le_of_ble_eq_true rfl, Nat.le_of_ble_eq_true rfl⟩, Nat.le_of_ble_eq_true rfl, Nat.le_of_ble_eq_true rfl⟩ dX10_merge_196) (fun H locs S => ?_)
        cases hf
        exact g_reti X S rfl dX10_merge_199
      · have hf := (if_neg c8).symm.trans hf
        refine lv_aload_n hx hb dX10_merge_38 rfl (lv_at hl 1 rfl) ?_
        refine lv_iconst (v := (2 : Int32)) hx hb dX10_merge_39 (by decide) ?_
        refine lv_iload_n hx hb dX10_merge_40 rfl (lv_at hl 0 rfl) ?_
        obtain ⟨v32, σ33, hv32, hf⟩ := g_s2 hf
        refine g_ki S (g_runV (rest := []) X S (c_X10_refuses l hN  hv32 _) cvX10_refuses mlX10_75 (by omega) (ceM_10 _) rfl rfl rfl hl.1 (by decide) ⟨⟨rfl, rfl⟩, ⟨Nat.le_of_ble_eq_true rfl, Nat.le_of_ble_eq_true rfl⟩, Nat.le_of_ble_eq_true rfl, Nat.le_of_ble_eq_true rfl⟩ dX10_merge_41) (fun H locs S => ?_)
        cases hf
        exact g_reti X S rfl dX10_merge_44
    · have hf := (if_neg c6).symm.trans hf
      refine lv_iconst (v := (0 : Int32)) hx hb dX10_merge_25 (by decide) ?_
      cases hf
      exact g_reti X S rfl dX10_merge_26
  replace hf := hr3
  refine lv_if_eq (tgt := 14) hx hb dX10_merge_7 (by decide) (fun c34 => ?_) (fun c34 => ?_)
  · have hf := (if_pos c34).symm.trans hf
    refine lv_iconst (v := (1 : Int32)) hx hb dX10_merge_14 (by decide) ?_
    cases hf
    exact J4 _ _ _ S (lv_sub hl [0, 1, 2] rfl)
  · have hf := (if_neg c34).symm.trans hf
    refine lv_iconst (v := (0 : Int32)) hx hb dX10_merge_10 (by decide) ?_
    refine lv_goto (tgt := 15) hx hb dX10_merge_11 (by decide) ?_
    cases hf
    exact J4 _ _ _ S (lv_sub hl [0, 1, 2] rfl)

noncomputable def f_X10_snap (σ : gSt) (a0 : Int32) (a1 : Int32) : Option (Int32 × gSt) :=
  (g_k1 (f_X10_isCaption σ a0 a1) fun v1 => (g_k1 (if v1 = 0 then some (1 : Int32) else some (0 : Int32)) fun x2 => (g_k1 (gset σ 0 10 x2) fun σ5 => (if (σ5 0 10) ≤ 0 then (g_k1 (f_X10_first σ5 a0 a1) fun v7 => (g_k1 (f_X10_isLoose σ5 v7) fun v8 => (g_k1 (if v8 = 0 then (g_k1 (f_X10_first σ5 a0 a1) fun v39 => some v39) else (g_k1 (f_X10_first σ5 a0 a1) fun v40 => (g_k1 (f_X10_nearest σ5 v40) fun v41 => some v41))) fun x9 => (g_k1 (f_X10_end σ5 a0 a1) fun v12 => (g_k1 (f_X10_isLoose σ5 v12) fun v13 => (g_k1 (if v13 = 0 then (g_k1 (f_X10_end σ5 a0 a1) fun v35 => some v35) else (g_k1 (f_X10_end σ5 a0 a1) fun v36 => (g_k1 (f_X10_nearest σ5 v36) fun v37 => some v37))) fun x14 => (g_k1 (f_X10_againstPlace σ5 a0 a1 x9 x14) fun v17 => (if v17 ≤ 0 then (g_k1 (f_X10_changes σ5 1) fun σ19 => (g_k1 (f_X10_first σ19 a0 a1) fun v20 => (g_k1 (if x9 = v20 then some (0 : Int32) else some (1 : Int32)) fun x21 => (g_k1 (f_X10_end σ19 a0 a1) fun v24 => (g_k1 (if x14 = v24 then some (0 : Int32) else some (2 : Int32)) fun x25 => (g_k2 (f_X10_moves σ19 a0 a1 x9 x14) fun v28 σ29 => some ((x21 + x25), σ29))))))) else (g_k2 (f_X10_refuses σ5 (2 : Int32) v17) fun v32 σ33 => some (v32, σ33)))))))))) else some ((0 : Int32), σ5)))))
set_option maxRecDepth 100000 in
set_option maxHeartbeats 4000000 in
theorem c_X10_snap (l : Launch) {Γ : gG} {ad : Nat → Nat} {N : Nat} (hN : 8 ≤ N) {σ : gSt} {a0 : Int32} {a1 : Int32}  {r : Int32} {σ' : gSt} (hf : f_X10_snap σ a0 a1 = some (r, σ')) : gMi l celM Γ ad N yX10_snap cX10_snap 7 (some .int) (gR 5 0 0) [.ref (ad 0), .int a0, .int a1] σ r σ' := by
  intro sz
  refine gOf (Qc := fun sz => gQci celM Γ ad N r σ' sz) RX10 (by decide) rfl (by decide) (fun p e s m args below meth c H locs ls X S hl => ?_)
  have hl : lv_has ls 7 [(0, .ref (ad 0)), (1, .int a0), (2, .int a1)] := hl
  have hx := X.1
  have hb := X.2.1
  unfold f_X10_snap at hf
  refine lv_aload_n hx hb dX10_snap_0 rfl (lv_at hl 0 rfl) ?_
  refine lv_aload_n hx hb dX10_snap_1 rfl (lv_at hl 0 rfl) ?_
  refine lv_iload_n hx hb dX10_snap_2 rfl (lv_at hl 1 rfl) ?_
  refine lv_iload_n hx hb dX10_snap_3 rfl (lv_at hl 2 rfl) ?_
  obtain ⟨v1, hv1, hf⟩ := g_s1 hf
  refine g_ki S (g_runV (rest := [.ref (ad 0)]) X S (c_X10_isCaption l hN  hv1 _) cvX10_isCaption mlX10_159 (by omega) (ceM_10 _) rfl rfl rfl hl.1 (by decide) ⟨⟨rfl, rfl⟩, ⟨Nat.le_of_ble_eq_true rfl, Nat.le_of_ble_eq_true rfl⟩, Nat.le_of_ble_eq_true rfl, Nat.le_of_ble_eq_true rfl⟩ dX10_snap_4) (fun H locs S => ?_)
  obtain ⟨x2, hr3, hf⟩ := g_s1 hf
  have J4 : ∀ (H : Heap) (locs : List Loc) (ls : Array Slot), gS celM Γ ad N σ s H locs → lv_has ls 7 [(0, .ref (ad 0)), (1, .int a0), (2, .int a1)] → W p l e (gR 5 0 0) s m args below meth c H locs 0 0 (gQi celM Γ ad N r σ' below args s) (F0 m 15 ls [.int x2, .ref (ad 0)]) := by
    intro H locs ls S hl
    obtain ⟨σ5, hσ5, hf⟩ := g_s1 hf
    refine pfX10_35 X S hN hσ5 dX10_snap_15 (fun H locs S => ?_)
    refine lv_aload_n hx hb dX10_snap_18 rfl (lv_at hl 0 rfl) ?_
    refine gfX10_35 X S hN dX10_snap_19 ?_
    refine lv_if_le (tgt := 27) hx hb dX10_snap_22 (by decide) (fun c6 => ?_) (fun c6 => ?_)
    · have hf := (if_pos c6).symm.trans hf
      refine lv_aload_n hx hb dX10_snap_27 rfl (lv_at hl 0 rfl) ?_
      refine lv_aload_n hx hb dX10_snap_28 rfl (lv_at hl 0 rfl) ?_
      refine lv_iload_n hx hb dX10_snap_29 rfl (lv_at hl 1 rfl) ?_
      refine lv_iload_n hx hb dX10_snap_30 rfl (lv_at hl 2 rfl) ?_
      obtain ⟨v7, hv7, hf⟩ := g_s1 hf
      refine g_ki S (g_runV (rest := [.ref (ad 0)]) X S (c_X10_first l hN  hv7 _) cvX10_first mlX10_113 (by omega) (ceM_10 _) rfl rfl rfl hl.1 (by decide) ⟨⟨rfl, rfl⟩, ⟨Nat.le_of_ble_eq_true rfl, Nat.le_of_ble_eq_true rfl⟩, Nat.le_of_ble_eq_true rfl, Nat.le_of_ble_eq_true rfl⟩ dX10_snap_31) (fun H locs S => ?_)
      obtain ⟨v8, hv8, hf⟩ := g_s1 hf
      refine g_ki S (g_runV (rest := []) X S (c_X10_isLoose l hN  hv8 _) cvX10_isLoose mlX10_125 (by omega) (ceM_10 _) rfl rfl rfl hl.1 (by decide) ⟨⟨rfl, rfl⟩, ⟨Nat.le_of_ble_eq_true rfl, Nat.le_of_ble_eq_true rfl⟩, Nat.le_of_ble_eq_true rfl, Nat.le_of_ble_eq_true rfl⟩ dX10_snap_34) (fun H locs S => ?_)
      obtain ⟨x9, hr10, hf⟩ := g_s1 hf
      have J11 : ∀ (H : Heap) (locs : List Loc) (ls : Array Slot), gS celM Γ ad N σ5 s H locs → lv_has ls 7 [(0, .ref (ad 0)), (1, .int a0), (2, .int a1)] → W p l e (gR 5 0 0) s m args below meth c H locs 0 0 (gQi celM Γ ad N r σ' below args s) (F0 m 59 ls [.int x9]) := by
        intro H locs ls S hl
        refine lv_istore_n (lv' := [(3, .int x9), (0, .ref (ad 0)), (1, .int a0), (2, .int a1)]) hx hb dX10_snap_59 rfl hl (by decide) rfl (fun ls hl => ?_)
        refine lv_aload_n hx hb dX10_snap_60 rfl (lv_at hl 1 rfl) ?_
        refine lv_aload_n hx hb dX10_snap_61 rfl (lv_at hl 1 rfl) ?_
        refine lv_iload_n hx hb dX10_snap_62 rfl (lv_at hl 2 rfl) ?_
        refine lv_iload_n hx hb dX10_snap_63 rfl (lv_at hl 3 rfl) ?_
        obtain ⟨v12, hv12, hf⟩ := g_s1 hf
        refine g_ki S (g_runV (rest := [.ref (ad 0)]) X S (c_X10_end l hN  hv12 _) cvX10_end mlX10_71 (by omega) (ceM_10 _) rfl rfl rfl hl.1 (by decide) ⟨⟨rfl, rfl⟩, ⟨Nat.le_of_ble_eq_true rfl, Nat.le_of_ble_eq_true rfl⟩, Nat.le_of_ble_eq_true rfl, Nat.le_of_ble_eq_true rfl⟩ dX10_snap_64) (fun H locs S => ?_)
        obtain ⟨v13, hv13, hf⟩ := g_s1 hf
        refine g_ki S (g_runV (rest := []) X S (c_X10_isLoose l hN  hv13 _) cvX10_isLoose mlX10_125 (by omega) (ceM_10 _) rfl rfl rfl hl.1 (by decide) ⟨⟨rfl, rfl⟩, ⟨Nat.le_of_ble_eq_true rfl, Nat.le_of_ble_eq_true rfl⟩, Nat.le_of_ble_eq_true rfl, Nat.le_of_ble_eq_true rfl⟩ dX10_snap_67) (fun H locs S => ?_)
        obtain ⟨x14, hr15, hf⟩ := g_s1 hf
        have J16 : ∀ (H : Heap) (locs : List Loc) (ls : Array Slot), gS celM Γ ad N σ5 s H locs → lv_has ls 7 [(3, .int x9), (0, .ref (ad 0)), (1, .int a0), (2, .int a1)] → W p l e (gR 5 0 0) s m args below meth c H locs 0 0 (gQi celM Γ ad N r σ' below args s) (F0 m 92 ls [.int x14]) := by
          intro H locs ls S hl
          refine lv_istore (lv' := [(4, .int x14), (3, .int x9), (0, .ref (ad 0)), (1, .int a0), (2, .int a1)]) hx hb dX10_snap_92 hl (by decide) rfl (fun ls hl => ?_)
          refine lv_aload_n hx hb dX10_snap_94 rfl (lv_at hl 2 rfl) ?_
          refine lv_iload_n hx hb dX10_snap_95 rfl (lv_at hl 3 rfl) ?_
          refine lv_iload_n hx hb dX10_snap_96 rfl (lv_at hl 4 rfl) ?_
          refine lv_iload_n hx hb dX10_snap_97 rfl (lv_at hl 1 rfl) ?_
          refine lv_iload hx hb dX10_snap_98 (lv_at hl 0 rfl) ?_
          obtain ⟨v17, hv17, hf⟩ := g_s1 hf
          refine g_ki S (g_runV (rest := []) X S (c_X10_againstPlace l hN  hv17 _) cvX10_againstPlace mlX10_140 (by omega) (ceM_10 _) rfl rfl rfl hl.1 (by decide) ⟨⟨rfl, rfl⟩, ⟨Nat.le_of_ble_eq_true rfl, Nat.le_of_ble_eq_true rfl⟩, Nat.le_of_ble_eq_true rfl, Nat.le_of_ble_eq_true rfl⟩ dX10_snap_100) (fun H locs S => ?_)
          refine lv_istore (lv' := [(5, .int v17), (4, .int x14), (3, .int x9), (0, .ref (ad 0)), (1, .int a0), (2, .int a1)]) hx hb dX10_snap_103 hl (by decide) rfl (fun ls hl => ?_)
          refine lv_iload hx hb dX10_snap_105 (lv_at hl 0 rfl) ?_
          refine lv_if_le (tgt := 118) hx hb dX10_snap_107 (by decide) (fun c18 => ?_) (fun c18 => ?_)
          · have hf := (if_pos c18).symm.trans hf
            refine lv_aload_n hx hb dX10_snap_118 rfl (lv_at hl 3 rfl) ?_
            refine lv_aload_n hx hb dX10_snap_119 rfl (lv_at hl 3 rfl) ?_
            refine gfX10_7 X S hN dX10_snap_120 ?_
            obtain ⟨σ19, hσ19, hf⟩ := g_s1 hf
            refine g_kv S (g_runV (rest := []) X S (c_X10_changes l hN (by rfl : gma 1 = true) hσ19 _) cvX10_changes mlX10_78 (by omega) (ceM_10 _) rfl rfl rfl hl.1 (by decide) ⟨⟨rfl, rfl⟩, ⟨Nat.le_of_ble_eq_true rfl, Nat.le_of_ble_eq_true rfl⟩, Nat.le_of_ble_eq_true rfl, Nat.le_of_ble_eq_true rfl⟩ dX10_snap_123) (fun H locs S => ?_)
            refine lv_iload_n hx hb dX10_snap_126 rfl (lv_at hl 2 rfl) ?_
            refine lv_aload_n hx hb dX10_snap_127 rfl (lv_at hl 3 rfl) ?_
            refine lv_iload_n hx hb dX10_snap_128 rfl (lv_at hl 4 rfl) ?_
            refine lv_iload_n hx hb dX10_snap_129 rfl (lv_at hl 5 rfl) ?_
            obtain ⟨v20, hv20, hf⟩ := g_s1 hf
            refine g_ki S (g_runV (rest := [.int x9]) X S (c_X10_first l hN  hv20 _) cvX10_first mlX10_113 (by omega) (ceM_10 _) rfl rfl rfl hl.1 (by decide) ⟨⟨rfl, rfl⟩, ⟨Nat.le_of_ble_eq_true rfl, Nat.le_of_ble_eq_true rfl⟩, Nat.le_of_ble_eq_true rfl, Nat.le_of_ble_eq_true rfl⟩ dX10_snap_130) (fun H locs S => ?_)
            obtain ⟨x21, hr22, hf⟩ := g_s1 hf
            have J23 : ∀ (H : Heap) (locs : List Loc) (ls : Array Slot), gS celM Γ ad N σ19 s H locs → lv_has ls 7 [(4, .int x14), (3, .int x9), (0, .ref (ad 0)), (1, .int a0), (2, .int a1)] → W p l e (gR 5 0 0) s m args below meth c H locs 0 0 (gQi celM Γ ad N r σ' below args s) (F0 m 141 ls [.int x21]) := by
              intro H locs ls S hl
              refine lv_iload hx hb dX10_snap_141 (lv_at hl 0 rfl) ?_
              refine lv_aload_n hx hb dX10_snap_143 rfl (lv_at hl 2 rfl) ?_
              refine lv_iload_n hx hb dX10_snap_144 rfl (lv_at hl 3 rfl) ?_
              refine lv_iload_n hx hb dX10_snap_145 rfl (lv_at hl 4 rfl) ?_
              obtain ⟨v24, hv24, hf⟩ := g_s1 hf
              refine g_ki S (g_runV (rest := [.int x14, .int x21]) X S (c_X10_end l hN  hv24 _) cvX10_end mlX10_71 (by omega) (ceM_10 _) rfl rfl rfl hl.1 (by decide) ⟨⟨rfl, rfl⟩, ⟨Nat.le_of_ble_eq_true rfl, Nat.le_of_ble_eq_true rfl⟩, Nat.le_of_ble_eq_true rfl, Nat.le_of_ble_eq_true rfl⟩ dX10_snap_146) (fun H locs S => ?_)
              obtain ⟨x25, hr26, hf⟩ := g_s1 hf
              have J27 : ∀ (H : Heap) (locs : List Loc) (ls : Array Slot), gS celM Γ ad N σ19 s H locs → lv_has ls 7 [(4, .int x14), (3, .int x9), (0, .ref (ad 0)), (1, .int a0), (2, .int a1)] → W p l e (gR 5 0 0) s m args below meth c H locs 0 0 (gQi celM Γ ad N r σ' below args s) (F0 m 157 ls [.int x25, .int x21]) := by
                intro H locs ls S hl
                refine lv_iadd hx hb dX10_snap_157 ?_
                refine lv_istore (lv' := [(6, .int (x21 + x25)), (4, .int x14), (3, .int x9), (0, .ref (ad 0)), (1, .int a0), (2, .int a1)]) hx hb dX10_snap_158 hl (by decide) rfl (fun ls hl => ?_)
                refine lv_aload_n hx hb dX10_snap_160 rfl (lv_at hl 3 rfl) ?_
                refine lv_iload_n hx hb dX10_snap_161 rfl (lv_at hl 4 rfl) ?_
                refine lv_iload_n hx hb dX10_snap_162 rfl (lv_at hl 5 rfl) ?_
                refine lv_iload_n hx hb dX10_snap_163 rfl (lv_at hl 2 rfl) ?_
                refine lv_iload hx hb dX10_snap_164 (lv_at hl 1 rfl) ?_
                obtain ⟨v28, σ29, hv28, hf⟩ := g_s2 hf
                refine g_ki S (g_runV (rest := []) X S (c_X10_moves l hN  hv28 _) cvX10_moves mlX10_169 (by omega) (ceM_10 _) rfl rfl rfl hl.1 (by decide) ⟨⟨rfl, rfl⟩, ⟨Nat.le_of_ble_eq_true rfl, Nat.le_of_ble_eq_true rfl⟩, Nat.le_of_ble_eq_true rfl, Nat.le_of_ble_eq_true rfl⟩ dX10_snap_166) (fun H locs S => ?_)
                refine lv_pop hx hb dX10_snap_169 rfl ?_
                refine lv_iload hx hb dX10_snap_170 (lv_at hl 0 rfl) ?_
                cases hf
                exact g_reti X S rfl dX10_snap_172
              replace hf := hr26
              refine lv_icmp_eq (tgt := 156) hx hb dX10_snap_149 (by decide) (fun c30 => ?_) (fun c30 => ?_)
              · have hf := (if_pos c30).symm.trans hf
                refine lv_iconst (v := (0 : Int32)) hx hb dX10_snap_156 (by decide) ?_
                cases hf
                exact J27 _ _ _ S (lv_sub hl [0, 1, 2, 3, 4] rfl)
              · have hf := (if_neg c30).symm.trans hf
                refine lv_iconst (v := (2 : Int32)) hx hb dX10_snap_152 (by decide) ?_
                refine lv_goto (tgt := 157) hx hb dX10_snap_153 (by decide) ?_
                cases hf
                exact J27 _ _ _ S (lv_sub hl [0, 1, 2, 3, 4] rfl)
            replace hf := hr22
            refine lv_icmp_eq (tgt := 140) hx hb dX10_snap_133 (by decide) (fun c31 => ?_) (fun c31 => ?_)
            · have hf := (if_pos c31).symm.trans hf
              refine lv_iconst (v := (0 : Int32)) hx hb dX10_snap_140 (by decide) ?_
              cases hf
              exact J23 _ _ _ S (lv_sub hl [1, 2, 3, 4, 5] rfl)
            · have hf := (if_neg c31).symm.trans hf
              refine lv_iconst (v := (1 : Int32)) hx hb dX10_snap_136 (by decide) ?_
              refine lv_goto (tgt := 141) hx hb dX10_snap_137 (by decide) ?_
              cases hf
              exact J23 _ _ _ S (lv_sub hl [1, 2, 3, 4, 5] rfl)
          · have hf := (if_neg c18).symm.trans hf
            refine lv_aload_n hx hb dX10_snap_110 rfl (lv_at hl 3 rfl) ?_
            refine lv_iconst (v := (2 : Int32)) hx hb dX10_snap_111 (by decide) ?_
            refine lv_iload hx hb dX10_snap_112 (lv_at hl 0 rfl) ?_
            obtain ⟨v32, σ33, hv32, hf⟩ := g_s2 hf
            refine g_ki S (g_runV (rest := []) X S (c_X10_refuses l hN  hv32 _) cvX10_refuses mlX10_75 (by omega) (ceM_10 _) rfl rfl rfl hl.1 (by decide) ⟨⟨rfl, rfl⟩, ⟨Nat.le_of_ble_eq_true rfl, Nat.le_of_ble_eq_true rfl⟩, Nat.le_of_ble_eq_true rfl, Nat.le_of_ble_eq_true rfl⟩ dX10_snap_114) (fun H locs S => ?_)
            cases hf
            exact g_reti X S rfl dX10_snap_117
        replace hf := hr15
        refine lv_if_eq (tgt := 86) hx hb dX10_snap_70 (by decide) (fun c34 => ?_) (fun c34 => ?_)
        · have hf := (if_pos c34).symm.trans hf
          refine lv_aload_n hx hb dX10_snap_86 rfl (lv_at hl 1 rfl) ?_
          refine lv_iload_n hx hb dX10_snap_87 rfl (lv_at hl 2 rfl) ?_
          refine lv_iload_n hx hb dX10_snap_88 rfl (lv_at hl 3 rfl) ?_
          obtain ⟨v35, hv35, hf⟩ := g_s1 hf
          refine g_ki S (g_runV (rest := []) X S (c_X10_end l hN  hv35 _) cvX10_end mlX10_71 (by omega) (ceM_10 _) rfl rfl rfl hl.1 (by decide) ⟨⟨rfl, rfl⟩, ⟨Nat.le_of_ble_eq_true rfl, Nat.le_of_ble_eq_true rfl⟩, Nat.le_of_ble_eq_true rfl, Nat.le_of_ble_eq_true rfl⟩ dX10_snap_89) (fun H locs S => ?_)
          cases hf
          exact J16 _ _ _ S (lv_sub hl [0, 1, 2, 3] rfl)
        · have hf := (if_neg c34).symm.trans hf
          refine lv_aload_n hx hb dX10_snap_73 rfl (lv_at hl 1 rfl) ?_
          refine lv_aload_n hx hb dX10_snap_74 rfl (lv_at hl 1 rfl) ?_
          refine lv_iload_n hx hb dX10_snap_75 rfl (lv_at hl 2 rfl) ?_
          refine lv_iload_n hx hb dX10_snap_76 rfl (lv_at hl 3 rfl) ?_
          obtain ⟨v36, hv36, hf⟩ := g_s1 hf
          refine g_ki S (g_runV (rest := [.ref (ad 0)]) X S (c_X10_end l hN  hv36 _) cvX10_end mlX10_71 (by omega) (ceM_10 _) rfl rfl rfl hl.1 (by decide) ⟨⟨rfl, rfl⟩, ⟨Nat.le_of_ble_eq_true rfl, Nat.le_of_ble_eq_true rfl⟩, Nat.le_of_ble_eq_true rfl, Nat.le_of_ble_eq_true rfl⟩ dX10_snap_77) (fun H locs S => ?_)
          obtain ⟨v37, hv37, hf⟩ := g_s1 hf
          refine g_ki S (g_runV (rest := []) X S (c_X10_nearest l hN  hv37 _) cvX10_nearest mlX10_175 (by omega) (ceM_10 _) rfl rfl rfl hl.1 (by decide) ⟨⟨rfl, rfl⟩, ⟨Nat.le_of_ble_eq_true rfl, Nat.le_of_ble_eq_true rfl⟩, Nat.le_of_ble_eq_true rfl, Nat.le_of_ble_eq_true rfl⟩ dX10_snap_80) (fun H locs S => ?_)
          refine lv_goto (tgt := 92) hx hb dX10_snap_83 (by decide) ?_
          cases hf
          exact J16 _ _ _ S (lv_sub hl [0, 1, 2, 3] rfl)
      replace hf := hr10
      refine lv_if_eq (tgt := 53) hx hb dX10_snap_37 (by decide) (fun c38 => ?_) (fun c38 => ?_)
      · have hf := (if_pos c38).symm.trans hf
        refine lv_aload_n hx hb dX10_snap_53 rfl (lv_at hl 0 rfl) ?_
        refine lv_iload_n hx hb dX10_snap_54 rfl (lv_at hl 1 rfl) ?_
        refine lv_iload_n hx hb dX10_snap_55 rfl (lv_at hl 2 rfl) ?_
        obtain ⟨v39, hv39, hf⟩ := g_s1 hf
        refine g_ki S (g_runV (rest := []) X S (c_X10_first l hN  hv39 _) cvX10_first mlX10_113 (by omega) (ceM_10 _) rfl rfl rfl hl.1 (by decide) ⟨⟨rfl, rfl⟩, ⟨Nat.le_of_ble_eq_true rfl, Nat.le_of_ble_eq_true rfl⟩, Nat.le_of_ble_eq_true rfl, Nat.le_of_ble_eq_true rfl⟩ dX10_snap_56) (fun H locs S => ?_)
        cases hf
        exact J11 _ _ _ S (lv_sub hl [0, 1, 2] rfl)
      · have hf := (if_neg c38).symm.trans hf
        refine lv_aload_n hx hb dX10_snap_40 rfl (lv_at hl 0 rfl) ?_
        refine lv_aload_n hx hb dX10_snap_41 rfl (lv_at hl 0 rfl) ?_
        refine lv_iload_n hx hb dX10_snap_42 rfl (lv_at hl 1 rfl) ?_
        refine lv_iload_n hx hb dX10_snap_43 rfl (lv_at hl 2 rfl) ?_
        obtain ⟨v40, hv40, hf⟩ := g_s1 hf
        refine g_ki S (g_runV (rest := [.ref (ad 0)]) X S (c_X10_first l hN  hv40 _) cvX10_first mlX10_113 (by omega) (ceM_10 _) rfl rfl rfl hl.1 (by decide) ⟨⟨rfl, rfl⟩, ⟨Nat.le_of_ble_eq_true rfl, Nat.le_of_ble_eq_true rfl⟩, Nat.le_of_ble_eq_true rfl, Nat.le_of_ble_eq_true rfl⟩ dX10_snap_44) (fun H locs S => ?_)
        obtain ⟨v41, hv41, hf⟩ := g_s1 hf
        refine g_ki S (g_runV (rest := []) X S (c_X10_nearest l hN  hv41 _) cvX10_nearest mlX10_175 (by omega) (ceM_10 _) rfl rfl rfl hl.1 (by decide) ⟨⟨rfl, rfl⟩, ⟨Nat.le_of_ble_eq_true rfl, Nat.le_of_ble_eq_true rfl⟩, Nat.le_of_ble_eq_true rfl, Nat.le_of_ble_eq_true rfl⟩ dX10_snap_47) (fun H locs S => ?_)
        refine lv_goto (tgt := 59) hx hb dX10_snap_50 (by decide) ?_
        cases hf
        exact J11 _ _ _ S (lv_sub hl [0, 1, 2] rfl)
    · have hf := (if_neg c6).symm.trans hf
      refine lv_iconst (v := (0 : Int32)) hx hb dX10_snap_25 (by decide) ?_
      cases hf
      exact g_reti X S rfl dX10_snap_26
  replace hf := hr3
  refine lv_if_eq (tgt := 14) hx hb dX10_snap_7 (by decide) (fun c42 => ?_) (fun c42 => ?_)
  · have hf := (if_pos c42).symm.trans hf
    refine lv_iconst (v := (1 : Int32)) hx hb dX10_snap_14 (by decide) ?_
    cases hf
    exact J4 _ _ _ S (lv_sub hl [0, 1, 2] rfl)
  · have hf := (if_neg c42).symm.trans hf
    refine lv_iconst (v := (0 : Int32)) hx hb dX10_snap_10 (by decide) ?_
    refine lv_goto (tgt := 15) hx hb dX10_snap_11 (by decide) ?_
    cases hf
    exact J4 _ _ _ S (lv_sub hl [0, 1, 2] rfl)

noncomputable def f_X10_fit_l1 (a0 : Int32) (a1 : Int32) (σ5 : gSt) : Nat → Int32 → Int32 → Option (Int32)
  | 0, _, _ => none
  | n + 1, i16, i17 => (if i16 < 0 then some i17 else (g_k1 (gald σ5 1 926 ((8 : Int32) + i16)) fun v20 => (g_k1 (f_X10_end σ5 a0 a1) fun v21 => (g_k1 (if v20 < v21 then some i17 else (g_k1 (gald σ5 1 926 ((8 : Int32) + i16)) fun v26 => (if i17 ≤ v26 then some i17 else (g_k1 (gald σ5 1 926 ((8 : Int32) + i16)) fun v28 => some v28)))) fun x22 => (f_X10_fit_l1 a0 a1 σ5 n (i16 + (-1)) x22)))))
set_option maxRecDepth 100000 in
set_option maxHeartbeats 4000000 in
theorem w_X10_fit_l1 {l : Launch} {Γ : gG} {ad : Nat → Nat} {N : Nat} {p : Program} {e : Env} {s : State} {m : MethodId} {args : Array Value} {below : List Frame} {meth : Method} {c : Code} {Q : State → Prop} (hN : 8 ≤ N) (X : gX celM Γ ad N RX10 cX10_fit 5 (some .int) p s m args meth c) {a0 : Int32} {a1 : Int32} {σ5 : gSt}  : ∀ (n : Nat) (i16 : Int32) (i17 : Int32) (r18 : Int32), f_X10_fit_l1 a0 a1 σ5 n i16 i17 = some r18 → (∀ (H : Heap) (locs : List Loc) (ls : Array Slot), gS celM Γ ad N σ5 s H locs → lv_has ls 5 [(3, .int r18), (0, .ref (ad 0)), (1, .int a0), (2, .int a1)] → W p l e (gR 4 0 0) s m args below meth c H locs 0 0 (Q) (F0 m 182 ls [])) → ∀ (H : Heap) (locs : List Loc) (ls : Array Slot), gS celM Γ ad N σ5 s H locs → lv_has ls 5 [(4, .int i16), (3, .int i17), (0, .ref (ad 0)), (1, .int a0), (2, .int a1)] → W p l e (gR 4 0 0) s m args below meth c H locs 0 0 (Q) (F0 m 123 ls []) := by
  have hx := X.1
  have hb := X.2.1
  intro n
  induction n with
  | zero =>
    intro i16 i17 r18 hf
    cases hf
  | succ n ih =>
    intro i16 i17 r18 hf J H locs ls S hl
    rw [f_X10_fit_l1] at hf
    refine lv_iload hx hb dX10_fit_123 (lv_at hl 0 rfl) ?_
    refine lv_if_lt (tgt := 182) hx hb dX10_fit_125 (by decide) (fun c19 => ?_) (fun c19 => ?_)
    · have hf := (if_pos c19).symm.trans hf
      cases hf
      exact J _ _ _ S (lv_sub hl [1, 2, 3, 4] rfl)
    · have hf := (if_neg c19).symm.trans hf
      refine lv_aload_n hx hb dX10_fit_128 rfl (lv_at hl 2 rfl) ?_
      refine gfX10_7 X S hN dX10_fit_129 ?_
      refine lv_bipush (v := (8 : Int32)) hx hb dX10_fit_132 (by decide) ?_
      refine lv_iload hx hb dX10_fit_134 (lv_at hl 0 rfl) ?_
      refine lv_iadd hx hb dX10_fit_136 ?_
      obtain ⟨v20, hv20, hf⟩ := g_s1 hf
      refine g_iald X S (by omega) (ceM_a (rfl : gma 1 = true)) hv20 dX10_fit_137 ?_
      refine lv_aload_n hx hb dX10_fit_138 rfl (lv_at hl 2 rfl) ?_
      refine lv_iload_n hx hb dX10_fit_139 rfl (lv_at hl 3 rfl) ?_
      refine lv_iload_n hx hb dX10_fit_140 rfl (lv_at hl 4 rfl) ?_
      obtain ⟨v21, hv21, hf⟩ := g_s1 hf
      refine g_ki S (g_runV (rest := [.int v20]) X S (c_X10_end l hN  hv21 _) cvX10_end mlX10_71 (by omega) (ceM_10 _) rfl rfl rfl hl.1 (by decide) ⟨⟨rfl, rfl⟩, ⟨Nat.le_of_ble_eq_true rfl, Nat.le_of_ble_eq_true rfl⟩, Nat.le_of_ble_eq_true rfl, Nat.le_of_ble_eq_true rfl⟩ dX10_fit_141) (fun H locs S => ?_)
      obtain ⟨x22, hr23, hf⟩ := g_s1 hf
      have J24 : ∀ (H : Heap) (locs : List Loc) (ls : Array Slot), gS celM Γ ad N σ5 s H locs → lv_has ls 5 [(4, .int i16), (0, .ref (ad 0)), (1, .int a0), (2, .int a1)] → W p l e (gR 4 0 0) s m args below meth c H locs 0 0 (Q) (F0 m 175 ls [.int x22]) := by
        intro H locs ls S hl
        refine lv_istore_n (lv' := [(3, .int x22), (4, .int i16), (0, .ref (ad 0)), (1, .int a0), (2, .int a1)]) hx hb dX10_fit_175 rfl hl (by decide) rfl (fun ls hl => ?_)
        refine lv_iinc (v := (i16 + (-1))) (lv' := [(4, .int (i16 + (-1))), (3, .int x22), (0, .ref (ad 0)), (1, .int a0), (2, .int a1)]) hx hb dX10_fit_176 hl (k := 1) rfl rfl (by decide) rfl (fun ls hl => ?_)
        refine lv_goto (tgt := 123) hx hb dX10_fit_179 (by decide) ?_
        exact ih _ _ _  hf J _ _ _ S (lv_sub hl [0, 1, 2, 3, 4] rfl)
      replace hf := hr23
      refine lv_icmp_lt (tgt := 174) hx hb dX10_fit_144 (by decide) (fun c25 => ?_) (fun c25 => ?_)
      · have hf := (if_pos c25).symm.trans hf
        refine lv_iload_n hx hb dX10_fit_174 rfl (lv_at hl 1 rfl) ?_
        cases hf
        exact J24 _ _ _ S (lv_sub hl [0, 2, 3, 4] rfl)
      · have hf := (if_neg c25).symm.trans hf
        refine lv_iload_n hx hb dX10_fit_147 rfl (lv_at hl 1 rfl) ?_
        refine lv_aload_n hx hb dX10_fit_148 rfl (lv_at hl 2 rfl) ?_
        refine gfX10_7 X S hN dX10_fit_149 ?_
        refine lv_bipush (v := (8 : Int32)) hx hb dX10_fit_152 (by decide) ?_
        refine lv_iload hx hb dX10_fit_154 (lv_at hl 0 rfl) ?_
        refine lv_iadd hx hb dX10_fit_156 ?_
        obtain ⟨v26, hv26, hf⟩ := g_s1 hf
        refine g_iald X S (by omega) (ceM_a (rfl : gma 1 = true)) hv26 dX10_fit_157 ?_
        refine lv_icmp_le (tgt := 174) hx hb dX10_fit_158 (by decide) (fun c27 => ?_) (fun c27 => ?_)
        · have hf := (if_pos c27).symm.trans hf
          refine lv_iload_n hx hb dX10_fit_174 rfl (lv_at hl 1 rfl) ?_
          cases hf
          exact J24 _ _ _ S (lv_sub hl [0, 2, 3, 4] rfl)
        · have hf := (if_neg c27).symm.trans hf
          refine lv_aload_n hx hb dX10_fit_161 rfl (lv_at hl 2 rfl) ?_
          refine gfX10_7 X S hN dX10_fit_162 ?_
          refine lv_bipush (v := (8 : Int32)) hx hb dX10_fit_165 (by decide) ?_
          refine lv_iload hx hb dX10_fit_167 (lv_at hl 0 rfl) ?_
          refine lv_iadd hx hb dX10_fit_169 ?_
          obtain ⟨v28, hv28, hf⟩ := g_s1 hf
          refine g_iald X S (by omega) (ceM_a (rfl : gma 1 = true)) hv28 dX10_fit_170 ?_
          refine lv_goto (tgt := 175) hx hb dX10_fit_171 (by decide) ?_
          cases hf
          exact J24 _ _ _ S (lv_sub hl [0, 2, 3, 4] rfl)
noncomputable def f_X10_fit (σ : gSt) (a0 : Int32) (a1 : Int32) : Option (Int32 × gSt) :=
  (g_k1 (f_X10_isCaption σ a0 a1) fun v1 => (g_k1 (if v1 = 0 then some (1 : Int32) else some (0 : Int32)) fun x2 => (g_k1 (gset σ 0 10 x2) fun σ5 => (if (σ5 0 10) ≤ 0 then (g_k1 (f_X10_first σ5 a0 a1) fun v7 => (g_k1 (f_X10_needs σ5 a0 a1) fun v8 => (g_k1 (if (v7 + v8) ≤ (σ5 1 0) then some (v7 + v8) else some (σ5 1 0)) fun x9 => (g_k1 (gald σ5 1 926 ((28 : Int32) + a0)) fun v12 => (g_k1 (if v12 ≤ (a1 + (1 : Int32)) then some x9 else (g_k1 (f_X10_first σ5 a0 (a1 + (1 : Int32))) fun v41 => (if x9 ≤ (v41 - (σ5 1 3)) then some x9 else (g_k1 (f_X10_first σ5 a0 (a1 + (1 : Int32))) fun v43 => some (v43 - (σ5 1 3)))))) fun x13 => (g_k1 (f_X10_fit_l1 a0 a1 σ5 FU ((σ5 1 7) - (1 : Int32)) x13) fun r18 => (g_k1 (f_X10_changes σ5 1) fun σ30 => (g_k1 (f_X10_end σ30 a0 a1) fun v31 => (g_k1 (if r18 ≤ v31 then some (0 : Int32) else (g_k1 (f_X10_end σ30 a0 a1) fun v39 => some (r18 - v39))) fun x32 => (g_k1 (f_X10_at σ30 a0 a1 (1 : Int32)) fun v35 => (g_k1 (gald σ30 1 926 v35) fun v36 => (g_k1 (gast σ30 1 926 v35 (v36 + x32)) fun σ37 => some (x32, σ37))))))))))))) else some ((0 : Int32), σ5)))))
set_option maxRecDepth 100000 in
set_option maxHeartbeats 4000000 in
theorem c_X10_fit (l : Launch) {Γ : gG} {ad : Nat → Nat} {N : Nat} (hN : 8 ≤ N) {σ : gSt} {a0 : Int32} {a1 : Int32}  {r : Int32} {σ' : gSt} (hf : f_X10_fit σ a0 a1 = some (r, σ')) : gMi l celM Γ ad N yX10_fit cX10_fit 5 (some .int) (gR 4 0 0) [.ref (ad 0), .int a0, .int a1] σ r σ' := by
  intro sz
  refine gOf (Qc := fun sz => gQci celM Γ ad N r σ' sz) RX10 (by decide) rfl (by decide) (fun p e s m args below meth c H locs ls X S hl => ?_)
  have hl : lv_has ls 5 [(0, .ref (ad 0)), (1, .int a0), (2, .int a1)] := hl
  have hx := X.1
  have hb := X.2.1
  unfold f_X10_fit at hf
  refine lv_aload_n hx hb dX10_fit_0 rfl (lv_at hl 0 rfl) ?_
  refine lv_aload_n hx hb dX10_fit_1 rfl (lv_at hl 0 rfl) ?_
  refine lv_iload_n hx hb dX10_fit_2 rfl (lv_at hl 1 rfl) ?_
  refine lv_iload_n hx hb dX10_fit_3 rfl (lv_at hl 2 rfl) ?_
  obtain ⟨v1, hv1, hf⟩ := g_s1 hf
  refine g_ki S (g_runV (rest := [.ref (ad 0)]) X S (c_X10_isCaption l hN  hv1 _) cvX10_isCaption mlX10_159 (by omega) (ceM_10 _) rfl rfl rfl hl.1 (by decide) ⟨⟨rfl, rfl⟩, ⟨Nat.le_of_ble_eq_true rfl, Nat.le_of_ble_eq_true rfl⟩, Nat.le_of_ble_eq_true rfl, Nat.le_of_ble_eq_true rfl⟩ dX10_fit_4) (fun H locs S => ?_)
  obtain ⟨x2, hr3, hf⟩ := g_s1 hf
  have J4 : ∀ (H : Heap) (locs : List Loc) (ls : Array Slot), gS celM Γ ad N σ s H locs → lv_has ls 5 [(0, .ref (ad 0)), (1, .int a0), (2, .int a1)] → W p l e (gR 4 0 0) s m args below meth c H locs 0 0 (gQi celM Γ ad N r σ' below args s) (F0 m 15 ls [.int x2, .ref (ad 0)]) := by
    intro H locs ls S hl
    obtain ⟨σ5, hσ5, hf⟩ := g_s1 hf
    refine pfX10_35 X S hN hσ5 dX10_fit_15 (fun H locs S => ?_)
    refine lv_aload_n hx hb dX10_fit_18 rfl (lv_at hl 0 rfl) ?_
    refine gfX10_35 X S hN dX10_fit_19 ?_
    refine lv_if_le (tgt := 27) hx hb dX10_fit_22 (by decide) (fun c6 => ?_) (fun c6 => ?_)
    · have hf := (if_pos c6).symm.trans hf
      refine lv_aload_n hx hb dX10_fit_27 rfl (lv_at hl 0 rfl) ?_
      refine lv_iload_n hx hb dX10_fit_28 rfl (lv_at hl 1 rfl) ?_
      refine lv_iload_n hx hb dX10_fit_29 rfl (lv_at hl 2 rfl) ?_
      obtain ⟨v7, hv7, hf⟩ := g_s1 hf
      refine g_ki S (g_runV (rest := []) X S (c_X10_first l hN  hv7 _) cvX10_first mlX10_113 (by omega) (ceM_10 _) rfl rfl rfl hl.1 (by decide) ⟨⟨rfl, rfl⟩, ⟨Nat.le_of_ble_eq_true rfl, Nat.le_of_ble_eq_true rfl⟩, Nat.le_of_ble_eq_true rfl, Nat.le_of_ble_eq_true rfl⟩ dX10_fit_30) (fun H locs S => ?_)
      refine lv_aload_n hx hb dX10_fit_33 rfl (lv_at hl 0 rfl) ?_
      refine lv_iload_n hx hb dX10_fit_34 rfl (lv_at hl 1 rfl) ?_
      refine lv_iload_n hx hb dX10_fit_35 rfl (lv_at hl 2 rfl) ?_
      obtain ⟨v8, hv8, hf⟩ := g_s1 hf
      refine g_ki S (g_runV (rest := [.int v7]) X S (c_X10_needs l hN  hv8 _) cvX10_needs mlX10_122 (by omega) (ceM_10 _) rfl rfl rfl hl.1 (by decide) ⟨⟨rfl, rfl⟩, ⟨Nat.le_of_ble_eq_true rfl, Nat.le_of_ble_eq_true rfl⟩, Nat.le_of_ble_eq_true rfl, Nat.le_of_ble_eq_true rfl⟩ dX10_fit_36) (fun H locs S => ?_)
      refine lv_iadd hx hb dX10_fit_39 ?_
      refine lv_istore_n (lv' := [(3, .int (v7 + v8)), (0, .ref (ad 0)), (1, .int a0), (2, .int a1)]) hx hb dX10_fit_40 rfl hl (by decide) rfl (fun ls hl => ?_)
      refine lv_iload_n hx hb dX10_fit_41 rfl (lv_at hl 0 rfl) ?_
      refine lv_aload_n hx hb dX10_fit_42 rfl (lv_at hl 1 rfl) ?_
      refine gfX10_7 X S hN dX10_fit_43 ?_
      refine lv_iconst (v := (0 : Int32)) hx hb dX10_fit_46 (by decide) ?_
      refine g_ialdC X S (by omega) (ceM_a (rfl : gma 1 = true)) 0 (by decide) (by decide) dX10_fit_47 ?_
      obtain ⟨x9, hr10, hf⟩ := g_s1 hf
      have J11 : ∀ (H : Heap) (locs : List Loc) (ls : Array Slot), gS celM Γ ad N σ5 s H locs → lv_has ls 5 [(0, .ref (ad 0)), (1, .int a0), (2, .int a1)] → W p l e (gR 4 0 0) s m args below meth c H locs 0 0 (gQi celM Γ ad N r σ' below args s) (F0 m 61 ls [.int x9]) := by
        intro H locs ls S hl
        refine lv_istore_n (lv' := [(3, .int x9), (0, .ref (ad 0)), (1, .int a0), (2, .int a1)]) hx hb dX10_fit_61 rfl hl (by decide) rfl (fun ls hl => ?_)
        refine lv_iload_n hx hb dX10_fit_62 rfl (lv_at hl 3 rfl) ?_
        refine lv_iconst (v := (1 : Int32)) hx hb dX10_fit_63 (by decide) ?_
        refine lv_iadd hx hb dX10_fit_64 ?_
        refine lv_aload_n hx hb dX10_fit_65 rfl (lv_at hl 1 rfl) ?_
        refine gfX10_7 X S hN dX10_fit_66 ?_
        refine lv_bipush (v := (28 : Int32)) hx hb dX10_fit_69 (by decide) ?_
        refine lv_iload_n hx hb dX10_fit_71 rfl (lv_at hl 2 rfl) ?_
        refine lv_iadd hx hb dX10_fit_72 ?_
        obtain ⟨v12, hv12, hf⟩ := g_s1 hf
        refine g_iald X S (by omega) (ceM_a (rfl : gma 1 = true)) hv12 dX10_fit_73 ?_
        obtain ⟨x13, hr14, hf⟩ := g_s1 hf
        have J15 : ∀ (H : Heap) (locs : List Loc) (ls : Array Slot), gS celM Γ ad N σ5 s H locs → lv_has ls 5 [(3, .int x13), (0, .ref (ad 0)), (1, .int a0), (2, .int a1)] → W p l e (gR 4 0 0) s m args below meth c H locs 0 0 (gQi celM Γ ad N r σ' below args s) (F0 m 112 ls []) := by
          intro H locs ls S hl
          refine lv_aload_n hx hb dX10_fit_112 rfl (lv_at hl 1 rfl) ?_
          refine gfX10_7 X S hN dX10_fit_113 ?_
          refine lv_bipush (v := (7 : Int32)) hx hb dX10_fit_116 (by decide) ?_
          refine g_ialdC X S (by omega) (ceM_a (rfl : gma 1 = true)) 7 (by decide) (by decide) dX10_fit_118 ?_
          refine lv_iconst (v := (1 : Int32)) hx hb dX10_fit_119 (by decide) ?_
          refine lv_isub hx hb dX10_fit_120 ?_
          refine lv_istore (lv' := [(4, .int ((σ5 1 7) - (1 : Int32))), (3, .int x13), (0, .ref (ad 0)), (1, .int a0), (2, .int a1)]) hx hb dX10_fit_121 hl (by decide) rfl (fun ls hl => ?_)
          obtain ⟨r18, hr29, hf⟩ := g_s1 hf
          refine w_X10_fit_l1 hN X  FU _ _ _  hr29 (fun H locs ls S hl => ?_) _ _ _ S (lv_sub hl [0, 1, 2, 3, 4] rfl)
          refine lv_aload_n hx hb dX10_fit_182 rfl (lv_at hl 1 rfl) ?_
          refine lv_aload_n hx hb dX10_fit_183 rfl (lv_at hl 1 rfl) ?_
          refine gfX10_7 X S hN dX10_fit_184 ?_
          obtain ⟨σ30, hσ30, hf⟩ := g_s1 hf
          refine g_kv S (g_runV (rest := []) X S (c_X10_changes l hN (by rfl : gma 1 = true) hσ30 _) cvX10_changes mlX10_78 (by omega) (ceM_10 _) rfl rfl rfl hl.1 (by decide) ⟨⟨rfl, rfl⟩, ⟨Nat.le_of_ble_eq_true rfl, Nat.le_of_ble_eq_true rfl⟩, Nat.le_of_ble_eq_true rfl, Nat.le_of_ble_eq_true rfl⟩ dX10_fit_187) (fun H locs S => ?_)
          refine lv_iload_n hx hb dX10_fit_190 rfl (lv_at hl 0 rfl) ?_
          refine lv_aload_n hx hb dX10_fit_191 rfl (lv_at hl 1 rfl) ?_
          refine lv_iload_n hx hb dX10_fit_192 rfl (lv_at hl 2 rfl) ?_
          refine lv_iload_n hx hb dX10_fit_193 rfl (lv_at hl 3 rfl) ?_
          obtain ⟨v31, hv31, hf⟩ := g_s1 hf
          refine g_ki S (g_runV (rest := [.int r18]) X S (c_X10_end l hN  hv31 _) cvX10_end mlX10_71 (by omega) (ceM_10 _) rfl rfl rfl hl.1 (by decide) ⟨⟨rfl, rfl⟩, ⟨Nat.le_of_ble_eq_true rfl, Nat.le_of_ble_eq_true rfl⟩, Nat.le_of_ble_eq_true rfl, Nat.le_of_ble_eq_true rfl⟩ dX10_fit_194) (fun H locs S => ?_)
          obtain ⟨x32, hr33, hf⟩ := g_s1 hf
          have J34 : ∀ (H : Heap) (locs : List Loc) (ls : Array Slot), gS celM Γ ad N σ30 s H locs → lv_has ls 5 [(0, .ref (ad 0)), (1, .int a0), (2, .int a1)] → W p l e (gR 4 0 0) s m args below meth c H locs 0 0 (gQi celM Γ ad N r σ' below args s) (F0 m 212 ls [.int x32]) := by
            intro H locs ls S hl
            refine lv_istore (lv' := [(4, .int x32), (0, .ref (ad 0)), (1, .int a0), (2, .int a1)]) hx hb dX10_fit_212 hl (by decide) rfl (fun ls hl => ?_)
            refine lv_aload_n hx hb dX10_fit_214 rfl (lv_at hl 1 rfl) ?_
            refine gfX10_7 X S hN dX10_fit_215 ?_
            refine lv_iload_n hx hb dX10_fit_218 rfl (lv_at hl 2 rfl) ?_
            refine lv_iload_n hx hb dX10_fit_219 rfl (lv_at hl 3 rfl) ?_
            refine lv_iconst (v := (1 : Int32)) hx hb dX10_fit_220 (by decide) ?_
            obtain ⟨v35, hv35, hf⟩ := g_s1 hf
            refine g_ki S (g_runS (rest := [.ref (ad 1)]) X S (c_X10_at l hN  hv35 _) csX10_at mlX10_56 rfl rfl hl.1 (by decide) ⟨⟨rfl, rfl⟩, ⟨Nat.le_of_ble_eq_true rfl, Nat.le_of_ble_eq_true rfl⟩, Nat.le_of_ble_eq_true rfl, Nat.le_of_ble_eq_true rfl⟩ dX10_fit_221) (fun H locs S => ?_)
            refine lv_dup2_11 hx hb dX10_fit_224 rfl rfl ?_
            obtain ⟨v36, hv36, hf⟩ := g_s1 hf
            refine g_iald X S (by omega) (ceM_a (rfl : gma 1 = true)) hv36 dX10_fit_225 ?_
            refine lv_iload hx hb dX10_fit_226 (lv_at hl 0 rfl) ?_
            refine lv_iadd hx hb dX10_fit_228 ?_
            obtain ⟨σ37, hσ37, hf⟩ := g_s1 hf
            refine g_iast X S (by omega) (ceM_a (rfl : gma 1 = true)) hσ37 dX10_fit_229 (fun H locs S => ?_)
            refine lv_iload hx hb dX10_fit_230 (lv_at hl 0 rfl) ?_
            cases hf
            exact g_reti X S rfl dX10_fit_232
          replace hf := hr33
          refine lv_icmp_le (tgt := 211) hx hb dX10_fit_197 (by decide) (fun c38 => ?_) (fun c38 => ?_)
          · have hf := (if_pos c38).symm.trans hf
            refine lv_iconst (v := (0 : Int32)) hx hb dX10_fit_211 (by decide) ?_
            cases hf
            exact J34 _ _ _ S (lv_sub hl [1, 2, 3] rfl)
          · have hf := (if_neg c38).symm.trans hf
            refine lv_iload_n hx hb dX10_fit_200 rfl (lv_at hl 0 rfl) ?_
            refine lv_aload_n hx hb dX10_fit_201 rfl (lv_at hl 1 rfl) ?_
            refine lv_iload_n hx hb dX10_fit_202 rfl (lv_at hl 2 rfl) ?_
            refine lv_iload_n hx hb dX10_fit_203 rfl (lv_at hl 3 rfl) ?_
            obtain ⟨v39, hv39, hf⟩ := g_s1 hf
            refine g_ki S (g_runV (rest := [.int r18]) X S (c_X10_end l hN  hv39 _) cvX10_end mlX10_71 (by omega) (ceM_10 _) rfl rfl rfl hl.1 (by decide) ⟨⟨rfl, rfl⟩, ⟨Nat.le_of_ble_eq_true rfl, Nat.le_of_ble_eq_true rfl⟩, Nat.le_of_ble_eq_true rfl, Nat.le_of_ble_eq_true rfl⟩ dX10_fit_204) (fun H locs S => ?_)
            refine lv_isub hx hb dX10_fit_207 ?_
            refine lv_goto (tgt := 212) hx hb dX10_fit_208 (by decide) ?_
            cases hf
            exact J34 _ _ _ S (lv_sub hl [1, 2, 3] rfl)
        replace hf := hr14
        refine lv_icmp_ge (tgt := 112) hx hb dX10_fit_74 (by decide) (fun c40 => ?_) (fun c40 => ?_)
        · have hf := (if_pos c40).symm.trans hf
          cases hf
          exact J15 _ _ _ S (lv_sub hl [0, 1, 2, 3] rfl)
        · have hf := (if_neg c40).symm.trans hf
          refine lv_iload_n hx hb dX10_fit_77 rfl (lv_at hl 0 rfl) ?_
          refine lv_aload_n hx hb dX10_fit_78 rfl (lv_at hl 1 rfl) ?_
          refine lv_iload_n hx hb dX10_fit_79 rfl (lv_at hl 2 rfl) ?_
          refine lv_iload_n hx hb dX10_fit_80 rfl (lv_at hl 3 rfl) ?_
          refine lv_iconst (v := (1 : Int32)) hx hb dX10_fit_81 (by decide) ?_
          refine lv_iadd hx hb dX10_fit_82 ?_
          obtain ⟨v41, hv41, hf⟩ := g_s1 hf
          refine g_ki S (g_runV (rest := [.int x9]) X S (c_X10_first l hN  hv41 _) cvX10_first mlX10_113 (by omega) (ceM_10 _) rfl rfl rfl hl.1 (by decide) ⟨⟨rfl, rfl⟩, ⟨Nat.le_of_ble_eq_true rfl, Nat.le_of_ble_eq_true rfl⟩, Nat.le_of_ble_eq_true rfl, Nat.le_of_ble_eq_true rfl⟩ dX10_fit_83) (fun H locs S => ?_)
          refine lv_aload_n hx hb dX10_fit_86 rfl (lv_at hl 1 rfl) ?_
          refine gfX10_7 X S hN dX10_fit_87 ?_
          refine lv_iconst (v := (3 : Int32)) hx hb dX10_fit_90 (by decide) ?_
          refine g_ialdC X S (by omega) (ceM_a (rfl : gma 1 = true)) 3 (by decide) (by decide) dX10_fit_91 ?_
          refine lv_isub hx hb dX10_fit_92 ?_
          refine lv_icmp_le (tgt := 112) hx hb dX10_fit_93 (by decide) (fun c42 => ?_) (fun c42 => ?_)
          · have hf := (if_pos c42).symm.trans hf
            cases hf
            exact J15 _ _ _ S (lv_sub hl [0, 1, 2, 3] rfl)
          · have hf := (if_neg c42).symm.trans hf
            refine lv_aload_n hx hb dX10_fit_96 rfl (lv_at hl 1 rfl) ?_
            refine lv_iload_n hx hb dX10_fit_97 rfl (lv_at hl 2 rfl) ?_
            refine lv_iload_n hx hb dX10_fit_98 rfl (lv_at hl 3 rfl) ?_
            refine lv_iconst (v := (1 : Int32)) hx hb dX10_fit_99 (by decide) ?_
            refine lv_iadd hx hb dX10_fit_100 ?_
            obtain ⟨v43, hv43, hf⟩ := g_s1 hf
            refine g_ki S (g_runV (rest := []) X S (c_X10_first l hN  hv43 _) cvX10_first mlX10_113 (by omega) (ceM_10 _) rfl rfl rfl hl.1 (by decide) ⟨⟨rfl, rfl⟩, ⟨Nat.le_of_ble_eq_true rfl, Nat.le_of_ble_eq_true rfl⟩, Nat.le_of_ble_eq_true rfl, Nat.le_of_ble_eq_true rfl⟩ dX10_fit_101) (fun H locs S => ?_)
            refine lv_aload_n hx hb dX10_fit_104 rfl (lv_at hl 1 rfl) ?_
            refine gfX10_7 X S hN dX10_fit_105 ?_
            refine lv_iconst (v := (3 : Int32)) hx hb dX10_fit_108 (by decide) ?_
            refine g_ialdC X S (by omega) (ceM_a (rfl : gma 1 = true)) 3 (by decide) (by decide) dX10_fit_109 ?_
            refine lv_isub hx hb dX10_fit_110 ?_
            refine lv_istore_n (lv' := [(3, .int (v43 - (σ5 1 3))), (0, .ref (ad 0)), (1, .int a0), (2, .int a1)]) hx hb dX10_fit_111 rfl hl (by decide) rfl (fun ls hl => ?_)
            cases hf
            exact J15 _ _ _ S (lv_sub hl [0, 1, 2, 3] rfl)
      replace hf := hr10
      refine lv_icmp_le (tgt := 60) hx hb dX10_fit_48 (by decide) (fun c44 => ?_) (fun c44 => ?_)
      · have hf := (if_pos c44).symm.trans hf
        refine lv_iload_n hx hb dX10_fit_60 rfl (lv_at hl 0 rfl) ?_
        cases hf
        exact J11 _ _ _ S (lv_sub hl [1, 2, 3] rfl)
      · have hf := (if_neg c44).symm.trans hf
        refine lv_aload_n hx hb dX10_fit_51 rfl (lv_at hl 1 rfl) ?_
        refine gfX10_7 X S hN dX10_fit_52 ?_
        refine lv_iconst (v := (0 : Int32)) hx hb dX10_fit_55 (by decide) ?_
        refine g_ialdC X S (by omega) (ceM_a (rfl : gma 1 = true)) 0 (by decide) (by decide) dX10_fit_56 ?_
        refine lv_goto (tgt := 61) hx hb dX10_fit_57 (by decide) ?_
        cases hf
        exact J11 _ _ _ S (lv_sub hl [1, 2, 3] rfl)
    · have hf := (if_neg c6).symm.trans hf
      refine lv_iconst (v := (0 : Int32)) hx hb dX10_fit_25 (by decide) ?_
      cases hf
      exact g_reti X S rfl dX10_fit_26
  replace hf := hr3
  refine lv_if_eq (tgt := 14) hx hb dX10_fit_7 (by decide) (fun c45 => ?_) (fun c45 => ?_)
  · have hf := (if_pos c45).symm.trans hf
    refine lv_iconst (v := (1 : Int32)) hx hb dX10_fit_14 (by decide) ?_
    cases hf
    exact J4 _ _ _ S (lv_sub hl [0, 1, 2] rfl)
  · have hf := (if_neg c45).symm.trans hf
    refine lv_iconst (v := (0 : Int32)) hx hb dX10_fit_10 (by decide) ?_
    refine lv_goto (tgt := 15) hx hb dX10_fit_11 (by decide) ?_
    cases hf
    exact J4 _ _ _ S (lv_sub hl [0, 1, 2] rfl)

noncomputable def f_X10_floor (σ : gSt) (a0 : Int32) (a1 : Int32) : Option (Int32) :=
  (g_k1 (if a0 < 0 then (g_k1 (gdiv ((a1 - (1 : Int32)) - a0) a1) fun _ => some (-(((a1 - (1 : Int32)) - a0) / a1))) else (g_k1 (gdiv a0 a1) fun _ => some (a0 / a1))) fun x1 => some x1)
set_option maxRecDepth 100000 in
set_option maxHeartbeats 4000000 in
theorem c_X10_floor (l : Launch) {Γ : gG} {ad : Nat → Nat} {N : Nat} (hN : 8 ≤ N) {σ : gSt} {a0 : Int32} {a1 : Int32}  {r : Int32} (hf : f_X10_floor σ a0 a1 = some r) : gMi l celM Γ ad N yX10_floor cX10_floor 2 (some .int) (gR 1 0 0) [.int a0, .int a1] σ r σ := by
  intro sz
  refine gOf (Qc := fun sz => gQci celM Γ ad N r σ sz) RX10 (by decide) rfl (by decide) (fun p e s m args below meth c H locs ls X S hl => ?_)
  have hl : lv_has ls 2 [(0, .int a0), (1, .int a1)] := hl
  have hx := X.1
  have hb := X.2.1
  unfold f_X10_floor at hf
  refine lv_iload_n hx hb dX10_floor_0 rfl (lv_at hl 0 rfl) ?_
  obtain ⟨x1, hr2, hf⟩ := g_s1 hf
  have J3 : ∀ (H : Heap) (locs : List Loc) (ls : Array Slot), gS celM Γ ad N σ s H locs → lv_has ls 2 [] → W p l e (gR 1 0 0) s m args below meth c H locs 0 0 (gQi celM Γ ad N r σ below args s) (F0 m 18 ls [.int x1]) := by
    intro H locs ls S hl
    cases hf
    exact g_reti X S rfl dX10_floor_18
  replace hf := hr2
  refine lv_if_lt (tgt := 10) hx hb dX10_floor_1 (by decide) (fun c4 => ?_) (fun c4 => ?_)
  · have hf := (if_pos c4).symm.trans hf
    refine lv_iload_n hx hb dX10_floor_10 rfl (lv_at hl 1 rfl) ?_
    refine lv_iconst (v := (1 : Int32)) hx hb dX10_floor_11 (by decide) ?_
    refine lv_isub hx hb dX10_floor_12 ?_
    refine lv_iload_n hx hb dX10_floor_13 rfl (lv_at hl 0 rfl) ?_
    refine lv_isub hx hb dX10_floor_14 ?_
    refine lv_iload_n hx hb dX10_floor_15 rfl (lv_at hl 1 rfl) ?_
    obtain ⟨v5, hv5, hf⟩ := g_s1 hf
    obtain ⟨hzv5, rfl⟩ := gdiv_some hv5
    refine lv_idiv hx hb dX10_floor_16 hzv5 ?_
    refine lv_ineg hx hb dX10_floor_17 ?_
    cases hf
    exact J3 _ _ _ S (lv_sub hl [] rfl)
  · have hf := (if_neg c4).symm.trans hf
    refine lv_iload_n hx hb dX10_floor_4 rfl (lv_at hl 0 rfl) ?_
    refine lv_iload_n hx hb dX10_floor_5 rfl (lv_at hl 1 rfl) ?_
    obtain ⟨v6, hv6, hf⟩ := g_s1 hf
    obtain ⟨hzv6, rfl⟩ := gdiv_some hv6
    refine lv_idiv hx hb dX10_floor_6 hzv6 ?_
    refine lv_goto (tgt := 18) hx hb dX10_floor_7 (by decide) ?_
    cases hf
    exact J3 _ _ _ S (lv_sub hl [] rfl)

noncomputable def f_X10_retimed (σ : gSt) (a0 : Int32) (a1 : Int32) (a2 : Int32) (a3 : Int32) (a4 : Int32) : Option (Int32) :=
  (g_k1 (if (a3 - a1) ≤ 0 then (g_k1 (f_X10_floor σ (((-2 : Int32) * ((a0 - a1) * (a4 - a2))) - (a3 - a1)) ((-2 : Int32) * (a3 - a1))) fun v5 => some (a2 + v5)) else (g_k1 (f_X10_floor σ (((2 : Int32) * ((a0 - a1) * (a4 - a2))) + (a3 - a1)) ((2 : Int32) * (a3 - a1))) fun v6 => some (a2 + v6))) fun x1 => some x1)
set_option maxRecDepth 100000 in
set_option maxHeartbeats 4000000 in
theorem c_X10_retimed (l : Launch) {Γ : gG} {ad : Nat → Nat} {N : Nat} (hN : 8 ≤ N) {σ : gSt} {a0 : Int32} {a1 : Int32} {a2 : Int32} {a3 : Int32} {a4 : Int32}  {r : Int32} (hf : f_X10_retimed σ a0 a1 a2 a3 a4 = some r) : gMi l celM Γ ad N yX10_retimed cX10_retimed 7 (some .int) (gR 2 0 0) [.int a0, .int a1, .int a2, .int a3, .int a4] σ r σ := by
  intro sz
  refine gOf (Qc := fun sz => gQci celM Γ ad N r σ sz) RX10 (by decide) rfl (by decide) (fun p e s m args below meth c H locs ls X S hl => ?_)
  have hl : lv_has ls 7 [(6, .int (a3 - a1)), (5, .int ((a0 - a1) * (a4 - a2))), (0, .int a0), (1, .int a1), (2, .int a2), (3, .int a3), (4, .int a4)] := hl
  have hx := X.1
  have hb := X.2.1
  unfold f_X10_retimed at hf
  refine lv_iload_n hx hb dX10_retimed_0 rfl (lv_at hl 0 rfl) ?_
  refine lv_iload_n hx hb dX10_retimed_1 rfl (lv_at hl 1 rfl) ?_
  refine lv_isub hx hb dX10_retimed_2 ?_
  refine lv_iload hx hb dX10_retimed_3 (lv_at hl 4 rfl) ?_
  refine lv_iload_n hx hb dX10_retimed_5 rfl (lv_at hl 2 rfl) ?_
  refine lv_isub hx hb dX10_retimed_6 ?_
  refine lv_imul hx hb dX10_retimed_7 ?_
  refine lv_istore (lv' := [(5, .int ((a0 - a1) * (a4 - a2))), (0, .int a0), (1, .int a1), (2, .int a2), (3, .int a3), (4, .int a4)]) hx hb dX10_retimed_8 hl (by decide) rfl (fun ls hl => ?_)
  refine lv_iload_n hx hb dX10_retimed_10 rfl (lv_at hl 4 rfl) ?_
  refine lv_iload_n hx hb dX10_retimed_11 rfl (lv_at hl 2 rfl) ?_
  refine lv_isub hx hb dX10_retimed_12 ?_
  refine lv_istore (lv' := [(6, .int (a3 - a1)), (5, .int ((a0 - a1) * (a4 - a2))), (0, .int a0), (1, .int a1), (2, .int a2), (3, .int a3), (4, .int a4)]) hx hb dX10_retimed_13 hl (by decide) rfl (fun ls hl => ?_)
  refine lv_iload hx hb dX10_retimed_15 (lv_at hl 0 rfl) ?_
  obtain ⟨x1, hr2, hf⟩ := g_s1 hf
  have J3 : ∀ (H : Heap) (locs : List Loc) (ls : Array Slot), gS celM Γ ad N σ s H locs → lv_has ls 7 [] → W p l e (gR 2 0 0) s m args below meth c H locs 0 0 (gQi celM Γ ad N r σ below args s) (F0 m 57 ls [.int x1]) := by
    intro H locs ls S hl
    cases hf
    exact g_reti X S rfl dX10_retimed_57
  replace hf := hr2
  refine lv_if_le (tgt := 39) hx hb dX10_retimed_17 (by decide) (fun c4 => ?_) (fun c4 => ?_)
  · have hf := (if_pos c4).symm.trans hf
    refine lv_iload_n hx hb dX10_retimed_39 rfl (lv_at hl 4 rfl) ?_
    refine lv_bipush (v := (-2 : Int32)) hx hb dX10_retimed_40 (by decide) ?_
    refine lv_iload hx hb dX10_retimed_42 (lv_at hl 1 rfl) ?_
    refine lv_imul hx hb dX10_retimed_44 ?_
    refine lv_iload hx hb dX10_retimed_45 (lv_at hl 0 rfl) ?_
    refine lv_isub hx hb dX10_retimed_47 ?_
    refine lv_bipush (v := (-2 : Int32)) hx hb dX10_retimed_48 (by decide) ?_
    refine lv_iload hx hb dX10_retimed_50 (lv_at hl 0 rfl) ?_
    refine lv_imul hx hb dX10_retimed_52 ?_
    obtain ⟨v5, hv5, hf⟩ := g_s1 hf
    refine g_ki S (g_runS (rest := [.int a2]) X S (c_X10_floor l hN  hv5 _) csX10_floor mlX10_178 rfl rfl hl.1 (by decide) ⟨⟨rfl, rfl⟩, ⟨Nat.le_of_ble_eq_true rfl, Nat.le_of_ble_eq_true rfl⟩, Nat.le_of_ble_eq_true rfl, Nat.le_of_ble_eq_true rfl⟩ dX10_retimed_53) (fun H locs S => ?_)
    refine lv_iadd hx hb dX10_retimed_56 ?_
    cases hf
    exact J3 _ _ _ S (lv_sub hl [] rfl)
  · have hf := (if_neg c4).symm.trans hf
    refine lv_iload_n hx hb dX10_retimed_20 rfl (lv_at hl 4 rfl) ?_
    refine lv_iconst (v := (2 : Int32)) hx hb dX10_retimed_21 (by decide) ?_
    refine lv_iload hx hb dX10_retimed_22 (lv_at hl 1 rfl) ?_
    refine lv_imul hx hb dX10_retimed_24 ?_
    refine lv_iload hx hb dX10_retimed_25 (lv_at hl 0 rfl) ?_
    refine lv_iadd hx hb dX10_retimed_27 ?_
    refine lv_iconst (v := (2 : Int32)) hx hb dX10_retimed_28 (by decide) ?_
    refine lv_iload hx hb dX10_retimed_29 (lv_at hl 0 rfl) ?_
    refine lv_imul hx hb dX10_retimed_31 ?_
    obtain ⟨v6, hv6, hf⟩ := g_s1 hf
    refine g_ki S (g_runS (rest := [.int a2]) X S (c_X10_floor l hN  hv6 _) csX10_floor mlX10_178 rfl rfl hl.1 (by decide) ⟨⟨rfl, rfl⟩, ⟨Nat.le_of_ble_eq_true rfl, Nat.le_of_ble_eq_true rfl⟩, Nat.le_of_ble_eq_true rfl, Nat.le_of_ble_eq_true rfl⟩ dX10_retimed_32) (fun H locs S => ?_)
    refine lv_iadd hx hb dX10_retimed_35 ?_
    refine lv_goto (tgt := 57) hx hb dX10_retimed_36 (by decide) ?_
    cases hf
    exact J3 _ _ _ S (lv_sub hl [] rfl)

noncomputable def f_X10_retime_l2 (a0 : Int32) (a1 : Int32) (a2 : Int32) (a3 : Int32) (a4 : Int32) (σ5 : gSt) (i7 : Int32) : Nat → Int32 → Int32 → Option (Int32)
  | 0, _, _ => none
  | n + 1, i11, i12 => (g_k1 (gald σ5 1 926 ((28 : Int32) + i7)) fun v14 => (if v14 ≤ i11 then some i12 else (if a0 < 0 then (g_k1 (f_X10_first σ5 i7 i11) fun v17 => (g_k1 (f_X10_retimed σ5 v17 a1 a2 a3 a4) fun v18 => (g_k1 (f_X10_end σ5 i7 i11) fun v19 => (g_k1 (f_X10_retimed σ5 v19 a1 a2 a3 a4) fun v20 => (g_k1 (if v18 < 0 then some (1 : Int32) else (if v20 ≤ (σ5 1 0) then (if v18 < v20 then some (0 : Int32) else some (2 : Int32)) else some (1 : Int32))) fun x21 => (g_k1 (if x21 ≤ 0 then some i12 else (if i12 = 0 then some x21 else (if i12 ≤ x21 then some i12 else some x21))) fun x24 => (f_X10_retime_l2 a0 a1 a2 a3 a4 σ5 i7 n (i11 + 1) x24))))))) else (if a0 = i7 then (g_k1 (f_X10_first σ5 i7 i11) fun v34 => (g_k1 (f_X10_retimed σ5 v34 a1 a2 a3 a4) fun v35 => (g_k1 (f_X10_end σ5 i7 i11) fun v36 => (g_k1 (f_X10_retimed σ5 v36 a1 a2 a3 a4) fun v37 => (g_k1 (if v35 < 0 then some (1 : Int32) else (if v37 ≤ (σ5 1 0) then (if v35 < v37 then some (0 : Int32) else some (2 : Int32)) else some (1 : Int32))) fun x38 => (g_k1 (if x38 ≤ 0 then some i12 else (if i12 = 0 then some x38 else (if i12 ≤ x38 then some i12 else some x38))) fun x41 => (f_X10_retime_l2 a0 a1 a2 a3 a4 σ5 i7 n (i11 + 1) x41))))))) else some i12))))
set_option maxRecDepth 100000 in
set_option maxHeartbeats 4000000 in
theorem w_X10_retime_l2 {l : Launch} {Γ : gG} {ad : Nat → Nat} {N : Nat} {p : Program} {e : Env} {s : State} {m : MethodId} {args : Array Value} {below : List Frame} {meth : Method} {c : Code} {Q : State → Prop} (hN : 8 ≤ N) (X : gX celM Γ ad N RX10 cX10_retime 12 (some .int) p s m args meth c) {a0 : Int32} {a1 : Int32} {a2 : Int32} {a3 : Int32} {a4 : Int32} {σ5 : gSt} {i7 : Int32}  : ∀ (n : Nat) (i11 : Int32) (i12 : Int32) (r13 : Int32), f_X10_retime_l2 a0 a1 a2 a3 a4 σ5 i7 n i11 i12 = some r13 → (∀ (H : Heap) (locs : List Loc) (ls : Array Slot), gS celM Γ ad N σ5 s H locs → lv_has ls 12 [(7, .int i7), (6, .int r13), (0, .ref (ad 0)), (1, .int a0), (2, .int a1), (3, .int a2), (4, .int a3), (5, .int a4)] → W p l e (gR 3 0 0) s m args below meth c H locs 0 0 (Q) (F0 m 258 ls [])) → ∀ (H : Heap) (locs : List Loc) (ls : Array Slot), gS celM Γ ad N σ5 s H locs → lv_has ls 12 [(8, .int i11), (7, .int i7), (6, .int i12), (0, .ref (ad 0)), (1, .int a0), (2, .int a1), (3, .int a2), (4, .int a3), (5, .int a4)] → W p l e (gR 3 0 0) s m args below meth c H locs 0 0 (Q) (F0 m 129 ls []) := by
  have hx := X.1
  have hb := X.2.1
  intro n
  induction n with
  | zero =>
    intro i11 i12 r13 hf
    cases hf
  | succ n ih =>
    intro i11 i12 r13 hf J H locs ls S hl
    rw [f_X10_retime_l2] at hf
    refine lv_iload hx hb dX10_retime_129 (lv_at hl 0 rfl) ?_
    refine lv_aload_n hx hb dX10_retime_131 rfl (lv_at hl 3 rfl) ?_
    refine gfX10_7 X S hN dX10_retime_132 ?_
    refine lv_bipush (v := (28 : Int32)) hx hb dX10_retime_135 (by decide) ?_
    refine lv_iload hx hb dX10_retime_137 (lv_at hl 1 rfl) ?_
    refine lv_iadd hx hb dX10_retime_139 ?_
    obtain ⟨v14, hv14, hf⟩ := g_s1 hf
    refine g_iald X S (by omega) (ceM_a (rfl : gma 1 = true)) hv14 dX10_retime_140 ?_
    refine lv_icmp_ge (tgt := 258) hx hb dX10_retime_141 (by decide) (fun c15 => ?_) (fun c15 => ?_)
    · have hf := (if_pos c15).symm.trans hf
      cases hf
      exact J _ _ _ S (lv_sub hl [1, 2, 3, 4, 5, 6, 7, 8] rfl)
    · have hf := (if_neg c15).symm.trans hf
      refine lv_iload_n hx hb dX10_retime_144 rfl (lv_at hl 4 rfl) ?_
      refine lv_if_lt (tgt := 154) hx hb dX10_retime_145 (by decide) (fun c16 => ?_) (fun c16 => ?_)
      · have hf := (if_pos c16).symm.trans hf
        refine lv_aload_n hx hb dX10_retime_154 rfl (lv_at hl 3 rfl) ?_
        refine lv_iload hx hb dX10_retime_155 (lv_at hl 1 rfl) ?_
        refine lv_iload hx hb dX10_retime_157 (lv_at hl 0 rfl) ?_
        obtain ⟨v17, hv17, hf⟩ := g_s1 hf
        refine g_ki S (g_runV (rest := []) X S (c_X10_first l hN  hv17 _) cvX10_first mlX10_113 (by omega) (ceM_10 _) rfl rfl rfl hl.1 (by decide) ⟨⟨rfl, rfl⟩, ⟨Nat.le_of_ble_eq_true rfl, Nat.le_of_ble_eq_true rfl⟩, Nat.le_of_ble_eq_true rfl, Nat.le_of_ble_eq_true rfl⟩ dX10_retime_159) (fun H locs S => ?_)
        refine lv_iload_n hx hb dX10_retime_162 rfl (lv_at hl 5 rfl) ?_
        refine lv_iload_n hx hb dX10_retime_163 rfl (lv_at hl 6 rfl) ?_
        refine lv_iload hx hb dX10_retime_164 (lv_at hl 7 rfl) ?_
        refine lv_iload hx hb dX10_retime_166 (lv_at hl 8 rfl) ?_
        obtain ⟨v18, hv18, hf⟩ := g_s1 hf
        refine g_ki S (g_runS (rest := []) X S (c_X10_retimed l hN  hv18 _) csX10_retimed mlX10_181 rfl rfl hl.1 (by decide) ⟨⟨rfl, rfl⟩, ⟨Nat.le_of_ble_eq_true rfl, Nat.le_of_ble_eq_true rfl⟩, Nat.le_of_ble_eq_true rfl, Nat.le_of_ble_eq_true rfl⟩ dX10_retime_168) (fun H locs S => ?_)
        refine lv_istore (lv' := [(9, .int v18), (8, .int i11), (7, .int i7), (6, .int i12), (0, .ref (ad 0)), (1, .int a0), (2, .int a1), (3, .int a2), (4, .int a3), (5, .int a4)]) hx hb dX10_retime_171 hl (by decide) rfl (fun ls hl => ?_)
        refine lv_aload_n hx hb dX10_retime_173 rfl (lv_at hl 4 rfl) ?_
        refine lv_iload hx hb dX10_retime_174 (lv_at hl 2 rfl) ?_
        refine lv_iload hx hb dX10_retime_176 (lv_at hl 1 rfl) ?_
        obtain ⟨v19, hv19, hf⟩ := g_s1 hf
        refine g_ki S (g_runV (rest := []) X S (c_X10_end l hN  hv19 _) cvX10_end mlX10_71 (by omega) (ceM_10 _) rfl rfl rfl hl.1 (by decide) ⟨⟨rfl, rfl⟩, ⟨Nat.le_of_ble_eq_true rfl, Nat.le_of_ble_eq_true rfl⟩, Nat.le_of_ble_eq_true rfl, Nat.le_of_ble_eq_true rfl⟩ dX10_retime_178) (fun H locs S => ?_)
        refine lv_iload_n hx hb dX10_retime_181 rfl (lv_at hl 6 rfl) ?_
        refine lv_iload_n hx hb dX10_retime_182 rfl (lv_at hl 7 rfl) ?_
        refine lv_iload hx hb dX10_retime_183 (lv_at hl 8 rfl) ?_
        refine lv_iload hx hb dX10_retime_185 (lv_at hl 9 rfl) ?_
        obtain ⟨v20, hv20, hf⟩ := g_s1 hf
        refine g_ki S (g_runS (rest := []) X S (c_X10_retimed l hN  hv20 _) csX10_retimed mlX10_181 rfl rfl hl.1 (by decide) ⟨⟨rfl, rfl⟩, ⟨Nat.le_of_ble_eq_true rfl, Nat.le_of_ble_eq_true rfl⟩, Nat.le_of_ble_eq_true rfl, Nat.le_of_ble_eq_true rfl⟩ dX10_retime_187) (fun H locs S => ?_)
        refine lv_istore (lv' := [(10, .int v20), (9, .int v18), (8, .int i11), (7, .int i7), (6, .int i12), (0, .ref (ad 0)), (1, .int a0), (2, .int a1), (3, .int a2), (4, .int a3), (5, .int a4)]) hx hb dX10_retime_190 hl (by decide) rfl (fun ls hl => ?_)
        refine lv_iload hx hb dX10_retime_192 (lv_at hl 1 rfl) ?_
        obtain ⟨x21, hr22, hf⟩ := g_s1 hf
        have J23 : ∀ (H : Heap) (locs : List Loc) (ls : Array Slot), gS celM Γ ad N σ5 s H locs → lv_has ls 12 [(8, .int i11), (7, .int i7), (6, .int i12), (0, .ref (ad 0)), (1, .int a0), (2, .int a1), (3, .int a2), (4, .int a3), (5, .int a4)] → W p l e (gR 3 0 0) s m args below meth c H locs 0 0 (Q) (F0 m 224 ls [.int x21]) := by
          intro H locs ls S hl
          refine lv_istore (lv' := [(11, .int x21), (8, .int i11), (7, .int i7), (6, .int i12), (0, .ref (ad 0)), (1, .int a0), (2, .int a1), (3, .int a2), (4, .int a3), (5, .int a4)]) hx hb dX10_retime_224 hl (by decide) rfl (fun ls hl => ?_)
          refine lv_iload hx hb dX10_retime_226 (lv_at hl 0 rfl) ?_
          obtain ⟨x24, hr25, hf⟩ := g_s1 hf
          have J26 : ∀ (H : Heap) (locs : List Loc) (ls : Array Slot), gS celM Γ ad N σ5 s H locs → lv_has ls 12 [(8, .int i11), (7, .int i7), (0, .ref (ad 0)), (1, .int a0), (2, .int a1), (3, .int a2), (4, .int a3), (5, .int a4)] → W p l e (gR 3 0 0) s m args below meth c H locs 0 0 (Q) (F0 m 250 ls [.int x24]) := by
            intro H locs ls S hl
            refine lv_istore (lv' := [(6, .int x24), (8, .int i11), (7, .int i7), (0, .ref (ad 0)), (1, .int a0), (2, .int a1), (3, .int a2), (4, .int a3), (5, .int a4)]) hx hb dX10_retime_250 hl (by decide) rfl (fun ls hl => ?_)
            refine lv_iinc (v := (i11 + 1)) (lv' := [(8, .int (i11 + 1)), (6, .int x24), (7, .int i7), (0, .ref (ad 0)), (1, .int a0), (2, .int a1), (3, .int a2), (4, .int a3), (5, .int a4)]) hx hb dX10_retime_252 hl (k := 1) rfl rfl (by decide) rfl (fun ls hl => ?_)
            refine lv_goto (tgt := 129) hx hb dX10_retime_255 (by decide) ?_
            exact ih _ _ _  hf J _ _ _ S (lv_sub hl [0, 2, 1, 3, 4, 5, 6, 7, 8] rfl)
          replace hf := hr25
          refine lv_if_le (tgt := 248) hx hb dX10_retime_228 (by decide) (fun c27 => ?_) (fun c27 => ?_)
          · have hf := (if_pos c27).symm.trans hf
            refine lv_iload hx hb dX10_retime_248 (lv_at hl 3 rfl) ?_
            cases hf
            exact J26 _ _ _ S (lv_sub hl [1, 2, 4, 5, 6, 7, 8, 9] rfl)
          · have hf := (if_neg c27).symm.trans hf
            refine lv_iload hx hb dX10_retime_231 (lv_at hl 3 rfl) ?_
            refine lv_if_eq (tgt := 243) hx hb dX10_retime_233 (by decide) (fun c28 => ?_) (fun c28 => ?_)
            · have hf := (if_pos c28).symm.trans hf
              refine lv_iload hx hb dX10_retime_243 (lv_at hl 0 rfl) ?_
              refine lv_goto (tgt := 250) hx hb dX10_retime_245 (by decide) ?_
              cases hf
              exact J26 _ _ _ S (lv_sub hl [1, 2, 4, 5, 6, 7, 8, 9] rfl)
            · have hf := (if_neg c28).symm.trans hf
              refine lv_iload hx hb dX10_retime_236 (lv_at hl 0 rfl) ?_
              refine lv_iload hx hb dX10_retime_238 (lv_at hl 3 rfl) ?_
              refine lv_icmp_ge (tgt := 248) hx hb dX10_retime_240 (by decide) (fun c29 => ?_) (fun c29 => ?_)
              · have hf := (if_pos c29).symm.trans hf
                refine lv_iload hx hb dX10_retime_248 (lv_at hl 3 rfl) ?_
                cases hf
                exact J26 _ _ _ S (lv_sub hl [1, 2, 4, 5, 6, 7, 8, 9] rfl)
              · have hf := (if_neg c29).symm.trans hf
                refine lv_iload hx hb dX10_retime_243 (lv_at hl 0 rfl) ?_
                refine lv_goto (tgt := 250) hx hb dX10_retime_245 (by decide) ?_
                cases hf
                exact J26 _ _ _ S (lv_sub hl [1, 2, 4, 5, 6, 7, 8, 9] rfl)
        replace hf := hr22
        refine lv_if_lt (tgt := 208) hx hb dX10_retime_194 (by decide) (fun c30 => ?_) (fun c30 => ?_)
        · have hf := (if_pos c30).symm.trans hf
          refine lv_iconst (v := (1 : Int32)) hx hb dX10_retime_208 (by decide) ?_
          refine lv_goto (tgt := 224) hx hb dX10_retime_209 (by decide) ?_
          cases hf
          exact J23 _ _ _ S (lv_sub hl [2, 3, 4, 5, 6, 7, 8, 9, 10] rfl)
        · have hf := (if_neg c30).symm.trans hf
          refine lv_iload hx hb dX10_retime_197 (lv_at hl 0 rfl) ?_
          refine lv_aload_n hx hb dX10_retime_199 rfl (lv_at hl 5 rfl) ?_
          refine gfX10_7 X S hN dX10_retime_200 ?_
          refine lv_iconst (v := (0 : Int32)) hx hb dX10_retime_203 (by decide) ?_
          refine g_ialdC X S (by omega) (ceM_a (rfl : gma 1 = true)) 0 (by decide) (by decide) dX10_retime_204 ?_
          refine lv_icmp_le (tgt := 212) hx hb dX10_retime_205 (by decide) (fun c31 => ?_) (fun c31 => ?_)
          · have hf := (if_pos c31).symm.trans hf
            refine lv_iload hx hb dX10_retime_212 (lv_at hl 1 rfl) ?_
            refine lv_iload hx hb dX10_retime_214 (lv_at hl 0 rfl) ?_
            refine lv_icmp_lt (tgt := 223) hx hb dX10_retime_216 (by decide) (fun c32 => ?_) (fun c32 => ?_)
            · have hf := (if_pos c32).symm.trans hf
              refine lv_iconst (v := (0 : Int32)) hx hb dX10_retime_223 (by decide) ?_
              cases hf
              exact J23 _ _ _ S (lv_sub hl [2, 3, 4, 5, 6, 7, 8, 9, 10] rfl)
            · have hf := (if_neg c32).symm.trans hf
              refine lv_iconst (v := (2 : Int32)) hx hb dX10_retime_219 (by decide) ?_
              refine lv_goto (tgt := 224) hx hb dX10_retime_220 (by decide) ?_
              cases hf
              exact J23 _ _ _ S (lv_sub hl [2, 3, 4, 5, 6, 7, 8, 9, 10] rfl)
          · have hf := (if_neg c31).symm.trans hf
            refine lv_iconst (v := (1 : Int32)) hx hb dX10_retime_208 (by decide) ?_
            refine lv_goto (tgt := 224) hx hb dX10_retime_209 (by decide) ?_
            cases hf
            exact J23 _ _ _ S (lv_sub hl [2, 3, 4, 5, 6, 7, 8, 9, 10] rfl)
      · have hf := (if_neg c16).symm.trans hf
        refine lv_iload_n hx hb dX10_retime_148 rfl (lv_at hl 4 rfl) ?_
        refine lv_iload hx hb dX10_retime_149 (lv_at hl 1 rfl) ?_
        refine lv_icmp_ne (tgt := 258) hx hb dX10_retime_151 (by decide) (fun c33 => ?_) (fun c33 => ?_)
        · have hf := (if_neg c33).symm.trans hf
          cases hf
          exact J _ _ _ S (lv_sub hl [1, 2, 3, 4, 5, 6, 7, 8] rfl)
        · have hf := (if_pos c33).symm.trans hf
          refine lv_aload_n hx hb dX10_retime_154 rfl (lv_at hl 3 rfl) ?_
          refine lv_iload hx hb dX10_retime_155 (lv_at hl 1 rfl) ?_
          refine lv_iload hx hb dX10_retime_157 (lv_at hl 0 rfl) ?_
          obtain ⟨v34, hv34, hf⟩ := g_s1 hf
          refine g_ki S (g_runV (rest := []) X S (c_X10_first l hN  hv34 _) cvX10_first mlX10_113 (by omega) (ceM_10 _) rfl rfl rfl hl.1 (by decide) ⟨⟨rfl, rfl⟩, ⟨Nat.le_of_ble_eq_true rfl, Nat.le_of_ble_eq_true rfl⟩, Nat.le_of_ble_eq_true rfl, Nat.le_of_ble_eq_true rfl⟩ dX10_retime_159) (fun H locs S => ?_)
          refine lv_iload_n hx hb dX10_retime_162 rfl (lv_at hl 5 rfl) ?_
          refine lv_iload_n hx hb dX10_retime_163 rfl (lv_at hl 6 rfl) ?_
          refine lv_iload hx hb dX10_retime_164 (lv_at hl 7 rfl) ?_
          refine lv_iload hx hb dX10_retime_166 (lv_at hl 8 rfl) ?_
          obtain ⟨v35, hv35, hf⟩ := g_s1 hf
          refine g_ki S (g_runS (rest := []) X S (c_X10_retimed l hN  hv35 _) csX10_retimed mlX10_181 rfl rfl hl.1 (by decide) ⟨⟨rfl, rfl⟩, ⟨Nat.le_of_ble_eq_true rfl, Nat.le_of_ble_eq_true rfl⟩, Nat.le_of_ble_eq_true rfl, Nat.le_of_ble_eq_true rfl⟩ dX10_retime_168) (fun H locs S => ?_)
          refine lv_istore (lv' := [(9, .int v35), (8, .int i11), (7, .int i7), (6, .int i12), (0, .ref (ad 0)), (1, .int a0), (2, .int a1), (3, .int a2), (4, .int a3), (5, .int a4)]) hx hb dX10_retime_171 hl (by decide) rfl (fun ls hl => ?_)
          refine lv_aload_n hx hb dX10_retime_173 rfl (lv_at hl 4 rfl) ?_
          refine lv_iload hx hb dX10_retime_174 (lv_at hl 2 rfl) ?_
          refine lv_iload hx hb dX10_retime_176 (lv_at hl 1 rfl) ?_
          obtain ⟨v36, hv36, hf⟩ := g_s1 hf
          refine g_ki S (g_runV (rest := []) X S (c_X10_end l hN  hv36 _) cvX10_end mlX10_71 (by omega) (ceM_10 _) rfl rfl rfl hl.1 (by decide) ⟨⟨rfl, rfl⟩, ⟨Nat.le_of_ble_eq_true rfl, Nat.le_of_ble_eq_true rfl⟩, Nat.le_of_ble_eq_true rfl, Nat.le_of_ble_eq_true rfl⟩ dX10_retime_178) (fun H locs S => ?_)
          refine lv_iload_n hx hb dX10_retime_181 rfl (lv_at hl 6 rfl) ?_
          refine lv_iload_n hx hb dX10_retime_182 rfl (lv_at hl 7 rfl) ?_
          refine lv_iload hx hb dX10_retime_183 (lv_at hl 8 rfl) ?_
          refine lv_iload hx hb dX10_retime_185 (lv_at hl 9 rfl) ?_
          obtain ⟨v37, hv37, hf⟩ := g_s1 hf
          refine g_ki S (g_runS (rest := []) X S (c_X10_retimed l hN  hv37 _) csX10_retimed mlX10_181 rfl rfl hl.1 (by decide) ⟨⟨rfl, rfl⟩, ⟨Nat.le_of_ble_eq_true rfl, Nat.le_of_ble_eq_true rfl⟩, Nat.le_of_ble_eq_true rfl, Nat.le_of_ble_eq_true rfl⟩ dX10_retime_187) (fun H locs S => ?_)
          refine lv_istore (lv' := [(10, .int v37), (9, .int v35), (8, .int i11), (7, .int i7), (6, .int i12), (0, .ref (ad 0)), (1, .int a0), (2, .int a1), (3, .int a2), (4, .int a3), (5, .int a4)]) hx hb dX10_retime_190 hl (by decide) rfl (fun ls hl => ?_)
          refine lv_iload hx hb dX10_retime_192 (lv_at hl 1 rfl) ?_
          obtain ⟨x38, hr39, hf⟩ := g_s1 hf
          have J40 : ∀ (H : Heap) (locs : List Loc) (ls : Array Slot), gS celM Γ ad N σ5 s H locs → lv_has ls 12 [(8, .int i11), (7, .int i7), (6, .int i12), (0, .ref (ad 0)), (1, .int a0), (2, .int a1), (3, .int a2), (4, .int a3), (5, .int a4)] → W p l e (gR 3 0 0) s m args below meth c H locs 0 0 (Q) (F0 m 224 ls [.int x38]) := by
            intro H locs ls S hl
            refine lv_istore (lv' := [(11, .int x38), (8, .int i11), (7, .int i7), (6, .int i12), (0, .ref (ad 0)), (1, .int a0), (2, .int a1), (3, .int a2), (4, .int a3), (5, .int a4)]) hx hb dX10_retime_224 hl (by decide) rfl (fun ls hl => ?_)
            refine lv_iload hx hb dX10_retime_226 (lv_at hl 0 rfl) ?_
            obtain ⟨x41, hr42, hf⟩ := g_s1 hf
            have J43 : ∀ (H : Heap) (locs : List Loc) (ls : Array Slot), gS celM Γ ad N σ5 s H locs → lv_has ls 12 [(8, .int i11), (7, .int i7), (0, .ref (ad 0)), (1, .int a0), (2, .int a1), (3, .int a2), (4, .int a3), (5, .int a4)] → W p l e (gR 3 0 0) s m args below meth c H locs 0 0 (Q) (F0 m 250 ls [.int x41]) := by
              intro H locs ls S hl
              refine lv_istore (lv' := [(6, .int x41), (8, .int i11), (7, .int i7), (0, .ref (ad 0)), (1, .int a0), (2, .int a1), (3, .int a2), (4, .int a3), (5, .int a4)]) hx hb dX10_retime_250 hl (by decide) rfl (fun ls hl => ?_)
              refine lv_iinc (v := (i11 + 1)) (lv' := [(8, .int (i11 + 1)), (6, .int x41), (7, .int i7), (0, .ref (ad 0)), (1, .int a0), (2, .int a1), (3, .int a2), (4, .int a3), (5, .int a4)]) hx hb dX10_retime_252 hl (k := 1) rfl rfl (by decide) rfl (fun ls hl => ?_)
              refine lv_goto (tgt := 129) hx hb dX10_retime_255 (by decide) ?_
              exact ih _ _ _  hf J _ _ _ S (lv_sub hl [0, 2, 1, 3, 4, 5, 6, 7, 8] rfl)
            replace hf := hr42
            refine lv_if_le (tgt := 248) hx hb dX10_retime_228 (by decide) (fun c44 => ?_) (fun c44 => ?_)
            · have hf := (if_pos c44).symm.trans hf
              refine lv_iload hx hb dX10_retime_248 (lv_at hl 3 rfl) ?_
              cases hf
              exact J43 _ _ _ S (lv_sub hl [1, 2, 4, 5, 6, 7, 8, 9] rfl)
            · have hf := (if_neg c44).symm.trans hf
              refine lv_iload hx hb dX10_retime_231 (lv_at hl 3 rfl) ?_
              refine lv_if_eq (tgt := 243) hx hb dX10_retime_233 (by decide) (fun c45 => ?_) (fun c45 => ?_)
              · have hf := (if_pos c45).symm.trans hf
                refine lv_iload hx hb dX10_retime_243 (lv_at hl 0 rfl) ?_
                refine lv_goto (tgt := 250) hx hb dX10_retime_245 (by decide) ?_
                cases hf
                exact J43 _ _ _ S (lv_sub hl [1, 2, 4, 5, 6, 7, 8, 9] rfl)
              · have hf := (if_neg c45).symm.trans hf
                refine lv_iload hx hb dX10_retime_236 (lv_at hl 0 rfl) ?_
                refine lv_iload hx hb dX10_retime_238 (lv_at hl 3 rfl) ?_
                refine lv_icmp_ge (tgt := 248) hx hb dX10_retime_240 (by decide) (fun c46 => ?_) (fun c46 => ?_)
                · have hf := (if_pos c46).symm.trans hf
                  refine lv_iload hx hb dX10_retime_248 (lv_at hl 3 rfl) ?_
                  cases hf
                  exact J43 _ _ _ S (lv_sub hl [1, 2, 4, 5, 6, 7, 8, 9] rfl)
                · have hf := (if_neg c46).symm.trans hf
                  refine lv_iload hx hb dX10_retime_243 (lv_at hl 0 rfl) ?_
                  refine lv_goto (tgt := 250) hx hb dX10_retime_245 (by decide) ?_
                  cases hf
                  exact J43 _ _ _ S (lv_sub hl [1, 2, 4, 5, 6, 7, 8, 9] rfl)
          replace hf := hr39
          refine lv_if_lt (tgt := 208) hx hb dX10_retime_194 (by decide) (fun c47 => ?_) (fun c47 => ?_)
          · have hf := (if_pos c47).symm.trans hf
            refine lv_iconst (v := (1 : Int32)) hx hb dX10_retime_208 (by decide) ?_
            refine lv_goto (tgt := 224) hx hb dX10_retime_209 (by decide) ?_
            cases hf
            exact J40 _ _ _ S (lv_sub hl [2, 3, 4, 5, 6, 7, 8, 9, 10] rfl)
          · have hf := (if_neg c47).symm.trans hf
            refine lv_iload hx hb dX10_retime_197 (lv_at hl 0 rfl) ?_
            refine lv_aload_n hx hb dX10_retime_199 rfl (lv_at hl 5 rfl) ?_
            refine gfX10_7 X S hN dX10_retime_200 ?_
            refine lv_iconst (v := (0 : Int32)) hx hb dX10_retime_203 (by decide) ?_
            refine g_ialdC X S (by omega) (ceM_a (rfl : gma 1 = true)) 0 (by decide) (by decide) dX10_retime_204 ?_
            refine lv_icmp_le (tgt := 212) hx hb dX10_retime_205 (by decide) (fun c48 => ?_) (fun c48 => ?_)
            · have hf := (if_pos c48).symm.trans hf
              refine lv_iload hx hb dX10_retime_212 (lv_at hl 1 rfl) ?_
              refine lv_iload hx hb dX10_retime_214 (lv_at hl 0 rfl) ?_
              refine lv_icmp_lt (tgt := 223) hx hb dX10_retime_216 (by decide) (fun c49 => ?_) (fun c49 => ?_)
              · have hf := (if_pos c49).symm.trans hf
                refine lv_iconst (v := (0 : Int32)) hx hb dX10_retime_223 (by decide) ?_
                cases hf
                exact J40 _ _ _ S (lv_sub hl [2, 3, 4, 5, 6, 7, 8, 9, 10] rfl)
              · have hf := (if_neg c49).symm.trans hf
                refine lv_iconst (v := (2 : Int32)) hx hb dX10_retime_219 (by decide) ?_
                refine lv_goto (tgt := 224) hx hb dX10_retime_220 (by decide) ?_
                cases hf
                exact J40 _ _ _ S (lv_sub hl [2, 3, 4, 5, 6, 7, 8, 9, 10] rfl)
            · have hf := (if_neg c48).symm.trans hf
              refine lv_iconst (v := (1 : Int32)) hx hb dX10_retime_208 (by decide) ?_
              refine lv_goto (tgt := 224) hx hb dX10_retime_209 (by decide) ?_
              cases hf
              exact J40 _ _ _ S (lv_sub hl [2, 3, 4, 5, 6, 7, 8, 9, 10] rfl)
noncomputable def f_X10_retime_l1 (a0 : Int32) (a1 : Int32) (a2 : Int32) (a3 : Int32) (a4 : Int32) (σ5 : gSt) : Nat → Int32 → Int32 → Option (Int32)
  | 0, _, _ => none
  | n + 1, i7, i8 => (if (2 : Int32) ≤ i7 then some i8 else (g_k1 (f_X10_retime_l2 a0 a1 a2 a3 a4 σ5 i7 FU (0 : Int32) i8) fun r13 => (f_X10_retime_l1 a0 a1 a2 a3 a4 σ5 n (i7 + 1) r13)))
set_option maxRecDepth 100000 in
set_option maxHeartbeats 4000000 in
theorem w_X10_retime_l1 {l : Launch} {Γ : gG} {ad : Nat → Nat} {N : Nat} {p : Program} {e : Env} {s : State} {m : MethodId} {args : Array Value} {below : List Frame} {meth : Method} {c : Code} {Q : State → Prop} (hN : 8 ≤ N) (X : gX celM Γ ad N RX10 cX10_retime 12 (some .int) p s m args meth c) {a0 : Int32} {a1 : Int32} {a2 : Int32} {a3 : Int32} {a4 : Int32} {σ5 : gSt}  : ∀ (n : Nat) (i7 : Int32) (i8 : Int32) (r9 : Int32), f_X10_retime_l1 a0 a1 a2 a3 a4 σ5 n i7 i8 = some r9 → (∀ (H : Heap) (locs : List Loc) (ls : Array Slot), gS celM Γ ad N σ5 s H locs → lv_has ls 12 [(6, .int r9), (0, .ref (ad 0)), (1, .int a0), (2, .int a1), (3, .int a2), (4, .int a3), (5, .int a4)] → W p l e (gR 3 0 0) s m args below meth c H locs 0 0 (Q) (F0 m 264 ls [])) → ∀ (H : Heap) (locs : List Loc) (ls : Array Slot), gS celM Γ ad N σ5 s H locs → lv_has ls 12 [(7, .int i7), (6, .int i8), (0, .ref (ad 0)), (1, .int a0), (2, .int a1), (3, .int a2), (4, .int a3), (5, .int a4)] → W p l e (gR 3 0 0) s m args below meth c H locs 0 0 (Q) (F0 m 120 ls []) := by
  have hx := X.1
  have hb := X.2.1
  intro n
  induction n with
  | zero =>
    intro i7 i8 r9 hf
    cases hf
  | succ n ih =>
    intro i7 i8 r9 hf J H locs ls S hl
    rw [f_X10_retime_l1] at hf
    refine lv_iload hx hb dX10_retime_120 (lv_at hl 0 rfl) ?_
    refine lv_iconst (v := (2 : Int32)) hx hb dX10_retime_122 (by decide) ?_
    refine lv_icmp_ge (tgt := 264) hx hb dX10_retime_123 (by decide) (fun c10 => ?_) (fun c10 => ?_)
    · have hf := (if_pos c10).symm.trans hf
      cases hf
      exact J _ _ _ S (lv_sub hl [1, 2, 3, 4, 5, 6, 7] rfl)
    · have hf := (if_neg c10).symm.trans hf
      refine lv_iconst (v := (0 : Int32)) hx hb dX10_retime_126 (by decide) ?_
      refine lv_istore (lv' := [(8, .int (0 : Int32)), (7, .int i7), (6, .int i8), (0, .ref (ad 0)), (1, .int a0), (2, .int a1), (3, .int a2), (4, .int a3), (5, .int a4)]) hx hb dX10_retime_127 hl (by decide) rfl (fun ls hl => ?_)
      obtain ⟨r13, hr50, hf⟩ := g_s1 hf
      refine w_X10_retime_l2 hN X  FU _ _ _  hr50 (fun H locs ls S hl => ?_) _ _ _ S (lv_sub hl [0, 1, 2, 3, 4, 5, 6, 7, 8] rfl)
      refine lv_iinc (v := (i7 + 1)) (lv' := [(7, .int (i7 + 1)), (6, .int r13), (0, .ref (ad 0)), (1, .int a0), (2, .int a1), (3, .int a2), (4, .int a3), (5, .int a4)]) hx hb dX10_retime_258 hl (k := 0) rfl rfl (by decide) rfl (fun ls hl => ?_)
      refine lv_goto (tgt := 120) hx hb dX10_retime_261 (by decide) ?_
      exact ih _ _ _  hf J _ _ _ S (lv_sub hl [0, 1, 2, 3, 4, 5, 6, 7] rfl)
noncomputable def f_X10_retime_l4 (a0 : Int32) (a1 : Int32) (a2 : Int32) (a3 : Int32) (a4 : Int32) (i54 : Int32) (σ56 : gSt) : Nat → Int32 → Int32 → gSt → Option (Int32 × gSt)
  | 0, _, _, _ => none
  | n + 1, i60, i61, σ62 => (g_k1 (gald σ62 1 926 ((28 : Int32) + i54)) fun v65 => (if v65 ≤ i60 then some (i61, σ62) else (if a0 < 0 then (g_k1 (f_X10_first σ62 i54 i60) fun v68 => (g_k1 (f_X10_retimed σ62 v68 a1 a2 a3 a4) fun v69 => (g_k1 (f_X10_end σ62 i54 i60) fun v70 => (g_k1 (f_X10_retimed σ62 v70 a1 a2 a3 a4) fun v71 => (g_k1 (f_X10_first σ62 i54 i60) fun v72 => (g_k1 (if v69 = v72 then (g_k1 (f_X10_end σ62 i54 i60) fun v81 => (if v71 = v81 then some (0 : Int32) else some (1 : Int32))) else some (1 : Int32)) fun x73 => (g_k1 (f_X10_at σ62 i54 i60 (0 : Int32)) fun v76 => (g_k1 (gast σ62 1 926 v76 v69) fun σ77 => (g_k1 (f_X10_at σ77 i54 i60 (1 : Int32)) fun v78 => (g_k1 (gast σ77 1 926 v78 v71) fun σ79 => (f_X10_retime_l4 a0 a1 a2 a3 a4 i54 σ56 n (i60 + 1) (i61 + x73) σ79))))))))))) else (if a0 = i54 then (g_k1 (f_X10_first σ62 i54 i60) fun v84 => (g_k1 (f_X10_retimed σ62 v84 a1 a2 a3 a4) fun v85 => (g_k1 (f_X10_end σ62 i54 i60) fun v86 => (g_k1 (f_X10_retimed σ62 v86 a1 a2 a3 a4) fun v87 => (g_k1 (f_X10_first σ62 i54 i60) fun v88 => (g_k1 (if v85 = v88 then (g_k1 (f_X10_end σ62 i54 i60) fun v97 => (if v87 = v97 then some (0 : Int32) else some (1 : Int32))) else some (1 : Int32)) fun x89 => (g_k1 (f_X10_at σ62 i54 i60 (0 : Int32)) fun v92 => (g_k1 (gast σ62 1 926 v92 v85) fun σ93 => (g_k1 (f_X10_at σ93 i54 i60 (1 : Int32)) fun v94 => (g_k1 (gast σ93 1 926 v94 v87) fun σ95 => (f_X10_retime_l4 a0 a1 a2 a3 a4 i54 σ56 n (i60 + 1) (i61 + x89) σ95))))))))))) else some (i61, σ62)))))
set_option maxRecDepth 100000 in
set_option maxHeartbeats 4000000 in
theorem w_X10_retime_l4 {l : Launch} {Γ : gG} {ad : Nat → Nat} {N : Nat} {p : Program} {e : Env} {s : State} {m : MethodId} {args : Array Value} {below : List Frame} {meth : Method} {c : Code} {Q : State → Prop} (hN : 8 ≤ N) (X : gX celM Γ ad N RX10 cX10_retime 12 (some .int) p s m args meth c) {a0 : Int32} {a1 : Int32} {a2 : Int32} {a3 : Int32} {a4 : Int32} {i54 : Int32} {σ56 : gSt}  : ∀ (n : Nat) (i60 : Int32) (i61 : Int32) (σ62 : gSt) (r63 : Int32) (σ64 : gSt), f_X10_retime_l4 a0 a1 a2 a3 a4 i54 σ56 n i60 i61 σ62 = some (r63, σ64) → (∀ (H : Heap) (locs : List Loc) (ls : Array Slot), gS celM Γ ad N σ64 s H locs → lv_has ls 12 [(8, .int i54), (7, .int r63), (0, .ref (ad 0)), (1, .int a0), (2, .int a1), (3, .int a2), (4, .int a3), (5, .int a4)] → W p l e (gR 3 0 0) s m args below meth c H locs 0 0 (Q) (F0 m 435 ls [])) → ∀ (H : Heap) (locs : List Loc) (ls : Array Slot), gS celM Γ ad N σ62 s H locs → lv_has ls 12 [(9, .int i60), (8, .int i54), (7, .int i61), (0, .ref (ad 0)), (1, .int a0), (2, .int a1), (3, .int a2), (4, .int a3), (5, .int a4)] → W p l e (gR 3 0 0) s m args below meth c H locs 0 0 (Q) (F0 m 300 ls []) := by
  have hx := X.1
  have hb := X.2.1
  intro n
  induction n with
  | zero =>
    intro i60 i61 σ62 r63 σ64 hf
    cases hf
  | succ n ih =>
    intro i60 i61 σ62 r63 σ64 hf J H locs ls S hl
    rw [f_X10_retime_l4] at hf
    refine lv_iload hx hb dX10_retime_300 (lv_at hl 0 rfl) ?_
    refine lv_aload_n hx hb dX10_retime_302 rfl (lv_at hl 3 rfl) ?_
    refine gfX10_7 X S hN dX10_retime_303 ?_
    refine lv_bipush (v := (28 : Int32)) hx hb dX10_retime_306 (by decide) ?_
    refine lv_iload hx hb dX10_retime_308 (lv_at hl 1 rfl) ?_
    refine lv_iadd hx hb dX10_retime_310 ?_
    obtain ⟨v65, hv65, hf⟩ := g_s1 hf
    refine g_iald X S (by omega) (ceM_a (rfl : gma 1 = true)) hv65 dX10_retime_311 ?_
    refine lv_icmp_ge (tgt := 435) hx hb dX10_retime_312 (by decide) (fun c66 => ?_) (fun c66 => ?_)
    · have hf := (if_pos c66).symm.trans hf
      cases hf
      exact J _ _ _ S (lv_sub hl [1, 2, 3, 4, 5, 6, 7, 8] rfl)
    · have hf := (if_neg c66).symm.trans hf
      refine lv_iload_n hx hb dX10_retime_315 rfl (lv_at hl 4 rfl) ?_
      refine lv_if_lt (tgt := 325) hx hb dX10_retime_316 (by decide) (fun c67 => ?_) (fun c67 => ?_)
      · have hf := (if_pos c67).symm.trans hf
        refine lv_aload_n hx hb dX10_retime_325 rfl (lv_at hl 3 rfl) ?_
        refine lv_iload hx hb dX10_retime_326 (lv_at hl 1 rfl) ?_
        refine lv_iload hx hb dX10_retime_328 (lv_at hl 0 rfl) ?_
        obtain ⟨v68, hv68, hf⟩ := g_s1 hf
        refine g_ki S (g_runV (rest := []) X S (c_X10_first l hN  hv68 _) cvX10_first mlX10_113 (by omega) (ceM_10 _) rfl rfl rfl hl.1 (by decide) ⟨⟨rfl, rfl⟩, ⟨Nat.le_of_ble_eq_true rfl, Nat.le_of_ble_eq_true rfl⟩, Nat.le_of_ble_eq_true rfl, Nat.le_of_ble_eq_true rfl⟩ dX10_retime_330) (fun H locs S => ?_)
        refine lv_iload_n hx hb dX10_retime_333 rfl (lv_at hl 5 rfl) ?_
        refine lv_iload_n hx hb dX10_retime_334 rfl (lv_at hl 6 rfl) ?_
        refine lv_iload hx hb dX10_retime_335 (lv_at hl 7 rfl) ?_
        refine lv_iload hx hb dX10_retime_337 (lv_at hl 8 rfl) ?_
        obtain ⟨v69, hv69, hf⟩ := g_s1 hf
        refine g_ki S (g_runS (rest := []) X S (c_X10_retimed l hN  hv69 _) csX10_retimed mlX10_181 rfl rfl hl.1 (by decide) ⟨⟨rfl, rfl⟩, ⟨Nat.le_of_ble_eq_true rfl, Nat.le_of_ble_eq_true rfl⟩, Nat.le_of_ble_eq_true rfl, Nat.le_of_ble_eq_true rfl⟩ dX10_retime_339) (fun H locs S => ?_)
        refine lv_istore (lv' := [(10, .int v69), (9, .int i60), (8, .int i54), (7, .int i61), (0, .ref (ad 0)), (1, .int a0), (2, .int a1), (3, .int a2), (4, .int a3), (5, .int a4)]) hx hb dX10_retime_342 hl (by decide) rfl (fun ls hl => ?_)
        refine lv_aload_n hx hb dX10_retime_344 rfl (lv_at hl 4 rfl) ?_
        refine lv_iload hx hb dX10_retime_345 (lv_at hl 2 rfl) ?_
        refine lv_iload hx hb dX10_retime_347 (lv_at hl 1 rfl) ?_
        obtain ⟨v70, hv70, hf⟩ := g_s1 hf
        refine g_ki S (g_runV (rest := []) X S (c_X10_end l hN  hv70 _) cvX10_end mlX10_71 (by omega) (ceM_10 _) rfl rfl rfl hl.1 (by decide) ⟨⟨rfl, rfl⟩, ⟨Nat.le_of_ble_eq_true rfl, Nat.le_of_ble_eq_true rfl⟩, Nat.le_of_ble_eq_true rfl, Nat.le_of_ble_eq_true rfl⟩ dX10_retime_349) (fun H locs S => ?_)
        refine lv_iload_n hx hb dX10_retime_352 rfl (lv_at hl 6 rfl) ?_
        refine lv_iload_n hx hb dX10_retime_353 rfl (lv_at hl 7 rfl) ?_
        refine lv_iload hx hb dX10_retime_354 (lv_at hl 8 rfl) ?_
        refine lv_iload hx hb dX10_retime_356 (lv_at hl 9 rfl) ?_
        obtain ⟨v71, hv71, hf⟩ := g_s1 hf
        refine g_ki S (g_runS (rest := []) X S (c_X10_retimed l hN  hv71 _) csX10_retimed mlX10_181 rfl rfl hl.1 (by decide) ⟨⟨rfl, rfl⟩, ⟨Nat.le_of_ble_eq_true rfl, Nat.le_of_ble_eq_true rfl⟩, Nat.le_of_ble_eq_true rfl, Nat.le_of_ble_eq_true rfl⟩ dX10_retime_358) (fun H locs S => ?_)
        refine lv_istore (lv' := [(11, .int v71), (10, .int v69), (9, .int i60), (8, .int i54), (7, .int i61), (0, .ref (ad 0)), (1, .int a0), (2, .int a1), (3, .int a2), (4, .int a3), (5, .int a4)]) hx hb dX10_retime_361 hl (by decide) rfl (fun ls hl => ?_)
        refine lv_iload hx hb dX10_retime_363 (lv_at hl 4 rfl) ?_
        refine lv_iload hx hb dX10_retime_365 (lv_at hl 1 rfl) ?_
        refine lv_aload_n hx hb dX10_retime_367 rfl (lv_at hl 5 rfl) ?_
        refine lv_iload hx hb dX10_retime_368 (lv_at hl 3 rfl) ?_
        refine lv_iload hx hb dX10_retime_370 (lv_at hl 2 rfl) ?_
        obtain ⟨v72, hv72, hf⟩ := g_s1 hf
        refine g_ki S (g_runV (rest := [.int v69, .int i61]) X S (c_X10_first l hN  hv72 _) cvX10_first mlX10_113 (by omega) (ceM_10 _) rfl rfl rfl hl.1 (by decide) ⟨⟨rfl, rfl⟩, ⟨Nat.le_of_ble_eq_true rfl, Nat.le_of_ble_eq_true rfl⟩, Nat.le_of_ble_eq_true rfl, Nat.le_of_ble_eq_true rfl⟩ dX10_retime_372) (fun H locs S => ?_)
        obtain ⟨x73, hr74, hf⟩ := g_s1 hf
        have J75 : ∀ (H : Heap) (locs : List Loc) (ls : Array Slot), gS celM Γ ad N σ62 s H locs → lv_has ls 12 [(11, .int v71), (10, .int v69), (9, .int i60), (8, .int i54), (0, .ref (ad 0)), (1, .int a0), (2, .int a1), (3, .int a2), (4, .int a3), (5, .int a4)] → W p l e (gR 3 0 0) s m args below meth c H locs 0 0 (Q) (F0 m 396 ls [.int x73, .int i61]) := by
          intro H locs ls S hl
          refine lv_iadd hx hb dX10_retime_396 ?_
          refine lv_istore (lv' := [(7, .int (i61 + x73)), (11, .int v71), (10, .int v69), (9, .int i60), (8, .int i54), (0, .ref (ad 0)), (1, .int a0), (2, .int a1), (3, .int a2), (4, .int a3), (5, .int a4)]) hx hb dX10_retime_397 hl (by decide) rfl (fun ls hl => ?_)
          refine lv_aload_n hx hb dX10_retime_399 rfl (lv_at hl 5 rfl) ?_
          refine gfX10_7 X S hN dX10_retime_400 ?_
          refine lv_iload hx hb dX10_retime_403 (lv_at hl 4 rfl) ?_
          refine lv_iload hx hb dX10_retime_405 (lv_at hl 3 rfl) ?_
          refine lv_iconst (v := (0 : Int32)) hx hb dX10_retime_407 (by decide) ?_
          obtain ⟨v76, hv76, hf⟩ := g_s1 hf
          refine g_ki S (g_runS (rest := [.ref (ad 1)]) X S (c_X10_at l hN  hv76 _) csX10_at mlX10_56 rfl rfl hl.1 (by decide) ⟨⟨rfl, rfl⟩, ⟨Nat.le_of_ble_eq_true rfl, Nat.le_of_ble_eq_true rfl⟩, Nat.le_of_ble_eq_true rfl, Nat.le_of_ble_eq_true rfl⟩ dX10_retime_408) (fun H locs S => ?_)
          refine lv_iload hx hb dX10_retime_411 (lv_at hl 2 rfl) ?_
          obtain ⟨σ77, hσ77, hf⟩ := g_s1 hf
          refine g_iast X S (by omega) (ceM_a (rfl : gma 1 = true)) hσ77 dX10_retime_413 (fun H locs S => ?_)
          refine lv_aload_n hx hb dX10_retime_414 rfl (lv_at hl 5 rfl) ?_
          refine gfX10_7 X S hN dX10_retime_415 ?_
          refine lv_iload hx hb dX10_retime_418 (lv_at hl 4 rfl) ?_
          refine lv_iload hx hb dX10_retime_420 (lv_at hl 3 rfl) ?_
          refine lv_iconst (v := (1 : Int32)) hx hb dX10_retime_422 (by decide) ?_
          obtain ⟨v78, hv78, hf⟩ := g_s1 hf
          refine g_ki S (g_runS (rest := [.ref (ad 1)]) X S (c_X10_at l hN  hv78 _) csX10_at mlX10_56 rfl rfl hl.1 (by decide) ⟨⟨rfl, rfl⟩, ⟨Nat.le_of_ble_eq_true rfl, Nat.le_of_ble_eq_true rfl⟩, Nat.le_of_ble_eq_true rfl, Nat.le_of_ble_eq_true rfl⟩ dX10_retime_423) (fun H locs S => ?_)
          refine lv_iload hx hb dX10_retime_426 (lv_at hl 1 rfl) ?_
          obtain ⟨σ79, hσ79, hf⟩ := g_s1 hf
          refine g_iast X S (by omega) (ceM_a (rfl : gma 1 = true)) hσ79 dX10_retime_428 (fun H locs S => ?_)
          refine lv_iinc (v := (i60 + 1)) (lv' := [(9, .int (i60 + 1)), (7, .int (i61 + x73)), (11, .int v71), (10, .int v69), (8, .int i54), (0, .ref (ad 0)), (1, .int a0), (2, .int a1), (3, .int a2), (4, .int a3), (5, .int a4)]) hx hb dX10_retime_429 hl (k := 3) rfl rfl (by decide) rfl (fun ls hl => ?_)
          refine lv_goto (tgt := 300) hx hb dX10_retime_432 (by decide) ?_
          exact ih _ _ _ _ _  hf J _ _ _ S (lv_sub hl [0, 4, 1, 5, 6, 7, 8, 9, 10] rfl)
        replace hf := hr74
        refine lv_icmp_ne (tgt := 391) hx hb dX10_retime_375 (by decide) (fun c80 => ?_) (fun c80 => ?_)
        · have hf := (if_neg c80).symm.trans hf
          refine lv_iconst (v := (1 : Int32)) hx hb dX10_retime_391 (by decide) ?_
          refine lv_goto (tgt := 396) hx hb dX10_retime_392 (by decide) ?_
          cases hf
          exact J75 _ _ _ S (lv_sub hl [0, 1, 2, 3, 5, 6, 7, 8, 9, 10] rfl)
        · have hf := (if_pos c80).symm.trans hf
          refine lv_iload hx hb dX10_retime_378 (lv_at hl 0 rfl) ?_
          refine lv_aload_n hx hb dX10_retime_380 rfl (lv_at hl 5 rfl) ?_
          refine lv_iload hx hb dX10_retime_381 (lv_at hl 3 rfl) ?_
          refine lv_iload hx hb dX10_retime_383 (lv_at hl 2 rfl) ?_
          obtain ⟨v81, hv81, hf⟩ := g_s1 hf
          refine g_ki S (g_runV (rest := [.int v71, .int i61]) X S (c_X10_end l hN  hv81 _) cvX10_end mlX10_71 (by omega) (ceM_10 _) rfl rfl rfl hl.1 (by decide) ⟨⟨rfl, rfl⟩, ⟨Nat.le_of_ble_eq_true rfl, Nat.le_of_ble_eq_true rfl⟩, Nat.le_of_ble_eq_true rfl, Nat.le_of_ble_eq_true rfl⟩ dX10_retime_385) (fun H locs S => ?_)
          refine lv_icmp_eq (tgt := 395) hx hb dX10_retime_388 (by decide) (fun c82 => ?_) (fun c82 => ?_)
          · have hf := (if_pos c82).symm.trans hf
            refine lv_iconst (v := (0 : Int32)) hx hb dX10_retime_395 (by decide) ?_
            cases hf
            exact J75 _ _ _ S (lv_sub hl [0, 1, 2, 3, 5, 6, 7, 8, 9, 10] rfl)
          · have hf := (if_neg c82).symm.trans hf
            refine lv_iconst (v := (1 : Int32)) hx hb dX10_retime_391 (by decide) ?_
            refine lv_goto (tgt := 396) hx hb dX10_retime_392 (by decide) ?_
            cases hf
            exact J75 _ _ _ S (lv_sub hl [0, 1, 2, 3, 5, 6, 7, 8, 9, 10] rfl)
      · have hf := (if_neg c67).symm.trans hf
        refine lv_iload_n hx hb dX10_retime_319 rfl (lv_at hl 4 rfl) ?_
        refine lv_iload hx hb dX10_retime_320 (lv_at hl 1 rfl) ?_
        refine lv_icmp_ne (tgt := 435) hx hb dX10_retime_322 (by decide) (fun c83 => ?_) (fun c83 => ?_)
        · have hf := (if_neg c83).symm.trans hf
          cases hf
          exact J _ _ _ S (lv_sub hl [1, 2, 3, 4, 5, 6, 7, 8] rfl)
        · have hf := (if_pos c83).symm.trans hf
          refine lv_aload_n hx hb dX10_retime_325 rfl (lv_at hl 3 rfl) ?_
          refine lv_iload hx hb dX10_retime_326 (lv_at hl 1 rfl) ?_
          refine lv_iload hx hb dX10_retime_328 (lv_at hl 0 rfl) ?_
          obtain ⟨v84, hv84, hf⟩ := g_s1 hf
          refine g_ki S (g_runV (rest := []) X S (c_X10_first l hN  hv84 _) cvX10_first mlX10_113 (by omega) (ceM_10 _) rfl rfl rfl hl.1 (by decide) ⟨⟨rfl, rfl⟩, ⟨Nat.le_of_ble_eq_true rfl, Nat.le_of_ble_eq_true rfl⟩, Nat.le_of_ble_eq_true rfl, Nat.le_of_ble_eq_true rfl⟩ dX10_retime_330) (fun H locs S => ?_)
          refine lv_iload_n hx hb dX10_retime_333 rfl (lv_at hl 5 rfl) ?_
          refine lv_iload_n hx hb dX10_retime_334 rfl (lv_at hl 6 rfl) ?_
          refine lv_iload hx hb dX10_retime_335 (lv_at hl 7 rfl) ?_
          refine lv_iload hx hb dX10_retime_337 (lv_at hl 8 rfl) ?_
          obtain ⟨v85, hv85, hf⟩ := g_s1 hf
          refine g_ki S (g_runS (rest := []) X S (c_X10_retimed l hN  hv85 _) csX10_retimed mlX10_181 rfl rfl hl.1 (by decide) ⟨⟨rfl, rfl⟩, ⟨Nat.le_of_ble_eq_true rfl, Nat.le_of_ble_eq_true rfl⟩, Nat.le_of_ble_eq_true rfl, Nat.le_of_ble_eq_true rfl⟩ dX10_retime_339) (fun H locs S => ?_)
          refine lv_istore (lv' := [(10, .int v85), (9, .int i60), (8, .int i54), (7, .int i61), (0, .ref (ad 0)), (1, .int a0), (2, .int a1), (3, .int a2), (4, .int a3), (5, .int a4)]) hx hb dX10_retime_342 hl (by decide) rfl (fun ls hl => ?_)
          refine lv_aload_n hx hb dX10_retime_344 rfl (lv_at hl 4 rfl) ?_
          refine lv_iload hx hb dX10_retime_345 (lv_at hl 2 rfl) ?_
          refine lv_iload hx hb dX10_retime_347 (lv_at hl 1 rfl) ?_
          obtain ⟨v86, hv86, hf⟩ := g_s1 hf
          refine g_ki S (g_runV (rest := []) X S (c_X10_end l hN  hv86 _) cvX10_end mlX10_71 (by omega) (ceM_10 _) rfl rfl rfl hl.1 (by decide) ⟨⟨rfl, rfl⟩, ⟨Nat.le_of_ble_eq_true rfl, Nat.le_of_ble_eq_true rfl⟩, Nat.le_of_ble_eq_true rfl, Nat.le_of_ble_eq_true rfl⟩ dX10_retime_349) (fun H locs S => ?_)
          refine lv_iload_n hx hb dX10_retime_352 rfl (lv_at hl 6 rfl) ?_
          refine lv_iload_n hx hb dX10_retime_353 rfl (lv_at hl 7 rfl) ?_
          refine lv_iload hx hb dX10_retime_354 (lv_at hl 8 rfl) ?_
          refine lv_iload hx hb dX10_retime_356 (lv_at hl 9 rfl) ?_
          obtain ⟨v87, hv87, hf⟩ := g_s1 hf
          refine g_ki S (g_runS (rest := []) X S (c_X10_retimed l hN  hv87 _) csX10_retimed mlX10_181 rfl rfl hl.1 (by decide) ⟨⟨rfl, rfl⟩, ⟨Nat.le_of_ble_eq_true rfl, Nat.le_of_ble_eq_true rfl⟩, Nat.le_of_ble_eq_true rfl, Nat.le_of_ble_eq_true rfl⟩ dX10_retime_358) (fun H locs S => ?_)
          refine lv_istore (lv' := [(11, .int v87), (10, .int v85), (9, .int i60), (8, .int i54), (7, .int i61), (0, .ref (ad 0)), (1, .int a0), (2, .int a1), (3, .int a2), (4, .int a3), (5, .int a4)]) hx hb dX10_retime_361 hl (by decide) rfl (fun ls hl => ?_)
          refine lv_iload hx hb dX10_retime_363 (lv_at hl 4 rfl) ?_
          refine lv_iload hx hb dX10_retime_365 (lv_at hl 1 rfl) ?_
          refine lv_aload_n hx hb dX10_retime_367 rfl (lv_at hl 5 rfl) ?_
          refine lv_iload hx hb dX10_retime_368 (lv_at hl 3 rfl) ?_
          refine lv_iload hx hb dX10_retime_370 (lv_at hl 2 rfl) ?_
          obtain ⟨v88, hv88, hf⟩ := g_s1 hf
          refine g_ki S (g_runV (rest := [.int v85, .int i61]) X S (c_X10_first l hN  hv88 _) cvX10_first mlX10_113 (by omega) (ceM_10 _) rfl rfl rfl hl.1 (by decide) ⟨⟨rfl, rfl⟩, ⟨Nat.le_of_ble_eq_true rfl, Nat.le_of_ble_eq_true rfl⟩, Nat.le_of_ble_eq_true rfl, Nat.le_of_ble_eq_true rfl⟩ dX10_retime_372) (fun H locs S => ?_)
          obtain ⟨x89, hr90, hf⟩ := g_s1 hf
          have J91 : ∀ (H : Heap) (locs : List Loc) (ls : Array Slot), gS celM Γ ad N σ62 s H locs → lv_has ls 12 [(11, .int v87), (10, .int v85), (9, .int i60), (8, .int i54), (0, .ref (ad 0)), (1, .int a0), (2, .int a1), (3, .int a2), (4, .int a3), (5, .int a4)] → W p l e (gR 3 0 0) s m args below meth c H locs 0 0 (Q) (F0 m 396 ls [.int x89, .int i61]) := by
            intro H locs ls S hl
            refine lv_iadd hx hb dX10_retime_396 ?_
            refine lv_istore (lv' := [(7, .int (i61 + x89)), (11, .int v87), (10, .int v85), (9, .int i60), (8, .int i54), (0, .ref (ad 0)), (1, .int a0), (2, .int a1), (3, .int a2), (4, .int a3), (5, .int a4)]) hx hb dX10_retime_397 hl (by decide) rfl (fun ls hl => ?_)
            refine lv_aload_n hx hb dX10_retime_399 rfl (lv_at hl 5 rfl) ?_
            refine gfX10_7 X S hN dX10_retime_400 ?_
            refine lv_iload hx hb dX10_retime_403 (lv_at hl 4 rfl) ?_
            refine lv_iload hx hb dX10_retime_405 (lv_at hl 3 rfl) ?_
            refine lv_iconst (v := (0 : Int32)) hx hb dX10_retime_407 (by decide) ?_
            obtain ⟨v92, hv92, hf⟩ := g_s1 hf
            refine g_ki S (g_runS (rest := [.ref (ad 1)]) X S (c_X10_at l hN  hv92 _) csX10_at mlX10_56 rfl rfl hl.1 (by decide) ⟨⟨rfl, rfl⟩, ⟨Nat.le_of_ble_eq_true rfl, Nat.le_of_ble_eq_true rfl⟩, Nat.le_of_ble_eq_true rfl, Nat.le_of_ble_eq_true rfl⟩ dX10_retime_408) (fun H locs S => ?_)
            refine lv_iload hx hb dX10_retime_411 (lv_at hl 2 rfl) ?_
            obtain ⟨σ93, hσ93, hf⟩ := g_s1 hf
            refine g_iast X S (by omega) (ceM_a (rfl : gma 1 = true)) hσ93 dX10_retime_413 (fun H locs S => ?_)
            refine lv_aload_n hx hb dX10_retime_414 rfl (lv_at hl 5 rfl) ?_
            refine gfX10_7 X S hN dX10_retime_415 ?_
            refine lv_iload hx hb dX10_retime_418 (lv_at hl 4 rfl) ?_
            refine lv_iload hx hb dX10_retime_420 (lv_at hl 3 rfl) ?_
            refine lv_iconst (v := (1 : Int32)) hx hb dX10_retime_422 (by decide) ?_
            obtain ⟨v94, hv94, hf⟩ := g_s1 hf
            refine g_ki S (g_runS (rest := [.ref (ad 1)]) X S (c_X10_at l hN  hv94 _) csX10_at mlX10_56 rfl rfl hl.1 (by decide) ⟨⟨rfl, rfl⟩, ⟨Nat.le_of_ble_eq_true rfl, Nat.le_of_ble_eq_true rfl⟩, Nat.le_of_ble_eq_true rfl, Nat.le_of_ble_eq_true rfl⟩ dX10_retime_423) (fun H locs S => ?_)
            refine lv_iload hx hb dX10_retime_426 (lv_at hl 1 rfl) ?_
            obtain ⟨σ95, hσ95, hf⟩ := g_s1 hf
            refine g_iast X S (by omega) (ceM_a (rfl : gma 1 = true)) hσ95 dX10_retime_428 (fun H locs S => ?_)
            refine lv_iinc (v := (i60 + 1)) (lv' := [(9, .int (i60 + 1)), (7, .int (i61 + x89)), (11, .int v87), (10, .int v85), (8, .int i54), (0, .ref (ad 0)), (1, .int a0), (2, .int a1), (3, .int a2), (4, .int a3), (5, .int a4)]) hx hb dX10_retime_429 hl (k := 3) rfl rfl (by decide) rfl (fun ls hl => ?_)
            refine lv_goto (tgt := 300) hx hb dX10_retime_432 (by decide) ?_
            exact ih _ _ _ _ _  hf J _ _ _ S (lv_sub hl [0, 4, 1, 5, 6, 7, 8, 9, 10] rfl)
          replace hf := hr90
          refine lv_icmp_ne (tgt := 391) hx hb dX10_retime_375 (by decide) (fun c96 => ?_) (fun c96 => ?_)
          · have hf := (if_neg c96).symm.trans hf
            refine lv_iconst (v := (1 : Int32)) hx hb dX10_retime_391 (by decide) ?_
            refine lv_goto (tgt := 396) hx hb dX10_retime_392 (by decide) ?_
            cases hf
            exact J91 _ _ _ S (lv_sub hl [0, 1, 2, 3, 5, 6, 7, 8, 9, 10] rfl)
          · have hf := (if_pos c96).symm.trans hf
            refine lv_iload hx hb dX10_retime_378 (lv_at hl 0 rfl) ?_
            refine lv_aload_n hx hb dX10_retime_380 rfl (lv_at hl 5 rfl) ?_
            refine lv_iload hx hb dX10_retime_381 (lv_at hl 3 rfl) ?_
            refine lv_iload hx hb dX10_retime_383 (lv_at hl 2 rfl) ?_
            obtain ⟨v97, hv97, hf⟩ := g_s1 hf
            refine g_ki S (g_runV (rest := [.int v87, .int i61]) X S (c_X10_end l hN  hv97 _) cvX10_end mlX10_71 (by omega) (ceM_10 _) rfl rfl rfl hl.1 (by decide) ⟨⟨rfl, rfl⟩, ⟨Nat.le_of_ble_eq_true rfl, Nat.le_of_ble_eq_true rfl⟩, Nat.le_of_ble_eq_true rfl, Nat.le_of_ble_eq_true rfl⟩ dX10_retime_385) (fun H locs S => ?_)
            refine lv_icmp_eq (tgt := 395) hx hb dX10_retime_388 (by decide) (fun c98 => ?_) (fun c98 => ?_)
            · have hf := (if_pos c98).symm.trans hf
              refine lv_iconst (v := (0 : Int32)) hx hb dX10_retime_395 (by decide) ?_
              cases hf
              exact J91 _ _ _ S (lv_sub hl [0, 1, 2, 3, 5, 6, 7, 8, 9, 10] rfl)
            · have hf := (if_neg c98).symm.trans hf
              refine lv_iconst (v := (1 : Int32)) hx hb dX10_retime_391 (by decide) ?_
              refine lv_goto (tgt := 396) hx hb dX10_retime_392 (by decide) ?_
              cases hf
              exact J91 _ _ _ S (lv_sub hl [0, 1, 2, 3, 5, 6, 7, 8, 9, 10] rfl)
noncomputable def f_X10_retime_l3 (a0 : Int32) (a1 : Int32) (a2 : Int32) (a3 : Int32) (a4 : Int32) (σ53 : gSt) : Nat → Int32 → Int32 → gSt → Option (Int32 × gSt)
  | 0, _, _, _ => none
  | n + 1, i54, i55, σ56 => (if (2 : Int32) ≤ i54 then some (i55, σ56) else (g_k2 (f_X10_retime_l4 a0 a1 a2 a3 a4 i54 σ56 FU (0 : Int32) i55 σ56) fun r63 σ64 => (f_X10_retime_l3 a0 a1 a2 a3 a4 σ53 n (i54 + 1) r63 σ64)))
set_option maxRecDepth 100000 in
set_option maxHeartbeats 4000000 in
theorem w_X10_retime_l3 {l : Launch} {Γ : gG} {ad : Nat → Nat} {N : Nat} {p : Program} {e : Env} {s : State} {m : MethodId} {args : Array Value} {below : List Frame} {meth : Method} {c : Code} {Q : State → Prop} (hN : 8 ≤ N) (X : gX celM Γ ad N RX10 cX10_retime 12 (some .int) p s m args meth c) {a0 : Int32} {a1 : Int32} {a2 : Int32} {a3 : Int32} {a4 : Int32} {σ53 : gSt}  : ∀ (n : Nat) (i54 : Int32) (i55 : Int32) (σ56 : gSt) (r57 : Int32) (σ58 : gSt), f_X10_retime_l3 a0 a1 a2 a3 a4 σ53 n i54 i55 σ56 = some (r57, σ58) → (∀ (H : Heap) (locs : List Loc) (ls : Array Slot), gS celM Γ ad N σ58 s H locs → lv_has ls 12 [(7, .int r57)] → W p l e (gR 3 0 0) s m args below meth c H locs 0 0 (Q) (F0 m 441 ls [])) → ∀ (H : Heap) (locs : List Loc) (ls : Array Slot), gS celM Γ ad N σ56 s H locs → lv_has ls 12 [(8, .int i54), (7, .int i55), (0, .ref (ad 0)), (1, .int a0), (2, .int a1), (3, .int a2), (4, .int a3), (5, .int a4)] → W p l e (gR 3 0 0) s m args below meth c H locs 0 0 (Q) (F0 m 291 ls []) := by
  have hx := X.1
  have hb := X.2.1
  intro n
  induction n with
  | zero =>
    intro i54 i55 σ56 r57 σ58 hf
    cases hf
  | succ n ih =>
    intro i54 i55 σ56 r57 σ58 hf J H locs ls S hl
    rw [f_X10_retime_l3] at hf
    refine lv_iload hx hb dX10_retime_291 (lv_at hl 0 rfl) ?_
    refine lv_iconst (v := (2 : Int32)) hx hb dX10_retime_293 (by decide) ?_
    refine lv_icmp_ge (tgt := 441) hx hb dX10_retime_294 (by decide) (fun c59 => ?_) (fun c59 => ?_)
    · have hf := (if_pos c59).symm.trans hf
      cases hf
      exact J _ _ _ S (lv_sub hl [1] rfl)
    · have hf := (if_neg c59).symm.trans hf
      refine lv_iconst (v := (0 : Int32)) hx hb dX10_retime_297 (by decide) ?_
      refine lv_istore (lv' := [(9, .int (0 : Int32)), (8, .int i54), (7, .int i55), (0, .ref (ad 0)), (1, .int a0), (2, .int a1), (3, .int a2), (4, .int a3), (5, .int a4)]) hx hb dX10_retime_298 hl (by decide) rfl (fun ls hl => ?_)
      obtain ⟨r63, σ64, hr99, hf⟩ := g_s2 hf
      refine w_X10_retime_l4 hN X  FU _ _ _ _ _  hr99 (fun H locs ls S hl => ?_) _ _ _ S (lv_sub hl [0, 1, 2, 3, 4, 5, 6, 7, 8] rfl)
      refine lv_iinc (v := (i54 + 1)) (lv' := [(8, .int (i54 + 1)), (7, .int r63), (0, .ref (ad 0)), (1, .int a0), (2, .int a1), (3, .int a2), (4, .int a3), (5, .int a4)]) hx hb dX10_retime_435 hl (k := 0) rfl rfl (by decide) rfl (fun ls hl => ?_)
      refine lv_goto (tgt := 291) hx hb dX10_retime_438 (by decide) ?_
      exact ih _ _ _ _ _  hf J _ _ _ S (lv_sub hl [0, 1, 2, 3, 4, 5, 6, 7] rfl)
noncomputable def f_X10_retime (σ : gSt) (a0 : Int32) (a1 : Int32) (a2 : Int32) (a3 : Int32) (a4 : Int32) : Option (Int32 × gSt) :=
  (g_k1 (f_X10_in σ a0 (-1 : Int32) (1 : Int32)) fun v1 => (g_k1 (if v1 = 0 then some (1 : Int32) else (g_k1 (f_X10_in σ a1 (0 : Int32) (9999 : Int32)) fun v104 => (if v104 = 0 then some (2 : Int32) else (g_k1 (f_X10_in σ a2 (0 : Int32) (9999 : Int32)) fun v106 => (if v106 = 0 then some (2 : Int32) else (g_k1 (f_X10_in σ a3 (0 : Int32) (9999 : Int32)) fun v108 => (if v108 = 0 then some (2 : Int32) else (g_k1 (f_X10_in σ a4 (0 : Int32) (9999 : Int32)) fun v110 => (if v110 = 0 then some (2 : Int32) else (if a1 = a3 then some (2 : Int32) else (if a2 = a4 then some (2 : Int32) else (g_k1 (if a3 ≤ a1 then some (0 : Int32) else some (1 : Int32)) fun x114 => (g_k1 (if a4 ≤ a2 then some (0 : Int32) else some (1 : Int32)) fun x117 => (if x114 = x117 then some (0 : Int32) else some (2 : Int32))))))))))))))) fun x2 => (g_k1 (gset σ 0 10 x2) fun σ5 => (if (σ5 0 10) ≤ 0 then (g_k1 (f_X10_retime_l1 a0 a1 a2 a3 a4 σ5 FU (0 : Int32) (0 : Int32)) fun r9 => (if r9 ≤ 0 then (g_k1 (f_X10_changes σ5 1) fun σ53 => (g_k2 (f_X10_retime_l3 a0 a1 a2 a3 a4 σ53 FU (0 : Int32) (0 : Int32) σ53) fun r57 σ58 => some (r57, σ58))) else (g_k2 (f_X10_refuses σ5 (3 : Int32) r9) fun v101 σ102 => some (v101, σ102)))) else some ((0 : Int32), σ5)))))
set_option maxRecDepth 100000 in
set_option maxHeartbeats 4000000 in
theorem c_X10_retime (l : Launch) {Γ : gG} {ad : Nat → Nat} {N : Nat} (hN : 8 ≤ N) {σ : gSt} {a0 : Int32} {a1 : Int32} {a2 : Int32} {a3 : Int32} {a4 : Int32}  {r : Int32} {σ' : gSt} (hf : f_X10_retime σ a0 a1 a2 a3 a4 = some (r, σ')) : gMi l celM Γ ad N yX10_retime cX10_retime 12 (some .int) (gR 3 0 0) [.ref (ad 0), .int a0, .int a1, .int a2, .int a3, .int a4] σ r σ' := by
  intro sz
  refine gOf (Qc := fun sz => gQci celM Γ ad N r σ' sz) RX10 (by decide) rfl (by decide) (fun p e s m args below meth c H locs ls X S hl => ?_)
  have hl : lv_has ls 12 [(0, .ref (ad 0)), (1, .int a0), (2, .int a1), (3, .int a2), (4, .int a3), (5, .int a4)] := hl
  have hx := X.1
  have hb := X.2.1
  unfold f_X10_retime at hf
  refine lv_aload_n hx hb dX10_retime_0 rfl (lv_at hl 0 rfl) ?_
  refine lv_iload_n hx hb dX10_retime_1 rfl (lv_at hl 1 rfl) ?_
  refine lv_iconst (v := (-1 : Int32)) hx hb dX10_retime_2 (by decide) ?_
  refine lv_iconst (v := (1 : Int32)) hx hb dX10_retime_3 (by decide) ?_
  obtain ⟨v1, hv1, hf⟩ := g_s1 hf
  refine g_ki S (g_runS (rest := [.ref (ad 0)]) X S (c_X10_in l hN  hv1 _) csX10_in mlX10_48 rfl rfl hl.1 (by decide) ⟨⟨rfl, rfl⟩, ⟨Nat.le_of_ble_eq_true rfl, Nat.le_of_ble_eq_true rfl⟩, Nat.le_of_ble_eq_true rfl, Nat.le_of_ble_eq_true rfl⟩ dX10_retime_4) (fun H locs S => ?_)
  obtain ⟨x2, hr3, hf⟩ := g_s1 hf
  have J4 : ∀ (H : Heap) (locs : List Loc) (ls : Array Slot), gS celM Γ ad N σ s H locs → lv_has ls 12 [(0, .ref (ad 0)), (1, .int a0), (2, .int a1), (3, .int a2), (4, .int a3), (5, .int a4)] → W p l e (gR 3 0 0) s m args below meth c H locs 0 0 (gQi celM Γ ad N r σ' below args s) (F0 m 102 ls [.int x2, .ref (ad 0)]) := by
    intro H locs ls S hl
    obtain ⟨σ5, hσ5, hf⟩ := g_s1 hf
    refine pfX10_35 X S hN hσ5 dX10_retime_102 (fun H locs S => ?_)
    refine lv_aload_n hx hb dX10_retime_105 rfl (lv_at hl 0 rfl) ?_
    refine gfX10_35 X S hN dX10_retime_106 ?_
    refine lv_if_le (tgt := 114) hx hb dX10_retime_109 (by decide) (fun c6 => ?_) (fun c6 => ?_)
    · have hf := (if_pos c6).symm.trans hf
      refine lv_iconst (v := (0 : Int32)) hx hb dX10_retime_114 (by decide) ?_
      refine lv_istore (lv' := [(6, .int (0 : Int32)), (0, .ref (ad 0)), (1, .int a0), (2, .int a1), (3, .int a2), (4, .int a3), (5, .int a4)]) hx hb dX10_retime_115 hl (by decide) rfl (fun ls hl => ?_)
      refine lv_iconst (v := (0 : Int32)) hx hb dX10_retime_117 (by decide) ?_
      refine lv_istore (lv' := [(7, .int (0 : Int32)), (6, .int (0 : Int32)), (0, .ref (ad 0)), (1, .int a0), (2, .int a1), (3, .int a2), (4, .int a3), (5, .int a4)]) hx hb dX10_retime_118 hl (by decide) rfl (fun ls hl => ?_)
      obtain ⟨r9, hr51, hf⟩ := g_s1 hf
      refine w_X10_retime_l1 hN X  FU _ _ _  hr51 (fun H locs ls S hl => ?_) _ _ _ S (lv_sub hl [0, 1, 2, 3, 4, 5, 6, 7] rfl)
      refine lv_iload hx hb dX10_retime_264 (lv_at hl 0 rfl) ?_
      refine lv_if_le (tgt := 277) hx hb dX10_retime_266 (by decide) (fun c52 => ?_) (fun c52 => ?_)
      · have hf := (if_pos c52).symm.trans hf
        refine lv_aload_n hx hb dX10_retime_277 rfl (lv_at hl 1 rfl) ?_
        refine lv_aload_n hx hb dX10_retime_278 rfl (lv_at hl 1 rfl) ?_
        refine gfX10_7 X S hN dX10_retime_279 ?_
        obtain ⟨σ53, hσ53, hf⟩ := g_s1 hf
        refine g_kv S (g_runV (rest := []) X S (c_X10_changes l hN (by rfl : gma 1 = true) hσ53 _) cvX10_changes mlX10_78 (by omega) (ceM_10 _) rfl rfl rfl hl.1 (by decide) ⟨⟨rfl, rfl⟩, ⟨Nat.le_of_ble_eq_true rfl, Nat.le_of_ble_eq_true rfl⟩, Nat.le_of_ble_eq_true rfl, Nat.le_of_ble_eq_true rfl⟩ dX10_retime_282) (fun H locs S => ?_)
        refine lv_iconst (v := (0 : Int32)) hx hb dX10_retime_285 (by decide) ?_
        refine lv_istore (lv' := [(7, .int (0 : Int32)), (6, .int r9), (0, .ref (ad 0)), (1, .int a0), (2, .int a1), (3, .int a2), (4, .int a3), (5, .int a4)]) hx hb dX10_retime_286 hl (by decide) rfl (fun ls hl => ?_)
        refine lv_iconst (v := (0 : Int32)) hx hb dX10_retime_288 (by decide) ?_
        refine lv_istore (lv' := [(8, .int (0 : Int32)), (7, .int (0 : Int32)), (6, .int r9), (0, .ref (ad 0)), (1, .int a0), (2, .int a1), (3, .int a2), (4, .int a3), (5, .int a4)]) hx hb dX10_retime_289 hl (by decide) rfl (fun ls hl => ?_)
        obtain ⟨r57, σ58, hr100, hf⟩ := g_s2 hf
        refine w_X10_retime_l3 hN X  FU _ _ _ _ _  hr100 (fun H locs ls S hl => ?_) _ _ _ S (lv_sub hl [0, 1, 2, 3, 4, 5, 6, 7] rfl)
        refine lv_iload hx hb dX10_retime_441 (lv_at hl 0 rfl) ?_
        cases hf
        exact g_reti X S rfl dX10_retime_443
      · have hf := (if_neg c52).symm.trans hf
        refine lv_aload_n hx hb dX10_retime_269 rfl (lv_at hl 1 rfl) ?_
        refine lv_iconst (v := (3 : Int32)) hx hb dX10_retime_270 (by decide) ?_
        refine lv_iload hx hb dX10_retime_271 (lv_at hl 0 rfl) ?_
        obtain ⟨v101, σ102, hv101, hf⟩ := g_s2 hf
        refine g_ki S (g_runV (rest := []) X S (c_X10_refuses l hN  hv101 _) cvX10_refuses mlX10_75 (by omega) (ceM_10 _) rfl rfl rfl hl.1 (by decide) ⟨⟨rfl, rfl⟩, ⟨Nat.le_of_ble_eq_true rfl, Nat.le_of_ble_eq_true rfl⟩, Nat.le_of_ble_eq_true rfl, Nat.le_of_ble_eq_true rfl⟩ dX10_retime_273) (fun H locs S => ?_)
        cases hf
        exact g_reti X S rfl dX10_retime_276
    · have hf := (if_neg c6).symm.trans hf
      refine lv_iconst (v := (0 : Int32)) hx hb dX10_retime_112 (by decide) ?_
      cases hf
      exact g_reti X S rfl dX10_retime_113
  replace hf := hr3
  refine lv_if_ne (tgt := 14) hx hb dX10_retime_7 (by decide) (fun c103 => ?_) (fun c103 => ?_)
  · have hf := (if_neg c103).symm.trans hf
    refine lv_iload_n hx hb dX10_retime_14 rfl (lv_at hl 2 rfl) ?_
    refine lv_iconst (v := (0 : Int32)) hx hb dX10_retime_15 (by decide) ?_
    refine lv_sipush (v := (9999 : Int32)) hx hb dX10_retime_16 (by decide) ?_
    obtain ⟨v104, hv104, hf⟩ := g_s1 hf
    refine g_ki S (g_runS (rest := [.ref (ad 0)]) X S (c_X10_in l hN  hv104 _) csX10_in mlX10_48 rfl rfl hl.1 (by decide) ⟨⟨rfl, rfl⟩, ⟨Nat.le_of_ble_eq_true rfl, Nat.le_of_ble_eq_true rfl⟩, Nat.le_of_ble_eq_true rfl, Nat.le_of_ble_eq_true rfl⟩ dX10_retime_19) (fun H locs S => ?_)
    refine lv_if_eq (tgt := 97) hx hb dX10_retime_22 (by decide) (fun c105 => ?_) (fun c105 => ?_)
    · have hf := (if_pos c105).symm.trans hf
      refine lv_iconst (v := (2 : Int32)) hx hb dX10_retime_97 (by decide) ?_
      refine lv_goto (tgt := 102) hx hb dX10_retime_98 (by decide) ?_
      cases hf
      exact J4 _ _ _ S (lv_sub hl [0, 1, 2, 3, 4, 5] rfl)
    · have hf := (if_neg c105).symm.trans hf
      refine lv_iload_n hx hb dX10_retime_25 rfl (lv_at hl 3 rfl) ?_
      refine lv_iconst (v := (0 : Int32)) hx hb dX10_retime_26 (by decide) ?_
      refine lv_sipush (v := (9999 : Int32)) hx hb dX10_retime_27 (by decide) ?_
      obtain ⟨v106, hv106, hf⟩ := g_s1 hf
      refine g_ki S (g_runS (rest := [.ref (ad 0)]) X S (c_X10_in l hN  hv106 _) csX10_in mlX10_48 rfl rfl hl.1 (by decide) ⟨⟨rfl, rfl⟩, ⟨Nat.le_of_ble_eq_true rfl, Nat.le_of_ble_eq_true rfl⟩, Nat.le_of_ble_eq_true rfl, Nat.le_of_ble_eq_true rfl⟩ dX10_retime_30) (fun H locs S => ?_)
      refine lv_if_eq (tgt := 97) hx hb dX10_retime_33 (by decide) (fun c107 => ?_) (fun c107 => ?_)
      · have hf := (if_pos c107).symm.trans hf
        refine lv_iconst (v := (2 : Int32)) hx hb dX10_retime_97 (by decide) ?_
        refine lv_goto (tgt := 102) hx hb dX10_retime_98 (by decide) ?_
        cases hf
        exact J4 _ _ _ S (lv_sub hl [0, 1, 2, 3, 4, 5] rfl)
      · have hf := (if_neg c107).symm.trans hf
        refine lv_iload hx hb dX10_retime_36 (lv_at hl 4 rfl) ?_
        refine lv_iconst (v := (0 : Int32)) hx hb dX10_retime_38 (by decide) ?_
        refine lv_sipush (v := (9999 : Int32)) hx hb dX10_retime_39 (by decide) ?_
        obtain ⟨v108, hv108, hf⟩ := g_s1 hf
        refine g_ki S (g_runS (rest := [.ref (ad 0)]) X S (c_X10_in l hN  hv108 _) csX10_in mlX10_48 rfl rfl hl.1 (by decide) ⟨⟨rfl, rfl⟩, ⟨Nat.le_of_ble_eq_true rfl, Nat.le_of_ble_eq_true rfl⟩, Nat.le_of_ble_eq_true rfl, Nat.le_of_ble_eq_true rfl⟩ dX10_retime_42) (fun H locs S => ?_)
        refine lv_if_eq (tgt := 97) hx hb dX10_retime_45 (by decide) (fun c109 => ?_) (fun c109 => ?_)
        · have hf := (if_pos c109).symm.trans hf
          refine lv_iconst (v := (2 : Int32)) hx hb dX10_retime_97 (by decide) ?_
          refine lv_goto (tgt := 102) hx hb dX10_retime_98 (by decide) ?_
          cases hf
          exact J4 _ _ _ S (lv_sub hl [0, 1, 2, 3, 4, 5] rfl)
        · have hf := (if_neg c109).symm.trans hf
          refine lv_iload hx hb dX10_retime_48 (lv_at hl 5 rfl) ?_
          refine lv_iconst (v := (0 : Int32)) hx hb dX10_retime_50 (by decide) ?_
          refine lv_sipush (v := (9999 : Int32)) hx hb dX10_retime_51 (by decide) ?_
          obtain ⟨v110, hv110, hf⟩ := g_s1 hf
          refine g_ki S (g_runS (rest := [.ref (ad 0)]) X S (c_X10_in l hN  hv110 _) csX10_in mlX10_48 rfl rfl hl.1 (by decide) ⟨⟨rfl, rfl⟩, ⟨Nat.le_of_ble_eq_true rfl, Nat.le_of_ble_eq_true rfl⟩, Nat.le_of_ble_eq_true rfl, Nat.le_of_ble_eq_true rfl⟩ dX10_retime_54) (fun H locs S => ?_)
          refine lv_if_eq (tgt := 97) hx hb dX10_retime_57 (by decide) (fun c111 => ?_) (fun c111 => ?_)
          · have hf := (if_pos c111).symm.trans hf
            refine lv_iconst (v := (2 : Int32)) hx hb dX10_retime_97 (by decide) ?_
            refine lv_goto (tgt := 102) hx hb dX10_retime_98 (by decide) ?_
            cases hf
            exact J4 _ _ _ S (lv_sub hl [0, 1, 2, 3, 4, 5] rfl)
          · have hf := (if_neg c111).symm.trans hf
            refine lv_iload_n hx hb dX10_retime_60 rfl (lv_at hl 2 rfl) ?_
            refine lv_iload hx hb dX10_retime_61 (lv_at hl 4 rfl) ?_
            refine lv_icmp_eq (tgt := 97) hx hb dX10_retime_63 (by decide) (fun c112 => ?_) (fun c112 => ?_)
            · have hf := (if_pos c112).symm.trans hf
              refine lv_iconst (v := (2 : Int32)) hx hb dX10_retime_97 (by decide) ?_
              refine lv_goto (tgt := 102) hx hb dX10_retime_98 (by decide) ?_
              cases hf
              exact J4 _ _ _ S (lv_sub hl [0, 1, 2, 3, 4, 5] rfl)
            · have hf := (if_neg c112).symm.trans hf
              refine lv_iload_n hx hb dX10_retime_66 rfl (lv_at hl 3 rfl) ?_
              refine lv_iload hx hb dX10_retime_67 (lv_at hl 5 rfl) ?_
              refine lv_icmp_eq (tgt := 97) hx hb dX10_retime_69 (by decide) (fun c113 => ?_) (fun c113 => ?_)
              · have hf := (if_pos c113).symm.trans hf
                refine lv_iconst (v := (2 : Int32)) hx hb dX10_retime_97 (by decide) ?_
                refine lv_goto (tgt := 102) hx hb dX10_retime_98 (by decide) ?_
                cases hf
                exact J4 _ _ _ S (lv_sub hl [0, 1, 2, 3, 4, 5] rfl)
              · have hf := (if_neg c113).symm.trans hf
                refine lv_iload_n hx hb dX10_retime_72 rfl (lv_at hl 2 rfl) ?_
                refine lv_iload hx hb dX10_retime_73 (lv_at hl 4 rfl) ?_
                obtain ⟨x114, hr115, hf⟩ := g_s1 hf
                have J116 : ∀ (H : Heap) (locs : List Loc) (ls : Array Slot), gS celM Γ ad N σ s H locs → lv_has ls 12 [(0, .ref (ad 0)), (1, .int a0), (2, .int a1), (3, .int a2), (4, .int a3), (5, .int a4)] → W p l e (gR 3 0 0) s m args below meth c H locs 0 0 (gQi celM Γ ad N r σ' below args s) (F0 m 83 ls [.int x114, .ref (ad 0)]) := by
                  intro H locs ls S hl
                  refine lv_iload_n hx hb dX10_retime_83 rfl (lv_at hl 3 rfl) ?_
                  refine lv_iload hx hb dX10_retime_84 (lv_at hl 5 rfl) ?_
                  obtain ⟨x117, hr118, hf⟩ := g_s1 hf
                  have J119 : ∀ (H : Heap) (locs : List Loc) (ls : Array Slot), gS celM Γ ad N σ s H locs → lv_has ls 12 [(0, .ref (ad 0)), (1, .int a0), (2, .int a1), (3, .int a2), (4, .int a3), (5, .int a4)] → W p l e (gR 3 0 0) s m args below meth c H locs 0 0 (gQi celM Γ ad N r σ' below args s) (F0 m 94 ls [.int x117, .int x114, .ref (ad 0)]) := by
                    intro H locs ls S hl
                    refine lv_icmp_eq (tgt := 101) hx hb dX10_retime_94 (by decide) (fun c120 => ?_) (fun c120 => ?_)
                    · have hf := (if_pos c120).symm.trans hf
                      refine lv_iconst (v := (0 : Int32)) hx hb dX10_retime_101 (by decide) ?_
                      cases hf
                      exact J4 _ _ _ S (lv_sub hl [0, 1, 2, 3, 4, 5] rfl)
                    · have hf := (if_neg c120).symm.trans hf
                      refine lv_iconst (v := (2 : Int32)) hx hb dX10_retime_97 (by decide) ?_
                      refine lv_goto (tgt := 102) hx hb dX10_retime_98 (by decide) ?_
                      cases hf
                      exact J4 _ _ _ S (lv_sub hl [0, 1, 2, 3, 4, 5] rfl)
                  replace hf := hr118
                  refine lv_icmp_ge (tgt := 93) hx hb dX10_retime_86 (by decide) (fun c121 => ?_) (fun c121 => ?_)
                  · have hf := (if_pos c121).symm.trans hf
                    refine lv_iconst (v := (0 : Int32)) hx hb dX10_retime_93 (by decide) ?_
                    cases hf
                    exact J119 _ _ _ S (lv_sub hl [0, 1, 2, 3, 4, 5] rfl)
                  · have hf := (if_neg c121).symm.trans hf
                    refine lv_iconst (v := (1 : Int32)) hx hb dX10_retime_89 (by decide) ?_
                    refine lv_goto (tgt := 94) hx hb dX10_retime_90 (by decide) ?_
                    cases hf
                    exact J119 _ _ _ S (lv_sub hl [0, 1, 2, 3, 4, 5] rfl)
                replace hf := hr115
                refine lv_icmp_ge (tgt := 82) hx hb dX10_retime_75 (by decide) (fun c122 => ?_) (fun c122 => ?_)
                · have hf := (if_pos c122).symm.trans hf
                  refine lv_iconst (v := (0 : Int32)) hx hb dX10_retime_82 (by decide) ?_
                  cases hf
                  exact J116 _ _ _ S (lv_sub hl [0, 1, 2, 3, 4, 5] rfl)
                · have hf := (if_neg c122).symm.trans hf
                  refine lv_iconst (v := (1 : Int32)) hx hb dX10_retime_78 (by decide) ?_
                  refine lv_goto (tgt := 83) hx hb dX10_retime_79 (by decide) ?_
                  cases hf
                  exact J116 _ _ _ S (lv_sub hl [0, 1, 2, 3, 4, 5] rfl)
  · have hf := (if_pos c103).symm.trans hf
    refine lv_iconst (v := (1 : Int32)) hx hb dX10_retime_10 (by decide) ?_
    refine lv_goto (tgt := 102) hx hb dX10_retime_11 (by decide) ?_
    cases hf
    exact J4 _ _ _ S (lv_sub hl [0, 1, 2, 3, 4, 5] rfl)
