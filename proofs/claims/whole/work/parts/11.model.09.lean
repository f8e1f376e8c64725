noncomputable def f_X10_faultPosition (σ : gSt)  : Option (Int32 × gSt) :=
  (g_k1 (if 0 ≤ (σ 0 9) then some (0 : Int32) else some (1 : Int32)) fun x1 => (g_k1 (gset σ 0 10 x1) fun σ4 => (g_k1 (if (σ4 0 10) ≤ 0 then some (σ4 0 9) else some (0 : Int32)) fun x5 => some (x5, σ4))))
set_option maxRecDepth 100000 in
set_option maxHeartbeats 4000000 in
theorem c_X10_faultPosition (l : Launch) {Γ : gG} {ad : Nat → Nat} {N : Nat} (hN : 8 ≤ N) {σ : gSt}   {r : Int32} {σ' : gSt} (hf : f_X10_faultPosition σ  = some (r, σ')) : gMi l celM Γ ad N yX10_faultPosition cX10_faultPosition 1 (some .int) (gR 1 0 0) [.ref (ad 0)] σ r σ' := by
  intro sz
  refine gOf (Qc := fun sz => gQci celM Γ ad N r σ' sz) RX10 (by decide) rfl (Nat.le_of_ble_eq_true rfl) (fun p e s m args below meth c H locs ls X S hl => ?_)
  have hl : lv_has ls 1 [(0, .ref (ad 0))] := hl
  have hx := X.1
  have hb := X.2.1
  unfold f_X10_faultPosition at hf
  refine lv_aload_n hx hb dX10_faultPosition_0 rfl (lv_at hl 0 rfl) ?_
  refine lv_aload_n hx hb dX10_faultPosition_1 rfl (lv_at hl 0 rfl) ?_
  refine gfX10_25 X S hN dX10_faultPosition_2 ?_
  obtain ⟨x1, hr2, hf⟩ := g_s1 hf
  have J3 : ∀ (H : Heap) (locs : List Loc) (ls : Array Slot), gS celM Γ ad N σ s H locs → lv_has ls 1 [(0, .ref (ad 0))] → W p l e (gR 1 0 0) s m args below meth c H locs 0 0 (gQi celM Γ ad N r σ' below args s) (F0 m 13 ls [.int x1, .ref (ad 0)]) := by
    intro H locs ls S hl
    obtain ⟨σ4, hσ4, hf⟩ := g_s1 hf
    refine pfX10_35 X S hN hσ4 dX10_faultPosition_13 (fun H locs S => ?_)
    refine lv_aload_n hx hb dX10_faultPosition_16 rfl (lv_at hl 0 rfl) ?_
    refine gfX10_35 X S hN dX10_faultPosition_17 ?_
    obtain ⟨x5, hr6, hf⟩ := g_s1 hf
    have J7 : ∀ (H : Heap) (locs : List Loc) (ls : Array Slot), gS celM Γ ad N σ4 s H locs → lv_has ls 1 [] → W p l e (gR 1 0 0) s m args below meth c H locs 0 0 (gQi celM Γ ad N r σ' below args s) (F0 m 31 ls [.int x5]) := by
      intro H locs ls S hl
      cases hf
      exact g_reti X S rfl dX10_faultPosition_31
    replace hf := hr6
    refine lv_if_le (tgt := 27) hx hb dX10_faultPosition_20 (by decide) (fun c8 => ?_) (fun c8 => ?_)
    · have hf := (if_pos c8).symm.trans hf
      refine lv_aload_n hx hb dX10_faultPosition_27 rfl (lv_at hl 0 rfl) ?_
      refine gfX10_25 X S hN dX10_faultPosition_28 ?_
      cases hf
      exact J7 _ _ _ S (lv_sub hl [] rfl)
    · have hf := (if_neg c8).symm.trans hf
      refine lv_iconst (v := (0 : Int32)) hx hb dX10_faultPosition_23 (by decide) ?_
      refine lv_goto (tgt := 31) hx hb dX10_faultPosition_24 (by decide) ?_
      cases hf
      exact J7 _ _ _ S (lv_sub hl [] rfl)
  replace hf := hr2
  refine lv_if_ge (tgt := 12) hx hb dX10_faultPosition_5 (by decide) (fun c9 => ?_) (fun c9 => ?_)
  · have hf := (if_pos c9).symm.trans hf
    refine lv_iconst (v := (0 : Int32)) hx hb dX10_faultPosition_12 (by decide) ?_
    cases hf
    exact J3 _ _ _ S (lv_sub hl [0] rfl)
  · have hf := (if_neg c9).symm.trans hf
    refine lv_iconst (v := (1 : Int32)) hx hb dX10_faultPosition_8 (by decide) ?_
    refine lv_goto (tgt := 13) hx hb dX10_faultPosition_9 (by decide) ?_
    cases hf
    exact J3 _ _ _ S (lv_sub hl [0] rfl)

noncomputable def f_X10_refusal (σ : gSt) (a0 : Int32) : Option (Int32 × gSt) :=
  (g_k1 (if (σ 0 7) = 0 then some (1 : Int32) else some (0 : Int32)) fun x1 => (g_k1 (gset σ 0 10 x1) fun σ4 => (g_k1 (if a0 = 0 then some (σ4 0 8) else some (σ4 0 7)) fun x5 => some (x5, σ4))))
set_option maxRecDepth 100000 in
set_option maxHeartbeats 4000000 in
theorem c_X10_refusal (l : Launch) {Γ : gG} {ad : Nat → Nat} {N : Nat} (hN : 8 ≤ N) {σ : gSt} {a0 : Int32}  {r : Int32} {σ' : gSt} (hf : f_X10_refusal σ a0 = some (r, σ')) : gMi l celM Γ ad N yX10_refusal cX10_refusal 2 (some .int) (gR 1 0 0) [.ref (ad 0), .int a0] σ r σ' := by
  intro sz
  refine gOf (Qc := fun sz => gQci celM Γ ad N r σ' sz) RX10 (by decide) rfl (Nat.le_of_ble_eq_true rfl) (fun p e s m args below meth c H locs ls X S hl => ?_)
  have hl : lv_has ls 2 [(0, .ref (ad 0)), (1, .int a0)] := hl
  have hx := X.1
  have hb := X.2.1
  unfold f_X10_refusal at hf
  refine lv_aload_n hx hb dX10_refusal_0 rfl (lv_at hl 0 rfl) ?_
  refine lv_aload_n hx hb dX10_refusal_1 rfl (lv_at hl 0 rfl) ?_
  refine gfX10_38 X S hN dX10_refusal_2 ?_
  obtain ⟨x1, hr2, hf⟩ := g_s1 hf
  have J3 : ∀ (H : Heap) (locs : List Loc) (ls : Array Slot), gS celM Γ ad N σ s H locs → lv_has ls 2 [(0, .ref (ad 0)), (1, .int a0)] → W p l e (gR 1 0 0) s m args below meth c H locs 0 0 (gQi celM Γ ad N r σ' below args s) (F0 m 13 ls [.int x1, .ref (ad 0)]) := by
    intro H locs ls S hl
    obtain ⟨σ4, hσ4, hf⟩ := g_s1 hf
    refine pfX10_35 X S hN hσ4 dX10_refusal_13 (fun H locs S => ?_)
    refine lv_iload_n hx hb dX10_refusal_16 rfl (lv_at hl 1 rfl) ?_
    obtain ⟨x5, hr6, hf⟩ := g_s1 hf
    have J7 : ∀ (H : Heap) (locs : List Loc) (ls : Array Slot), gS celM Γ ad N σ4 s H locs → lv_has ls 2 [] → W p l e (gR 1 0 0) s m args below meth c H locs 0 0 (gQi celM Γ ad N r σ' below args s) (F0 m 31 ls [.int x5]) := by
      intro H locs ls S hl
      cases hf
      exact g_reti X S rfl dX10_refusal_31
    replace hf := hr6
    refine lv_if_eq (tgt := 27) hx hb dX10_refusal_17 (by decide) (fun c8 => ?_) (fun c8 => ?_)
    · have hf := (if_pos c8).symm.trans hf
      refine lv_aload_n hx hb dX10_refusal_27 rfl (lv_at hl 0 rfl) ?_
      refine gfX10_41 X S hN dX10_refusal_28 ?_
      cases hf
      exact J7 _ _ _ S (lv_sub hl [] rfl)
    · have hf := (if_neg c8).symm.trans hf
      refine lv_aload_n hx hb dX10_refusal_20 rfl (lv_at hl 0 rfl) ?_
      refine gfX10_38 X S hN dX10_refusal_21 ?_
      refine lv_goto (tgt := 31) hx hb dX10_refusal_24 (by decide) ?_
      cases hf
      exact J7 _ _ _ S (lv_sub hl [] rfl)
  replace hf := hr2
  refine lv_if_ne (tgt := 12) hx hb dX10_refusal_5 (by decide) (fun c9 => ?_) (fun c9 => ?_)
  · have hf := (if_neg c9).symm.trans hf
    refine lv_iconst (v := (0 : Int32)) hx hb dX10_refusal_12 (by decide) ?_
    cases hf
    exact J3 _ _ _ S (lv_sub hl [0, 1] rfl)
  · have hf := (if_pos c9).symm.trans hf
    refine lv_iconst (v := (1 : Int32)) hx hb dX10_refusal_8 (by decide) ?_
    refine lv_goto (tgt := 13) hx hb dX10_refusal_9 (by decide) ?_
    cases hf
    exact J3 _ _ _ S (lv_sub hl [0, 1] rfl)

