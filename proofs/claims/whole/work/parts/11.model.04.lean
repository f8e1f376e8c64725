noncomputable def f_X10_split_l2 (a0 : Int32) (a1 : Int32) (a2 : Int32) (b13 : Int32) (x26 : Int32) (σ35 : gSt) : Nat → Int32 → gSt → Option (gSt)
  | 0, _, _ => none
  | n + 1, i36, σ37 => (if (24 : Int32) ≤ i36 then some σ37 else (g_k1 (if (σ37 5 3) ≤ i36 then some (0 : Int32) else (g_k1 (gald σ37 1 926 (((b13 + a2) + (1 : Int32)) + i36)) fun v45 => some v45)) fun x40 => (g_k1 (gast σ37 5 28 ((4 : Int32) + i36) x40) fun σ43 => (f_X10_split_l2 a0 a1 a2 b13 x26 σ35 n (i36 + 1) σ43))))
set_option maxRecDepth 100000 in
set_option maxHeartbeats 4000000 in
theorem w_X10_split_l2 {l : Launch} {Γ : gG} {ad : Nat → Nat} {N : Nat} {p : Program} {e : Env} {s : State} {m : MethodId} {args : Array Value} {below : List Frame} {meth : Method} {c : Code} {Q : State → Prop} (hN : 8 ≤ N) (X : gX celM Γ ad N RX10 cX10_split 12 (some .int) p s m args meth c) {a0 : Int32} {a1 : Int32} {a2 : Int32} {b13 : Int32} {x26 : Int32} {σ35 : gSt}  : ∀ (n : Nat) (i36 : Int32) (σ37 : gSt) (σ38 : gSt), f_X10_split_l2 a0 a1 a2 b13 x26 σ35 n i36 σ37 = some σ38 → (∀ (H : Heap) (locs : List Loc) (ls : Array Slot), gS celM Γ ad N σ38 s H locs → lv_has ls 12 [(10, .int x26), (4, .int b13), (0, .ref (ad 0)), (1, .int a0), (2, .int a1), (3, .int a2)] → W p l e (gR 4 0 0) s m args below meth c H locs 0 0 (Q) (F0 m 347 ls [])) → ∀ (H : Heap) (locs : List Loc) (ls : Array Slot), gS celM Γ ad N σ37 s H locs → lv_has ls 12 [(11, .int i36), (10, .int x26), (4, .int b13), (0, .ref (ad 0)), (1, .int a0), (2, .int a1), (3, .int a2)] → W p l e (gR 4 0 0) s m args below meth c H locs 0 0 (Q) (F0 m 296 ls []) := by
  have hx := X.1
  have hb := X.2.1
  intro n
  induction n with
  | zero =>
    intro i36 σ37 σ38 hf
    cases hf
  | succ n ih =>
    intro i36 σ37 σ38 hf J H locs ls S hl
    rw [f_X10_split_l2] at hf
    refine lv_iload hx hb dX10_split_296 (lv_at hl 0 rfl) ?_
    refine lv_bipush (v := (24 : Int32)) hx hb dX10_split_298 (by decide) ?_
    refine lv_icmp_ge (tgt := 347) hx hb dX10_split_300 (by decide) (fun c39 => ?_) (fun c39 => ?_)
    · have hf := (if_pos c39).symm.trans hf
      cases hf
      exact J _ _ _ S (lv_sub hl [1, 2, 3, 4, 5, 6] rfl)
    · have hf := (if_neg c39).symm.trans hf
      refine lv_aload_n hx hb dX10_split_303 rfl (lv_at hl 3 rfl) ?_
      refine gfX10_22 X S hN dX10_split_304 ?_
      refine lv_iconst (v := (4 : Int32)) hx hb dX10_split_307 (by decide) ?_
      refine lv_iload hx hb dX10_split_308 (lv_at hl 0 rfl) ?_
      refine lv_iadd hx hb dX10_split_310 ?_
      refine lv_iload hx hb dX10_split_311 (lv_at hl 0 rfl) ?_
      refine lv_aload_n hx hb dX10_split_313 rfl (lv_at hl 3 rfl) ?_
      refine gfX10_22 X S hN dX10_split_314 ?_
      refine lv_iconst (v := (3 : Int32)) hx hb dX10_split_317 (by decide) ?_
      refine g_ialdC X S (by omega) (ceM_a (rfl : gma 5 = true)) 3 (by decide) (by decide) dX10_split_318 ?_
      obtain ⟨x40, hr41, hf⟩ := g_s1 hf
      have J42 : ∀ (H : Heap) (locs : List Loc) (ls : Array Slot), gS celM Γ ad N σ37 s H locs → lv_has ls 12 [(11, .int i36), (10, .int x26), (4, .int b13), (0, .ref (ad 0)), (1, .int a0), (2, .int a1), (3, .int a2)] → W p l e (gR 4 0 0) s m args below meth c H locs 0 0 (Q) (F0 m 340 ls [.int x40, .int ((4 : Int32) + i36), .ref (ad 5)]) := by
        intro H locs ls S hl
        obtain ⟨σ43, hσ43, hf⟩ := g_s1 hf
        refine g_iast X S (by omega) (ceM_a (rfl : gma 5 = true)) hσ43 dX10_split_340 (fun H locs S => ?_)
        refine lv_iinc (v := (i36 + 1)) (lv' := [(11, .int (i36 + 1)), (10, .int x26), (4, .int b13), (0, .ref (ad 0)), (1, .int a0), (2, .int a1), (3, .int a2)]) hx hb dX10_split_341 hl (k := 0) rfl rfl (by decide) rfl (fun ls hl => ?_)
        refine lv_goto (tgt := 296) hx hb dX10_split_344 (by decide) ?_
        exact ih _ _ _  hf J _ _ _ S (lv_sub hl [0, 1, 2, 3, 4, 5, 6] rfl)
      replace hf := hr41
      refine lv_icmp_ge (tgt := 339) hx hb dX10_split_319 (by decide) (fun c44 => ?_) (fun c44 => ?_)
      · have hf := (if_pos c44).symm.trans hf
        refine lv_iconst (v := (0 : Int32)) hx hb dX10_split_339 (by decide) ?_
        cases hf
        exact J42 _ _ _ S (lv_sub hl [0, 1, 2, 3, 4, 5, 6] rfl)
      · have hf := (if_neg c44).symm.trans hf
        refine lv_aload_n hx hb dX10_split_322 rfl (lv_at hl 3 rfl) ?_
        refine gfX10_7 X S hN dX10_split_323 ?_
        refine lv_iload hx hb dX10_split_326 (lv_at hl 2 rfl) ?_
        refine lv_iload_n hx hb dX10_split_328 rfl (lv_at hl 6 rfl) ?_
        refine lv_iadd hx hb dX10_split_329 ?_
        refine lv_iconst (v := (1 : Int32)) hx hb dX10_split_330 (by decide) ?_
        refine lv_iadd hx hb dX10_split_331 ?_
        refine lv_iload hx hb dX10_split_332 (lv_at hl 0 rfl) ?_
        refine lv_iadd hx hb dX10_split_334 ?_
        obtain ⟨v45, hv45, hf⟩ := g_s1 hf
        refine g_iald X S (by omega) (ceM_a (rfl : gma 1 = true)) hv45 dX10_split_335 ?_
        refine lv_goto (tgt := 340) hx hb dX10_split_336 (by decide) ?_
        cases hf
        exact J42 _ _ _ S (lv_sub hl [0, 1, 2, 3, 4, 5, 6] rfl)
noncomputable def f_X10_split_l3 (a0 : Int32) (b13 : Int32) (x26 : Int32) (σ50 : gSt) : Nat → Int32 → gSt → Option (gSt)
  | 0, _, _ => none
  | n + 1, i51, σ52 => (if (24 : Int32) ≤ i51 then some σ52 else (g_k1 (gast σ52 1 926 (b13 + i51) (0 : Int32)) fun σ55 => (f_X10_split_l3 a0 b13 x26 σ50 n (i51 + 1) σ55)))
set_option maxRecDepth 100000 in
set_option maxHeartbeats 4000000 in
theorem w_X10_split_l3 {l : Launch} {Γ : gG} {ad : Nat → Nat} {N : Nat} {p : Program} {e : Env} {s : State} {m : MethodId} {args : Array Value} {below : List Frame} {meth : Method} {c : Code} {Q : State → Prop} (hN : 8 ≤ N) (X : gX celM Γ ad N RX10 cX10_split 12 (some .int) p s m args meth c) {a0 : Int32} {b13 : Int32} {x26 : Int32} {σ50 : gSt}  : ∀ (n : Nat) (i51 : Int32) (σ52 : gSt) (σ53 : gSt), f_X10_split_l3 a0 b13 x26 σ50 n i51 σ52 = some σ53 → (∀ (H : Heap) (locs : List Loc) (ls : Array Slot), gS celM Γ ad N σ53 s H locs → lv_has ls 12 [(10, .int x26), (0, .ref (ad 0)), (1, .int a0)] → W p l e (gR 4 0 0) s m args below meth c H locs 0 0 (Q) (F0 m 403 ls [])) → ∀ (H : Heap) (locs : List Loc) (ls : Array Slot), gS celM Γ ad N σ52 s H locs → lv_has ls 12 [(11, .int i51), (10, .int x26), (4, .int b13), (0, .ref (ad 0)), (1, .int a0)] → W p l e (gR 4 0 0) s m args below meth c H locs 0 0 (Q) (F0 m 379 ls []) := by
  have hx := X.1
  have hb := X.2.1
  intro n
  induction n with
  | zero =>
    intro i51 σ52 σ53 hf
    cases hf
  | succ n ih =>
    intro i51 σ52 σ53 hf J H locs ls S hl
    rw [f_X10_split_l3] at hf
    refine lv_iload hx hb dX10_split_379 (lv_at hl 0 rfl) ?_
    refine lv_bipush (v := (24 : Int32)) hx hb dX10_split_381 (by decide) ?_
    refine lv_icmp_ge (tgt := 403) hx hb dX10_split_383 (by decide) (fun c54 => ?_) (fun c54 => ?_)
    · have hf := (if_pos c54).symm.trans hf
      cases hf
      exact J _ _ _ S (lv_sub hl [1, 3, 4] rfl)
    · have hf := (if_neg c54).symm.trans hf
      refine lv_aload_n hx hb dX10_split_386 rfl (lv_at hl 3 rfl) ?_
      refine gfX10_7 X S hN dX10_split_387 ?_
      refine lv_iload hx hb dX10_split_390 (lv_at hl 2 rfl) ?_
      refine lv_iload hx hb dX10_split_392 (lv_at hl 0 rfl) ?_
      refine lv_iadd hx hb dX10_split_394 ?_
      refine lv_iconst (v := (0 : Int32)) hx hb dX10_split_395 (by decide) ?_
      obtain ⟨σ55, hσ55, hf⟩ := g_s1 hf
      refine g_iast X S (by omega) (ceM_a (rfl : gma 1 = true)) hσ55 dX10_split_396 (fun H locs S => ?_)
      refine lv_iinc (v := (i51 + 1)) (lv' := [(11, .int (i51 + 1)), (10, .int x26), (4, .int b13), (0, .ref (ad 0)), (1, .int a0)]) hx hb dX10_split_397 hl (k := 0) rfl rfl (by decide) rfl (fun ls hl => ?_)
      refine lv_goto (tgt := 379) hx hb dX10_split_400 (by decide) ?_
      exact ih _ _ _  hf J _ _ _ S (lv_sub hl [0, 1, 2, 3, 4] rfl)
noncomputable def f_X10_split_b1 (a0 : Int32) (a1 : Int32) (a2 : Int32) (b12 : Int32) (b13 : Int32) (σ14 : gSt) : Option (Int32 × gSt) :=
  (g_k1 (f_X10_isText σ14 1 b13 a2) fun v15 => (if v15 = 0 then (g_k2 (f_X10_refuses σ14 (2 : Int32) (4 : Int32)) fun v17 σ18 => some (v17, σ18)) else (g_k1 (f_X10_isText σ14 1 ((b13 + a2) + (1 : Int32)) ((b12 - a2) - (1 : Int32))) fun v19 => (if v19 = 0 then (g_k2 (f_X10_refuses σ14 (2 : Int32) (4 : Int32)) fun v64 σ65 => some (v64, σ65)) else (g_k1 (f_X10_bars σ14 1 b13 a2) fun v21 => (g_k1 (f_X10_bars σ14 1 ((b13 + a2) + (1 : Int32)) ((b12 - a2) - (1 : Int32))) fun v22 => (g_k1 (f_X10_end σ14 a0 a1) fun v23 => (g_k1 (f_X10_first σ14 a0 a1) fun v24 => (g_k1 (gdiv ((v23 - v24) * (a2 - v21)) ((a2 - v21) + (((b12 - a2) - (1 : Int32)) - v22))) fun _ => (g_k1 (if (1 : Int32) ≤ (((v23 - v24) * (a2 - v21)) / ((a2 - v21) + (((b12 - a2) - (1 : Int32)) - v22))) then some (((v23 - v24) * (a2 - v21)) / ((a2 - v21) + (((b12 - a2) - (1 : Int32)) - v22))) else some (1 : Int32)) fun x26 => (if x26 < (v23 - v24) then (g_k1 (gald σ14 1 926 ((28 : Int32) + a0)) fun v30 => (if v30 = (16 : Int32) then (g_k2 (f_X10_refuses σ14 (2 : Int32) (8 : Int32)) fun v59 σ60 => some (v59, σ60)) else (g_k1 (f_X10_changes σ14 1) fun σ32 => (g_k1 (f_X10_owns σ32 a0 a1) fun σ33 => (g_k1 (gset σ33 5 0 ((σ33 5 0) + x26)) fun σ34 => (g_k1 (gset σ34 5 3 ((b12 - a2) - (1 : Int32))) fun σ35 => (g_k1 (f_X10_split_l2 a0 a1 a2 b13 x26 σ35 FU (0 : Int32) σ35) fun σ38 => (g_k1 (f_X10_at σ38 a0 a1 (1 : Int32)) fun v47 => (g_k1 (gast σ38 1 926 v47 (σ38 5 0)) fun σ48 => (g_k1 (f_X10_at σ48 a0 a1 (3 : Int32)) fun v49 => (g_k1 (gast σ48 1 926 v49 a2) fun σ50 => (g_k1 (f_X10_split_l3 a0 b13 x26 σ50 FU a2 σ50) fun σ53 => (g_k2 (f_X10_puts σ53 a0) fun v57 σ58 => some (x26, σ58)))))))))))))) else (g_k2 (f_X10_refuses σ14 (2 : Int32) (2 : Int32)) fun v61 σ62 => some (v61, σ62)))))))))))))
set_option maxRecDepth 100000 in
set_option maxHeartbeats 4000000 in
theorem w_X10_split_b1 {l : Launch} {Γ : gG} {ad : Nat → Nat} {N : Nat} {p : Program} {e : Env} {s : State} {m : MethodId} {args : Array Value} {below : List Frame} {meth : Method} {c : Code} (hN : 8 ≤ N) (X : gX celM Γ ad N RX10 cX10_split 12 (some .int) p s m args meth c) {a0 : Int32} {a1 : Int32} {a2 : Int32} {b12 : Int32} {b13 : Int32} {σ14 : gSt}  {r : Int32} {σ' : gSt} (hf : f_X10_split_b1 a0 a1 a2 b12 b13 σ14 = some (r, σ')) (H : Heap) (locs : List Loc) (ls : Array Slot) (S : gS celM Γ ad N σ14 s H locs) (hl : lv_has ls 12 [(5, .int b12), (4, .int b13), (0, .ref (ad 0)), (1, .int a0), (2, .int a1), (3, .int a2)]) : W p l e (gR 4 0 0) s m args below meth c H locs 0 0 (gQi celM Γ ad N r σ' below args s) (F0 m 94 ls []) := by
  have hx := X.1
  have hb := X.2.1
  unfold f_X10_split_b1 at hf
  refine lv_aload_n hx hb dX10_split_94 rfl (lv_at hl 2 rfl) ?_
  refine gfX10_7 X S hN dX10_split_95 ?_
  refine lv_iload hx hb dX10_split_98 (lv_at hl 1 rfl) ?_
  refine lv_iload_n hx hb dX10_split_100 rfl (lv_at hl 5 rfl) ?_
  obtain ⟨v15, hv15, hf⟩ := g_s1 hf
  refine g_ki S (g_runS (rest := []) X S (c_X10_isText l hN (by rfl : gma 1 = true) hv15 _) csX10_isText mlX10_144 rfl rfl hl.1 (Nat.le_of_ble_eq_true rfl) ⟨⟨rfl, rfl⟩, ⟨Nat.le_of_ble_eq_true rfl, Nat.le_of_ble_eq_true rfl⟩, Nat.le_of_ble_eq_true rfl, Nat.le_of_ble_eq_true rfl⟩ dX10_split_101) (fun H locs S => ?_)
  refine lv_if_eq (tgt := 129) hx hb dX10_split_104 (by decide) (fun c16 => ?_) (fun c16 => ?_)
  · have hf := (if_pos c16).symm.trans hf
    refine lv_aload_n hx hb dX10_split_129 rfl (lv_at hl 2 rfl) ?_
    refine lv_iconst (v := (2 : Int32)) hx hb dX10_split_130 (by decide) ?_
    refine lv_iconst (v := (4 : Int32)) hx hb dX10_split_131 (by decide) ?_
    obtain ⟨v17, σ18, hv17, hf⟩ := g_s2 hf
    refine g_ki S (g_runV (rest := []) X S (c_X10_refuses l hN  hv17 _) cvX10_refuses mlX10_75 (by omega) (ceM_10 _) rfl rfl rfl hl.1 (Nat.le_of_ble_eq_true rfl) ⟨⟨rfl, rfl⟩, ⟨Nat.le_of_ble_eq_true rfl, Nat.le_of_ble_eq_true rfl⟩, Nat.le_of_ble_eq_true rfl, Nat.le_of_ble_eq_true rfl⟩ dX10_split_132) (fun H locs S => ?_)
    cases hf
    exact g_reti X S rfl dX10_split_135
  · have hf := (if_neg c16).symm.trans hf
    refine lv_aload_n hx hb dX10_split_107 rfl (lv_at hl 2 rfl) ?_
    refine gfX10_7 X S hN dX10_split_108 ?_
    refine lv_iload hx hb dX10_split_111 (lv_at hl 1 rfl) ?_
    refine lv_iload_n hx hb dX10_split_113 rfl (lv_at hl 5 rfl) ?_
    refine lv_iadd hx hb dX10_split_114 ?_
    refine lv_iconst (v := (1 : Int32)) hx hb dX10_split_115 (by decide) ?_
    refine lv_iadd hx hb dX10_split_116 ?_
    refine lv_iload hx hb dX10_split_117 (lv_at hl 0 rfl) ?_
    refine lv_iload_n hx hb dX10_split_119 rfl (lv_at hl 5 rfl) ?_
    refine lv_isub hx hb dX10_split_120 ?_
    refine lv_iconst (v := (1 : Int32)) hx hb dX10_split_121 (by decide) ?_
    refine lv_isub hx hb dX10_split_122 ?_
    obtain ⟨v19, hv19, hf⟩ := g_s1 hf
    refine g_ki S (g_runS (rest := []) X S (c_X10_isText l hN (by rfl : gma 1 = true) hv19 _) csX10_isText mlX10_144 rfl rfl hl.1 (Nat.le_of_ble_eq_true rfl) ⟨⟨rfl, rfl⟩, ⟨Nat.le_of_ble_eq_true rfl, Nat.le_of_ble_eq_true rfl⟩, Nat.le_of_ble_eq_true rfl, Nat.le_of_ble_eq_true rfl⟩ dX10_split_123) (fun H locs S => ?_)
    refine lv_if_ne (tgt := 136) hx hb dX10_split_126 (by decide) (fun c20 => ?_) (fun c20 => ?_)
    · have hf := (if_neg c20).symm.trans hf
      refine lv_iload_n hx hb dX10_split_136 rfl (lv_at hl 5 rfl) ?_
      refine lv_aload_n hx hb dX10_split_137 rfl (lv_at hl 2 rfl) ?_
      refine gfX10_7 X S hN dX10_split_138 ?_
      refine lv_iload hx hb dX10_split_141 (lv_at hl 1 rfl) ?_
      refine lv_iload_n hx hb dX10_split_143 rfl (lv_at hl 5 rfl) ?_
      obtain ⟨v21, hv21, hf⟩ := g_s1 hf
      refine g_ki S (g_runS (rest := [.int a2]) X S (c_X10_bars l hN (by rfl : gma 1 = true) hv21 _) csX10_bars mlX10_103 rfl rfl hl.1 (Nat.le_of_ble_eq_true rfl) ⟨⟨rfl, rfl⟩, ⟨Nat.le_of_ble_eq_true rfl, Nat.le_of_ble_eq_true rfl⟩, Nat.le_of_ble_eq_true rfl, Nat.le_of_ble_eq_true rfl⟩ dX10_split_144) (fun H locs S => ?_)
      refine lv_isub hx hb dX10_split_147 ?_
      refine lv_istore (lv' := [(7, .int (a2 - v21)), (5, .int b12), (4, .int b13), (0, .ref (ad 0)), (1, .int a0), (2, .int a1), (3, .int a2)]) hx hb dX10_split_148 hl (by decide) rfl (fun ls hl => ?_)
      refine lv_iload hx hb dX10_split_150 (lv_at hl 1 rfl) ?_
      refine lv_iload_n hx hb dX10_split_152 rfl (lv_at hl 6 rfl) ?_
      refine lv_isub hx hb dX10_split_153 ?_
      refine lv_iconst (v := (1 : Int32)) hx hb dX10_split_154 (by decide) ?_
      refine lv_isub hx hb dX10_split_155 ?_
      refine lv_aload_n hx hb dX10_split_156 rfl (lv_at hl 3 rfl) ?_
      refine gfX10_7 X S hN dX10_split_157 ?_
      refine lv_iload hx hb dX10_split_160 (lv_at hl 2 rfl) ?_
      refine lv_iload_n hx hb dX10_split_162 rfl (lv_at hl 6 rfl) ?_
      refine lv_iadd hx hb dX10_split_163 ?_
      refine lv_iconst (v := (1 : Int32)) hx hb dX10_split_164 (by decide) ?_
      refine lv_iadd hx hb dX10_split_165 ?_
      refine lv_iload hx hb dX10_split_166 (lv_at hl 1 rfl) ?_
      refine lv_iload_n hx hb dX10_split_168 rfl (lv_at hl 6 rfl) ?_
      refine lv_isub hx hb dX10_split_169 ?_
      refine lv_iconst (v := (1 : Int32)) hx hb dX10_split_170 (by decide) ?_
      refine lv_isub hx hb dX10_split_171 ?_
      obtain ⟨v22, hv22, hf⟩ := g_s1 hf
      refine g_ki S (g_runS (rest := [.int ((b12 - a2) - (1 : Int32))]) X S (c_X10_bars l hN (by rfl : gma 1 = true) hv22 _) csX10_bars mlX10_103 rfl rfl hl.1 (Nat.le_of_ble_eq_true rfl) ⟨⟨rfl, rfl⟩, ⟨Nat.le_of_ble_eq_true rfl, Nat.le_of_ble_eq_true rfl⟩, Nat.le_of_ble_eq_true rfl, Nat.le_of_ble_eq_true rfl⟩ dX10_split_172) (fun H locs S => ?_)
      refine lv_isub hx hb dX10_split_175 ?_
      refine lv_istore (lv' := [(8, .int (((b12 - a2) - (1 : Int32)) - v22)), (7, .int (a2 - v21)), (5, .int b12), (4, .int b13), (0, .ref (ad 0)), (1, .int a0), (2, .int a1), (3, .int a2)]) hx hb dX10_split_176 hl (by decide) rfl (fun ls hl => ?_)
      refine lv_aload_n hx hb dX10_split_178 rfl (lv_at hl 4 rfl) ?_
      refine lv_iload_n hx hb dX10_split_179 rfl (lv_at hl 5 rfl) ?_
      refine lv_iload_n hx hb dX10_split_180 rfl (lv_at hl 6 rfl) ?_
      obtain ⟨v23, hv23, hf⟩ := g_s1 hf
      refine g_ki S (g_runV (rest := []) X S (c_X10_end l hN  hv23 _) cvX10_end mlX10_71 (by omega) (ceM_10 _) rfl rfl rfl hl.1 (Nat.le_of_ble_eq_true rfl) ⟨⟨rfl, rfl⟩, ⟨Nat.le_of_ble_eq_true rfl, Nat.le_of_ble_eq_true rfl⟩, Nat.le_of_ble_eq_true rfl, Nat.le_of_ble_eq_true rfl⟩ dX10_split_181) (fun H locs S => ?_)
      refine lv_aload_n hx hb dX10_split_184 rfl (lv_at hl 4 rfl) ?_
      refine lv_iload_n hx hb dX10_split_185 rfl (lv_at hl 5 rfl) ?_
      refine lv_iload_n hx hb dX10_split_186 rfl (lv_at hl 6 rfl) ?_
      obtain ⟨v24, hv24, hf⟩ := g_s1 hf
      refine g_ki S (g_runV (rest := [.int v23]) X S (c_X10_first l hN  hv24 _) cvX10_first mlX10_113 (by omega) (ceM_10 _) rfl rfl rfl hl.1 (Nat.le_of_ble_eq_true rfl) ⟨⟨rfl, rfl⟩, ⟨Nat.le_of_ble_eq_true rfl, Nat.le_of_ble_eq_true rfl⟩, Nat.le_of_ble_eq_true rfl, Nat.le_of_ble_eq_true rfl⟩ dX10_split_187) (fun H locs S => ?_)
      refine lv_isub hx hb dX10_split_190 ?_
      refine lv_istore (lv' := [(9, .int (v23 - v24)), (8, .int (((b12 - a2) - (1 : Int32)) - v22)), (7, .int (a2 - v21)), (5, .int b12), (4, .int b13), (0, .ref (ad 0)), (1, .int a0), (2, .int a1), (3, .int a2)]) hx hb dX10_split_191 hl (by decide) rfl (fun ls hl => ?_)
      refine lv_iload hx hb dX10_split_193 (lv_at hl 0 rfl) ?_
      refine lv_iload hx hb dX10_split_195 (lv_at hl 2 rfl) ?_
      refine lv_imul hx hb dX10_split_197 ?_
      refine lv_iload hx hb dX10_split_198 (lv_at hl 2 rfl) ?_
      refine lv_iload hx hb dX10_split_200 (lv_at hl 1 rfl) ?_
      refine lv_iadd hx hb dX10_split_202 ?_
      obtain ⟨v25, hv25, hf⟩ := g_s1 hf
      obtain ⟨hzv25, rfl⟩ := gdiv_some hv25
      refine lv_idiv hx hb dX10_split_203 hzv25 ?_
      refine lv_istore (lv' := [(10, .int (((v23 - v24) * (a2 - v21)) / ((a2 - v21) + (((b12 - a2) - (1 : Int32)) - v22)))), (9, .int (v23 - v24)), (8, .int (((b12 - a2) - (1 : Int32)) - v22)), (7, .int (a2 - v21)), (5, .int b12), (4, .int b13), (0, .ref (ad 0)), (1, .int a0), (2, .int a1), (3, .int a2)]) hx hb dX10_split_204 hl (by decide) rfl (fun ls hl => ?_)
      refine lv_iload hx hb dX10_split_206 (lv_at hl 0 rfl) ?_
      refine lv_iconst (v := (1 : Int32)) hx hb dX10_split_208 (by decide) ?_
      obtain ⟨x26, hr27, hf⟩ := g_s1 hf
      have J28 : ∀ (H : Heap) (locs : List Loc) (ls : Array Slot), gS celM Γ ad N σ14 s H locs → lv_has ls 12 [(9, .int (v23 - v24)), (5, .int b12), (4, .int b13), (0, .ref (ad 0)), (1, .int a0), (2, .int a1), (3, .int a2)] → W p l e (gR 4 0 0) s m args below meth c H locs 0 0 (gQi celM Γ ad N r σ' below args s) (F0 m 218 ls [.int x26]) := by
        intro H locs ls S hl
        refine lv_istore (lv' := [(10, .int x26), (9, .int (v23 - v24)), (5, .int b12), (4, .int b13), (0, .ref (ad 0)), (1, .int a0), (2, .int a1), (3, .int a2)]) hx hb dX10_split_218 hl (by decide) rfl (fun ls hl => ?_)
        refine lv_iload hx hb dX10_split_220 (lv_at hl 0 rfl) ?_
        refine lv_iload hx hb dX10_split_222 (lv_at hl 1 rfl) ?_
        refine lv_icmp_lt (tgt := 234) hx hb dX10_split_224 (by decide) (fun c29 => ?_) (fun c29 => ?_)
        · have hf := (if_pos c29).symm.trans hf
          refine lv_aload_n hx hb dX10_split_234 rfl (lv_at hl 4 rfl) ?_
          refine gfX10_7 X S hN dX10_split_235 ?_
          refine lv_bipush (v := (28 : Int32)) hx hb dX10_split_238 (by decide) ?_
          refine lv_iload_n hx hb dX10_split_240 rfl (lv_at hl 5 rfl) ?_
          refine lv_iadd hx hb dX10_split_241 ?_
          obtain ⟨v30, hv30, hf⟩ := g_s1 hf
          refine g_iald X S (by omega) (ceM_a (rfl : gma 1 = true)) hv30 dX10_split_242 ?_
          refine lv_bipush (v := (16 : Int32)) hx hb dX10_split_243 (by decide) ?_
          refine lv_icmp_ne (tgt := 256) hx hb dX10_split_245 (by decide) (fun c31 => ?_) (fun c31 => ?_)
          · have hf := (if_neg c31).symm.trans hf
            refine lv_aload_n hx hb dX10_split_256 rfl (lv_at hl 4 rfl) ?_
            refine lv_aload_n hx hb dX10_split_257 rfl (lv_at hl 4 rfl) ?_
            refine gfX10_7 X S hN dX10_split_258 ?_
            obtain ⟨σ32, hσ32, hf⟩ := g_s1 hf
            refine g_kv S (g_runV (rest := []) X S (c_X10_changes l hN (by rfl : gma 1 = true) hσ32 _) cvX10_changes mlX10_78 (by omega) (ceM_10 _) rfl rfl rfl hl.1 (Nat.le_of_ble_eq_true rfl) ⟨⟨rfl, rfl⟩, ⟨Nat.le_of_ble_eq_true rfl, Nat.le_of_ble_eq_true rfl⟩, Nat.le_of_ble_eq_true rfl, Nat.le_of_ble_eq_true rfl⟩ dX10_split_261) (fun H locs S => ?_)
            refine lv_aload_n hx hb dX10_split_264 rfl (lv_at hl 4 rfl) ?_
            refine lv_iload_n hx hb dX10_split_265 rfl (lv_at hl 5 rfl) ?_
            refine lv_iload_n hx hb dX10_split_266 rfl (lv_at hl 6 rfl) ?_
            obtain ⟨σ33, hσ33, hf⟩ := g_s1 hf
            refine g_kv S (g_runV (rest := []) X S (c_X10_owns l hN  hσ33 _) cvX10_owns mlX10_166 (by omega) (ceM_10 _) rfl rfl rfl hl.1 (Nat.le_of_ble_eq_true rfl) ⟨⟨rfl, rfl⟩, ⟨Nat.le_of_ble_eq_true rfl, Nat.le_of_ble_eq_true rfl⟩, Nat.le_of_ble_eq_true rfl, Nat.le_of_ble_eq_true rfl⟩ dX10_split_267) (fun H locs S => ?_)
            refine lv_aload_n hx hb dX10_split_270 rfl (lv_at hl 4 rfl) ?_
            refine gfX10_22 X S hN dX10_split_271 ?_
            refine lv_iconst (v := (0 : Int32)) hx hb dX10_split_274 (by decide) ?_
            refine lv_dup2_11 hx hb dX10_split_275 rfl rfl ?_
            refine g_ialdC X S (by omega) (ceM_a (rfl : gma 5 = true)) 0 (by decide) (by decide) dX10_split_276 ?_
            refine lv_iload hx hb dX10_split_277 (lv_at hl 0 rfl) ?_
            refine lv_iadd hx hb dX10_split_279 ?_
            obtain ⟨σ34, hσ34, hf⟩ := g_s1 hf
            refine g_iastC X S (by omega) (ceM_a (rfl : gma 5 = true)) 0 (by decide) (by decide) hσ34 dX10_split_280 (fun H locs S => ?_)
            refine lv_aload_n hx hb dX10_split_281 rfl (lv_at hl 4 rfl) ?_
            refine gfX10_22 X S hN dX10_split_282 ?_
            refine lv_iconst (v := (3 : Int32)) hx hb dX10_split_285 (by decide) ?_
            refine lv_iload hx hb dX10_split_286 (lv_at hl 2 rfl) ?_
            refine lv_iload_n hx hb dX10_split_288 rfl (lv_at hl 7 rfl) ?_
            refine lv_isub hx hb dX10_split_289 ?_
            refine lv_iconst (v := (1 : Int32)) hx hb dX10_split_290 (by decide) ?_
            refine lv_isub hx hb dX10_split_291 ?_
            obtain ⟨σ35, hσ35, hf⟩ := g_s1 hf
            refine g_iastC X S (by omega) (ceM_a (rfl : gma 5 = true)) 3 (by decide) (by decide) hσ35 dX10_split_292 (fun H locs S => ?_)
            refine lv_iconst (v := (0 : Int32)) hx hb dX10_split_293 (by decide) ?_
            refine lv_istore (lv' := [(11, .int (0 : Int32)), (10, .int x26), (9, .int (v23 - v24)), (5, .int b12), (4, .int b13), (0, .ref (ad 0)), (1, .int a0), (2, .int a1), (3, .int a2)]) hx hb dX10_split_294 hl (by decide) rfl (fun ls hl => ?_)
            obtain ⟨σ38, hr46, hf⟩ := g_s1 hf
            refine w_X10_split_l2 hN X  FU _ _ _  hr46 (fun H locs ls S hl => ?_) _ _ _ S (lv_sub hl [0, 1, 4, 5, 6, 7, 8] rfl)
            refine lv_aload_n hx hb dX10_split_347 rfl (lv_at hl 2 rfl) ?_
            refine gfX10_7 X S hN dX10_split_348 ?_
            refine lv_iload_n hx hb dX10_split_351 rfl (lv_at hl 3 rfl) ?_
            refine lv_iload_n hx hb dX10_split_352 rfl (lv_at hl 4 rfl) ?_
            refine lv_iconst (v := (1 : Int32)) hx hb dX10_split_353 (by decide) ?_
            obtain ⟨v47, hv47, hf⟩ := g_s1 hf
            refine g_ki S (g_runS (rest := [.ref (ad 1)]) X S (c_X10_at l hN  hv47 _) csX10_at mlX10_56 rfl rfl hl.1 (Nat.le_of_ble_eq_true rfl) ⟨⟨rfl, rfl⟩, ⟨Nat.le_of_ble_eq_true rfl, Nat.le_of_ble_eq_true rfl⟩, Nat.le_of_ble_eq_true rfl, Nat.le_of_ble_eq_true rfl⟩ dX10_split_354) (fun H locs S => ?_)
            refine lv_aload_n hx hb dX10_split_357 rfl (lv_at hl 2 rfl) ?_
            refine gfX10_22 X S hN dX10_split_358 ?_
            refine lv_iconst (v := (0 : Int32)) hx hb dX10_split_361 (by decide) ?_
            refine g_ialdC X S (by omega) (ceM_a (rfl : gma 5 = true)) 0 (by decide) (by decide) dX10_split_362 ?_
            obtain ⟨σ48, hσ48, hf⟩ := g_s1 hf
            refine g_iast X S (by omega) (ceM_a (rfl : gma 1 = true)) hσ48 dX10_split_363 (fun H locs S => ?_)
            refine lv_aload_n hx hb dX10_split_364 rfl (lv_at hl 2 rfl) ?_
            refine gfX10_7 X S hN dX10_split_365 ?_
            refine lv_iload_n hx hb dX10_split_368 rfl (lv_at hl 3 rfl) ?_
            refine lv_iload_n hx hb dX10_split_369 rfl (lv_at hl 4 rfl) ?_
            refine lv_iconst (v := (3 : Int32)) hx hb dX10_split_370 (by decide) ?_
            obtain ⟨v49, hv49, hf⟩ := g_s1 hf
            refine g_ki S (g_runS (rest := [.ref (ad 1)]) X S (c_X10_at l hN  hv49 _) csX10_at mlX10_56 rfl rfl hl.1 (Nat.le_of_ble_eq_true rfl) ⟨⟨rfl, rfl⟩, ⟨Nat.le_of_ble_eq_true rfl, Nat.le_of_ble_eq_true rfl⟩, Nat.le_of_ble_eq_true rfl, Nat.le_of_ble_eq_true rfl⟩ dX10_split_371) (fun H locs S => ?_)
            refine lv_iload_n hx hb dX10_split_374 rfl (lv_at hl 5 rfl) ?_
            obtain ⟨σ50, hσ50, hf⟩ := g_s1 hf
            refine g_iast X S (by omega) (ceM_a (rfl : gma 1 = true)) hσ50 dX10_split_375 (fun H locs S => ?_)
            refine lv_iload_n hx hb dX10_split_376 rfl (lv_at hl 5 rfl) ?_
            refine lv_istore (lv' := [(11, .int a2), (10, .int x26), (4, .int b13), (0, .ref (ad 0)), (1, .int a0), (2, .int a1), (3, .int a2)]) hx hb dX10_split_377 hl (by decide) rfl (fun ls hl => ?_)
            obtain ⟨σ53, hr56, hf⟩ := g_s1 hf
            refine w_X10_split_l3 hN X  FU _ _ _  hr56 (fun H locs ls S hl => ?_) _ _ _ S (lv_sub hl [0, 1, 2, 3, 4] rfl)
            refine lv_aload_n hx hb dX10_split_403 rfl (lv_at hl 1 rfl) ?_
            refine lv_iload_n hx hb dX10_split_404 rfl (lv_at hl 2 rfl) ?_
            obtain ⟨v57, σ58, hv57, hf⟩ := g_s2 hf
            refine g_ki S (g_runV (rest := []) X S (c_X10_puts l hN  hv57 _) cvX10_puts mlX10_148 (by omega) (ceM_10 _) rfl rfl rfl hl.1 (Nat.le_of_ble_eq_true rfl) ⟨⟨rfl, rfl⟩, ⟨Nat.le_of_ble_eq_true rfl, Nat.le_of_ble_eq_true rfl⟩, Nat.le_of_ble_eq_true rfl, Nat.le_of_ble_eq_true rfl⟩ dX10_split_405) (fun H locs S => ?_)
            refine lv_pop hx hb dX10_split_408 rfl ?_
            refine lv_iload hx hb dX10_split_409 (lv_at hl 0 rfl) ?_
            cases hf
            exact g_reti X S rfl dX10_split_411
          · have hf := (if_pos c31).symm.trans hf
            refine lv_aload_n hx hb dX10_split_248 rfl (lv_at hl 4 rfl) ?_
            refine lv_iconst (v := (2 : Int32)) hx hb dX10_split_249 (by decide) ?_
            refine lv_bipush (v := (8 : Int32)) hx hb dX10_split_250 (by decide) ?_
            obtain ⟨v59, σ60, hv59, hf⟩ := g_s2 hf
            refine g_ki S (g_runV (rest := []) X S (c_X10_refuses l hN  hv59 _) cvX10_refuses mlX10_75 (by omega) (ceM_10 _) rfl rfl rfl hl.1 (Nat.le_of_ble_eq_true rfl) ⟨⟨rfl, rfl⟩, ⟨Nat.le_of_ble_eq_true rfl, Nat.le_of_ble_eq_true rfl⟩, Nat.le_of_ble_eq_true rfl, Nat.le_of_ble_eq_true rfl⟩ dX10_split_252) (fun H locs S => ?_)
            cases hf
            exact g_reti X S rfl dX10_split_255
        · have hf := (if_neg c29).symm.trans hf
          refine lv_aload_n hx hb dX10_split_227 rfl (lv_at hl 4 rfl) ?_
          refine lv_iconst (v := (2 : Int32)) hx hb dX10_split_228 (by decide) ?_
          refine lv_iconst (v := (2 : Int32)) hx hb dX10_split_229 (by decide) ?_
          obtain ⟨v61, σ62, hv61, hf⟩ := g_s2 hf
          refine g_ki S (g_runV (rest := []) X S (c_X10_refuses l hN  hv61 _) cvX10_refuses mlX10_75 (by omega) (ceM_10 _) rfl rfl rfl hl.1 (Nat.le_of_ble_eq_true rfl) ⟨⟨rfl, rfl⟩, ⟨Nat.le_of_ble_eq_true rfl, Nat.le_of_ble_eq_true rfl⟩, Nat.le_of_ble_eq_true rfl, Nat.le_of_ble_eq_true rfl⟩ dX10_split_230) (fun H locs S => ?_)
          cases hf
          exact g_reti X S rfl dX10_split_233
      replace hf := hr27
      refine lv_icmp_ge (tgt := 216) hx hb dX10_split_209 (by decide) (fun c63 => ?_) (fun c63 => ?_)
      · have hf := (if_pos c63).symm.trans hf
        refine lv_iload hx hb dX10_split_216 (lv_at hl 0 rfl) ?_
        cases hf
        exact J28 _ _ _ S (lv_sub hl [1, 4, 5, 6, 7, 8, 9] rfl)
      · have hf := (if_neg c63).symm.trans hf
        refine lv_iconst (v := (1 : Int32)) hx hb dX10_split_212 (by decide) ?_
        refine lv_goto (tgt := 218) hx hb dX10_split_213 (by decide) ?_
        cases hf
        exact J28 _ _ _ S (lv_sub hl [1, 4, 5, 6, 7, 8, 9] rfl)
    · have hf := (if_pos c20).symm.trans hf
      refine lv_aload_n hx hb dX10_split_129 rfl (lv_at hl 2 rfl) ?_
      refine lv_iconst (v := (2 : Int32)) hx hb dX10_split_130 (by decide) ?_
      refine lv_iconst (v := (4 : Int32)) hx hb dX10_split_131 (by decide) ?_
      obtain ⟨v64, σ65, hv64, hf⟩ := g_s2 hf
      refine g_ki S (g_runV (rest := []) X S (c_X10_refuses l hN  hv64 _) cvX10_refuses mlX10_75 (by omega) (ceM_10 _) rfl rfl rfl hl.1 (Nat.le_of_ble_eq_true rfl) ⟨⟨rfl, rfl⟩, ⟨Nat.le_of_ble_eq_true rfl, Nat.le_of_ble_eq_true rfl⟩, Nat.le_of_ble_eq_true rfl, Nat.le_of_ble_eq_true rfl⟩ dX10_split_132) (fun H locs S => ?_)
      cases hf
      exact g_reti X S rfl dX10_split_135
noncomputable def f_X10_split (σ : gSt) (a0 : Int32) (a1 : Int32) (a2 : Int32) : Option (Int32 × gSt) :=
  (g_k1 (f_X10_isCaption σ a0 a1) fun v1 => (g_k1 (if v1 = 0 then some (1 : Int32) else (g_k1 (f_X10_at σ a0 a1 (3 : Int32)) fun v70 => (g_k1 (gald σ 1 926 v70) fun v71 => (g_k1 (f_X10_in σ a2 (0 : Int32) (v71 - (1 : Int32))) fun v72 => (if v72 = 0 then some (1 : Int32) else some (0 : Int32)))))) fun x2 => (g_k1 (gset σ 0 10 x2) fun σ5 => (if (σ5 0 10) ≤ 0 then (g_k1 (f_X10_at σ5 a0 a1 (4 : Int32)) fun v7 => (g_k1 (f_X10_at σ5 a0 a1 (3 : Int32)) fun v8 => (g_k1 (gald σ5 1 926 v8) fun v9 => (g_k1 (gald σ5 1 926 (v7 + a2)) fun v10 => (if v10 = (95 : Int32) then (f_X10_split_b1 a0 a1 a2 v9 v7 σ5) else (if v10 = (124 : Int32) then (f_X10_split_b1 a0 a1 a2 v9 v7 σ5) else (g_k2 (f_X10_refuses σ5 (2 : Int32) (4 : Int32)) fun v67 σ68 => some (v67, σ68)))))))) else some ((0 : Int32), σ5)))))
set_option maxRecDepth 100000 in
set_option maxHeartbeats 4000000 in
theorem c_X10_split (l : Launch) {Γ : gG} {ad : Nat → Nat} {N : Nat} (hN : 8 ≤ N) {σ : gSt} {a0 : Int32} {a1 : Int32} {a2 : Int32}  {r : Int32} {σ' : gSt} (hf : f_X10_split σ a0 a1 a2 = some (r, σ')) : gMi l celM Γ ad N yX10_split cX10_split 12 (some .int) (gR 4 0 0) [.ref (ad 0), .int a0, .int a1, .int a2] σ r σ' := by
  intro sz
  refine gOf (Qc := fun sz => gQci celM Γ ad N r σ' sz) RX10 (by decide) rfl (Nat.le_of_ble_eq_true rfl) (fun p e s m args below meth c H locs ls X S hl => ?_)
  have hl : lv_has ls 12 [(0, .ref (ad 0)), (1, .int a0), (2, .int a1), (3, .int a2)] := hl
  have hx := X.1
  have hb := X.2.1
  unfold f_X10_split at hf
  refine lv_aload_n hx hb dX10_split_0 rfl (lv_at hl 0 rfl) ?_
  refine lv_aload_n hx hb dX10_split_1 rfl (lv_at hl 0 rfl) ?_
  refine lv_iload_n hx hb dX10_split_2 rfl (lv_at hl 1 rfl) ?_
  refine lv_iload_n hx hb dX10_split_3 rfl (lv_at hl 2 rfl) ?_
  obtain ⟨v1, hv1, hf⟩ := g_s1 hf
  refine g_ki S (g_runV (rest := [.ref (ad 0)]) X S (c_X10_isCaption l hN  hv1 _) cvX10_isCaption mlX10_159 (by omega) (ceM_10 _) rfl rfl rfl hl.1 (Nat.le_of_ble_eq_true rfl) ⟨⟨rfl, rfl⟩, ⟨Nat.le_of_ble_eq_true rfl, Nat.le_of_ble_eq_true rfl⟩, Nat.le_of_ble_eq_true rfl, Nat.le_of_ble_eq_true rfl⟩ dX10_split_4) (fun H locs S => ?_)
  obtain ⟨x2, hr3, hf⟩ := g_s1 hf
  have J4 : ∀ (H : Heap) (locs : List Loc) (ls : Array Slot), gS celM Γ ad N σ s H locs → lv_has ls 12 [(0, .ref (ad 0)), (1, .int a0), (2, .int a1), (3, .int a2)] → W p l e (gR 4 0 0) s m args below meth c H locs 0 0 (gQi celM Γ ad N r σ' below args s) (F0 m 36 ls [.int x2, .ref (ad 0)]) := by
    intro H locs ls S hl
    obtain ⟨σ5, hσ5, hf⟩ := g_s1 hf
    refine pfX10_35 X S hN hσ5 dX10_split_36 (fun H locs S => ?_)
    refine lv_aload_n hx hb dX10_split_39 rfl (lv_at hl 0 rfl) ?_
    refine gfX10_35 X S hN dX10_split_40 ?_
    refine lv_if_le (tgt := 48) hx hb dX10_split_43 (by decide) (fun c6 => ?_) (fun c6 => ?_)
    · have hf := (if_pos c6).symm.trans hf
      refine lv_iload_n hx hb dX10_split_48 rfl (lv_at hl 1 rfl) ?_
      refine lv_iload_n hx hb dX10_split_49 rfl (lv_at hl 2 rfl) ?_
      refine lv_iconst (v := (4 : Int32)) hx hb dX10_split_50 (by decide) ?_
      obtain ⟨v7, hv7, hf⟩ := g_s1 hf
      refine g_ki S (g_runS (rest := []) X S (c_X10_at l hN  hv7 _) csX10_at mlX10_56 rfl rfl hl.1 (Nat.le_of_ble_eq_true rfl) ⟨⟨rfl, rfl⟩, ⟨Nat.le_of_ble_eq_true rfl, Nat.le_of_ble_eq_true rfl⟩, Nat.le_of_ble_eq_true rfl, Nat.le_of_ble_eq_true rfl⟩ dX10_split_51) (fun H locs S => ?_)
      refine lv_istore (lv' := [(4, .int v7), (0, .ref (ad 0)), (1, .int a0), (2, .int a1), (3, .int a2)]) hx hb dX10_split_54 hl (by decide) rfl (fun ls hl => ?_)
      refine lv_aload_n hx hb dX10_split_56 rfl (lv_at hl 1 rfl) ?_
      refine gfX10_7 X S hN dX10_split_57 ?_
      refine lv_iload_n hx hb dX10_split_60 rfl (lv_at hl 2 rfl) ?_
      refine lv_iload_n hx hb dX10_split_61 rfl (lv_at hl 3 rfl) ?_
      refine lv_iconst (v := (3 : Int32)) hx hb dX10_split_62 (by decide) ?_
      obtain ⟨v8, hv8, hf⟩ := g_s1 hf
      refine g_ki S (g_runS (rest := [.ref (ad 1)]) X S (c_X10_at l hN  hv8 _) csX10_at mlX10_56 rfl rfl hl.1 (Nat.le_of_ble_eq_true rfl) ⟨⟨rfl, rfl⟩, ⟨Nat.le_of_ble_eq_true rfl, Nat.le_of_ble_eq_true rfl⟩, Nat.le_of_ble_eq_true rfl, Nat.le_of_ble_eq_true rfl⟩ dX10_split_63) (fun H locs S => ?_)
      obtain ⟨v9, hv9, hf⟩ := g_s1 hf
      refine g_iald X S (by omega) (ceM_a (rfl : gma 1 = true)) hv9 dX10_split_66 ?_
      refine lv_istore (lv' := [(5, .int v9), (4, .int v7), (0, .ref (ad 0)), (1, .int a0), (2, .int a1), (3, .int a2)]) hx hb dX10_split_67 hl (by decide) rfl (fun ls hl => ?_)
      refine lv_aload_n hx hb dX10_split_69 rfl (lv_at hl 2 rfl) ?_
      refine gfX10_7 X S hN dX10_split_70 ?_
      refine lv_iload hx hb dX10_split_73 (lv_at hl 1 rfl) ?_
      refine lv_iload_n hx hb dX10_split_75 rfl (lv_at hl 5 rfl) ?_
      refine lv_iadd hx hb dX10_split_76 ?_
      obtain ⟨v10, hv10, hf⟩ := g_s1 hf
      refine g_iald X S (by omega) (ceM_a (rfl : gma 1 = true)) hv10 dX10_split_77 ?_
      refine lv_istore (lv' := [(6, .int v10), (5, .int v9), (4, .int v7), (0, .ref (ad 0)), (1, .int a0), (2, .int a1), (3, .int a2)]) hx hb dX10_split_78 hl (by decide) rfl (fun ls hl => ?_)
      refine lv_iload hx hb dX10_split_80 (lv_at hl 0 rfl) ?_
      refine lv_bipush (v := (95 : Int32)) hx hb dX10_split_82 (by decide) ?_
      refine lv_icmp_eq (tgt := 94) hx hb dX10_split_84 (by decide) (fun c11 => ?_) (fun c11 => ?_)
      · have hf := (if_pos c11).symm.trans hf
        exact w_X10_split_b1 hN X  hf _ _ _ S (lv_sub hl [1, 2, 3, 4, 5, 6] rfl)
      · have hf := (if_neg c11).symm.trans hf
        refine lv_iload hx hb dX10_split_87 (lv_at hl 0 rfl) ?_
        refine lv_bipush (v := (124 : Int32)) hx hb dX10_split_89 (by decide) ?_
        refine lv_icmp_ne (tgt := 129) hx hb dX10_split_91 (by decide) (fun c66 => ?_) (fun c66 => ?_)
        · have hf := (if_neg c66).symm.trans hf
          refine lv_aload_n hx hb dX10_split_129 rfl (lv_at hl 3 rfl) ?_
          refine lv_iconst (v := (2 : Int32)) hx hb dX10_split_130 (by decide) ?_
          refine lv_iconst (v := (4 : Int32)) hx hb dX10_split_131 (by decide) ?_
          obtain ⟨v67, σ68, hv67, hf⟩ := g_s2 hf
          refine g_ki S (g_runV (rest := []) X S (c_X10_refuses l hN  hv67 _) cvX10_refuses mlX10_75 (by omega) (ceM_10 _) rfl rfl rfl hl.1 (Nat.le_of_ble_eq_true rfl) ⟨⟨rfl, rfl⟩, ⟨Nat.le_of_ble_eq_true rfl, Nat.le_of_ble_eq_true rfl⟩, Nat.le_of_ble_eq_true rfl, Nat.le_of_ble_eq_true rfl⟩ dX10_split_132) (fun H locs S => ?_)
          cases hf
          exact g_reti X S rfl dX10_split_135
        · have hf := (if_pos c66).symm.trans hf
          exact w_X10_split_b1 hN X  hf _ _ _ S (lv_sub hl [1, 2, 3, 4, 5, 6] rfl)
    · have hf := (if_neg c6).symm.trans hf
      refine lv_iconst (v := (0 : Int32)) hx hb dX10_split_46 (by decide) ?_
      cases hf
      exact g_reti X S rfl dX10_split_47
  replace hf := hr3
  refine lv_if_eq (tgt := 35) hx hb dX10_split_7 (by decide) (fun c69 => ?_) (fun c69 => ?_)
  · have hf := (if_pos c69).symm.trans hf
    refine lv_iconst (v := (1 : Int32)) hx hb dX10_split_35 (by decide) ?_
    cases hf
    exact J4 _ _ _ S (lv_sub hl [0, 1, 2, 3] rfl)
  · have hf := (if_neg c69).symm.trans hf
    refine lv_iload_n hx hb dX10_split_10 rfl (lv_at hl 3 rfl) ?_
    refine lv_iconst (v := (0 : Int32)) hx hb dX10_split_11 (by decide) ?_
    refine lv_aload_n hx hb dX10_split_12 rfl (lv_at hl 0 rfl) ?_
    refine gfX10_7 X S hN dX10_split_13 ?_
    refine lv_iload_n hx hb dX10_split_16 rfl (lv_at hl 1 rfl) ?_
    refine lv_iload_n hx hb dX10_split_17 rfl (lv_at hl 2 rfl) ?_
    refine lv_iconst (v := (3 : Int32)) hx hb dX10_split_18 (by decide) ?_
    obtain ⟨v70, hv70, hf⟩ := g_s1 hf
    refine g_ki S (g_runS (rest := [.ref (ad 1), .int (0 : Int32), .int a2, .ref (ad 0)]) X S (c_X10_at l hN  hv70 _) csX10_at mlX10_56 rfl rfl hl.1 (Nat.le_of_ble_eq_true rfl) ⟨⟨rfl, rfl⟩, ⟨Nat.le_of_ble_eq_true rfl, Nat.le_of_ble_eq_true rfl⟩, Nat.le_of_ble_eq_true rfl, Nat.le_of_ble_eq_true rfl⟩ dX10_split_19) (fun H locs S => ?_)
    obtain ⟨v71, hv71, hf⟩ := g_s1 hf
    refine g_iald X S (by omega) (ceM_a (rfl : gma 1 = true)) hv71 dX10_split_22 ?_
    refine lv_iconst (v := (1 : Int32)) hx hb dX10_split_23 (by decide) ?_
    refine lv_isub hx hb dX10_split_24 ?_
    obtain ⟨v72, hv72, hf⟩ := g_s1 hf
    refine g_ki S (g_runS (rest := [.ref (ad 0)]) X S (c_X10_in l hN  hv72 _) csX10_in mlX10_48 rfl rfl hl.1 (Nat.le_of_ble_eq_true rfl) ⟨⟨rfl, rfl⟩, ⟨Nat.le_of_ble_eq_true rfl, Nat.le_of_ble_eq_true rfl⟩, Nat.le_of_ble_eq_true rfl, Nat.le_of_ble_eq_true rfl⟩ dX10_split_25) (fun H locs S => ?_)
    refine lv_if_eq (tgt := 35) hx hb dX10_split_28 (by decide) (fun c73 => ?_) (fun c73 => ?_)
    · have hf := (if_pos c73).symm.trans hf
      refine lv_iconst (v := (1 : Int32)) hx hb dX10_split_35 (by decide) ?_
      cases hf
      exact J4 _ _ _ S (lv_sub hl [0, 1, 2, 3] rfl)
    · have hf := (if_neg c73).symm.trans hf
      refine lv_iconst (v := (0 : Int32)) hx hb dX10_split_31 (by decide) ?_
      refine lv_goto (tgt := 36) hx hb dX10_split_32 (by decide) ?_
      cases hf
      exact J4 _ _ _ S (lv_sub hl [0, 1, 2, 3] rfl)

noncomputable def f_X10_againstMerge (σ : gSt) (a0 : Int32) (a1 : Int32) : Option (Int32) :=
  (g_k1 (gald σ 1 926 ((28 : Int32) + a0)) fun v1 => (if (a1 + (1 : Int32)) = v1 then some (5 : Int32) else (g_k1 (f_X10_at σ a0 a1 (2 : Int32)) fun v3 => (g_k1 (gald σ 1 926 v3) fun v4 => (g_k1 (f_X10_at σ a0 (a1 + (1 : Int32)) (2 : Int32)) fun v5 => (g_k1 (gald σ 1 926 v5) fun v6 => (if v4 = v6 then (g_k1 (f_X10_before σ a0 (a1 + (1 : Int32))) fun v8 => (if v8 ≤ (σ 1 4) then (g_k1 (f_X10_at σ a0 a1 (3 : Int32)) fun v10 => (g_k1 (gald σ 1 926 v10) fun v11 => (g_k1 (f_X10_at σ a0 (a1 + (1 : Int32)) (3 : Int32)) fun v12 => (g_k1 (gald σ 1 926 v12) fun v13 => (g_k1 (if (24 : Int32) < ((v11 + v13) + (1 : Int32)) then some (4 : Int32) else (g_k1 (f_X10_at σ a0 a1 (4 : Int32)) fun v18 => (g_k1 (f_X10_bars σ 1 v18 v11) fun v19 => (g_k1 (f_X10_at σ a0 (a1 + (1 : Int32)) (4 : Int32)) fun v20 => (g_k1 (f_X10_bars σ 1 v20 v13) fun v21 => (if (v19 + v21) ≤ (1 : Int32) then some (0 : Int32) else some (4 : Int32))))))) fun x14 => some x14))))) else some (7 : Int32))) else some (6 : Int32))))))))
set_option maxRecDepth 100000 in
set_option maxHeartbeats 4000000 in
theorem c_X10_againstMerge (l : Launch) {Γ : gG} {ad : Nat → Nat} {N : Nat} (hN : 8 ≤ N) {σ : gSt} {a0 : Int32} {a1 : Int32}  {r : Int32} (hf : f_X10_againstMerge σ a0 a1 = some r) : gMi l celM Γ ad N yX10_againstMerge cX10_againstMerge 5 (some .int) (gR 4 0 0) [.ref (ad 0), .int a0, .int a1] σ r σ := by
  intro sz
  refine gOf (Qc := fun sz => gQci celM Γ ad N r σ sz) RX10 (by decide) rfl (Nat.le_of_ble_eq_true rfl) (fun p e s m args below meth c H locs ls X S hl => ?_)
  have hl : lv_has ls 5 [(0, .ref (ad 0)), (1, .int a0), (2, .int a1)] := hl
  have hx := X.1
  have hb := X.2.1
  unfold f_X10_againstMerge at hf
  refine lv_iload_n hx hb dX10_againstMerge_0 rfl (lv_at hl 2 rfl) ?_
  refine lv_iconst (v := (1 : Int32)) hx hb dX10_againstMerge_1 (by decide) ?_
  refine lv_iadd hx hb dX10_againstMerge_2 ?_
  refine lv_aload_n hx hb dX10_againstMerge_3 rfl (lv_at hl 0 rfl) ?_
  refine gfX10_7 X S hN dX10_againstMerge_4 ?_
  refine lv_bipush (v := (28 : Int32)) hx hb dX10_againstMerge_7 (by decide) ?_
  refine lv_iload_n hx hb dX10_againstMerge_9 rfl (lv_at hl 1 rfl) ?_
  refine lv_iadd hx hb dX10_againstMerge_10 ?_
  obtain ⟨v1, hv1, hf⟩ := g_s1 hf
  refine g_iald X S (by omega) (ceM_a (rfl : gma 1 = true)) hv1 dX10_againstMerge_11 ?_
  refine lv_icmp_ne (tgt := 17) hx hb dX10_againstMerge_12 (by decide) (fun c2 => ?_) (fun c2 => ?_)
  · have hf := (if_neg c2).symm.trans hf
    refine lv_aload_n hx hb dX10_againstMerge_17 rfl (lv_at hl 0 rfl) ?_
    refine gfX10_7 X S hN dX10_againstMerge_18 ?_
    refine lv_iload_n hx hb dX10_againstMerge_21 rfl (lv_at hl 1 rfl) ?_
    refine lv_iload_n hx hb dX10_againstMerge_22 rfl (lv_at hl 2 rfl) ?_
    refine lv_iconst (v := (2 : Int32)) hx hb dX10_againstMerge_23 (by decide) ?_
    obtain ⟨v3, hv3, hf⟩ := g_s1 hf
    refine g_ki S (g_runS (rest := [.ref (ad 1)]) X S (c_X10_at l hN  hv3 _) csX10_at mlX10_56 rfl rfl hl.1 (Nat.le_of_ble_eq_true rfl) ⟨⟨rfl, rfl⟩, ⟨Nat.le_of_ble_eq_true rfl, Nat.le_of_ble_eq_true rfl⟩, Nat.le_of_ble_eq_true rfl, Nat.le_of_ble_eq_true rfl⟩ dX10_againstMerge_24) (fun H locs S => ?_)
    obtain ⟨v4, hv4, hf⟩ := g_s1 hf
    refine g_iald X S (by omega) (ceM_a (rfl : gma 1 = true)) hv4 dX10_againstMerge_27 ?_
    refine lv_aload_n hx hb dX10_againstMerge_28 rfl (lv_at hl 0 rfl) ?_
    refine gfX10_7 X S hN dX10_againstMerge_29 ?_
    refine lv_iload_n hx hb dX10_againstMerge_32 rfl (lv_at hl 1 rfl) ?_
    refine lv_iload_n hx hb dX10_againstMerge_33 rfl (lv_at hl 2 rfl) ?_
    refine lv_iconst (v := (1 : Int32)) hx hb dX10_againstMerge_34 (by decide) ?_
    refine lv_iadd hx hb dX10_againstMerge_35 ?_
    refine lv_iconst (v := (2 : Int32)) hx hb dX10_againstMerge_36 (by decide) ?_
    obtain ⟨v5, hv5, hf⟩ := g_s1 hf
    refine g_ki S (g_runS (rest := [.ref (ad 1), .int v4]) X S (c_X10_at l hN  hv5 _) csX10_at mlX10_56 rfl rfl hl.1 (Nat.le_of_ble_eq_true rfl) ⟨⟨rfl, rfl⟩, ⟨Nat.le_of_ble_eq_true rfl, Nat.le_of_ble_eq_true rfl⟩, Nat.le_of_ble_eq_true rfl, Nat.le_of_ble_eq_true rfl⟩ dX10_againstMerge_37) (fun H locs S => ?_)
    obtain ⟨v6, hv6, hf⟩ := g_s1 hf
    refine g_iald X S (by omega) (ceM_a (rfl : gma 1 = true)) hv6 dX10_againstMerge_40 ?_
    refine lv_icmp_eq (tgt := 47) hx hb dX10_againstMerge_41 (by decide) (fun c7 => ?_) (fun c7 => ?_)
    · have hf := (if_pos c7).symm.trans hf
      refine lv_aload_n hx hb dX10_againstMerge_47 rfl (lv_at hl 0 rfl) ?_
      refine lv_iload_n hx hb dX10_againstMerge_48 rfl (lv_at hl 1 rfl) ?_
      refine lv_iload_n hx hb dX10_againstMerge_49 rfl (lv_at hl 2 rfl) ?_
      refine lv_iconst (v := (1 : Int32)) hx hb dX10_againstMerge_50 (by decide) ?_
      refine lv_iadd hx hb dX10_againstMerge_51 ?_
      obtain ⟨v8, hv8, hf⟩ := g_s1 hf
      refine g_ki S (g_runV (rest := []) X S (c_X10_before l hN  hv8 _) cvX10_before mlX10_128 (by omega) (ceM_10 _) rfl rfl rfl hl.1 (Nat.le_of_ble_eq_true rfl) ⟨⟨rfl, rfl⟩, ⟨Nat.le_of_ble_eq_true rfl, Nat.le_of_ble_eq_true rfl⟩, Nat.le_of_ble_eq_true rfl, Nat.le_of_ble_eq_true rfl⟩ dX10_againstMerge_52) (fun H locs S => ?_)
      refine lv_aload_n hx hb dX10_againstMerge_55 rfl (lv_at hl 0 rfl) ?_
      refine gfX10_7 X S hN dX10_againstMerge_56 ?_
      refine lv_iconst (v := (4 : Int32)) hx hb dX10_againstMerge_59 (by decide) ?_
      refine g_ialdC X S (by omega) (ceM_a (rfl : gma 1 = true)) 4 (by decide) (by decide) dX10_againstMerge_60 ?_
      refine lv_icmp_le (tgt := 67) hx hb dX10_againstMerge_61 (by decide) (fun c9 => ?_) (fun c9 => ?_)
      · have hf := (if_pos c9).symm.trans hf
        refine lv_aload_n hx hb dX10_againstMerge_67 rfl (lv_at hl 0 rfl) ?_
        refine gfX10_7 X S hN dX10_againstMerge_68 ?_
        refine lv_iload_n hx hb dX10_againstMerge_71 rfl (lv_at hl 1 rfl) ?_
        refine lv_iload_n hx hb dX10_againstMerge_72 rfl (lv_at hl 2 rfl) ?_
        refine lv_iconst (v := (3 : Int32)) hx hb dX10_againstMerge_73 (by decide) ?_
        obtain ⟨v10, hv10, hf⟩ := g_s1 hf
        refine g_ki S (g_runS (rest := [.ref (ad 1)]) X S (c_X10_at l hN  hv10 _) csX10_at mlX10_56 rfl rfl hl.1 (Nat.le_of_ble_eq_true rfl) ⟨⟨rfl, rfl⟩, ⟨Nat.le_of_ble_eq_true rfl, Nat.le_of_ble_eq_true rfl⟩, Nat.le_of_ble_eq_true rfl, Nat.le_of_ble_eq_true rfl⟩ dX10_againstMerge_74) (fun H locs S => ?_)
        obtain ⟨v11, hv11, hf⟩ := g_s1 hf
        refine g_iald X S (by omega) (ceM_a (rfl : gma 1 = true)) hv11 dX10_againstMerge_77 ?_
        refine lv_istore_n (lv' := [(3, .int v11), (0, .ref (ad 0)), (1, .int a0), (2, .int a1)]) hx hb dX10_againstMerge_78 rfl hl (by decide) rfl (fun ls hl => ?_)
        refine lv_aload_n hx hb dX10_againstMerge_79 rfl (lv_at hl 1 rfl) ?_
        refine gfX10_7 X S hN dX10_againstMerge_80 ?_
        refine lv_iload_n hx hb dX10_againstMerge_83 rfl (lv_at hl 2 rfl) ?_
        refine lv_iload_n hx hb dX10_againstMerge_84 rfl (lv_at hl 3 rfl) ?_
        refine lv_iconst (v := (1 : Int32)) hx hb dX10_againstMerge_85 (by decide) ?_
        refine lv_iadd hx hb dX10_againstMerge_86 ?_
        refine lv_iconst (v := (3 : Int32)) hx hb dX10_againstMerge_87 (by decide) ?_
        obtain ⟨v12, hv12, hf⟩ := g_s1 hf
        refine g_ki S (g_runS (rest := [.ref (ad 1)]) X S (c_X10_at l hN  hv12 _) csX10_at mlX10_56 rfl rfl hl.1 (Nat.le_of_ble_eq_true rfl) ⟨⟨rfl, rfl⟩, ⟨Nat.le_of_ble_eq_true rfl, Nat.le_of_ble_eq_true rfl⟩, Nat.le_of_ble_eq_true rfl, Nat.le_of_ble_eq_true rfl⟩ dX10_againstMerge_88) (fun H locs S => ?_)
        obtain ⟨v13, hv13, hf⟩ := g_s1 hf
        refine g_iald X S (by omega) (ceM_a (rfl : gma 1 = true)) hv13 dX10_againstMerge_91 ?_
        refine lv_istore (lv' := [(4, .int v13), (3, .int v11), (0, .ref (ad 0)), (1, .int a0), (2, .int a1)]) hx hb dX10_againstMerge_92 hl (by decide) rfl (fun ls hl => ?_)
        refine lv_iload_n hx hb dX10_againstMerge_94 rfl (lv_at hl 1 rfl) ?_
        refine lv_iload hx hb dX10_againstMerge_95 (lv_at hl 0 rfl) ?_
        refine lv_iadd hx hb dX10_againstMerge_97 ?_
        refine lv_iconst (v := (1 : Int32)) hx hb dX10_againstMerge_98 (by decide) ?_
        refine lv_iadd hx hb dX10_againstMerge_99 ?_
        refine lv_bipush (v := (24 : Int32)) hx hb dX10_againstMerge_100 (by decide) ?_
        obtain ⟨x14, hr15, hf⟩ := g_s1 hf
        have J16 : ∀ (H : Heap) (locs : List Loc) (ls : Array Slot), gS celM Γ ad N σ s H locs → lv_has ls 5 [] → W p l e (gR 4 0 0) s m args below meth c H locs 0 0 (gQi celM Γ ad N r σ below args s) (F0 m 146 ls [.int x14]) := by
          intro H locs ls S hl
          cases hf
          exact g_reti X S rfl dX10_againstMerge_146
        replace hf := hr15
        refine lv_icmp_gt (tgt := 141) hx hb dX10_againstMerge_102 (by decide) (fun c17 => ?_) (fun c17 => ?_)
        · have hf := (if_pos c17).symm.trans hf
          refine lv_iconst (v := (4 : Int32)) hx hb dX10_againstMerge_141 (by decide) ?_
          refine lv_goto (tgt := 146) hx hb dX10_againstMerge_142 (by decide) ?_
          cases hf
          exact J16 _ _ _ S (lv_sub hl [] rfl)
        · have hf := (if_neg c17).symm.trans hf
          refine lv_aload_n hx hb dX10_againstMerge_105 rfl (lv_at hl 2 rfl) ?_
          refine gfX10_7 X S hN dX10_againstMerge_106 ?_
          refine lv_iload_n hx hb dX10_againstMerge_109 rfl (lv_at hl 3 rfl) ?_
          refine lv_iload_n hx hb dX10_againstMerge_110 rfl (lv_at hl 4 rfl) ?_
          refine lv_iconst (v := (4 : Int32)) hx hb dX10_againstMerge_111 (by decide) ?_
          obtain ⟨v18, hv18, hf⟩ := g_s1 hf
          refine g_ki S (g_runS (rest := [.ref (ad 1)]) X S (c_X10_at l hN  hv18 _) csX10_at mlX10_56 rfl rfl hl.1 (Nat.le_of_ble_eq_true rfl) ⟨⟨rfl, rfl⟩, ⟨Nat.le_of_ble_eq_true rfl, Nat.le_of_ble_eq_true rfl⟩, Nat.le_of_ble_eq_true rfl, Nat.le_of_ble_eq_true rfl⟩ dX10_againstMerge_112) (fun H locs S => ?_)
          refine lv_iload_n hx hb dX10_againstMerge_115 rfl (lv_at hl 1 rfl) ?_
          obtain ⟨v19, hv19, hf⟩ := g_s1 hf
          refine g_ki S (g_runS (rest := []) X S (c_X10_bars l hN (by rfl : gma 1 = true) hv19 _) csX10_bars mlX10_103 rfl rfl hl.1 (Nat.le_of_ble_eq_true rfl) ⟨⟨rfl, rfl⟩, ⟨Nat.le_of_ble_eq_true rfl, Nat.le_of_ble_eq_true rfl⟩, Nat.le_of_ble_eq_true rfl, Nat.le_of_ble_eq_true rfl⟩ dX10_againstMerge_116) (fun H locs S => ?_)
          refine lv_aload_n hx hb dX10_againstMerge_119 rfl (lv_at hl 2 rfl) ?_
          refine gfX10_7 X S hN dX10_againstMerge_120 ?_
          refine lv_iload_n hx hb dX10_againstMerge_123 rfl (lv_at hl 3 rfl) ?_
          refine lv_iload_n hx hb dX10_againstMerge_124 rfl (lv_at hl 4 rfl) ?_
          refine lv_iconst (v := (1 : Int32)) hx hb dX10_againstMerge_125 (by decide) ?_
          refine lv_iadd hx hb dX10_againstMerge_126 ?_
          refine lv_iconst (v := (4 : Int32)) hx hb dX10_againstMerge_127 (by decide) ?_
          obtain ⟨v20, hv20, hf⟩ := g_s1 hf
          refine g_ki S (g_runS (rest := [.ref (ad 1), .int v19]) X S (c_X10_at l hN  hv20 _) csX10_at mlX10_56 rfl rfl hl.1 (Nat.le_of_ble_eq_true rfl) ⟨⟨rfl, rfl⟩, ⟨Nat.le_of_ble_eq_true rfl, Nat.le_of_ble_eq_true rfl⟩, Nat.le_of_ble_eq_true rfl, Nat.le_of_ble_eq_true rfl⟩ dX10_againstMerge_128) (fun H locs S => ?_)
          refine lv_iload hx hb dX10_againstMerge_131 (lv_at hl 0 rfl) ?_
          obtain ⟨v21, hv21, hf⟩ := g_s1 hf
          refine g_ki S (g_runS (rest := [.int v19]) X S (c_X10_bars l hN (by rfl : gma 1 = true) hv21 _) csX10_bars mlX10_103 rfl rfl hl.1 (Nat.le_of_ble_eq_true rfl) ⟨⟨rfl, rfl⟩, ⟨Nat.le_of_ble_eq_true rfl, Nat.le_of_ble_eq_true rfl⟩, Nat.le_of_ble_eq_true rfl, Nat.le_of_ble_eq_true rfl⟩ dX10_againstMerge_133) (fun H locs S => ?_)
          refine lv_iadd hx hb dX10_againstMerge_136 ?_
          refine lv_iconst (v := (1 : Int32)) hx hb dX10_againstMerge_137 (by decide) ?_
          refine lv_icmp_le (tgt := 145) hx hb dX10_againstMerge_138 (by decide) (fun c22 => ?_) (fun c22 => ?_)
          · have hf := (if_pos c22).symm.trans hf
            refine lv_iconst (v := (0 : Int32)) hx hb dX10_againstMerge_145 (by decide) ?_
            cases hf
            exact J16 _ _ _ S (lv_sub hl [] rfl)
          · have hf := (if_neg c22).symm.trans hf
            refine lv_iconst (v := (4 : Int32)) hx hb dX10_againstMerge_141 (by decide) ?_
            refine lv_goto (tgt := 146) hx hb dX10_againstMerge_142 (by decide) ?_
            cases hf
            exact J16 _ _ _ S (lv_sub hl [] rfl)
      · have hf := (if_neg c9).symm.trans hf
        refine lv_bipush (v := (7 : Int32)) hx hb dX10_againstMerge_64 (by decide) ?_
        cases hf
        exact g_reti X S rfl dX10_againstMerge_66
    · have hf := (if_neg c7).symm.trans hf
      refine lv_bipush (v := (6 : Int32)) hx hb dX10_againstMerge_44 (by decide) ?_
      cases hf
      exact g_reti X S rfl dX10_againstMerge_46
  · have hf := (if_pos c2).symm.trans hf
    refine lv_iconst (v := (5 : Int32)) hx hb dX10_againstMerge_15 (by decide) ?_
    cases hf
    exact g_reti X S rfl dX10_againstMerge_16

noncomputable def f_X10_merge_l1 (a0 : Int32) (a1 : Int32) (v11 : Int32) (v13 : Int32) (σ15 : gSt) : Nat → Int32 → gSt → Option (gSt)
  | 0, _, _ => none
  | n + 1, i16, σ17 => (if v13 ≤ i16 then some σ17 else (g_k1 (f_X10_at σ17 a0 a1 ((((4 : Int32) + v11) + (1 : Int32)) + i16)) fun v20 => (g_k1 (f_X10_at σ17 a0 (a1 + (1 : Int32)) ((4 : Int32) + i16)) fun v21 => (g_k1 (gald σ17 1 926 v21) fun v22 => (g_k1 (gast σ17 1 926 v20 v22) fun σ23 => (f_X10_merge_l1 a0 a1 v11 v13 σ15 n (i16 + 1) σ23))))))
set_option maxRecDepth 100000 in
set_option maxHeartbeats 4000000 in
theorem w_X10_merge_l1 {l : Launch} {Γ : gG} {ad : Nat → Nat} {N : Nat} {p : Program} {e : Env} {s : State} {m : MethodId} {args : Array Value} {below : List Frame} {meth : Method} {c : Code} {Q : State → Prop} (hN : 8 ≤ N) (X : gX celM Γ ad N RX10 cX10_merge 7 (some .int) p s m args meth c) {a0 : Int32} {a1 : Int32} {v11 : Int32} {v13 : Int32} {σ15 : gSt}  : ∀ (n : Nat) (i16 : Int32) (σ17 : gSt) (σ18 : gSt), f_X10_merge_l1 a0 a1 v11 v13 σ15 n i16 σ17 = some σ18 → (∀ (H : Heap) (locs : List Loc) (ls : Array Slot), gS celM Γ ad N σ18 s H locs → lv_has ls 7 [(5, .int v13), (4, .int v11), (0, .ref (ad 0)), (1, .int a0), (2, .int a1)] → W p l e (gR 5 0 0) s m args below meth c H locs 0 0 (Q) (F0 m 148 ls [])) → ∀ (H : Heap) (locs : List Loc) (ls : Array Slot), gS celM Γ ad N σ17 s H locs → lv_has ls 7 [(6, .int i16), (5, .int v13), (4, .int v11), (0, .ref (ad 0)), (1, .int a0), (2, .int a1)] → W p l e (gR 5 0 0) s m args below meth c H locs 0 0 (Q) (F0 m 100 ls []) := by
  have hx := X.1
  have hb := X.2.1
  intro n
  induction n with
  | zero =>
    intro i16 σ17 σ18 hf
    cases hf
  | succ n ih =>
    intro i16 σ17 σ18 hf J H locs ls S hl
    rw [f_X10_merge_l1] at hf
    refine lv_iload hx hb dX10_merge_100 (lv_at hl 0 rfl) ?_
    refine lv_iload hx hb dX10_merge_102 (lv_at hl 1 rfl) ?_
    refine lv_icmp_ge (tgt := 148) hx hb dX10_merge_104 (by decide) (fun c19 => ?_) (fun c19 => ?_)
    · have hf := (if_pos c19).symm.trans hf
      cases hf
      exact J _ _ _ S (lv_sub hl [1, 2, 3, 4, 5] rfl)
    · have hf := (if_neg c19).symm.trans hf
      refine lv_aload_n hx hb dX10_merge_107 rfl (lv_at hl 3 rfl) ?_
      refine gfX10_7 X S hN dX10_merge_108 ?_
      refine lv_iload_n hx hb dX10_merge_111 rfl (lv_at hl 4 rfl) ?_
      refine lv_iload_n hx hb dX10_merge_112 rfl (lv_at hl 5 rfl) ?_
      refine lv_iconst (v := (4 : Int32)) hx hb dX10_merge_113 (by decide) ?_
      refine lv_iload hx hb dX10_merge_114 (lv_at hl 2 rfl) ?_
      refine lv_iadd hx hb dX10_merge_116 ?_
      refine lv_iconst (v := (1 : Int32)) hx hb dX10_merge_117 (by decide) ?_
      refine lv_iadd hx hb dX10_merge_118 ?_
      refine lv_iload hx hb dX10_merge_119 (lv_at hl 0 rfl) ?_
      refine lv_iadd hx hb dX10_merge_121 ?_
      obtain ⟨v20, hv20, hf⟩ := g_s1 hf
      refine g_ki S (g_runS (rest := [.ref (ad 1)]) X S (c_X10_at l hN  hv20 _) csX10_at mlX10_56 rfl rfl hl.1 (Nat.le_of_ble_eq_true rfl) ⟨⟨rfl, rfl⟩, ⟨Nat.le_of_ble_eq_true rfl, Nat.le_of_ble_eq_true rfl⟩, Nat.le_of_ble_eq_true rfl, Nat.le_of_ble_eq_true rfl⟩ dX10_merge_122) (fun H locs S => ?_)
      refine lv_aload_n hx hb dX10_merge_125 rfl (lv_at hl 3 rfl) ?_
      refine gfX10_7 X S hN dX10_merge_126 ?_
      refine lv_iload_n hx hb dX10_merge_129 rfl (lv_at hl 4 rfl) ?_
      refine lv_iload_n hx hb dX10_merge_130 rfl (lv_at hl 5 rfl) ?_
      refine lv_iconst (v := (1 : Int32)) hx hb dX10_merge_131 (by decide) ?_
      refine lv_iadd hx hb dX10_merge_132 ?_
      refine lv_iconst (v := (4 : Int32)) hx hb dX10_merge_133 (by decide) ?_
      refine lv_iload hx hb dX10_merge_134 (lv_at hl 0 rfl) ?_
      refine lv_iadd hx hb dX10_merge_136 ?_
      obtain ⟨v21, hv21, hf⟩ := g_s1 hf
      refine g_ki S (g_runS (rest := [.ref (ad 1), .int v20, .ref (ad 1)]) X S (c_X10_at l hN  hv21 _) csX10_at mlX10_56 rfl rfl hl.1 (Nat.le_of_ble_eq_true rfl) ⟨⟨rfl, rfl⟩, ⟨Nat.le_of_ble_eq_true rfl, Nat.le_of_ble_eq_true rfl⟩, Nat.le_of_ble_eq_true rfl, Nat.le_of_ble_eq_true rfl⟩ dX10_merge_137) (fun H locs S => ?_)
      obtain ⟨v22, hv22, hf⟩ := g_s1 hf
      refine g_iald X S (by omega) (ceM_a (rfl : gma 1 = true)) hv22 dX10_merge_140 ?_
      obtain ⟨σ23, hσ23, hf⟩ := g_s1 hf
      refine g_iast X S (by omega) (ceM_a (rfl : gma 1 = true)) hσ23 dX10_merge_141 (fun H locs S => ?_)
      refine lv_iinc (v := (i16 + 1)) (lv' := [(6, .int (i16 + 1)), (5, .int v13), (4, .int v11), (0, .ref (ad 0)), (1, .int a0), (2, .int a1)]) hx hb dX10_merge_142 hl (k := 0) rfl rfl (by decide) rfl (fun ls hl => ?_)
      refine lv_goto (tgt := 100) hx hb dX10_merge_145 (by decide) ?_
      exact ih _ _ _  hf J _ _ _ S (lv_sub hl [0, 1, 2, 3, 4, 5] rfl)
noncomputable def f_X10_merge (σ : gSt) (a0 : Int32) (a1 : Int32) : Option (Int32 × gSt) :=
  (g_k1 (f_X10_isCaption σ a0 a1) fun v1 => (g_k1 (if v1 = 0 then some (1 : Int32) else some (0 : Int32)) fun x2 => (g_k1 (gset σ 0 10 x2) fun σ5 => (if (σ5 0 10) ≤ 0 then (g_k1 (f_X10_againstMerge σ5 a0 a1) fun v7 => (if v7 ≤ 0 then (g_k1 (f_X10_changes σ5 1) fun σ9 => (g_k1 (f_X10_at σ9 a0 a1 (3 : Int32)) fun v10 => (g_k1 (gald σ9 1 926 v10) fun v11 => (g_k1 (f_X10_at σ9 a0 (a1 + (1 : Int32)) (3 : Int32)) fun v12 => (g_k1 (gald σ9 1 926 v12) fun v13 => (g_k1 (f_X10_at σ9 a0 a1 ((4 : Int32) + v11)) fun v14 => (g_k1 (gast σ9 1 926 v14 (95 : Int32)) fun σ15 => (g_k1 (f_X10_merge_l1 a0 a1 v11 v13 σ15 FU (0 : Int32) σ15) fun σ18 => (g_k1 (f_X10_at σ18 a0 a1 (3 : Int32)) fun v25 => (g_k1 (gast σ18 1 926 v25 ((v11 + v13) + (1 : Int32))) fun σ26 => (g_k1 (f_X10_at σ26 a0 a1 (1 : Int32)) fun v27 => (g_k1 (f_X10_end σ26 a0 (a1 + (1 : Int32))) fun v28 => (g_k1 (gast σ26 1 926 v27 v28) fun σ29 => (g_k1 (f_X10_takes σ29 a0 (a1 + (1 : Int32))) fun σ30 => (g_k1 (f_X10_load σ30 a0 a1) fun v31 => some (v31, σ30)))))))))))))))) else (g_k2 (f_X10_refuses σ5 (2 : Int32) v7) fun v32 σ33 => some (v32, σ33)))) else some ((0 : Int32), σ5)))))
set_option maxRecDepth 100000 in
set_option maxHeartbeats 4000000 in
theorem c_X10_merge (l : Launch) {Γ : gG} {ad : Nat → Nat} {N : Nat} (hN : 8 ≤ N) {σ : gSt} {a0 : Int32} {a1 : Int32}  {r : Int32} {σ' : gSt} (hf : f_X10_merge σ a0 a1 = some (r, σ')) : gMi l celM Γ ad N yX10_merge cX10_merge 7 (some .int) (gR 5 0 0) [.ref (ad 0), .int a0, .int a1] σ r σ' := by
  intro sz
  refine gOf (Qc := fun sz => gQci celM Γ ad N r σ' sz) RX10 (by decide) rfl (Nat.le_of_ble_eq_true rfl) (fun p e s m args below meth c H locs ls X S hl => ?_)
  have hl : lv_has ls 7 [(0, .ref (ad 0)), (1, .int a0), (2, .int a1)] := hl
  have hx := X.1
  have hb := X.2.1
  unfold f_X10_merge at hf
  refine lv_aload_n hx hb dX10_merge_0 rfl (lv_at hl 0 rfl) ?_
  refine lv_aload_n hx hb dX10_merge_1 rfl (lv_at hl 0 rfl) ?_
  refine lv_iload_n hx hb dX10_merge_2 rfl (lv_at hl 1 rfl) ?_
  refine lv_iload_n hx hb dX10_merge_3 rfl (lv_at hl 2 rfl) ?_
  obtain ⟨v1, hv1, hf⟩ := g_s1 hf
  refine g_ki S (g_runV (rest := [.ref (ad 0)]) X S (c_X10_isCaption l hN  hv1 _) cvX10_isCaption mlX10_159 (by omega) (ceM_10 _) rfl rfl rfl hl.1 (Nat.le_of_ble_eq_true rfl) ⟨⟨rfl, rfl⟩, ⟨Nat.le_of_ble_eq_true rfl, Nat.le_of_ble_eq_true rfl⟩, Nat.le_of_ble_eq_true rfl, Nat.le_of_ble_eq_true rfl⟩ dX10_merge_4) (fun H locs S => ?_)
  obtain ⟨x2, hr3, hf⟩ := g_s1 hf
  have J4 : ∀ (H : Heap) (locs : List Loc) (ls : Array Slot), gS celM Γ ad N σ s H locs → lv_has ls 7 [(0, .ref (ad 0)), (1, .int a0), (2, .int a1)] → W p l e (gR 5 0 0) s m args below meth c H locs 0 0 (gQi celM Γ ad N r σ' below args s) (F0 m 15 ls [.int x2, .ref (ad 0)]) := by
    intro H locs ls S hl
    obtain ⟨σ5, hσ5, hf⟩ := g_s1 hf
    refine pfX10_35 X S hN hσ5 dX10_merge_15 (fun H locs S => ?_)
    refine lv_aload_n hx hb dX10_merge_18 rfl (lv_at hl 0 rfl) ?_
    refine gfX10_35 X S hN dX10_merge_19 ?_
    refine lv_if_le (tgt := 27) hx hb dX10_merge_22 (by decide) (fun c6 => ?_) (fun c6 => ?_)
    · have hf := (if_pos c6).symm.trans hf
      refine lv_aload_n hx hb dX10_merge_27 rfl (lv_at hl 0 rfl) ?_
      refine lv_iload_n hx hb dX10_merge_28 rfl (lv_at hl 1 rfl) ?_
      refine lv_iload_n hx hb dX10_merge_29 rfl (lv_at hl 2 rfl) ?_
      obtain ⟨v7, hv7, hf⟩ := g_s1 hf
      refine g_ki S (g_runV (rest := []) X S (c_X10_againstMerge l hN  hv7 _) cvX10_againstMerge mlX10_172 (by omega) (ceM_10 _) rfl rfl rfl hl.1 (Nat.le_of_ble_eq_true rfl) ⟨⟨rfl, rfl⟩, ⟨Nat.le_of_ble_eq_true rfl, Nat.le_of_ble_eq_true rfl⟩, Nat.le_of_ble_eq_true rfl, Nat.le_of_ble_eq_true rfl⟩ dX10_merge_30) (fun H locs S => ?_)
      refine lv_istore_n (lv' := [(3, .int v7), (0, .ref (ad 0)), (1, .int a0), (2, .int a1)]) hx hb dX10_merge_33 rfl hl (by decide) rfl (fun ls hl => ?_)
      refine lv_iload_n hx hb dX10_merge_34 rfl (lv_at hl 0 rfl) ?_
      refine lv_if_le (tgt := 45) hx hb dX10_merge_35 (by decide) (fun c8 => ?_) (fun c8 => ?_)
      · have hf := (if_pos c8).symm.trans hf
        refine lv_aload_n hx hb dX10_merge_45 rfl (lv_at hl 1 rfl) ?_
        refine lv_aload_n hx hb dX10_merge_46 rfl (lv_at hl 1 rfl) ?_
        refine gfX10_7 X S hN dX10_merge_47 ?_
        obtain ⟨σ9, hσ9, hf⟩ := g_s1 hf
        refine g_kv S (g_runV (rest := []) X S (c_X10_changes l hN (by rfl : gma 1 = true) hσ9 _) cvX10_changes mlX10_78 (by omega) (ceM_10 _) rfl rfl rfl hl.1 (Nat.le_of_ble_eq_true rfl) ⟨⟨rfl, rfl⟩, ⟨Nat.le_of_ble_eq_true rfl, Nat.le_of_ble_eq_true rfl⟩, Nat.le_of_ble_eq_true rfl, Nat.le_of_ble_eq_true rfl⟩ dX10_merge_50) (fun H locs S => ?_)
        refine lv_aload_n hx hb dX10_merge_53 rfl (lv_at hl 1 rfl) ?_
        refine gfX10_7 X S hN dX10_merge_54 ?_
        refine lv_iload_n hx hb dX10_merge_57 rfl (lv_at hl 2 rfl) ?_
        refine lv_iload_n hx hb dX10_merge_58 rfl (lv_at hl 3 rfl) ?_
        refine lv_iconst (v := (3 : Int32)) hx hb dX10_merge_59 (by decide) ?_
        obtain ⟨v10, hv10, hf⟩ := g_s1 hf
        refine g_ki S (g_runS (rest := [.ref (ad 1)]) X S (c_X10_at l hN  hv10 _) csX10_at mlX10_56 rfl rfl hl.1 (Nat.le_of_ble_eq_true rfl) ⟨⟨rfl, rfl⟩, ⟨Nat.le_of_ble_eq_true rfl, Nat.le_of_ble_eq_true rfl⟩, Nat.le_of_ble_eq_true rfl, Nat.le_of_ble_eq_true rfl⟩ dX10_merge_60) (fun H locs S => ?_)
        obtain ⟨v11, hv11, hf⟩ := g_s1 hf
        refine g_iald X S (by omega) (ceM_a (rfl : gma 1 = true)) hv11 dX10_merge_63 ?_
        refine lv_istore (lv' := [(4, .int v11), (3, .int v7), (0, .ref (ad 0)), (1, .int a0), (2, .int a1)]) hx hb dX10_merge_64 hl (by decide) rfl (fun ls hl => ?_)
        refine lv_aload_n hx hb dX10_merge_66 rfl (lv_at hl 2 rfl) ?_
        refine gfX10_7 X S hN dX10_merge_67 ?_
        refine lv_iload_n hx hb dX10_merge_70 rfl (lv_at hl 3 rfl) ?_
        refine lv_iload_n hx hb dX10_merge_71 rfl (lv_at hl 4 rfl) ?_
        refine lv_iconst (v := (1 : Int32)) hx hb dX10_merge_72 (by decide) ?_
        refine lv_iadd hx hb dX10_merge_73 ?_
        refine lv_iconst (v := (3 : Int32)) hx hb dX10_merge_74 (by decide) ?_
        obtain ⟨v12, hv12, hf⟩ := g_s1 hf
        refine g_ki S (g_runS (rest := [.ref (ad 1)]) X S (c_X10_at l hN  hv12 _) csX10_at mlX10_56 rfl rfl hl.1 (Nat.le_of_ble_eq_true rfl) ⟨⟨rfl, rfl⟩, ⟨Nat.le_of_ble_eq_true rfl, Nat.le_of_ble_eq_true rfl⟩, Nat.le_of_ble_eq_true rfl, Nat.le_of_ble_eq_true rfl⟩ dX10_merge_75) (fun H locs S => ?_)
        obtain ⟨v13, hv13, hf⟩ := g_s1 hf
        refine g_iald X S (by omega) (ceM_a (rfl : gma 1 = true)) hv13 dX10_merge_78 ?_
        refine lv_istore (lv' := [(5, .int v13), (4, .int v11), (3, .int v7), (0, .ref (ad 0)), (1, .int a0), (2, .int a1)]) hx hb dX10_merge_79 hl (by decide) rfl (fun ls hl => ?_)
        refine lv_aload_n hx hb dX10_merge_81 rfl (lv_at hl 3 rfl) ?_
        refine gfX10_7 X S hN dX10_merge_82 ?_
        refine lv_iload_n hx hb dX10_merge_85 rfl (lv_at hl 4 rfl) ?_
        refine lv_iload_n hx hb dX10_merge_86 rfl (lv_at hl 5 rfl) ?_
        refine lv_iconst (v := (4 : Int32)) hx hb dX10_merge_87 (by decide) ?_
        refine lv_iload hx hb dX10_merge_88 (lv_at hl 1 rfl) ?_
        refine lv_iadd hx hb dX10_merge_90 ?_
        obtain ⟨v14, hv14, hf⟩ := g_s1 hf
        refine g_ki S (g_runS (rest := [.ref (ad 1)]) X S (c_X10_at l hN  hv14 _) csX10_at mlX10_56 rfl rfl hl.1 (Nat.le_of_ble_eq_true rfl) ⟨⟨rfl, rfl⟩, ⟨Nat.le_of_ble_eq_true rfl, Nat.le_of_ble_eq_true rfl⟩, Nat.le_of_ble_eq_true rfl, Nat.le_of_ble_eq_true rfl⟩ dX10_merge_91) (fun H locs S => ?_)
        refine lv_bipush (v := (95 : Int32)) hx hb dX10_merge_94 (by decide) ?_
        obtain ⟨σ15, hσ15, hf⟩ := g_s1 hf
        refine g_iast X S (by omega) (ceM_a (rfl : gma 1 = true)) hσ15 dX10_merge_96 (fun H locs S => ?_)
        refine lv_iconst (v := (0 : Int32)) hx hb dX10_merge_97 (by decide) ?_
        refine lv_istore (lv' := [(6, .int (0 : Int32)), (5, .int v13), (4, .int v11), (3, .int v7), (0, .ref (ad 0)), (1, .int a0), (2, .int a1)]) hx hb dX10_merge_98 hl (by decide) rfl (fun ls hl => ?_)
        obtain ⟨σ18, hr24, hf⟩ := g_s1 hf
        refine w_X10_merge_l1 hN X  FU _ _ _  hr24 (fun H locs ls S hl => ?_) _ _ _ S (lv_sub hl [0, 1, 2, 4, 5, 6] rfl)
        refine lv_aload_n hx hb dX10_merge_148 rfl (lv_at hl 2 rfl) ?_
        refine gfX10_7 X S hN dX10_merge_149 ?_
        refine lv_iload_n hx hb dX10_merge_152 rfl (lv_at hl 3 rfl) ?_
        refine lv_iload_n hx hb dX10_merge_153 rfl (lv_at hl 4 rfl) ?_
        refine lv_iconst (v := (3 : Int32)) hx hb dX10_merge_154 (by decide) ?_
        obtain ⟨v25, hv25, hf⟩ := g_s1 hf
        refine g_ki S (g_runS (rest := [.ref (ad 1)]) X S (c_X10_at l hN  hv25 _) csX10_at mlX10_56 rfl rfl hl.1 (Nat.le_of_ble_eq_true rfl) ⟨⟨rfl, rfl⟩, ⟨Nat.le_of_ble_eq_true rfl, Nat.le_of_ble_eq_true rfl⟩, Nat.le_of_ble_eq_true rfl, Nat.le_of_ble_eq_true rfl⟩ dX10_merge_155) (fun H locs S => ?_)
        refine lv_iload hx hb dX10_merge_158 (lv_at hl 1 rfl) ?_
        refine lv_iload hx hb dX10_merge_160 (lv_at hl 0 rfl) ?_
        refine lv_iadd hx hb dX10_merge_162 ?_
        refine lv_iconst (v := (1 : Int32)) hx hb dX10_merge_163 (by decide) ?_
        refine lv_iadd hx hb dX10_merge_164 ?_
        obtain ⟨σ26, hσ26, hf⟩ := g_s1 hf
        refine g_iast X S (by omega) (ceM_a (rfl : gma 1 = true)) hσ26 dX10_merge_165 (fun H locs S => ?_)
        refine lv_aload_n hx hb dX10_merge_166 rfl (lv_at hl 2 rfl) ?_
        refine gfX10_7 X S hN dX10_merge_167 ?_
        refine lv_iload_n hx hb dX10_merge_170 rfl (lv_at hl 3 rfl) ?_
        refine lv_iload_n hx hb dX10_merge_171 rfl (lv_at hl 4 rfl) ?_
        refine lv_iconst (v := (1 : Int32)) hx hb dX10_merge_172 (by decide) ?_
        obtain ⟨v27, hv27, hf⟩ := g_s1 hf
        refine g_ki S (g_runS (rest := [.ref (ad 1)]) X S (c_X10_at l hN  hv27 _) csX10_at mlX10_56 rfl rfl hl.1 (Nat.le_of_ble_eq_true rfl) ⟨⟨rfl, rfl⟩, ⟨Nat.le_of_ble_eq_true rfl, Nat.le_of_ble_eq_true rfl⟩, Nat.le_of_ble_eq_true rfl, Nat.le_of_ble_eq_true rfl⟩ dX10_merge_173) (fun H locs S => ?_)
        refine lv_aload_n hx hb dX10_merge_176 rfl (lv_at hl 2 rfl) ?_
        refine lv_iload_n hx hb dX10_merge_177 rfl (lv_at hl 3 rfl) ?_
        refine lv_iload_n hx hb dX10_merge_178 rfl (lv_at hl 4 rfl) ?_
        refine lv_iconst (v := (1 : Int32)) hx hb dX10_merge_179 (by decide) ?_
        refine lv_iadd hx hb dX10_merge_180 ?_
        obtain ⟨v28, hv28, hf⟩ := g_s1 hf
        refine g_ki S (g_runV (rest := [.int v27, .ref (ad 1)]) X S (c_X10_end l hN  hv28 _) cvX10_end mlX10_71 (by omega) (ceM_10 _) rfl rfl rfl hl.1 (Nat.le_of_ble_eq_true rfl) ⟨⟨rfl, rfl⟩, ⟨Nat.le_of_ble_eq_true rfl, Nat.le_of_ble_eq_true rfl⟩, Nat.le_of_ble_eq_true rfl, Nat.le_of_ble_eq_true rfl⟩ dX10_merge_181) (fun H locs S => ?_)
        obtain ⟨σ29, hσ29, hf⟩ := g_s1 hf
        refine g_iast X S (by omega) (ceM_a (rfl : gma 1 = true)) hσ29 dX10_merge_184 (fun H locs S => ?_)
        refine lv_aload_n hx hb dX10_merge_185 rfl (lv_at hl 2 rfl) ?_
        refine lv_iload_n hx hb dX10_merge_186 rfl (lv_at hl 3 rfl) ?_
        refine lv_iload_n hx hb dX10_merge_187 rfl (lv_at hl 4 rfl) ?_
        refine lv_iconst (v := (1 : Int32)) hx hb dX10_merge_188 (by decide) ?_
        refine lv_iadd hx hb dX10_merge_189 ?_
        obtain ⟨σ30, hσ30, hf⟩ := g_s1 hf
        refine g_kv S (g_runV (rest := []) X S (c_X10_takes l hN  hσ30 _) cvX10_takes mlX10_162 (by omega) (ceM_10 _) rfl rfl rfl hl.1 (Nat.le_of_ble_eq_true rfl) ⟨⟨rfl, rfl⟩, ⟨Nat.le_of_ble_eq_true rfl, Nat.le_of_ble_eq_true rfl⟩, Nat.le_of_ble_eq_true rfl, Nat.le_of_ble_eq_true rfl⟩ dX10_merge_190) (fun H locs S => ?_)
        refine lv_aload_n hx hb dX10_merge_193 rfl (lv_at hl 2 rfl) ?_
        refine lv_iload_n hx hb dX10_merge_194 rfl (lv_at hl 3 rfl) ?_
        refine lv_iload_n hx hb dX10_merge_195 rfl (lv_at hl 4 rfl) ?_
        obtain ⟨v31, hv31, hf⟩ := g_s1 hf
        refine g_ki S (g_runV (rest := []) X S (c_X10_load l hN  hv31 _) cvX10_load mlX10_107 (by omega) (ceM_10 _) rfl rfl rfl hl.1 (Nat.le_of_ble_eq_true rfl) ⟨⟨rfl, rfl⟩, ⟨Nat.le_of_ble_eq_true rfl, Nat.le_of_ble_eq_true rfl⟩, Nat.le_of_ble_eq_true rfl, Nat.le_of_ble_eq_true rfl⟩ dX10_merge_196) (fun H locs S => ?_)
        cases hf
        exact g_reti X S rfl dX10_merge_199
      · have hf := (if_neg c8).symm.trans hf
        refine lv_aload_n hx hb dX10_merge_38 rfl (lv_at hl 1 rfl) ?_
        refine lv_iconst (v := (2 : Int32)) hx hb dX10_merge_39 (by decide) ?_
        refine lv_iload_n hx hb dX10_merge_40 rfl (lv_at hl 0 rfl) ?_
        obtain ⟨v32, σ33, hv32, hf⟩ := g_s2 hf
        refine g_ki S (g_runV (rest := []) X S (c_X10_refuses l hN  hv32 _) cvX10_refuses mlX10_75 (by omega) (ceM_10 _) rfl rfl rfl hl.1 (Nat.le_of_ble_eq_true rfl) ⟨⟨rfl, rfl⟩, ⟨Nat.le_of_ble_eq_true rfl, Nat.le_of_ble_eq_true rfl⟩, Nat.le_of_ble_eq_true rfl, Nat.le_of_ble_eq_true rfl⟩ dX10_merge_41) (fun H locs S => ?_)
        cases hf
        exact g_reti X S rfl dX10_merge_44
    · have hf := (if_neg c6).symm.trans hf
      refine lv_iconst (v := (0 : Int32)) hx hb dX10_merge_25 (by decide) ?_
      cases hf
      exact g_reti X S rfl dX10_merge_26
  replace hf := hr3
  refine lv_if_eq (tgt := 14) hx hb dX10_merge_7 (by decide) (fun c34 => ?_) (fun c34 => ?_)
  · have hf := (if_pos c34).symm.trans hf
    refine lv_iconst (v := (1 : Int32)) hx hb dX10_merge_14 (by decide) ?_
    cases hf
    exact J4 _ _ _ S (lv_sub hl [0, 1, 2] rfl)
  · have hf := (if_neg c34).symm.trans hf
    refine lv_iconst (v := (0 : Int32)) hx hb dX10_merge_10 (by decide) ?_
    refine lv_goto (tgt := 15) hx hb dX10_merge_11 (by decide) ?_
    cases hf
    exact J4 _ _ _ S (lv_sub hl [0, 1, 2] rfl)

noncomputable def f_X10_snap (σ : gSt) (a0 : Int32) (a1 : Int32) : Option (Int32 × gSt) :=
  (g_k1 (f_X10_isCaption σ a0 a1) fun v1 => (g_k1 (if v1 = 0 then some (1 : Int32) else some (0 : Int32)) fun x2 => (g_k1 (gset σ 0 10 x2) fun σ5 => (if (σ5 0 10) ≤ 0 then (g_k1 (f_X10_first σ5 a0 a1) fun v7 => (g_k1 (f_X10_isLoose σ5 v7) fun v8 => (g_k1 (if v8 = 0 then (g_k1 (f_X10_first σ5 a0 a1) fun v39 => some v39) else (g_k1 (f_X10_first σ5 a0 a1) fun v40 => (g_k1 (f_X10_nearest σ5 v40) fun v41 => some v41))) fun x9 => (g_k1 (f_X10_end σ5 a0 a1) fun v12 => (g_k1 (f_X10_isLoose σ5 v12) fun v13 => (g_k1 (if v13 = 0 then (g_k1 (f_X10_end σ5 a0 a1) fun v35 => some v35) else (g_k1 (f_X10_end σ5 a0 a1) fun v36 => (g_k1 (f_X10_nearest σ5 v36) fun v37 => some v37))) fun x14 => (g_k1 (f_X10_againstPlace σ5 a0 a1 x9 x14) fun v17 => (if v17 ≤ 0 then (g_k1 (f_X10_changes σ5 1) fun σ19 => (g_k1 (f_X10_first σ19 a0 a1) fun v20 => (g_k1 (if x9 = v20 then some (0 : Int32) else some (1 : Int32)) fun x21 => (g_k1 (f_X10_end σ19 a0 a1) fun v24 => (g_k1 (if x14 = v24 then some (0 : Int32) else some (2 : Int32)) fun x25 => (g_k2 (f_X10_moves σ19 a0 a1 x9 x14) fun v28 σ29 => some ((x21 + x25), σ29))))))) else (g_k2 (f_X10_refuses σ5 (2 : Int32) v17) fun v32 σ33 => some (v32, σ33)))))))))) else some ((0 : Int32), σ5)))))
set_option maxRecDepth 100000 in
set_option maxHeartbeats 4000000 in
theorem c_X10_snap (l : Launch) {Γ : gG} {ad : Nat → Nat} {N : Nat} (hN : 8 ≤ N) {σ : gSt} {a0 : Int32} {a1 : Int32}  {r : Int32} {σ' : gSt} (hf : f_X10_snap σ a0 a1 = some (r, σ')) : gMi l celM Γ ad N yX10_snap cX10_snap 7 (some .int) (gR 5 0 0) [.ref (ad 0), .int a0, .int a1] σ r σ' := by
  intro sz
  refine gOf (Qc := fun sz => gQci celM Γ ad N r σ' sz) RX10 (by decide) rfl (Nat.le_of_ble_eq_true rfl) (fun p e s m args below meth c H locs ls X S hl => ?_)
  have hl : lv_has ls 7 [(0, .ref (ad 0)), (1, .int a0), (2, .int a1)] := hl
  have hx := X.1
  have hb := X.2.1
  unfold f_X10_snap at hf
  refine lv_aload_n hx hb dX10_snap_0 rfl (lv_at hl 0 rfl) ?_
  refine lv_aload_n hx hb dX10_snap_1 rfl (lv_at hl 0 rfl) ?_
  refine lv_iload_n hx hb dX10_snap_2 rfl (lv_at hl 1 rfl) ?_
  refine lv_iload_n hx hb dX10_snap_3 rfl (lv_at hl 2 rfl) ?_
  obtain ⟨v1, hv1, hf⟩ := g_s1 hf
  refine g_ki S (g_runV (rest := [.ref (ad 0)]) X S (c_X10_isCaption l hN  hv1 _) cvX10_isCaption mlX10_159 (by omega) (ceM_10 _) rfl rfl rfl hl.1 (Nat.le_of_ble_eq_true rfl) ⟨⟨rfl, rfl⟩, ⟨Nat.le_of_ble_eq_true rfl, Nat.le_of_ble_eq_true rfl⟩, Nat.le_of_ble_eq_true rfl, Nat.le_of_ble_eq_true rfl⟩ dX10_snap_4) (fun H locs S => ?_)
  obtain ⟨x2, hr3, hf⟩ := g_s1 hf
  have J4 : ∀ (H : Heap) (locs : List Loc) (ls : Array Slot), gS celM Γ ad N σ s H locs → lv_has ls 7 [(0, .ref (ad 0)), (1, .int a0), (2, .int a1)] → W p l e (gR 5 0 0) s m args below meth c H locs 0 0 (gQi celM Γ ad N r σ' below args s) (F0 m 15 ls [.int x2, .ref (ad 0)]) := by
    intro H locs ls S hl
    obtain ⟨σ5, hσ5, hf⟩ := g_s1 hf
    refine pfX10_35 X S hN hσ5 dX10_snap_15 (fun H locs S => ?_)
    refine lv_aload_n hx hb dX10_snap_18 rfl (lv_at hl 0 rfl) ?_
    refine gfX10_35 X S hN dX10_snap_19 ?_
    refine lv_if_le (tgt := 27) hx hb dX10_snap_22 (by decide) (fun c6 => ?_) (fun c6 => ?_)
    · have hf := (if_pos c6).symm.trans hf
      refine lv_aload_n hx hb dX10_snap_27 rfl (lv_at hl 0 rfl) ?_
      refine lv_aload_n hx hb dX10_snap_28 rfl (lv_at hl 0 rfl) ?_
      refine lv_iload_n hx hb dX10_snap_29 rfl (lv_at hl 1 rfl) ?_
      refine lv_iload_n hx hb dX10_snap_30 rfl (lv_at hl 2 rfl) ?_
      obtain ⟨v7, hv7, hf⟩ := g_s1 hf
      refine g_ki S (g_runV (rest := [.ref (ad 0)]) X S (c_X10_first l hN  hv7 _) cvX10_first mlX10_113 (by omega) (ceM_10 _) rfl rfl rfl hl.1 (Nat.le_of_ble_eq_true rfl) ⟨⟨rfl, rfl⟩, ⟨Nat.le_of_ble_eq_true rfl, Nat.le_of_ble_eq_true rfl⟩, Nat.le_of_ble_eq_true rfl, Nat.le_of_ble_eq_true rfl⟩ dX10_snap_31) (fun H locs S => ?_)
      obtain ⟨v8, hv8, hf⟩ := g_s1 hf
      refine g_ki S (g_runV (rest := []) X S (c_X10_isLoose l hN  hv8 _) cvX10_isLoose mlX10_125 (by omega) (ceM_10 _) rfl rfl rfl hl.1 (Nat.le_of_ble_eq_true rfl) ⟨⟨rfl, rfl⟩, ⟨Nat.le_of_ble_eq_true rfl, Nat.le_of_ble_eq_true rfl⟩, Nat.le_of_ble_eq_true rfl, Nat.le_of_ble_eq_true rfl⟩ dX10_snap_34) (fun H locs S => ?_)
      obtain ⟨x9, hr10, hf⟩ := g_s1 hf
      have J11 : ∀ (H : Heap) (locs : List Loc) (ls : Array Slot), gS celM Γ ad N σ5 s H locs → lv_has ls 7 [(0, .ref (ad 0)), (1, .int a0), (2, .int a1)] → W p l e (gR 5 0 0) s m args below meth c H locs 0 0 (gQi celM Γ ad N r σ' below args s) (F0 m 59 ls [.int x9]) := by
        intro H locs ls S hl
        refine lv_istore_n (lv' := [(3, .int x9), (0, .ref (ad 0)), (1, .int a0), (2, .int a1)]) hx hb dX10_snap_59 rfl hl (by decide) rfl (fun ls hl => ?_)
        refine lv_aload_n hx hb dX10_snap_60 rfl (lv_at hl 1 rfl) ?_
        refine lv_aload_n hx hb dX10_snap_61 rfl (lv_at hl 1 rfl) ?_
        refine lv_iload_n hx hb dX10_snap_62 rfl (lv_at hl 2 rfl) ?_
        refine lv_iload_n hx hb dX10_snap_63 rfl (lv_at hl 3 rfl) ?_
        obtain ⟨v12, hv12, hf⟩ := g_s1 hf
        refine g_ki S (g_runV (rest := [.ref (ad 0)]) X S (c_X10_end l hN  hv12 _) cvX10_end mlX10_71 (by omega) (ceM_10 _) rfl rfl rfl hl.1 (Nat.le_of_ble_eq_true rfl) ⟨⟨rfl, rfl⟩, ⟨Nat.le_of_ble_eq_true rfl, Nat.le_of_ble_eq_true rfl⟩, Nat.le_of_ble_eq_true rfl, Nat.le_of_ble_eq_true rfl⟩ dX10_snap_64) (fun H locs S => ?_)
        obtain ⟨v13, hv13, hf⟩ := g_s1 hf
        refine g_ki S (g_runV (rest := []) X S (c_X10_isLoose l hN  hv13 _) cvX10_isLoose mlX10_125 (by omega) (ceM_10 _) rfl rfl rfl hl.1 (Nat.le_of_ble_eq_true rfl) ⟨⟨rfl, rfl⟩, ⟨Nat.le_of_ble_eq_true rfl, Nat.le_of_ble_eq_true rfl⟩, Nat.le_of_ble_eq_true rfl, Nat.le_of_ble_eq_true rfl⟩ dX10_snap_67) (fun H locs S => ?_)
        obtain ⟨x14, hr15, hf⟩ := g_s1 hf
        have J16 : ∀ (H : Heap) (locs : List Loc) (ls : Array Slot), gS celM Γ ad N σ5 s H locs → lv_has ls 7 [(3, .int x9), (0, .ref (ad 0)), (1, .int a0), (2, .int a1)] → W p l e (gR 5 0 0) s m args below meth c H locs 0 0 (gQi celM Γ ad N r σ' below args s) (F0 m 92 ls [.int x14]) := by
          intro H locs ls S hl
          refine lv_istore (lv' := [(4, .int x14), (3, .int x9), (0, .ref (ad 0)), (1, .int a0), (2, .int a1)]) hx hb dX10_snap_92 hl (by decide) rfl (fun ls hl => ?_)
          refine lv_aload_n hx hb dX10_snap_94 rfl (lv_at hl 2 rfl) ?_
          refine lv_iload_n hx hb dX10_snap_95 rfl (lv_at hl 3 rfl) ?_
          refine lv_iload_n hx hb dX10_snap_96 rfl (lv_at hl 4 rfl) ?_
          refine lv_iload_n hx hb dX10_snap_97 rfl (lv_at hl 1 rfl) ?_
          refine lv_iload hx hb dX10_snap_98 (lv_at hl 0 rfl) ?_
          obtain ⟨v17, hv17, hf⟩ := g_s1 hf
          refine g_ki S (g_runV (rest := []) X S (c_X10_againstPlace l hN  hv17 _) cvX10_againstPlace mlX10_140 (by omega) (ceM_10 _) rfl rfl rfl hl.1 (Nat.le_of_ble_eq_true rfl) ⟨⟨rfl, rfl⟩, ⟨Nat.le_of_ble_eq_true rfl, Nat.le_of_ble_eq_true rfl⟩, Nat.le_of_ble_eq_true rfl, Nat.le_of_ble_eq_true rfl⟩ dX10_snap_100) (fun H locs S => ?_)
          refine lv_istore (lv' := [(5, .int v17), (4, .int x14), (3, .int x9), (0, .ref (ad 0)), (1, .int a0), (2, .int a1)]) hx hb dX10_snap_103 hl (by decide) rfl (fun ls hl => ?_)
          refine lv_iload hx hb dX10_snap_105 (lv_at hl 0 rfl) ?_
          refine lv_if_le (tgt := 118) hx hb dX10_snap_107 (by decide) (fun c18 => ?_) (fun c18 => ?_)
          · have hf := (if_pos c18).symm.trans hf
            refine lv_aload_n hx hb dX10_snap_118 rfl (lv_at hl 3 rfl) ?_
            refine lv_aload_n hx hb dX10_snap_119 rfl (lv_at hl 3 rfl) ?_
            refine gfX10_7 X S hN dX10_snap_120 ?_
            obtain ⟨σ19, hσ19, hf⟩ := g_s1 hf
            refine g_kv S (g_runV (rest := []) X S (c_X10_changes l hN (by rfl : gma 1 = true) hσ19 _) cvX10_changes mlX10_78 (by omega) (ceM_10 _) rfl rfl rfl hl.1 (Nat.le_of_ble_eq_true rfl) ⟨⟨rfl, rfl⟩, ⟨Nat.le_of_ble_eq_true rfl, Nat.le_of_ble_eq_true rfl⟩, Nat.le_of_ble_eq_true rfl, Nat.le_of_ble_eq_true rfl⟩ dX10_snap_123) (fun H locs S => ?_)
            refine lv_iload_n hx hb dX10_snap_126 rfl (lv_at hl 2 rfl) ?_
            refine lv_aload_n hx hb dX10_snap_127 rfl (lv_at hl 3 rfl) ?_
            refine lv_iload_n hx hb dX10_snap_128 rfl (lv_at hl 4 rfl) ?_
            refine lv_iload_n hx hb dX10_snap_129 rfl (lv_at hl 5 rfl) ?_
            obtain ⟨v20, hv20, hf⟩ := g_s1 hf
            refine g_ki S (g_runV (rest := [.int x9]) X S (c_X10_first l hN  hv20 _) cvX10_first mlX10_113 (by omega) (ceM_10 _) rfl rfl rfl hl.1 (Nat.le_of_ble_eq_true rfl) ⟨⟨rfl, rfl⟩, ⟨Nat.le_of_ble_eq_true rfl, Nat.le_of_ble_eq_true rfl⟩, Nat.le_of_ble_eq_true rfl, Nat.le_of_ble_eq_true rfl⟩ dX10_snap_130) (fun H locs S => ?_)
            obtain ⟨x21, hr22, hf⟩ := g_s1 hf
            have J23 : ∀ (H : Heap) (locs : List Loc) (ls : Array Slot), gS celM Γ ad N σ19 s H locs → lv_has ls 7 [(4, .int x14), (3, .int x9), (0, .ref (ad 0)), (1, .int a0), (2, .int a1)] → W p l e (gR 5 0 0) s m args below meth c H locs 0 0 (gQi celM Γ ad N r σ' below args s) (F0 m 141 ls [.int x21]) := by
              intro H locs ls S hl
              refine lv_iload hx hb dX10_snap_141 (lv_at hl 0 rfl) ?_
              refine lv_aload_n hx hb dX10_snap_143 rfl (lv_at hl 2 rfl) ?_
              refine lv_iload_n hx hb dX10_snap_144 rfl (lv_at hl 3 rfl) ?_
              refine lv_iload_n hx hb dX10_snap_145 rfl (lv_at hl 4 rfl) ?_
              obtain ⟨v24, hv24, hf⟩ := g_s1 hf
              refine g_ki S (g_runV (rest := [.int x14, .int x21]) X S (c_X10_end l hN  hv24 _) cvX10_end mlX10_71 (by omega) (ceM_10 _) rfl rfl rfl hl.1 (Nat.le_of_ble_eq_true rfl) ⟨⟨rfl, rfl⟩, ⟨Nat.le_of_ble_eq_true rfl, Nat.le_of_ble_eq_true rfl⟩, Nat.le_of_ble_eq_true rfl, Nat.le_of_ble_eq_true rfl⟩ dX10_snap_146) (fun H locs S => ?_)
              obtain ⟨x25, hr26, hf⟩ := g_s1 hf
              have J27 : ∀ (H : Heap) (locs : List Loc) (ls : Array Slot), gS celM Γ ad N σ19 s H locs → lv_has ls 7 [(4, .int x14), (3, .int x9), (0, .ref (ad 0)), (1, .int a0), (2, .int a1)] → W p l e (gR 5 0 0) s m args below meth c H locs 0 0 (gQi celM Γ ad N r σ' below args s) (F0 m 157 ls [.int x25, .int x21]) := by
                intro H locs ls S hl
                refine lv_iadd hx hb dX10_snap_157 ?_
                refine lv_istore (lv' := [(6, .int (x21 + x25)), (4, .int x14), (3, .int x9), (0, .ref (ad 0)), (1, .int a0), (2, .int a1)]) hx hb dX10_snap_158 hl (by decide) rfl (fun ls hl => ?_)
                refine lv_aload_n hx hb dX10_snap_160 rfl (lv_at hl 3 rfl) ?_
                refine lv_iload_n hx hb dX10_snap_161 rfl (lv_at hl 4 rfl) ?_
                refine lv_iload_n hx hb dX10_snap_162 rfl (lv_at hl 5 rfl) ?_
                refine lv_iload_n hx hb dX10_snap_163 rfl (lv_at hl 2 rfl) ?_
                refine lv_iload hx hb dX10_snap_164 (lv_at hl 1 rfl) ?_
                obtain ⟨v28, σ29, hv28, hf⟩ := g_s2 hf
                refine g_ki S (g_runV (rest := []) X S (c_X10_moves l hN  hv28 _) cvX10_moves mlX10_169 (by omega) (ceM_10 _) rfl rfl rfl hl.1 (Nat.le_of_ble_eq_true rfl) ⟨⟨rfl, rfl⟩, ⟨Nat.le_of_ble_eq_true rfl, Nat.le_of_ble_eq_true rfl⟩, Nat.le_of_ble_eq_true rfl, Nat.le_of_ble_eq_true rfl⟩ dX10_snap_166) (fun H locs S => ?_)
                refine lv_pop hx hb dX10_snap_169 rfl ?_
                refine lv_iload hx hb dX10_snap_170 (lv_at hl 0 rfl) ?_
                cases hf
                exact g_reti X S rfl dX10_snap_172
              replace hf := hr26
              refine lv_icmp_eq (tgt := 156) hx hb dX10_snap_149 (by decide) (fun c30 => ?_) (fun c30 => ?_)
              · have hf := (if_pos c30).symm.trans hf
                refine lv_iconst (v := (0 : Int32)) hx hb dX10_snap_156 (by decide) ?_
                cases hf
                exact J27 _ _ _ S (lv_sub hl [0, 1, 2, 3, 4] rfl)
              · have hf := (if_neg c30).symm.trans hf
                refine lv_iconst (v := (2 : Int32)) hx hb dX10_snap_152 (by decide) ?_
                refine lv_goto (tgt := 157) hx hb dX10_snap_153 (by decide) ?_
                cases hf
                exact J27 _ _ _ S (lv_sub hl [0, 1, 2, 3, 4] rfl)
            replace hf := hr22
            refine lv_icmp_eq (tgt := 140) hx hb dX10_snap_133 (by decide) (fun c31 => ?_) (fun c31 => ?_)
            · have hf := (if_pos c31).symm.trans hf
              refine lv_iconst (v := (0 : Int32)) hx hb dX10_snap_140 (by decide) ?_
              cases hf
              exact J23 _ _ _ S (lv_sub hl [1, 2, 3, 4, 5] rfl)
            · have hf := (if_neg c31).symm.trans hf
              refine lv_iconst (v := (1 : Int32)) hx hb dX10_snap_136 (by decide) ?_
              refine lv_goto (tgt := 141) hx hb dX10_snap_137 (by decide) ?_
              cases hf
              exact J23 _ _ _ S (lv_sub hl [1, 2, 3, 4, 5] rfl)
          · have hf := (if_neg c18).symm.trans hf
            refine lv_aload_n hx hb dX10_snap_110 rfl (lv_at hl 3 rfl) ?_
            refine lv_iconst (v := (2 : Int32)) hx hb dX10_snap_111 (by decide) ?_
            refine lv_iload hx hb dX10_snap_112 (lv_at hl 0 rfl) ?_
            obtain ⟨v32, σ33, hv32, hf⟩ := g_s2 hf
            refine g_ki S (g_runV (rest := []) X S (c_X10_refuses l hN  hv32 _) cvX10_refuses mlX10_75 (by omega) (ceM_10 _) rfl rfl rfl hl.1 (Nat.le_of_ble_eq_true rfl) ⟨⟨rfl, rfl⟩, ⟨Nat.le_of_ble_eq_true rfl, Nat.le_of_ble_eq_true rfl⟩, Nat.le_of_ble_eq_true rfl, Nat.le_of_ble_eq_true rfl⟩ dX10_snap_114) (fun H locs S => ?_)
            cases hf
            exact g_reti X S rfl dX10_snap_117
        replace hf := hr15
        refine lv_if_eq (tgt := 86) hx hb dX10_snap_70 (by decide) (fun c34 => ?_) (fun c34 => ?_)
        · have hf := (if_pos c34).symm.trans hf
          refine lv_aload_n hx hb dX10_snap_86 rfl (lv_at hl 1 rfl) ?_
          refine lv_iload_n hx hb dX10_snap_87 rfl (lv_at hl 2 rfl) ?_
          refine lv_iload_n hx hb dX10_snap_88 rfl (lv_at hl 3 rfl) ?_
          obtain ⟨v35, hv35, hf⟩ := g_s1 hf
          refine g_ki S (g_runV (rest := []) X S (c_X10_end l hN  hv35 _) cvX10_end mlX10_71 (by omega) (ceM_10 _) rfl rfl rfl hl.1 (Nat.le_of_ble_eq_true rfl) ⟨⟨rfl, rfl⟩, ⟨Nat.le_of_ble_eq_true rfl, Nat.le_of_ble_eq_true rfl⟩, Nat.le_of_ble_eq_true rfl, Nat.le_of_ble_eq_true rfl⟩ dX10_snap_89) (fun H locs S => ?_)
          cases hf
          exact J16 _ _ _ S (lv_sub hl [0, 1, 2, 3] rfl)
        · have hf := (if_neg c34).symm.trans hf
          refine lv_aload_n hx hb dX10_snap_73 rfl (lv_at hl 1 rfl) ?_
          refine lv_aload_n hx hb dX10_snap_74 rfl (lv_at hl 1 rfl) ?_
          refine lv_iload_n hx hb dX10_snap_75 rfl (lv_at hl 2 rfl) ?_
          refine lv_iload_n hx hb dX10_snap_76 rfl (lv_at hl 3 rfl) ?_
          obtain ⟨v36, hv36, hf⟩ := g_s1 hf
          refine g_ki S (g_runV (rest := [.ref (ad 0)]) X S (c_X10_end l hN  hv36 _) cvX10_end mlX10_71 (by omega) (ceM_10 _) rfl rfl rfl hl.1 (Nat.le_of_ble_eq_true rfl) ⟨⟨rfl, rfl⟩, ⟨Nat.le_of_ble_eq_true rfl, Nat.le_of_ble_eq_true rfl⟩, Nat.le_of_ble_eq_true rfl, Nat.le_of_ble_eq_true rfl⟩ dX10_snap_77) (fun H locs S => ?_)
          obtain ⟨v37, hv37, hf⟩ := g_s1 hf
          refine g_ki S (g_runV (rest := []) X S (c_X10_nearest l hN  hv37 _) cvX10_nearest mlX10_175 (by omega) (ceM_10 _) rfl rfl rfl hl.1 (Nat.le_of_ble_eq_true rfl) ⟨⟨rfl, rfl⟩, ⟨Nat.le_of_ble_eq_true rfl, Nat.le_of_ble_eq_true rfl⟩, Nat.le_of_ble_eq_true rfl, Nat.le_of_ble_eq_true rfl⟩ dX10_snap_80) (fun H locs S => ?_)
          refine lv_goto (tgt := 92) hx hb dX10_snap_83 (by decide) ?_
          cases hf
          exact J16 _ _ _ S (lv_sub hl [0, 1, 2, 3] rfl)
      replace hf := hr10
      refine lv_if_eq (tgt := 53) hx hb dX10_snap_37 (by decide) (fun c38 => ?_) (fun c38 => ?_)
      · have hf := (if_pos c38).symm.trans hf
        refine lv_aload_n hx hb dX10_snap_53 rfl (lv_at hl 0 rfl) ?_
        refine lv_iload_n hx hb dX10_snap_54 rfl (lv_at hl 1 rfl) ?_
        refine lv_iload_n hx hb dX10_snap_55 rfl (lv_at hl 2 rfl) ?_
        obtain ⟨v39, hv39, hf⟩ := g_s1 hf
        refine g_ki S (g_runV (rest := []) X S (c_X10_first l hN  hv39 _) cvX10_first mlX10_113 (by omega) (ceM_10 _) rfl rfl rfl hl.1 (Nat.le_of_ble_eq_true rfl) ⟨⟨rfl, rfl⟩, ⟨Nat.le_of_ble_eq_true rfl, Nat.le_of_ble_eq_true rfl⟩, Nat.le_of_ble_eq_true rfl, Nat.le_of_ble_eq_true rfl⟩ dX10_snap_56) (fun H locs S => ?_)
        cases hf
        exact J11 _ _ _ S (lv_sub hl [0, 1, 2] rfl)
      · have hf := (if_neg c38).symm.trans hf
        refine lv_aload_n hx hb dX10_snap_40 rfl (lv_at hl 0 rfl) ?_
        refine lv_aload_n hx hb dX10_snap_41 rfl (lv_at hl 0 rfl) ?_
        refine lv_iload_n hx hb dX10_snap_42 rfl (lv_at hl 1 rfl) ?_
        refine lv_iload_n hx hb dX10_snap_43 rfl (lv_at hl 2 rfl) ?_
        obtain ⟨v40, hv40, hf⟩ := g_s1 hf
        refine g_ki S (g_runV (rest := [.ref (ad 0)]) X S (c_X10_first l hN  hv40 _) cvX10_first mlX10_113 (by omega) (ceM_10 _) rfl rfl rfl hl.1 (Nat.le_of_ble_eq_true rfl) ⟨⟨rfl, rfl⟩, ⟨Nat.le_of_ble_eq_true rfl, Nat.le_of_ble_eq_true rfl⟩, Nat.le_of_ble_eq_true rfl, Nat.le_of_ble_eq_true rfl⟩ dX10_snap_44) (fun H locs S => ?_)
        obtain ⟨v41, hv41, hf⟩ := g_s1 hf
        refine g_ki S (g_runV (rest := []) X S (c_X10_nearest l hN  hv41 _) cvX10_nearest mlX10_175 (by omega) (ceM_10 _) rfl rfl rfl hl.1 (Nat.le_of_ble_eq_true rfl) ⟨⟨rfl, rfl⟩, ⟨Nat.le_of_ble_eq_true rfl, Nat.le_of_ble_eq_true rfl⟩, Nat.le_of_ble_eq_true rfl, Nat.le_of_ble_eq_true rfl⟩ dX10_snap_47) (fun H locs S => ?_)
        refine lv_goto (tgt := 59) hx hb dX10_snap_50 (by decide) ?_
        cases hf
        exact J11 _ _ _ S (lv_sub hl [0, 1, 2] rfl)
    · have hf := (if_neg c6).symm.trans hf
      refine lv_iconst (v := (0 : Int32)) hx hb dX10_snap_25 (by decide) ?_
      cases hf
      exact g_reti X S rfl dX10_snap_26
  replace hf := hr3
  refine lv_if_eq (tgt := 14) hx hb dX10_snap_7 (by decide) (fun c42 => ?_) (fun c42 => ?_)
  · have hf := (if_pos c42).symm.trans hf
    refine lv_iconst (v := (1 : Int32)) hx hb dX10_snap_14 (by decide) ?_
    cases hf
    exact J4 _ _ _ S (lv_sub hl [0, 1, 2] rfl)
  · have hf := (if_neg c42).symm.trans hf
    refine lv_iconst (v := (0 : Int32)) hx hb dX10_snap_10 (by decide) ?_
    refine lv_goto (tgt := 15) hx hb dX10_snap_11 (by decide) ?_
    cases hf
    exact J4 _ _ _ S (lv_sub hl [0, 1, 2] rfl)

