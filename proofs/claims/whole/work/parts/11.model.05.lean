noncomputable def f_X10_fit_l1 (a0 : Int32) (a1 : Int32) (σ5 : gSt) : Nat → Int32 → Int32 → Option (Int32)
  | 0, _, _ => none
  | n + 1, i16, i17 => (if i16 < 0 then some i17 else (g_k1 (gald σ5 1 926 ((8 : Int32) + i16)) fun v20 => (g_k1 (f_X10_end σ5 a0 a1) fun v21 => (g_k1 (if v20 < v21 then some i17 else (g_k1 (gald σ5 1 926 ((8 : Int32) + i16)) fun v26 => (if i17 ≤ v26 then some i17 else (g_k1 (gald σ5 1 926 ((8 : Int32) + i16)) fun v28 => some v28)))) fun x22 => (f_X10_fit_l1 a0 a1 σ5 n (i16 + (-1)) x22)))))
set_option maxRecDepth 100000 in
set_option maxHeartbeats 4000000 in
theorem w_X10_fit_l1 {l : Launch} {Γ : gG} {ad : Nat → Nat} {N : Nat} {p : Program} {e : Env} {s : State} {m : MethodId} {args : Array Value} {below : List Frame} {meth : Method} {c : Code} {Q : State → Prop} (hN : 8 ≤ N) (X : gX celM Γ ad N RX10 cX10_fit 5 (some .int) p s m args meth c) {a0 : Int32} {a1 : Int32} {σ5 : gSt}  : ∀ (n : Nat) (i16 : Int32) (i17 : Int32) (r18 : Int32), f_X10_fit_l1 a0 a1 σ5 n i16 i17 = some r18 → (∀ (H : Heap) (locs : List Loc) (ls : Array Slot), gS celM Γ ad N σ5 s H locs → lv_has ls 5 [(3, .int r18), (0, .ref (ad 0)), (1, .int a0), (2, .int a1)] → W p l e (gR 4 0 0) s m args below meth c H locs 0 0 (Q) (F0 m 182 ls [])) → ∀ (H : Heap) (locs : List Loc) (ls : Array Slot), gS celM Γ ad N σ5 s H locs → lv_has ls 5 [(4, .int i16), (3, .int i17), (0, .ref (ad 0)), (1, .int a0), (2, .int a1)] → W p l e (gR 4 0 0) s m args below meth c H locs 0 0 (Q) (F0 m 123 ls []) := by
  have hx := X.1
  have hb := X.2.1
  intro n
  induction n with
  | zero =>
    intro i16 i17 r18 hf
    cases hf
  | succ n ih =>
    intro i16 i17 r18 hf J H locs ls S hl
    rw [f_X10_fit_l1] at hf
    refine lv_iload hx hb dX10_fit_123 (lv_at hl 0 rfl) ?_
    refine lv_if_lt (tgt := 182) hx hb dX10_fit_125 (by decide) (fun c19 => ?_) (fun c19 => ?_)
    · have hf := (if_pos c19).symm.trans hf
      cases hf
      exact J _ _ _ S (lv_sub hl [1, 2, 3, 4] rfl)
    · have hf := (if_neg c19).symm.trans hf
      refine lv_aload_n hx hb dX10_fit_128 rfl (lv_at hl 2 rfl) ?_
      refine gfX10_7 X S hN dX10_fit_129 ?_
      refine lv_bipush (v := (8 : Int32)) hx hb dX10_fit_132 (by decide) ?_
      refine lv_iload hx hb dX10_fit_134 (lv_at hl 0 rfl) ?_
      refine lv_iadd hx hb dX10_fit_136 ?_
      obtain ⟨v20, hv20, hf⟩ := g_s1 hf
      refine g_iald X S (by omega) (ceM_a (rfl : gma 1 = true)) hv20 dX10_fit_137 ?_
      refine lv_aload_n hx hb dX10_fit_138 rfl (lv_at hl 2 rfl) ?_
      refine lv_iload_n hx hb dX10_fit_139 rfl (lv_at hl 3 rfl) ?_
      refine lv_iload_n hx hb dX10_fit_140 rfl (lv_at hl 4 rfl) ?_
      obtain ⟨v21, hv21, hf⟩ := g_s1 hf
      refine g_ki S (g_runV (rest := [.int v20]) X S (c_X10_end l hN  hv21 _) cvX10_end mlX10_71 (by omega) (ceM_10 _) rfl rfl rfl hl.1 (Nat.le_of_ble_eq_true rfl) ⟨⟨rfl, rfl⟩, ⟨Nat.le_of_ble_eq_true rfl, Nat.le_of_ble_eq_true rfl⟩, Nat.le_of_ble_eq_true rfl, Nat.le_of_ble_eq_true rfl⟩ dX10_fit_141) (fun H locs S => ?_)
      obtain ⟨x22, hr23, hf⟩ := g_s1 hf
      have J24 : ∀ (H : Heap) (locs : List Loc) (ls : Array Slot), gS celM Γ ad N σ5 s H locs → lv_has ls 5 [(4, .int i16), (0, .ref (ad 0)), (1, .int a0), (2, .int a1)] → W p l e (gR 4 0 0) s m args below meth c H locs 0 0 (Q) (F0 m 175 ls [.int x22]) := by
        intro H locs ls S hl
        refine lv_istore_n (lv' := [(3, .int x22), (4, .int i16), (0, .ref (ad 0)), (1, .int a0), (2, .int a1)]) hx hb dX10_fit_175 rfl hl (by decide) rfl (fun ls hl => ?_)
        refine lv_iinc (v := (i16 + (-1))) (lv' := [(4, .int (i16 + (-1))), (3, .int x22), (0, .ref (ad 0)), (1, .int a0), (2, .int a1)]) hx hb dX10_fit_176 hl (k := 1) rfl rfl (by decide) rfl (fun ls hl => ?_)
        refine lv_goto (tgt := 123) hx hb dX10_fit_179 (by decide) ?_
        exact ih _ _ _  hf J _ _ _ S (lv_sub hl [0, 1, 2, 3, 4] rfl)
      replace hf := hr23
      refine lv_icmp_lt (tgt := 174) hx hb dX10_fit_144 (by decide) (fun c25 => ?_) (fun c25 => ?_)
      · have hf := (if_pos c25).symm.trans hf
        refine lv_iload_n hx hb dX10_fit_174 rfl (lv_at hl 1 rfl) ?_
        cases hf
        exact J24 _ _ _ S (lv_sub hl [0, 2, 3, 4] rfl)
      · have hf := (if_neg c25).symm.trans hf
        refine lv_iload_n hx hb dX10_fit_147 rfl (lv_at hl 1 rfl) ?_
        refine lv_aload_n hx hb dX10_fit_148 rfl (lv_at hl 2 rfl) ?_
        refine gfX10_7 X S hN dX10_fit_149 ?_
        refine lv_bipush (v := (8 : Int32)) hx hb dX10_fit_152 (by decide) ?_
        refine lv_iload hx hb dX10_fit_154 (lv_at hl 0 rfl) ?_
        refine lv_iadd hx hb dX10_fit_156 ?_
        obtain ⟨v26, hv26, hf⟩ := g_s1 hf
        refine g_iald X S (by omega) (ceM_a (rfl : gma 1 = true)) hv26 dX10_fit_157 ?_
        refine lv_icmp_le (tgt := 174) hx hb dX10_fit_158 (by decide) (fun c27 => ?_) (fun c27 => ?_)
        · have hf := (if_pos c27).symm.trans hf
          refine lv_iload_n hx hb dX10_fit_174 rfl (lv_at hl 1 rfl) ?_
          cases hf
          exact J24 _ _ _ S (lv_sub hl [0, 2, 3, 4] rfl)
        · have hf := (if_neg c27).symm.trans hf
          refine lv_aload_n hx hb dX10_fit_161 rfl (lv_at hl 2 rfl) ?_
          refine gfX10_7 X S hN dX10_fit_162 ?_
          refine lv_bipush (v := (8 : Int32)) hx hb dX10_fit_165 (by decide) ?_
          refine lv_iload hx hb dX10_fit_167 (lv_at hl 0 rfl) ?_
          refine lv_iadd hx hb dX10_fit_169 ?_
          obtain ⟨v28, hv28, hf⟩ := g_s1 hf
          refine g_iald X S (by omega) (ceM_a (rfl : gma 1 = true)) hv28 dX10_fit_170 ?_
          refine lv_goto (tgt := 175) hx hb dX10_fit_171 (by decide) ?_
          cases hf
          exact J24 _ _ _ S (lv_sub hl [0, 2, 3, 4] rfl)
noncomputable def f_X10_fit (σ : gSt) (a0 : Int32) (a1 : Int32) : Option (Int32 × gSt) :=
  (g_k1 (f_X10_isCaption σ a0 a1) fun v1 => (g_k1 (if v1 = 0 then some (1 : Int32) else some (0 : Int32)) fun x2 => (g_k1 (gset σ 0 10 x2) fun σ5 => (if (σ5 0 10) ≤ 0 then (g_k1 (f_X10_first σ5 a0 a1) fun v7 => (g_k1 (f_X10_needs σ5 a0 a1) fun v8 => (g_k1 (if (v7 + v8) ≤ (σ5 1 0) then some (v7 + v8) else some (σ5 1 0)) fun x9 => (g_k1 (gald σ5 1 926 ((28 : Int32) + a0)) fun v12 => (g_k1 (if v12 ≤ (a1 + (1 : Int32)) then some x9 else (g_k1 (f_X10_first σ5 a0 (a1 + (1 : Int32))) fun v41 => (if x9 ≤ (v41 - (σ5 1 3)) then some x9 else (g_k1 (f_X10_first σ5 a0 (a1 + (1 : Int32))) fun v43 => some (v43 - (σ5 1 3)))))) fun x13 => (g_k1 (f_X10_fit_l1 a0 a1 σ5 FU ((σ5 1 7) - (1 : Int32)) x13) fun r18 => (g_k1 (f_X10_changes σ5 1) fun σ30 => (g_k1 (f_X10_end σ30 a0 a1) fun v31 => (g_k1 (if r18 ≤ v31 then some (0 : Int32) else (g_k1 (f_X10_end σ30 a0 a1) fun v39 => some (r18 - v39))) fun x32 => (g_k1 (f_X10_at σ30 a0 a1 (1 : Int32)) fun v35 => (g_k1 (gald σ30 1 926 v35) fun v36 => (g_k1 (gast σ30 1 926 v35 (v36 + x32)) fun σ37 => some (x32, σ37))))))))))))) else some ((0 : Int32), σ5)))))
set_option maxRecDepth 100000 in
set_option maxHeartbeats 4000000 in
theorem c_X10_fit (l : Launch) {Γ : gG} {ad : Nat → Nat} {N : Nat} (hN : 8 ≤ N) {σ : gSt} {a0 : Int32} {a1 : Int32}  {r : Int32} {σ' : gSt} (hf : f_X10_fit σ a0 a1 = some (r, σ')) : gMi l celM Γ ad N yX10_fit cX10_fit 5 (some .int) (gR 4 0 0) [.ref (ad 0), .int a0, .int a1] σ r σ' := by
  intro sz
  refine gOf (Qc := fun sz => gQci celM Γ ad N r σ' sz) RX10 (by decide) rfl (Nat.le_of_ble_eq_true rfl) (fun p e s m args below meth c H locs ls X S hl => ?_)
  have hl : lv_has ls 5 [(0, .ref (ad 0)), (1, .int a0), (2, .int a1)] := hl
  have hx := X.1
  have hb := X.2.1
  unfold f_X10_fit at hf
  refine lv_aload_n hx hb dX10_fit_0 rfl (lv_at hl 0 rfl) ?_
  refine lv_aload_n hx hb dX10_fit_1 rfl (lv_at hl 0 rfl) ?_
  refine lv_iload_n hx hb dX10_fit_2 rfl (lv_at hl 1 rfl) ?_
  refine lv_iload_n hx hb dX10_fit_3 rfl (lv_at hl 2 rfl) ?_
  obtain ⟨v1, hv1, hf⟩ := g_s1 hf
  refine g_ki S (g_runV (rest := [.ref (ad 0)]) X S (c_X10_isCaption l hN  hv1 _) cvX10_isCaption mlX10_159 (by omega) (ceM_10 _) rfl rfl rfl hl.1 (Nat.le_of_ble_eq_true rfl) ⟨⟨rfl, rfl⟩, ⟨Nat.le_of_ble_eq_true rfl, Nat.le_of_ble_eq_true rfl⟩, Nat.le_of_ble_eq_true rfl, Nat.le_of_ble_eq_true rfl⟩ dX10_fit_4) (fun H locs S => ?_)
  obtain ⟨x2, hr3, hf⟩ := g_s1 hf
  have J4 : ∀ (H : Heap) (locs : List Loc) (ls : Array Slot), gS celM Γ ad N σ s H locs → lv_has ls 5 [(0, .ref (ad 0)), (1, .int a0), (2, .int a1)] → W p l e (gR 4 0 0) s m args below meth c H locs 0 0 (gQi celM Γ ad N r σ' below args s) (F0 m 15 ls [.int x2, .ref (ad 0)]) := by
    intro H locs ls S hl
    obtain ⟨σ5, hσ5, hf⟩ := g_s1 hf
    refine pfX10_35 X S hN hσ5 dX10_fit_15 (fun H locs S => ?_)
    refine lv_aload_n hx hb dX10_fit_18 rfl (lv_at hl 0 rfl) ?_
    refine gfX10_35 X S hN dX10_fit_19 ?_
    refine lv_if_le (tgt := 27) hx hb dX10_fit_22 (by decide) (fun c6 => ?_) (fun c6 => ?_)
    · have hf := (if_pos c6).symm.trans hf
      refine lv_aload_n hx hb dX10_fit_27 rfl (lv_at hl 0 rfl) ?_
      refine lv_iload_n hx hb dX10_fit_28 rfl (lv_at hl 1 rfl) ?_
      refine lv_iload_n hx hb dX10_fit_29 rfl (lv_at hl 2 rfl) ?_
      obtain ⟨v7, hv7, hf⟩ := g_s1 hf
      refine g_ki S (g_runV (rest := []) X S (c_X10_first l hN  hv7 _) cvX10_first mlX10_113 (by omega) (ceM_10 _) rfl rfl rfl hl.1 (Nat.le_of_ble_eq_true rfl) ⟨⟨rfl, rfl⟩, ⟨Nat.le_of_ble_eq_true rfl, Nat.le_of_ble_eq_true rfl⟩, Nat.le_of_ble_eq_true rfl, Nat.le_of_ble_eq_true rfl⟩ dX10_fit_30) (fun H locs S => ?_)
      refine lv_aload_n hx hb dX10_fit_33 rfl (lv_at hl 0 rfl) ?_
      refine lv_iload_n hx hb dX10_fit_34 rfl (lv_at hl 1 rfl) ?_
      refine lv_iload_n hx hb dX10_fit_35 rfl (lv_at hl 2 rfl) ?_
      obtain ⟨v8, hv8, hf⟩ := g_s1 hf
      refine g_ki S (g_runV (rest := [.int v7]) X S (c_X10_needs l hN  hv8 _) cvX10_needs mlX10_122 (by omega) (ceM_10 _) rfl rfl rfl hl.1 (Nat.le_of_ble_eq_true rfl) ⟨⟨rfl, rfl⟩, ⟨Nat.le_of_ble_eq_true rfl, Nat.le_of_ble_eq_true rfl⟩, Nat.le_of_ble_eq_true rfl, Nat.le_of_ble_eq_true rfl⟩ dX10_fit_36) (fun H locs S => ?_)
      refine lv_iadd hx hb dX10_fit_39 ?_
      refine lv_istore_n (lv' := [(3, .int (v7 + v8)), (0, .ref (ad 0)), (1, .int a0), (2, .int a1)]) hx hb dX10_fit_40 rfl hl (by decide) rfl (fun ls hl => ?_)
      refine lv_iload_n hx hb dX10_fit_41 rfl (lv_at hl 0 rfl) ?_
      refine lv_aload_n hx hb dX10_fit_42 rfl (lv_at hl 1 rfl) ?_
      refine gfX10_7 X S hN dX10_fit_43 ?_
      refine lv_iconst (v := (0 : Int32)) hx hb dX10_fit_46 (by decide) ?_
      refine g_ialdC X S (by omega) (ceM_a (rfl : gma 1 = true)) 0 (by decide) (by decide) dX10_fit_47 ?_
      obtain ⟨x9, hr10, hf⟩ := g_s1 hf
      have J11 : ∀ (H : Heap) (locs : List Loc) (ls : Array Slot), gS celM Γ ad N σ5 s H locs → lv_has ls 5 [(0, .ref (ad 0)), (1, .int a0), (2, .int a1)] → W p l e (gR 4 0 0) s m args below meth c H locs 0 0 (gQi celM Γ ad N r σ' below args s) (F0 m 61 ls [.int x9]) := by
        intro H locs ls S hl
        refine lv_istore_n (lv' := [(3, .int x9), (0, .ref (ad 0)), (1, .int a0), (2, .int a1)]) hx hb dX10_fit_61 rfl hl (by decide) rfl (fun ls hl => ?_)
        refine lv_iload_n hx hb dX10_fit_62 rfl (lv_at hl 3 rfl) ?_
        refine lv_iconst (v := (1 : Int32)) hx hb dX10_fit_63 (by decide) ?_
        refine lv_iadd hx hb dX10_fit_64 ?_
        refine lv_aload_n hx hb dX10_fit_65 rfl (lv_at hl 1 rfl) ?_
        refine gfX10_7 X S hN dX10_fit_66 ?_
        refine lv_bipush (v := (28 : Int32)) hx hb dX10_fit_69 (by decide) ?_
        refine lv_iload_n hx hb dX10_fit_71 rfl (lv_at hl 2 rfl) ?_
        refine lv_iadd hx hb dX10_fit_72 ?_
        obtain ⟨v12, hv12, hf⟩ := g_s1 hf
        refine g_iald X S (by omega) (ceM_a (rfl : gma 1 = true)) hv12 dX10_fit_73 ?_
        obtain ⟨x13, hr14, hf⟩ := g_s1 hf
        have J15 : ∀ (H : Heap) (locs : List Loc) (ls : Array Slot), gS celM Γ ad N σ5 s H locs → lv_has ls 5 [(3, .int x13), (0, .ref (ad 0)), (1, .int a0), (2, .int a1)] → W p l e (gR 4 0 0) s m args below meth c H locs 0 0 (gQi celM Γ ad N r σ' below args s) (F0 m 112 ls []) := by
          intro H locs ls S hl
          refine lv_aload_n hx hb dX10_fit_112 rfl (lv_at hl 1 rfl) ?_
          refine gfX10_7 X S hN dX10_fit_113 ?_
          refine lv_bipush (v := (7 : Int32)) hx hb dX10_fit_116 (by decide) ?_
          refine g_ialdC X S (by omega) (ceM_a (rfl : gma 1 = true)) 7 (by decide) (by decide) dX10_fit_118 ?_
          refine lv_iconst (v := (1 : Int32)) hx hb dX10_fit_119 (by decide) ?_
          refine lv_isub hx hb dX10_fit_120 ?_
          refine lv_istore (lv' := [(4, .int ((σ5 1 7) - (1 : Int32))), (3, .int x13), (0, .ref (ad 0)), (1, .int a0), (2, .int a1)]) hx hb dX10_fit_121 hl (by decide) rfl (fun ls hl => ?_)
          obtain ⟨r18, hr29, hf⟩ := g_s1 hf
          refine w_X10_fit_l1 hN X  FU _ _ _  hr29 (fun H locs ls S hl => ?_) _ _ _ S (lv_sub hl [0, 1, 2, 3, 4] rfl)
          refine lv_aload_n hx hb dX10_fit_182 rfl (lv_at hl 1 rfl) ?_
          refine lv_aload_n hx hb dX10_fit_183 rfl (lv_at hl 1 rfl) ?_
          refine gfX10_7 X S hN dX10_fit_184 ?_
          obtain ⟨σ30, hσ30, hf⟩ := g_s1 hf
          refine g_kv S (g_runV (rest := []) X S (c_X10_changes l hN (by rfl : gma 1 = true) hσ30 _) cvX10_changes mlX10_78 (by omega) (ceM_10 _) rfl rfl rfl hl.1 (Nat.le_of_ble_eq_true rfl) ⟨⟨rfl, rfl⟩, ⟨Nat.le_of_ble_eq_true rfl, Nat.le_of_ble_eq_true rfl⟩, Nat.le_of_ble_eq_true rfl, Nat.le_of_ble_eq_true rfl⟩ dX10_fit_187) (fun H locs S => ?_)
          refine lv_iload_n hx hb dX10_fit_190 rfl (lv_at hl 0 rfl) ?_
          refine lv_aload_n hx hb dX10_fit_191 rfl (lv_at hl 1 rfl) ?_
          refine lv_iload_n hx hb dX10_fit_192 rfl (lv_at hl 2 rfl) ?_
          refine lv_iload_n hx hb dX10_fit_193 rfl (lv_at hl 3 rfl) ?_
          obtain ⟨v31, hv31, hf⟩ := g_s1 hf
          refine g_ki S (g_runV (rest := [.int r18]) X S (c_X10_end l hN  hv31 _) cvX10_end mlX10_71 (by omega) (ceM_10 _) rfl rfl rfl hl.1 (Nat.le_of_ble_eq_true rfl) ⟨⟨rfl, rfl⟩, ⟨Nat.le_of_ble_eq_true rfl, Nat.le_of_ble_eq_true rfl⟩, Nat.le_of_ble_eq_true rfl, Nat.le_of_ble_eq_true rfl⟩ dX10_fit_194) (fun H locs S => ?_)
          obtain ⟨x32, hr33, hf⟩ := g_s1 hf
          have J34 : ∀ (H : Heap) (locs : List Loc) (ls : Array Slot), gS celM Γ ad N σ30 s H locs → lv_has ls 5 [(0, .ref (ad 0)), (1, .int a0), (2, .int a1)] → W p l e (gR 4 0 0) s m args below meth c H locs 0 0 (gQi celM Γ ad N r σ' below args s) (F0 m 212 ls [.int x32]) := by
            intro H locs ls S hl
            refine lv_istore (lv' := [(4, .int x32), (0, .ref (ad 0)), (1, .int a0), (2, .int a1)]) hx hb dX10_fit_212 hl (by decide) rfl (fun ls hl => ?_)
            refine lv_aload_n hx hb dX10_fit_214 rfl (lv_at hl 1 rfl) ?_
            refine gfX10_7 X S hN dX10_fit_215 ?_
            refine lv_iload_n hx hb dX10_fit_218 rfl (lv_at hl 2 rfl) ?_
            refine lv_iload_n hx hb dX10_fit_219 rfl (lv_at hl 3 rfl) ?_
            refine lv_iconst (v := (1 : Int32)) hx hb dX10_fit_220 (by decide) ?_
            obtain ⟨v35, hv35, hf⟩ := g_s1 hf
            refine g_ki S (g_runS (rest := [.ref (ad 1)]) X S (c_X10_at l hN  hv35 _) csX10_at mlX10_56 rfl rfl hl.1 (Nat.le_of_ble_eq_true rfl) ⟨⟨rfl, rfl⟩, ⟨Nat.le_of_ble_eq_true rfl, Nat.le_of_ble_eq_true rfl⟩, Nat.le_of_ble_eq_true rfl, Nat.le_of_ble_eq_true rfl⟩ dX10_fit_221) (fun H locs S => ?_)
            refine lv_dup2_11 hx hb dX10_fit_224 rfl rfl ?_
            obtain ⟨v36, hv36, hf⟩ := g_s1 hf
            refine g_iald X S (by omega) (ceM_a (rfl : gma 1 = true)) hv36 dX10_fit_225 ?_
            refine lv_iload hx hb dX10_fit_226 (lv_at hl 0 rfl) ?_
            refine lv_iadd hx hb dX10_fit_228 ?_
            obtain ⟨σ37, hσ37, hf⟩ := g_s1 hf
            refine g_iast X S (by omega) (ceM_a (rfl : gma 1 = true)) hσ37 dX10_fit_229 (fun H locs S => ?_)
            refine lv_iload hx hb dX10_fit_230 (lv_at hl 0 rfl) ?_
            cases hf
            exact g_reti X S rfl dX10_fit_232
          replace hf := hr33
          refine lv_icmp_le (tgt := 211) hx hb dX10_fit_197 (by decide) (fun c38 => ?_) (fun c38 => ?_)
          · have hf := (if_pos c38).symm.trans hf
            refine lv_iconst (v := (0 : Int32)) hx hb dX10_fit_211 (by decide) ?_
            cases hf
            exact J34 _ _ _ S (lv_sub hl [1, 2, 3] rfl)
          · have hf := (if_neg c38).symm.trans hf
            refine lv_iload_n hx hb dX10_fit_200 rfl (lv_at hl 0 rfl) ?_
            refine lv_aload_n hx hb dX10_fit_201 rfl (lv_at hl 1 rfl) ?_
            refine lv_iload_n hx hb dX10_fit_202 rfl (lv_at hl 2 rfl) ?_
            refine lv_iload_n hx hb dX10_fit_203 rfl (lv_at hl 3 rfl) ?_
            obtain ⟨v39, hv39, hf⟩ := g_s1 hf
            refine g_ki S (g_runV (rest := [.int r18]) X S (c_X10_end l hN  hv39 _) cvX10_end mlX10_71 (by omega) (ceM_10 _) rfl rfl rfl hl.1 (Nat.le_of_ble_eq_true rfl) ⟨⟨rfl, rfl⟩, ⟨Nat.le_of_ble_eq_true rfl, Nat.le_of_ble_eq_true rfl⟩, Nat.le_of_ble_eq_true rfl, Nat.le_of_ble_eq_true rfl⟩ dX10_fit_204) (fun H locs S => ?_)
            refine lv_isub hx hb dX10_fit_207 ?_
            refine lv_goto (tgt := 212) hx hb dX10_fit_208 (by decide) ?_
            cases hf
            exact J34 _ _ _ S (lv_sub hl [1, 2, 3] rfl)
        replace hf := hr14
        refine lv_icmp_ge (tgt := 112) hx hb dX10_fit_74 (by decide) (fun c40 => ?_) (fun c40 => ?_)
        · have hf := (if_pos c40).symm.trans hf
          cases hf
          exact J15 _ _ _ S (lv_sub hl [0, 1, 2, 3] rfl)
        · have hf := (if_neg c40).symm.trans hf
          refine lv_iload_n hx hb dX10_fit_77 rfl (lv_at hl 0 rfl) ?_
          refine lv_aload_n hx hb dX10_fit_78 rfl (lv_at hl 1 rfl) ?_
          refine lv_iload_n hx hb dX10_fit_79 rfl (lv_at hl 2 rfl) ?_
          refine lv_iload_n hx hb dX10_fit_80 rfl (lv_at hl 3 rfl) ?_
          refine lv_iconst (v := (1 : Int32)) hx hb dX10_fit_81 (by decide) ?_
          refine lv_iadd hx hb dX10_fit_82 ?_
          obtain ⟨v41, hv41, hf⟩ := g_s1 hf
          refine g_ki S (g_runV (rest := [.int x9]) X S (c_X10_first l hN  hv41 _) cvX10_first mlX10_113 (by omega) (ceM_10 _) rfl rfl rfl hl.1 (Nat.le_of_ble_eq_true rfl) ⟨⟨rfl, rfl⟩, ⟨Nat.le_of_ble_eq_true rfl, Nat.le_of_ble_eq_true rfl⟩, Nat.le_of_ble_eq_true rfl, Nat.le_of_ble_eq_true rfl⟩ dX10_fit_83) (fun H locs S => ?_)
          refine lv_aload_n hx hb dX10_fit_86 rfl (lv_at hl 1 rfl) ?_
          refine gfX10_7 X S hN dX10_fit_87 ?_
          refine lv_iconst (v := (3 : Int32)) hx hb dX10_fit_90 (by decide) ?_
          refine g_ialdC X S (by omega) (ceM_a (rfl : gma 1 = true)) 3 (by decide) (by decide) dX10_fit_91 ?_
          refine lv_isub hx hb dX10_fit_92 ?_
          refine lv_icmp_le (tgt := 112) hx hb dX10_fit_93 (by decide) (fun c42 => ?_) (fun c42 => ?_)
          · have hf := (if_pos c42).symm.trans hf
            cases hf
            exact J15 _ _ _ S (lv_sub hl [0, 1, 2, 3] rfl)
          · have hf := (if_neg c42).symm.trans hf
            refine lv_aload_n hx hb dX10_fit_96 rfl (lv_at hl 1 rfl) ?_
            refine lv_iload_n hx hb dX10_fit_97 rfl (lv_at hl 2 rfl) ?_
            refine lv_iload_n hx hb dX10_fit_98 rfl (lv_at hl 3 rfl) ?_
            refine lv_iconst (v := (1 : Int32)) hx hb dX10_fit_99 (by decide) ?_
            refine lv_iadd hx hb dX10_fit_100 ?_
            obtain ⟨v43, hv43, hf⟩ := g_s1 hf
            refine g_ki S (g_runV (rest := []) X S (c_X10_first l hN  hv43 _) cvX10_first mlX10_113 (by omega) (ceM_10 _) rfl rfl rfl hl.1 (Nat.le_of_ble_eq_true rfl) ⟨⟨rfl, rfl⟩, ⟨Nat.le_of_ble_eq_true rfl, Nat.le_of_ble_eq_true rfl⟩, Nat.le_of_ble_eq_true rfl, Nat.le_of_ble_eq_true rfl⟩ dX10_fit_101) (fun H locs S => ?_)
            refine lv_aload_n hx hb dX10_fit_104 rfl (lv_at hl 1 rfl) ?_
            refine gfX10_7 X S hN dX10_fit_105 ?_
            refine lv_iconst (v := (3 : Int32)) hx hb dX10_fit_108 (by decide) ?_
            refine g_ialdC X S (by omega) (ceM_a (rfl : gma 1 = true)) 3 (by decide) (by decide) dX10_fit_109 ?_
            refine lv_isub hx hb dX10_fit_110 ?_
            refine lv_istore_n (lv' := [(3, .int (v43 - (σ5 1 3))), (0, .ref (ad 0)), (1, .int a0), (2, .int a1)]) hx hb dX10_fit_111 rfl hl (by decide) rfl (fun ls hl => ?_)
            cases hf
            exact J15 _ _ _ S (lv_sub hl [0, 1, 2, 3] rfl)
      replace hf := hr10
      refine lv_icmp_le (tgt := 60) hx hb dX10_fit_48 (by decide) (fun c44 => ?_) (fun c44 => ?_)
      · have hf := (if_pos c44).symm.trans hf
        refine lv_iload_n hx hb dX10_fit_60 rfl (lv_at hl 0 rfl) ?_
        cases hf
        exact J11 _ _ _ S (lv_sub hl [1, 2, 3] rfl)
      · have hf := (if_neg c44).symm.trans hf
        refine lv_aload_n hx hb dX10_fit_51 rfl (lv_at hl 1 rfl) ?_
        refine gfX10_7 X S hN dX10_fit_52 ?_
        refine lv_iconst (v := (0 : Int32)) hx hb dX10_fit_55 (by decide) ?_
        refine g_ialdC X S (by omega) (ceM_a (rfl : gma 1 = true)) 0 (by decide) (by decide) dX10_fit_56 ?_
        refine lv_goto (tgt := 61) hx hb dX10_fit_57 (by decide) ?_
        cases hf
        exact J11 _ _ _ S (lv_sub hl [1, 2, 3] rfl)
    · have hf := (if_neg c6).symm.trans hf
      refine lv_iconst (v := (0 : Int32)) hx hb dX10_fit_25 (by decide) ?_
      cases hf
      exact g_reti X S rfl dX10_fit_26
  replace hf := hr3
  refine lv_if_eq (tgt := 14) hx hb dX10_fit_7 (by decide) (fun c45 => ?_) (fun c45 => ?_)
  · have hf := (if_pos c45).symm.trans hf
    refine lv_iconst (v := (1 : Int32)) hx hb dX10_fit_14 (by decide) ?_
    cases hf
    exact J4 _ _ _ S (lv_sub hl [0, 1, 2] rfl)
  · have hf := (if_neg c45).symm.trans hf
    refine lv_iconst (v := (0 : Int32)) hx hb dX10_fit_10 (by decide) ?_
    refine lv_goto (tgt := 15) hx hb dX10_fit_11 (by decide) ?_
    cases hf
    exact J4 _ _ _ S (lv_sub hl [0, 1, 2] rfl)

noncomputable def f_X10_floor (σ : gSt) (a0 : Int32) (a1 : Int32) : Option (Int32) :=
  (g_k1 (if a0 < 0 then (g_k1 (gdiv ((a1 - (1 : Int32)) - a0) a1) fun _ => some (-(((a1 - (1 : Int32)) - a0) / a1))) else (g_k1 (gdiv a0 a1) fun _ => some (a0 / a1))) fun x1 => some x1)
set_option maxRecDepth 100000 in
set_option maxHeartbeats 4000000 in
theorem c_X10_floor (l : Launch) {Γ : gG} {ad : Nat → Nat} {N : Nat} (hN : 8 ≤ N) {σ : gSt} {a0 : Int32} {a1 : Int32}  {r : Int32} (hf : f_X10_floor σ a0 a1 = some r) : gMi l celM Γ ad N yX10_floor cX10_floor 2 (some .int) (gR 1 0 0) [.int a0, .int a1] σ r σ := by
  intro sz
  refine gOf (Qc := fun sz => gQci celM Γ ad N r σ sz) RX10 (by decide) rfl (Nat.le_of_ble_eq_true rfl) (fun p e s m args below meth c H locs ls X S hl => ?_)
  have hl : lv_has ls 2 [(0, .int a0), (1, .int a1)] := hl
  have hx := X.1
  have hb := X.2.1
  unfold f_X10_floor at hf
  refine lv_iload_n hx hb dX10_floor_0 rfl (lv_at hl 0 rfl) ?_
  obtain ⟨x1, hr2, hf⟩ := g_s1 hf
  have J3 : ∀ (H : Heap) (locs : List Loc) (ls : Array Slot), gS celM Γ ad N σ s H locs → lv_has ls 2 [] → W p l e (gR 1 0 0) s m args below meth c H locs 0 0 (gQi celM Γ ad N r σ below args s) (F0 m 18 ls [.int x1]) := by
    intro H locs ls S hl
    cases hf
    exact g_reti X S rfl dX10_floor_18
  replace hf := hr2
  refine lv_if_lt (tgt := 10) hx hb dX10_floor_1 (by decide) (fun c4 => ?_) (fun c4 => ?_)
  · have hf := (if_pos c4).symm.trans hf
    refine lv_iload_n hx hb dX10_floor_10 rfl (lv_at hl 1 rfl) ?_
    refine lv_iconst (v := (1 : Int32)) hx hb dX10_floor_11 (by decide) ?_
    refine lv_isub hx hb dX10_floor_12 ?_
    refine lv_iload_n hx hb dX10_floor_13 rfl (lv_at hl 0 rfl) ?_
    refine lv_isub hx hb dX10_floor_14 ?_
    refine lv_iload_n hx hb dX10_floor_15 rfl (lv_at hl 1 rfl) ?_
    obtain ⟨v5, hv5, hf⟩ := g_s1 hf
    obtain ⟨hzv5, rfl⟩ := gdiv_some hv5
    refine lv_idiv hx hb dX10_floor_16 hzv5 ?_
    refine lv_ineg hx hb dX10_floor_17 ?_
    cases hf
    exact J3 _ _ _ S (lv_sub hl [] rfl)
  · have hf := (if_neg c4).symm.trans hf
    refine lv_iload_n hx hb dX10_floor_4 rfl (lv_at hl 0 rfl) ?_
    refine lv_iload_n hx hb dX10_floor_5 rfl (lv_at hl 1 rfl) ?_
    obtain ⟨v6, hv6, hf⟩ := g_s1 hf
    obtain ⟨hzv6, rfl⟩ := gdiv_some hv6
    refine lv_idiv hx hb dX10_floor_6 hzv6 ?_
    refine lv_goto (tgt := 18) hx hb dX10_floor_7 (by decide) ?_
    cases hf
    exact J3 _ _ _ S (lv_sub hl [] rfl)

noncomputable def f_X10_retimed (σ : gSt) (a0 : Int32) (a1 : Int32) (a2 : Int32) (a3 : Int32) (a4 : Int32) : Option (Int32) :=
  (g_k1 (if (a3 - a1) ≤ 0 then (g_k1 (f_X10_floor σ (((-2 : Int32) * ((a0 - a1) * (a4 - a2))) - (a3 - a1)) ((-2 : Int32) * (a3 - a1))) fun v5 => some (a2 + v5)) else (g_k1 (f_X10_floor σ (((2 : Int32) * ((a0 - a1) * (a4 - a2))) + (a3 - a1)) ((2 : Int32) * (a3 - a1))) fun v6 => some (a2 + v6))) fun x1 => some x1)
set_option maxRecDepth 100000 in
set_option maxHeartbeats 4000000 in
theorem c_X10_retimed (l : Launch) {Γ : gG} {ad : Nat → Nat} {N : Nat} (hN : 8 ≤ N) {σ : gSt} {a0 : Int32} {a1 : Int32} {a2 : Int32} {a3 : Int32} {a4 : Int32}  {r : Int32} (hf : f_X10_retimed σ a0 a1 a2 a3 a4 = some r) : gMi l celM Γ ad N yX10_retimed cX10_retimed 7 (some .int) (gR 2 0 0) [.int a0, .int a1, .int a2, .int a3, .int a4] σ r σ := by
  intro sz
  refine gOf (Qc := fun sz => gQci celM Γ ad N r σ sz) RX10 (by decide) rfl (Nat.le_of_ble_eq_true rfl) (fun p e s m args below meth c H locs ls X S hl => ?_)
  have hl : lv_has ls 7 [(0, .int a0), (1, .int a1), (2, .int a2), (3, .int a3), (4, .int a4)] := hl
  have hx := X.1
  have hb := X.2.1
  unfold f_X10_retimed at hf
  refine lv_iload_n hx hb dX10_retimed_0 rfl (lv_at hl 0 rfl) ?_
  refine lv_iload_n hx hb dX10_retimed_1 rfl (lv_at hl 1 rfl) ?_
  refine lv_isub hx hb dX10_retimed_2 ?_
  refine lv_iload hx hb dX10_retimed_3 (lv_at hl 4 rfl) ?_
  refine lv_iload_n hx hb dX10_retimed_5 rfl (lv_at hl 2 rfl) ?_
  refine lv_isub hx hb dX10_retimed_6 ?_
  refine lv_imul hx hb dX10_retimed_7 ?_
  refine lv_istore (lv' := [(5, .int ((a0 - a1) * (a4 - a2))), (0, .int a0), (1, .int a1), (2, .int a2), (3, .int a3), (4, .int a4)]) hx hb dX10_retimed_8 hl (by decide) rfl (fun ls hl => ?_)
  refine lv_iload_n hx hb dX10_retimed_10 rfl (lv_at hl 4 rfl) ?_
  refine lv_iload_n hx hb dX10_retimed_11 rfl (lv_at hl 2 rfl) ?_
  refine lv_isub hx hb dX10_retimed_12 ?_
  refine lv_istore (lv' := [(6, .int (a3 - a1)), (5, .int ((a0 - a1) * (a4 - a2))), (0, .int a0), (1, .int a1), (2, .int a2), (3, .int a3), (4, .int a4)]) hx hb dX10_retimed_13 hl (by decide) rfl (fun ls hl => ?_)
  refine lv_iload hx hb dX10_retimed_15 (lv_at hl 0 rfl) ?_
  obtain ⟨x1, hr2, hf⟩ := g_s1 hf
  have J3 : ∀ (H : Heap) (locs : List Loc) (ls : Array Slot), gS celM Γ ad N σ s H locs → lv_has ls 7 [] → W p l e (gR 2 0 0) s m args below meth c H locs 0 0 (gQi celM Γ ad N r σ below args s) (F0 m 57 ls [.int x1]) := by
    intro H locs ls S hl
    cases hf
    exact g_reti X S rfl dX10_retimed_57
  replace hf := hr2
  refine lv_if_le (tgt := 39) hx hb dX10_retimed_17 (by decide) (fun c4 => ?_) (fun c4 => ?_)
  · have hf := (if_pos c4).symm.trans hf
    refine lv_iload_n hx hb dX10_retimed_39 rfl (lv_at hl 4 rfl) ?_
    refine lv_bipush (v := (-2 : Int32)) hx hb dX10_retimed_40 (by decide) ?_
    refine lv_iload hx hb dX10_retimed_42 (lv_at hl 1 rfl) ?_
    refine lv_imul hx hb dX10_retimed_44 ?_
    refine lv_iload hx hb dX10_retimed_45 (lv_at hl 0 rfl) ?_
    refine lv_isub hx hb dX10_retimed_47 ?_
    refine lv_bipush (v := (-2 : Int32)) hx hb dX10_retimed_48 (by decide) ?_
    refine lv_iload hx hb dX10_retimed_50 (lv_at hl 0 rfl) ?_
    refine lv_imul hx hb dX10_retimed_52 ?_
    obtain ⟨v5, hv5, hf⟩ := g_s1 hf
    refine g_ki S (g_runS (rest := [.int a2]) X S (c_X10_floor l hN  hv5 _) csX10_floor mlX10_178 rfl rfl hl.1 (Nat.le_of_ble_eq_true rfl) ⟨⟨rfl, rfl⟩, ⟨Nat.le_of_ble_eq_true rfl, Nat.le_of_ble_eq_true rfl⟩, Nat.le_of_ble_eq_true rfl, Nat.le_of_ble_eq_true rfl⟩ dX10_retimed_53) (fun H locs S => ?_)
    refine lv_iadd hx hb dX10_retimed_56 ?_
    cases hf
    exact J3 _ _ _ S (lv_sub hl [] rfl)
  · have hf := (if_neg c4).symm.trans hf
    refine lv_iload_n hx hb dX10_retimed_20 rfl (lv_at hl 4 rfl) ?_
    refine lv_iconst (v := (2 : Int32)) hx hb dX10_retimed_21 (by decide) ?_
    refine lv_iload hx hb dX10_retimed_22 (lv_at hl 1 rfl) ?_
    refine lv_imul hx hb dX10_retimed_24 ?_
    refine lv_iload hx hb dX10_retimed_25 (lv_at hl 0 rfl) ?_
    refine lv_iadd hx hb dX10_retimed_27 ?_
    refine lv_iconst (v := (2 : Int32)) hx hb dX10_retimed_28 (by decide) ?_
    refine lv_iload hx hb dX10_retimed_29 (lv_at hl 0 rfl) ?_
    refine lv_imul hx hb dX10_retimed_31 ?_
    obtain ⟨v6, hv6, hf⟩ := g_s1 hf
    refine g_ki S (g_runS (rest := [.int a2]) X S (c_X10_floor l hN  hv6 _) csX10_floor mlX10_178 rfl rfl hl.1 (Nat.le_of_ble_eq_true rfl) ⟨⟨rfl, rfl⟩, ⟨Nat.le_of_ble_eq_true rfl, Nat.le_of_ble_eq_true rfl⟩, Nat.le_of_ble_eq_true rfl, Nat.le_of_ble_eq_true rfl⟩ dX10_retimed_32) (fun H locs S => ?_)
    refine lv_iadd hx hb dX10_retimed_35 ?_
    refine lv_goto (tgt := 57) hx hb dX10_retimed_36 (by decide) ?_
    cases hf
    exact J3 _ _ _ S (lv_sub hl [] rfl)

