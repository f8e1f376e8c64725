noncomputable def f_X10_retime_l2 (a0 : Int32) (a1 : Int32) (a2 : Int32) (a3 : Int32) (a4 : Int32) (σ5 : gSt) (i7 : Int32) : Nat → Int32 → Int32 → Option (Int32)
  | 0, _, _ => none
  | n + 1, i11, i12 => (g_k1 (gald σ5 1 926 ((28 : Int32) + i7)) fun v14 => (if v14 ≤ i11 then some i12 else (if a0 < 0 then (g_k1 (f_X10_first σ5 i7 i11) fun v17 => (g_k1 (f_X10_retimed σ5 v17 a1 a2 a3 a4) fun v18 => (g_k1 (f_X10_end σ5 i7 i11) fun v19 => (g_k1 (f_X10_retimed σ5 v19 a1 a2 a3 a4) fun v20 => (g_k1 (if v18 < 0 then some (1 : Int32) else (if v20 ≤ (σ5 1 0) then (if v18 < v20 then some (0 : Int32) else some (2 : Int32)) else some (1 : Int32))) fun x21 => (g_k1 (if x21 ≤ 0 then some i12 else (if i12 = 0 then some x21 else (if i12 ≤ x21 then some i12 else some x21))) fun x24 => (f_X10_retime_l2 a0 a1 a2 a3 a4 σ5 i7 n (i11 + 1) x24))))))) else (if a0 = i7 then (g_k1 (f_X10_first σ5 i7 i11) fun v34 => (g_k1 (f_X10_retimed σ5 v34 a1 a2 a3 a4) fun v35 => (g_k1 (f_X10_end σ5 i7 i11) fun v36 => (g_k1 (f_X10_retimed σ5 v36 a1 a2 a3 a4) fun v37 => (g_k1 (if v35 < 0 then some (1 : Int32) else (if v37 ≤ (σ5 1 0) then (if v35 < v37 then some (0 : Int32) else some (2 : Int32)) else some (1 : Int32))) fun x38 => (g_k1 (if x38 ≤ 0 then some i12 else (if i12 = 0 then some x38 else (if i12 ≤ x38 then some i12 else some x38))) fun x41 => (f_X10_retime_l2 a0 a1 a2 a3 a4 σ5 i7 n (i11 + 1) x41))))))) else some i12))))
set_option maxRecDepth 100000 in
set_option maxHeartbeats 4000000 in
theorem w_X10_retime_l2 {l : Launch} {Γ : gG} {ad : Nat → Nat} {N : Nat} {p : Program} {e : Env} {s : State} {m : MethodId} {args : Array Value} {below : List Frame} {meth : Method} {c : Code} {Q : State → Prop} (hN : 8 ≤ N) (X : gX celM Γ ad N RX10 cX10_retime 12 (some .int) p s m args meth c) {a0 : Int32} {a1 : Int32} {a2 : Int32} {a3 : Int32} {a4 : Int32} {σ5 : gSt} {i7 : Int32}  : ∀ (n : Nat) (i11 : Int32) (i12 : Int32) (r13 : Int32), f_X10_retime_l2 a0 a1 a2 a3 a4 σ5 i7 n i11 i12 = some r13 → (∀ (H : Heap) (locs : List Loc) (ls : Array Slot), gS celM Γ ad N σ5 s H locs → lv_has ls 12 [(7, .int i7), (6, .int r13), (0, .ref (ad 0)), (1, .int a0), (2, .int a1), (3, .int a2), (4, .int a3), (5, .int a4)] → W p l e (gR 3 0 0) s m args below meth c H locs 0 0 (Q) (F0 m 258 ls [])) → ∀ (H : Heap) (locs : List Loc) (ls : Array Slot), gS celM Γ ad N σ5 s H locs → lv_has ls 12 [(8, .int i11), (7, .int i7), (6, .int i12), (0, .ref (ad 0)), (1, .int a0), (2, .int a1), (3, .int a2), (4, .int a3), (5, .int a4)] → W p l e (gR 3 0 0) s m args below meth c H locs 0 0 (Q) (F0 m 129 ls []) := by
  have hx := X.1
  have hb := X.2.1
  intro n
  induction n with
  | zero =>
    intro i11 i12 r13 hf
    cases hf
  | succ n ih =>
    intro i11 i12 r13 hf J H locs ls S hl
    rw [f_X10_retime_l2] at hf
    refine lv_iload hx hb dX10_retime_129 (lv_at hl 0 rfl) ?_
    refine lv_aload_n hx hb dX10_retime_131 rfl (lv_at hl 3 rfl) ?_
    refine gfX10_7 X S hN dX10_retime_132 ?_
    refine lv_bipush (v := (28 : Int32)) hx hb dX10_retime_135 (by decide) ?_
    refine lv_iload hx hb dX10_retime_137 (lv_at hl 1 rfl) ?_
    refine lv_iadd hx hb dX10_retime_139 ?_
    obtain ⟨v14, hv14, hf⟩ := g_s1 hf
    refine g_iald X S (by omega) (ceM_a (rfl : gma 1 = true)) hv14 dX10_retime_140 ?_
    refine lv_icmp_ge (tgt := 258) hx hb dX10_retime_141 (by decide) (fun c15 => ?_) (fun c15 => ?_)
    · have hf := (if_pos c15).symm.trans hf
      cases hf
      exact J _ _ _ S (lv_sub hl [1, 2, 3, 4, 5, 6, 7, 8] rfl)
    · have hf := (if_neg c15).symm.trans hf
      refine lv_iload_n hx hb dX10_retime_144 rfl (lv_at hl 4 rfl) ?_
      refine lv_if_lt (tgt := 154) hx hb dX10_retime_145 (by decide) (fun c16 => ?_) (fun c16 => ?_)
      · have hf := (if_pos c16).symm.trans hf
        refine lv_aload_n hx hb dX10_retime_154 rfl (lv_at hl 3 rfl) ?_
        refine lv_iload hx hb dX10_retime_155 (lv_at hl 1 rfl) ?_
        refine lv_iload hx hb dX10_retime_157 (lv_at hl 0 rfl) ?_
        obtain ⟨v17, hv17, hf⟩ := g_s1 hf
        refine g_ki S (g_runV (rest := []) X S (c_X10_first l hN  hv17 _) cvX10_first mlX10_113 (by omega) (ceM_10 _) rfl rfl rfl hl.1 (Nat.le_of_ble_eq_true rfl) ⟨⟨rfl, rfl⟩, ⟨Nat.le_of_ble_eq_true rfl, Nat.le_of_ble_eq_true rfl⟩, Nat.le_of_ble_eq_true rfl, Nat.le_of_ble_eq_true rfl⟩ dX10_retime_159) (fun H locs S => ?_)
        refine lv_iload_n hx hb dX10_retime_162 rfl (lv_at hl 5 rfl) ?_
        refine lv_iload_n hx hb dX10_retime_163 rfl (lv_at hl 6 rfl) ?_
        refine lv_iload hx hb dX10_retime_164 (lv_at hl 7 rfl) ?_
        refine lv_iload hx hb dX10_retime_166 (lv_at hl 8 rfl) ?_
        obtain ⟨v18, hv18, hf⟩ := g_s1 hf
        refine g_ki S (g_runS (rest := []) X S (c_X10_retimed l hN  hv18 _) csX10_retimed mlX10_181 rfl rfl hl.1 (Nat.le_of_ble_eq_true rfl) ⟨⟨rfl, rfl⟩, ⟨Nat.le_of_ble_eq_true rfl, Nat.le_of_ble_eq_true rfl⟩, Nat.le_of_ble_eq_true rfl, Nat.le_of_ble_eq_true rfl⟩ dX10_retime_168) (fun H locs S => ?_)
        refine lv_istore (lv' := [(9, .int v18), (8, .int i11), (7, .int i7), (6, .int i12), (0, .ref (ad 0)), (1, .int a0), (2, .int a1), (3, .int a2), (4, .int a3), (5, .int a4)]) hx hb dX10_retime_171 hl (by decide) rfl (fun ls hl => ?_)
        refine lv_aload_n hx hb dX10_retime_173 rfl (lv_at hl 4 rfl) ?_
        refine lv_iload hx hb dX10_retime_174 (lv_at hl 2 rfl) ?_
        refine lv_iload hx hb dX10_retime_176 (lv_at hl 1 rfl) ?_
        obtain ⟨v19, hv19, hf⟩ := g_s1 hf
        refine g_ki S (g_runV (rest := []) X S (c_X10_end l hN  hv19 _) cvX10_end mlX10_71 (by omega) (ceM_10 _) rfl rfl rfl hl.1 (Nat.le_of_ble_eq_true rfl) ⟨⟨rfl, rfl⟩, ⟨Nat.le_of_ble_eq_true rfl, Nat.le_of_ble_eq_true rfl⟩, Nat.le_of_ble_eq_true rfl, Nat.le_of_ble_eq_true rfl⟩ dX10_retime_178) (fun H locs S => ?_)
        refine lv_iload_n hx hb dX10_retime_181 rfl (lv_at hl 6 rfl) ?_
        refine lv_iload_n hx hb dX10_retime_182 rfl (lv_at hl 7 rfl) ?_
        refine lv_iload hx hb dX10_retime_183 (lv_at hl 8 rfl) ?_
        refine lv_iload hx hb dX10_retime_185 (lv_at hl 9 rfl) ?_
        obtain ⟨v20, hv20, hf⟩ := g_s1 hf
        refine g_ki S (g_runS (rest := []) X S (c_X10_retimed l hN  hv20 _) csX10_retimed mlX10_181 rfl rfl hl.1 (Nat.le_of_ble_eq_true rfl) ⟨⟨rfl, rfl⟩, ⟨Nat.le_of_ble_eq_true rfl, Nat.le_of_ble_eq_true rfl⟩, Nat.le_of_ble_eq_true rfl, Nat.le_of_ble_eq_true rfl⟩ dX10_retime_187) (fun H locs S => ?_)
        refine lv_istore (lv' := [(10, .int v20), (9, .int v18), (8, .int i11), (7, .int i7), (6, .int i12), (0, .ref (ad 0)), (1, .int a0), (2, .int a1), (3, .int a2), (4, .int a3), (5, .int a4)]) hx hb dX10_retime_190 hl (by decide) rfl (fun ls hl => ?_)
        refine lv_iload hx hb dX10_retime_192 (lv_at hl 1 rfl) ?_
        obtain ⟨x21, hr22, hf⟩ := g_s1 hf
        have J23 : ∀ (H : Heap) (locs : List Loc) (ls : Array Slot), gS celM Γ ad N σ5 s H locs → lv_has ls 12 [(8, .int i11), (7, .int i7), (6, .int i12), (0, .ref (ad 0)), (1, .int a0), (2, .int a1), (3, .int a2), (4, .int a3), (5, .int a4)] → W p l e (gR 3 0 0) s m args below meth c H locs 0 0 (Q) (F0 m 224 ls [.int x21]) := by
          intro H locs ls S hl
          refine lv_istore (lv' := [(11, .int x21), (8, .int i11), (7, .int i7), (6, .int i12), (0, .ref (ad 0)), (1, .int a0), (2, .int a1), (3, .int a2), (4, .int a3), (5, .int a4)]) hx hb dX10_retime_224 hl (by decide) rfl (fun ls hl => ?_)
          refine lv_iload hx hb dX10_retime_226 (lv_at hl 0 rfl) ?_
          obtain ⟨x24, hr25, hf⟩ := g_s1 hf
          have J26 : ∀ (H : Heap) (locs : List Loc) (ls : Array Slot), gS celM Γ ad N σ5 s H locs → lv_has ls 12 [(8, .int i11), (7, .int i7), (0, .ref (ad 0)), (1, .int a0), (2, .int a1), (3, .int a2), (4, .int a3), (5, .int a4)] → W p l e (gR 3 0 0) s m args below meth c H locs 0 0 (Q) (F0 m 250 ls [.int x24]) := by
            intro H locs ls S hl
            refine lv_istore (lv' := [(6, .int x24), (8, .int i11), (7, .int i7), (0, .ref (ad 0)), (1, .int a0), (2, .int a1), (3, .int a2), (4, .int a3), (5, .int a4)]) hx hb dX10_retime_250 hl (by decide) rfl (fun ls hl => ?_)
            refine lv_iinc (v := (i11 + 1)) (lv' := [(8, .int (i11 + 1)), (6, .int x24), (7, .int i7), (0, .ref (ad 0)), (1, .int a0), (2, .int a1), (3, .int a2), (4, .int a3), (5, .int a4)]) hx hb dX10_retime_252 hl (k := 1) rfl rfl (by decide) rfl (fun ls hl => ?_)
            refine lv_goto (tgt := 129) hx hb dX10_retime_255 (by decide) ?_
            exact ih _ _ _  hf J _ _ _ S (lv_sub hl [0, 2, 1, 3, 4, 5, 6, 7, 8] rfl)
          replace hf := hr25
          refine lv_if_le (tgt := 248) hx hb dX10_retime_228 (by decide) (fun c27 => ?_) (fun c27 => ?_)
          · have hf := (if_pos c27).symm.trans hf
            refine lv_iload hx hb dX10_retime_248 (lv_at hl 3 rfl) ?_
            cases hf
            exact J26 _ _ _ S (lv_sub hl [1, 2, 4, 5, 6, 7, 8, 9] rfl)
          · have hf := (if_neg c27).symm.trans hf
            refine lv_iload hx hb dX10_retime_231 (lv_at hl 3 rfl) ?_
            refine lv_if_eq (tgt := 243) hx hb dX10_retime_233 (by decide) (fun c28 => ?_) (fun c28 => ?_)
            · have hf := (if_pos c28).symm.trans hf
              refine lv_iload hx hb dX10_retime_243 (lv_at hl 0 rfl) ?_
              refine lv_goto (tgt := 250) hx hb dX10_retime_245 (by decide) ?_
              cases hf
              exact J26 _ _ _ S (lv_sub hl [1, 2, 4, 5, 6, 7, 8, 9] rfl)
            · have hf := (if_neg c28).symm.trans hf
              refine lv_iload hx hb dX10_retime_236 (lv_at hl 0 rfl) ?_
              refine lv_iload hx hb dX10_retime_238 (lv_at hl 3 rfl) ?_
              refine lv_icmp_ge (tgt := 248) hx hb dX10_retime_240 (by decide) (fun c29 => ?_) (fun c29 => ?_)
              · have hf := (if_pos c29).symm.trans hf
                refine lv_iload hx hb dX10_retime_248 (lv_at hl 3 rfl) ?_
                cases hf
                exact J26 _ _ _ S (lv_sub hl [1, 2, 4, 5, 6, 7, 8, 9] rfl)
              · have hf := (if_neg c29).symm.trans hf
                refine lv_iload hx hb dX10_retime_243 (lv_at hl 0 rfl) ?_
                refine lv_goto (tgt := 250) hx hb dX10_retime_245 (by decide) ?_
                cases hf
                exact J26 _ _ _ S (lv_sub hl [1, 2, 4, 5, 6, 7, 8, 9] rfl)
        replace hf := hr22
        refine lv_if_lt (tgt := 208) hx hb dX10_retime_194 (by decide) (fun c30 => ?_) (fun c30 => ?_)
        · have hf := (if_pos c30).symm.trans hf
          refine lv_iconst (v := (1 : Int32)) hx hb dX10_retime_208 (by decide) ?_
          refine lv_goto (tgt := 224) hx hb dX10_retime_209 (by decide) ?_
          cases hf
          exact J23 _ _ _ S (lv_sub hl [2, 3, 4, 5, 6, 7, 8, 9, 10] rfl)
        · have hf := (if_neg c30).symm.trans hf
          refine lv_iload hx hb dX10_retime_197 (lv_at hl 0 rfl) ?_
          refine lv_aload_n hx hb dX10_retime_199 rfl (lv_at hl 5 rfl) ?_
          refine gfX10_7 X S hN dX10_retime_200 ?_
          refine lv_iconst (v := (0 : Int32)) hx hb dX10_retime_203 (by decide) ?_
          refine g_ialdC X S (by omega) (ceM_a (rfl : gma 1 = true)) 0 (by decide) (by decide) dX10_retime_204 ?_
          refine lv_icmp_le (tgt := 212) hx hb dX10_retime_205 (by decide) (fun c31 => ?_) (fun c31 => ?_)
          · have hf := (if_pos c31).symm.trans hf
            refine lv_iload hx hb dX10_retime_212 (lv_at hl 1 rfl) ?_
            refine lv_iload hx hb dX10_retime_214 (lv_at hl 0 rfl) ?_
            refine lv_icmp_lt (tgt := 223) hx hb dX10_retime_216 (by decide) (fun c32 => ?_) (fun c32 => ?_)
            · have hf := (if_pos c32).symm.trans hf
              refine lv_iconst (v := (0 : Int32)) hx hb dX10_retime_223 (by decide) ?_
              cases hf
              exact J23 _ _ _ S (lv_sub hl [2, 3, 4, 5, 6, 7, 8, 9, 10] rfl)
            · have hf := (if_neg c32).symm.trans hf
              refine lv_iconst (v := (2 : Int32)) hx hb dX10_retime_219 (by decide) ?_
              refine lv_goto (tgt := 224) hx hb dX10_retime_220 (by decide) ?_
              cases hf
              exact J23 _ _ _ S (lv_sub hl [2, 3, 4, 5, 6, 7, 8, 9, 10] rfl)
          · have hf := (if_neg c31).symm.trans hf
            refine lv_iconst (v := (1 : Int32)) hx hb dX10_retime_208 (by decide) ?_
            refine lv_goto (tgt := 224) hx hb dX10_retime_209 (by decide) ?_
            cases hf
            exact J23 _ _ _ S (lv_sub hl [2, 3, 4, 5, 6, 7, 8, 9, 10] rfl)
      · have hf := (if_neg c16).symm.trans hf
        refine lv_iload_n hx hb dX10_retime_148 rfl (lv_at hl 4 rfl) ?_
        refine lv_iload hx hb dX10_retime_149 (lv_at hl 1 rfl) ?_
        refine lv_icmp_ne (tgt := 258) hx hb dX10_retime_151 (by decide) (fun c33 => ?_) (fun c33 => ?_)
        · have hf := (if_neg c33).symm.trans hf
          cases hf
          exact J _ _ _ S (lv_sub hl [1, 2, 3, 4, 5, 6, 7, 8] rfl)
        · have hf := (if_pos c33).symm.trans hf
          refine lv_aload_n hx hb dX10_retime_154 rfl (lv_at hl 3 rfl) ?_
          refine lv_iload hx hb dX10_retime_155 (lv_at hl 1 rfl) ?_
          refine lv_iload hx hb dX10_retime_157 (lv_at hl 0 rfl) ?_
          obtain ⟨v34, hv34, hf⟩ := g_s1 hf
          refine g_ki S (g_runV (rest := []) X S (c_X10_first l hN  hv34 _) cvX10_first mlX10_113 (by omega) (ceM_10 _) rfl rfl rfl hl.1 (Nat.le_of_ble_eq_true rfl) ⟨⟨rfl, rfl⟩, ⟨Nat.le_of_ble_eq_true rfl, Nat.le_of_ble_eq_true rfl⟩, Nat.le_of_ble_eq_true rfl, Nat.le_of_ble_eq_true rfl⟩ dX10_retime_159) (fun H locs S => ?_)
          refine lv_iload_n hx hb dX10_retime_162 rfl (lv_at hl 5 rfl) ?_
          refine lv_iload_n hx hb dX10_retime_163 rfl (lv_at hl 6 rfl) ?_
          refine lv_iload hx hb dX10_retime_164 (lv_at hl 7 rfl) ?_
          refine lv_iload hx hb dX10_retime_166 (lv_at hl 8 rfl) ?_
          obtain ⟨v35, hv35, hf⟩ := g_s1 hf
          refine g_ki S (g_runS (rest := []) X S (c_X10_retimed l hN  hv35 _) csX10_retimed mlX10_181 rfl rfl hl.1 (Nat.le_of_ble_eq_true rfl) ⟨⟨rfl, rfl⟩, ⟨Nat.le_of_ble_eq_true rfl, Nat.le_of_ble_eq_true rfl⟩, Nat.le_of_ble_eq_true rfl, Nat.le_of_ble_eq_true rfl⟩ dX10_retime_168) (fun H locs S => ?_)
          refine lv_istore (lv' := [(9, .int v35), (8, .int i11), (7, .int i7), (6, .int i12), (0, .ref (ad 0)), (1, .int a0), (2, .int a1), (3, .int a2), (4, .int a3), (5, .int a4)]) hx hb dX10_retime_171 hl (by decide) rfl (fun ls hl => ?_)
          refine lv_aload_n hx hb dX10_retime_173 rfl (lv_at hl 4 rfl) ?_
          refine lv_iload hx hb dX10_retime_174 (lv_at hl 2 rfl) ?_
          refine lv_iload hx hb dX10_retime_176 (lv_at hl 1 rfl) ?_
          obtain ⟨v36, hv36, hf⟩ := g_s1 hf
          refine g_ki S (g_runV (rest := []) X S (c_X10_end l hN  hv36 _) cvX10_end mlX10_71 (by omega) (ceM_10 _) rfl rfl rfl hl.1 (Nat.le_of_ble_eq_true rfl) ⟨⟨rfl, rfl⟩, ⟨Nat.le_of_ble_eq_true rfl, Nat.le_of_ble_eq_true rfl⟩, Nat.le_of_ble_eq_true rfl, Nat.le_of_ble_eq_true rfl⟩ dX10_retime_178) (fun H locs S => ?_)
          refine lv_iload_n hx hb dX10_retime_181 rfl (lv_at hl 6 rfl) ?_
          refine lv_iload_n hx hb dX10_retime_182 rfl (lv_at hl 7 rfl) ?_
          refine lv_iload hx hb dX10_retime_183 (lv_at hl 8 rfl) ?_
          refine lv_iload hx hb dX10_retime_185 (lv_at hl 9 rfl) ?_
          obtain ⟨v37, hv37, hf⟩ := g_s1 hf
          refine g_ki S (g_runS (rest := []) X S (c_X10_retimed l hN  hv37 _) csX10_retimed mlX10_181 rfl rfl hl.1 (Nat.le_of_ble_eq_true rfl) ⟨⟨rfl, rfl⟩, ⟨Nat.le_of_ble_eq_true rfl, Nat.le_of_ble_eq_true rfl⟩, Nat.le_of_ble_eq_true rfl, Nat.le_of_ble_eq_true rfl⟩ dX10_retime_187) (fun H locs S => ?_)
          refine lv_istore (lv' := [(10, .int v37), (9, .int v35), (8, .int i11), (7, .int i7), (6, .int i12), (0, .ref (ad 0)), (1, .int a0), (2, .int a1), (3, .int a2), (4, .int a3), (5, .int a4)]) hx hb dX10_retime_190 hl (by decide) rfl (fun ls hl => ?_)
          refine lv_iload hx hb dX10_retime_192 (lv_at hl 1 rfl) ?_
          obtain ⟨x38, hr39, hf⟩ := g_s1 hf
          have J40 : ∀ (H : Heap) (locs : List Loc) (ls : Array Slot), gS celM Γ ad N σ5 s H locs → lv_has ls 12 [(8, .int i11), (7, .int i7), (6, .int i12), (0, .ref (ad 0)), (1, .int a0), (2, .int a1), (3, .int a2), (4, .int a3), (5, .int a4)] → W p l e (gR 3 0 0) s m args below meth c H locs 0 0 (Q) (F0 m 224 ls [.int x38]) := by
            intro H locs ls S hl
            refine lv_istore (lv' := [(11, .int x38), (8, .int i11), (7, .int i7), (6, .int i12), (0, .ref (ad 0)), (1, .int a0), (2, .int a1), (3, .int a2), (4, .int a3), (5, .int a4)]) hx hb dX10_retime_224 hl (by decide) rfl (fun ls hl => ?_)
            refine lv_iload hx hb dX10_retime_226 (lv_at hl 0 rfl) ?_
            obtain ⟨x41, hr42, hf⟩ := g_s1 hf
            have J43 : ∀ (H : Heap) (locs : List Loc) (ls : Array Slot), gS celM Γ ad N σ5 s H locs → lv_has ls 12 [(8, .int i11), (7, .int i7), (0, .ref (ad 0)), (1, .int a0), (2, .int a1), (3, .int a2), (4, .int a3), (5, .int a4)] → W p l e (gR 3 0 0) s m args below meth c H locs 0 0 (Q) (F0 m 250 ls [.int x41]) := by
              intro H locs ls S hl
              refine lv_istore (lv' := [(6, .int x41), (8, .int i11), (7, .int i7), (0, .ref (ad 0)), (1, .int a0), (2, .int a1), (3, .int a2), (4, .int a3), (5, .int a4)]) hx hb dX10_retime_250 hl (by decide) rfl (fun ls hl => ?_)
              refine lv_iinc (v := (i11 + 1)) (lv' := [(8, .int (i11 + 1)), (6, .int x41), (7, .int i7), (0, .ref (ad 0)), (1, .int a0), (2, .int a1), (3, .int a2), (4, .int a3), (5, .int a4)]) hx hb dX10_retime_252 hl (k := 1) rfl rfl (by decide) rfl (fun ls hl => ?_)
              refine lv_goto (tgt := 129) hx hb dX10_retime_255 (by decide) ?_
              exact ih _ _ _  hf J _ _ _ S (lv_sub hl [0, 2, 1, 3, 4, 5, 6, 7, 8] rfl)
            replace hf := hr42
            refine lv_if_le (tgt := 248) hx hb dX10_retime_228 (by decide) (fun c44 => ?_) (fun c44 => ?_)
            · have hf := (if_pos c44).symm.trans hf
              refine lv_iload hx hb dX10_retime_248 (lv_at hl 3 rfl) ?_
              cases hf
              exact J43 _ _ _ S (lv_sub hl [1, 2, 4, 5, 6, 7, 8, 9] rfl)
            · have hf := (if_neg c44).symm.trans hf
              refine lv_iload hx hb dX10_retime_231 (lv_at hl 3 rfl) ?_
              refine lv_if_eq (tgt := 243) hx hb dX10_retime_233 (by decide) (fun c45 => ?_) (fun c45 => ?_)
              · have hf := (if_pos c45).symm.trans hf
                refine lv_iload hx hb dX10_retime_243 (lv_at hl 0 rfl) ?_
                refine lv_goto (tgt := 250) hx hb dX10_retime_245 (by decide) ?_
                cases hf
                exact J43 _ _ _ S (lv_sub hl [1, 2, 4, 5, 6, 7, 8, 9] rfl)
              · have hf := (if_neg c45).symm.trans hf
                refine lv_iload hx hb dX10_retime_236 (lv_at hl 0 rfl) ?_
                refine lv_iload hx hb dX10_retime_238 (lv_at hl 3 rfl) ?_
                refine lv_icmp_ge (tgt := 248) hx hb dX10_retime_240 (by decide) (fun c46 => ?_) (fun c46 => ?_)
                · have hf := (if_pos c46).symm.trans hf
                  refine lv_iload hx hb dX10_retime_248 (lv_at hl 3 rfl) ?_
                  cases hf
                  exact J43 _ _ _ S (lv_sub hl [1, 2, 4, 5, 6, 7, 8, 9] rfl)
                · have hf := (if_neg c46).symm.trans hf
                  refine lv_iload hx hb dX10_retime_243 (lv_at hl 0 rfl) ?_
                  refine lv_goto (tgt := 250) hx hb dX10_retime_245 (by decide) ?_
                  cases hf
                  exact J43 _ _ _ S (lv_sub hl [1, 2, 4, 5, 6, 7, 8, 9] rfl)
          replace hf := hr39
          refine lv_if_lt (tgt := 208) hx hb dX10_retime_194 (by decide) (fun c47 => ?_) (fun c47 => ?_)
          · have hf := (if_pos c47).symm.trans hf
            refine lv_iconst (v := (1 : Int32)) hx hb dX10_retime_208 (by decide) ?_
            refine lv_goto (tgt := 224) hx hb dX10_retime_209 (by decide) ?_
            cases hf
            exact J40 _ _ _ S (lv_sub hl [2, 3, 4, 5, 6, 7, 8, 9, 10] rfl)
          · have hf := (if_neg c47).symm.trans hf
            refine lv_iload hx hb dX10_retime_197 (lv_at hl 0 rfl) ?_
            refine lv_aload_n hx hb dX10_retime_199 rfl (lv_at hl 5 rfl) ?_
            refine gfX10_7 X S hN dX10_retime_200 ?_
            refine lv_iconst (v := (0 : Int32)) hx hb dX10_retime_203 (by decide) ?_
            refine g_ialdC X S (by omega) (ceM_a (rfl : gma 1 = true)) 0 (by decide) (by decide) dX10_retime_204 ?_
            refine lv_icmp_le (tgt := 212) hx hb dX10_retime_205 (by decide) (fun c48 => ?_) (fun c48 => ?_)
            · have hf := (if_pos c48).symm.trans hf
              refine lv_iload hx hb dX10_retime_212 (lv_at hl 1 rfl) ?_
              refine lv_iload hx hb dX10_retime_214 (lv_at hl 0 rfl) ?_
              refine lv_icmp_lt (tgt := 223) hx hb dX10_retime_216 (by decide) (fun c49 => ?_) (fun c49 => ?_)
              · have hf := (if_pos c49).symm.trans hf
                refine lv_iconst (v := (0 : Int32)) hx hb dX10_retime_223 (by decide) ?_
                cases hf
                exact J40 _ _ _ S (lv_sub hl [2, 3, 4, 5, 6, 7, 8, 9, 10] rfl)
              · have hf := (if_neg c49).symm.trans hf
                refine lv_iconst (v := (2 : Int32)) hx hb dX10_retime_219 (by decide) ?_
                refine lv_goto (tgt := 224) hx hb dX10_retime_220 (by decide) ?_
                cases hf
                exact J40 _ _ _ S (lv_sub hl [2, 3, 4, 5, 6, 7, 8, 9, 10] rfl)
            · have hf := (if_neg c48).symm.trans hf
              refine lv_iconst (v := (1 : Int32)) hx hb dX10_retime_208 (by decide) ?_
              refine lv_goto (tgt := 224) hx hb dX10_retime_209 (by decide) ?_
              cases hf
              exact J40 _ _ _ S (lv_sub hl [2, 3, 4, 5, 6, 7, 8, 9, 10] rfl)
noncomputable def f_X10_retime_l1 (a0 : Int32) (a1 : Int32) (a2 : Int32) (a3 : Int32) (a4 : Int32) (σ5 : gSt) : Nat → Int32 → Int32 → Option (Int32)
  | 0, _, _ => none
  | n + 1, i7, i8 => (if (2 : Int32) ≤ i7 then some i8 else (g_k1 (f_X10_retime_l2 a0 a1 a2 a3 a4 σ5 i7 FU (0 : Int32) i8) fun r13 => (f_X10_retime_l1 a0 a1 a2 a3 a4 σ5 n (i7 + 1) r13)))
set_option maxRecDepth 100000 in
set_option maxHeartbeats 4000000 in
theorem w_X10_retime_l1 {l : Launch} {Γ : gG} {ad : Nat → Nat} {N : Nat} {p : Program} {e : Env} {s : State} {m : MethodId} {args : Array Value} {below : List Frame} {meth : Method} {c : Code} {Q : State → Prop} (hN : 8 ≤ N) (X : gX celM Γ ad N RX10 cX10_retime 12 (some .int) p s m args meth c) {a0 : Int32} {a1 : Int32} {a2 : Int32} {a3 : Int32} {a4 : Int32} {σ5 : gSt}  : ∀ (n : Nat) (i7 : Int32) (i8 : Int32) (r9 : Int32), f_X10_retime_l1 a0 a1 a2 a3 a4 σ5 n i7 i8 = some r9 → (∀ (H : Heap) (locs : List Loc) (ls : Array Slot), gS celM Γ ad N σ5 s H locs → lv_has ls 12 [(6, .int r9), (0, .ref (ad 0)), (1, .int a0), (2, .int a1), (3, .int a2), (4, .int a3), (5, .int a4)] → W p l e (gR 3 0 0) s m args below meth c H locs 0 0 (Q) (F0 m 264 ls [])) → ∀ (H : Heap) (locs : List Loc) (ls : Array Slot), gS celM Γ ad N σ5 s H locs → lv_has ls 12 [(7, .int i7), (6, .int i8), (0, .ref (ad 0)), (1, .int a0), (2, .int a1), (3, .int a2), (4, .int a3), (5, .int a4)] → W p l e (gR 3 0 0) s m args below meth c H locs 0 0 (Q) (F0 m 120 ls []) := by
  have hx := X.1
  have hb := X.2.1
  intro n
  induction n with
  | zero =>
    intro i7 i8 r9 hf
    cases hf
  | succ n ih =>
    intro i7 i8 r9 hf J H locs ls S hl
    rw [f_X10_retime_l1] at hf
    refine lv_iload hx hb dX10_retime_120 (lv_at hl 0 rfl) ?_
    refine lv_iconst (v := (2 : Int32)) hx hb dX10_retime_122 (by decide) ?_
    refine lv_icmp_ge (tgt := 264) hx hb dX10_retime_123 (by decide) (fun c10 => ?_) (fun c10 => ?_)
    · have hf := (if_pos c10).symm.trans hf
      cases hf
      exact J _ _ _ S (lv_sub hl [1, 2, 3, 4, 5, 6, 7] rfl)
    · have hf := (if_neg c10).symm.trans hf
      refine lv_iconst (v := (0 : Int32)) hx hb dX10_retime_126 (by decide) ?_
      refine lv_istore (lv' := [(8, .int (0 : Int32)), (7, .int i7), (6, .int i8), (0, .ref (ad 0)), (1, .int a0), (2, .int a1), (3, .int a2), (4, .int a3), (5, .int a4)]) hx hb dX10_retime_127 hl (by decide) rfl (fun ls hl => ?_)
      obtain ⟨r13, hr50, hf⟩ := g_s1 hf
      refine w_X10_retime_l2 hN X  FU _ _ _  hr50 (fun H locs ls S hl => ?_) _ _ _ S (lv_sub hl [0, 1, 2, 3, 4, 5, 6, 7, 8] rfl)
      refine lv_iinc (v := (i7 + 1)) (lv' := [(7, .int (i7 + 1)), (6, .int r13), (0, .ref (ad 0)), (1, .int a0), (2, .int a1), (3, .int a2), (4, .int a3), (5, .int a4)]) hx hb dX10_retime_258 hl (k := 0) rfl rfl (by decide) rfl (fun ls hl => ?_)
      refine lv_goto (tgt := 120) hx hb dX10_retime_261 (by decide) ?_
      exact ih _ _ _  hf J _ _ _ S (lv_sub hl [0, 1, 2, 3, 4, 5, 6, 7] rfl)
noncomputable def f_X10_retime_l4 (a0 : Int32) (a1 : Int32) (a2 : Int32) (a3 : Int32) (a4 : Int32) (i54 : Int32) (σ56 : gSt) : Nat → Int32 → Int32 → gSt → Option (Int32 × gSt)
  | 0, _, _, _ => none
  | n + 1, i60, i61, σ62 => (g_k1 (gald σ62 1 926 ((28 : Int32) + i54)) fun v65 => (if v65 ≤ i60 then some (i61, σ62) else (if a0 < 0 then (g_k1 (f_X10_first σ62 i54 i60) fun v68 => (g_k1 (f_X10_retimed σ62 v68 a1 a2 a3 a4) fun v69 => (g_k1 (f_X10_end σ62 i54 i60) fun v70 => (g_k1 (f_X10_retimed σ62 v70 a1 a2 a3 a4) fun v71 => (g_k1 (f_X10_first σ62 i54 i60) fun v72 => (g_k1 (if v69 = v72 then (g_k1 (f_X10_end σ62 i54 i60) fun v81 => (if v71 = v81 then some (0 : Int32) else some (1 : Int32))) else some (1 : Int32)) fun x73 => (g_k1 (f_X10_at σ62 i54 i60 (0 : Int32)) fun v76 => (g_k1 (gast σ62 1 926 v76 v69) fun σ77 => (g_k1 (f_X10_at σ77 i54 i60 (1 : Int32)) fun v78 => (g_k1 (gast σ77 1 926 v78 v71) fun σ79 => (f_X10_retime_l4 a0 a1 a2 a3 a4 i54 σ56 n (i60 + 1) (i61 + x73) σ79))))))))))) else (if a0 = i54 then (g_k1 (f_X10_first σ62 i54 i60) fun v84 => (g_k1 (f_X10_retimed σ62 v84 a1 a2 a3 a4) fun v85 => (g_k1 (f_X10_end σ62 i54 i60) fun v86 => (g_k1 (f_X10_retimed σ62 v86 a1 a2 a3 a4) fun v87 => (g_k1 (f_X10_first σ62 i54 i60) fun v88 => (g_k1 (if v85 = v88 then (g_k1 (f_X10_end σ62 i54 i60) fun v97 => (if v87 = v97 then some (0 : Int32) else some (1 : Int32))) else some (1 : Int32)) fun x89 => (g_k1 (f_X10_at σ62 i54 i60 (0 : Int32)) fun v92 => (g_k1 (gast σ62 1 926 v92 v85) fun σ93 => (g_k1 (f_X10_at σ93 i54 i60 (1 : Int32)) fun v94 => (g_k1 (gast σ93 1 926 v94 v87) fun σ95 => (f_X10_retime_l4 a0 a1 a2 a3 a4 i54 σ56 n (i60 + 1) (i61 + x89) σ95))))))))))) else some (i61, σ62)))))
set_option maxRecDepth 100000 in
set_option maxHeartbeats 4000000 in
theorem w_X10_retime_l4 {l : Launch} {Γ : gG} {ad : Nat → Nat} {N : Nat} {p : Program} {e : Env} {s : State} {m : MethodId} {args : Array Value} {below : List Frame} {meth : Method} {c : Code} {Q : State → Prop} (hN : 8 ≤ N) (X : gX celM Γ ad N RX10 cX10_retime 12 (some .int) p s m args meth c) {a0 : Int32} {a1 : Int32} {a2 : Int32} {a3 : Int32} {a4 : Int32} {i54 : Int32} {σ56 : gSt}  : ∀ (n : Nat) (i60 : Int32) (i61 : Int32) (σ62 : gSt) (r63 : Int32) (σ64 : gSt), f_X10_retime_l4 a0 a1 a2 a3 a4 i54 σ56 n i60 i61 σ62 = some (r63, σ64) → (∀ (H : Heap) (locs : List Loc) (ls : Array Slot), gS celM Γ ad N σ64 s H locs → lv_has ls 12 [(8, .int i54), (7, .int r63), (0, .ref (ad 0)), (1, .int a0), (2, .int a1), (3, .int a2), (4, .int a3), (5, .int a4)] → W p l e (gR 3 0 0) s m args below meth c H locs 0 0 (Q) (F0 m 435 ls [])) → ∀ (H : Heap) (locs : List Loc) (ls : Array Slot), gS celM Γ ad N σ62 s H locs → lv_has ls 12 [(9, .int i60), (8, .int i54), (7, .int i61), (0, .ref (ad 0)), (1, .int a0), (2, .int a1), (3, .int a2), (4, .int a3), (5, .int a4)] → W p l e (gR 3 0 0) s m args below meth c H locs 0 0 (Q) (F0 m 300 ls []) := by
  have hx := X.1
  have hb := X.2.1
  intro n
  induction n with
  | zero =>
    intro i60 i61 σ62 r63 σ64 hf
    cases hf
  | succ n ih =>
    intro i60 i61 σ62 r63 σ64 hf J H locs ls S hl
    rw [f_X10_retime_l4] at hf
    refine lv_iload hx hb dX10_retime_300 (lv_at hl 0 rfl) ?_
    refine lv_aload_n hx hb dX10_retime_302 rfl (lv_at hl 3 rfl) ?_
    refine gfX10_7 X S hN dX10_retime_303 ?_
    refine lv_bipush (v := (28 : Int32)) hx hb dX10_retime_306 (by decide) ?_
    refine lv_iload hx hb dX10_retime_308 (lv_at hl 1 rfl) ?_
    refine lv_iadd hx hb dX10_retime_310 ?_
    obtain ⟨v65, hv65, hf⟩ := g_s1 hf
    refine g_iald X S (by omega) (ceM_a (rfl : gma 1 = true)) hv65 dX10_retime_311 ?_
    refine lv_icmp_ge (tgt := 435) hx hb dX10_retime_312 (by decide) (fun c66 => ?_) (fun c66 => ?_)
    · have hf := (if_pos c66).symm.trans hf
      cases hf
      exact J _ _ _ S (lv_sub hl [1, 2, 3, 4, 5, 6, 7, 8] rfl)
    · have hf := (if_neg c66).symm.trans hf
      refine lv_iload_n hx hb dX10_retime_315 rfl (lv_at hl 4 rfl) ?_
      refine lv_if_lt (tgt := 325) hx hb dX10_retime_316 (by decide) (fun c67 => ?_) (fun c67 => ?_)
      · have hf := (if_pos c67).symm.trans hf
        refine lv_aload_n hx hb dX10_retime_325 rfl (lv_at hl 3 rfl) ?_
        refine lv_iload hx hb dX10_retime_326 (lv_at hl 1 rfl) ?_
        refine lv_iload hx hb dX10_retime_328 (lv_at hl 0 rfl) ?_
        obtain ⟨v68, hv68, hf⟩ := g_s1 hf
        refine g_ki S (g_runV (rest := []) X S (c_X10_first l hN  hv68 _) cvX10_first mlX10_113 (by omega) (ceM_10 _) rfl rfl rfl hl.1 (Nat.le_of_ble_eq_true rfl) ⟨⟨rfl, rfl⟩, ⟨Nat.le_of_ble_eq_true rfl, Nat.le_of_ble_eq_true rfl⟩, Nat.le_of_ble_eq_true rfl, Nat.le_of_ble_eq_true rfl⟩ dX10_retime_330) (fun H locs S => ?_)
        refine lv_iload_n hx hb dX10_retime_333 rfl (lv_at hl 5 rfl) ?_
        refine lv_iload_n hx hb dX10_retime_334 rfl (lv_at hl 6 rfl) ?_
        refine lv_iload hx hb dX10_retime_335 (lv_at hl 7 rfl) ?_
        refine lv_iload hx hb dX10_retime_337 (lv_at hl 8 rfl) ?_
        obtain ⟨v69, hv69, hf⟩ := g_s1 hf
        refine g_ki S (g_runS (rest := []) X S (c_X10_retimed l hN  hv69 _) csX10_retimed mlX10_181 rfl rfl hl.1 (Nat.le_of_ble_eq_true rfl) ⟨⟨rfl, rfl⟩, ⟨Nat.le_of_ble_eq_true rfl, Nat.le_of_ble_eq_true rfl⟩, Nat.le_of_ble_eq_true rfl, Nat.le_of_ble_eq_true rfl⟩ dX10_retime_339) (fun H locs S => ?_)
        refine lv_istore (lv' := [(10, .int v69), (9, .int i60), (8, .int i54), (7, .int i61), (0, .ref (ad 0)), (1, .int a0), (2, .int a1), (3, .int a2), (4, .int a3), (5, .int a4)]) hx hb dX10_retime_342 hl (by decide) rfl (fun ls hl => ?_)
        refine lv_aload_n hx hb dX10_retime_344 rfl (lv_at hl 4 rfl) ?_
        refine lv_iload hx hb dX10_retime_345 (lv_at hl 2 rfl) ?_
        refine lv_iload hx hb dX10_retime_347 (lv_at hl 1 rfl) ?_
        obtain ⟨v70, hv70, hf⟩ := g_s1 hf
        refine g_ki S (g_runV (rest := []) X S (c_X10_end l hN  hv70 _) cvX10_end mlX10_71 (by omega) (ceM_10 _) rfl rfl rfl hl.1 (Nat.le_of_ble_eq_true rfl) ⟨⟨rfl, rfl⟩, ⟨Nat.le_of_ble_eq_true rfl, Nat.le_of_ble_eq_true rfl⟩, Nat.le_of_ble_eq_true rfl, Nat.le_of_ble_eq_true rfl⟩ dX10_retime_349) (fun H locs S => ?_)
        refine lv_iload_n hx hb dX10_retime_352 rfl (lv_at hl 6 rfl) ?_
        refine lv_iload_n hx hb dX10_retime_353 rfl (lv_at hl 7 rfl) ?_
        refine lv_iload hx hb dX10_retime_354 (lv_at hl 8 rfl) ?_
        refine lv_iload hx hb dX10_retime_356 (lv_at hl 9 rfl) ?_
        obtain ⟨v71, hv71, hf⟩ := g_s1 hf
        refine g_ki S (g_runS (rest := []) X S (c_X10_retimed l hN  hv71 _) csX10_retimed mlX10_181 rfl rfl hl.1 (Nat.le_of_ble_eq_true rfl) ⟨⟨rfl, rfl⟩, ⟨Nat.le_of_ble_eq_true rfl, Nat.le_of_ble_eq_true rfl⟩, Nat.le_of_ble_eq_true rfl, Nat.le_of_ble_eq_true rfl⟩ dX10_retime_358) (fun H locs S => ?_)
        refine lv_istore (lv' := [(11, .int v71), (10, .int v69), (9, .int i60), (8, .int i54), (7, .int i61), (0, .ref (ad 0)), (1, .int a0), (2, .int a1), (3, .int a2), (4, .int a3), (5, .int a4)]) hx hb dX10_retime_361 hl (by decide) rfl (fun ls hl => ?_)
        refine lv_iload hx hb dX10_retime_363 (lv_at hl 4 rfl) ?_
        refine lv_iload hx hb dX10_retime_365 (lv_at hl 1 rfl) ?_
        refine lv_aload_n hx hb dX10_retime_367 rfl (lv_at hl 5 rfl) ?_
        refine lv_iload hx hb dX10_retime_368 (lv_at hl 3 rfl) ?_
        refine lv_iload hx hb dX10_retime_370 (lv_at hl 2 rfl) ?_
        obtain ⟨v72, hv72, hf⟩ := g_s1 hf
        refine g_ki S (g_runV (rest := [.int v69, .int i61]) X S (c_X10_first l hN  hv72 _) cvX10_first mlX10_113 (by omega) (ceM_10 _) rfl rfl rfl hl.1 (Nat.le_of_ble_eq_true rfl) ⟨⟨rfl, rfl⟩, ⟨Nat.le_of_ble_eq_true rfl, Nat.le_of_ble_eq_true rfl⟩, Nat.le_of_ble_eq_true rfl, Nat.le_of_ble_eq_true rfl⟩ dX10_retime_372) (fun H locs S => ?_)
        obtain ⟨x73, hr74, hf⟩ := g_s1 hf
        have J75 : ∀ (H : Heap) (locs : List Loc) (ls : Array Slot), gS celM Γ ad N σ62 s H locs → lv_has ls 12 [(11, .int v71), (10, .int v69), (9, .int i60), (8, .int i54), (0, .ref (ad 0)), (1, .int a0), (2, .int a1), (3, .int a2), (4, .int a3), (5, .int a4)] → W p l e (gR 3 0 0) s m args below meth c H locs 0 0 (Q) (F0 m 396 ls [.int x73, .int i61]) := by
          intro H locs ls S hl
          refine lv_iadd hx hb dX10_retime_396 ?_
          refine lv_istore (lv' := [(7, .int (i61 + x73)), (11, .int v71), (10, .int v69), (9, .int i60), (8, .int i54), (0, .ref (ad 0)), (1, .int a0), (2, .int a1), (3, .int a2), (4, .int a3), (5, .int a4)]) hx hb dX10_retime_397 hl (by decide) rfl (fun ls hl => ?_)
          refine lv_aload_n hx hb dX10_retime_399 rfl (lv_at hl 5 rfl) ?_
          refine gfX10_7 X S hN dX10_retime_400 ?_
          refine lv_iload hx hb dX10_retime_403 (lv_at hl 4 rfl) ?_
          refine lv_iload hx hb dX10_retime_405 (lv_at hl 3 rfl) ?_
          refine lv_iconst (v := (0 : Int32)) hx hb dX10_retime_407 (by decide) ?_
          obtain ⟨v76, hv76, hf⟩ := g_s1 hf
          refine g_ki S (g_runS (rest := [.ref (ad 1)]) X S (c_X10_at l hN  hv76 _) csX10_at mlX10_56 rfl rfl hl.1 (Nat.le_of_ble_eq_true rfl) ⟨⟨rfl, rfl⟩, ⟨Nat.le_of_ble_eq_true rfl, Nat.le_of_ble_eq_true rfl⟩, Nat.le_of_ble_eq_true rfl, Nat.le_of_ble_eq_true rfl⟩ dX10_retime_408) (fun H locs S => ?_)
          refine lv_iload hx hb dX10_retime_411 (lv_at hl 2 rfl) ?_
          obtain ⟨σ77, hσ77, hf⟩ := g_s1 hf
          refine g_iast X S (by omega) (ceM_a (rfl : gma 1 = true)) hσ77 dX10_retime_413 (fun H locs S => ?_)
          refine lv_aload_n hx hb dX10_retime_414 rfl (lv_at hl 5 rfl) ?_
          refine gfX10_7 X S hN dX10_retime_415 ?_
          refine lv_iload hx hb dX10_retime_418 (lv_at hl 4 rfl) ?_
          refine lv_iload hx hb dX10_retime_420 (lv_at hl 3 rfl) ?_
          refine lv_iconst (v := (1 : Int32)) hx hb dX10_retime_422 (by decide) ?_
          obtain ⟨v78, hv78, hf⟩ := g_s1 hf
          refine g_ki S (g_runS (rest := [.ref (ad 1)]) X S (c_X10_at l hN  hv78 _) csX10_at mlX10_56 rfl rfl hl.1 (Nat.le_of_ble_eq_true rfl) ⟨⟨rfl, rfl⟩, ⟨Nat.le_of_ble_eq_true rfl, Nat.le_of_ble_eq_true rfl⟩, Nat.le_of_ble_eq_true rfl, Nat.le_of_ble_eq_true rfl⟩ dX10_retime_423) (fun H locs S => ?_)
          refine lv_iload hx hb dX10_retime_426 (lv_at hl 1 rfl) ?_
          obtain ⟨σ79, hσ79, hf⟩ := g_s1 hf
          refine g_iast X S (by omega) (ceM_a (rfl : gma 1 = true)) hσ79 dX10_retime_428 (fun H locs S => ?_)
          refine lv_iinc (v := (i60 + 1)) (lv' := [(9, .int (i60 + 1)), (7, .int (i61 + x73)), (11, .int v71), (10, .int v69), (8, .int i54), (0, .ref (ad 0)), (1, .int a0), (2, .int a1), (3, .int a2), (4, .int a3), (5, .int a4)]) hx hb dX10_retime_429 hl (k := 3) rfl rfl (by decide) rfl (fun ls hl => ?_)
          refine lv_goto (tgt := 300) hx hb dX10_retime_432 (by decide) ?_
          exact ih _ _ _ _ _  hf J _ _ _ S (lv_sub hl [0, 4, 1, 5, 6, 7, 8, 9, 10] rfl)
        replace hf := hr74
        refine lv_icmp_ne (tgt := 391) hx hb dX10_retime_375 (by decide) (fun c80 => ?_) (fun c80 => ?_)
        · have hf := (if_neg c80).symm.trans hf
          refine lv_iconst (v := (1 : Int32)) hx hb dX10_retime_391 (by decide) ?_
          refine lv_goto (tgt := 396) hx hb dX10_retime_392 (by decide) ?_
          cases hf
          exact J75 _ _ _ S (lv_sub hl [0, 1, 2, 3, 5, 6, 7, 8, 9, 10] rfl)
        · have hf := (if_pos c80).symm.trans hf
          refine lv_iload hx hb dX10_retime_378 (lv_at hl 0 rfl) ?_
          refine lv_aload_n hx hb dX10_retime_380 rfl (lv_at hl 5 rfl) ?_
          refine lv_iload hx hb dX10_retime_381 (lv_at hl 3 rfl) ?_
          refine lv_iload hx hb dX10_retime_383 (lv_at hl 2 rfl) ?_
          obtain ⟨v81, hv81, hf⟩ := g_s1 hf
          refine g_ki S (g_runV (rest := [.int v71, .int i61]) X S (c_X10_end l hN  hv81 _) cvX10_end mlX10_71 (by omega) (ceM_10 _) rfl rfl rfl hl.1 (Nat.le_of_ble_eq_true rfl) ⟨⟨rfl, rfl⟩, ⟨Nat.le_of_ble_eq_true rfl, Nat.le_of_ble_eq_true rfl⟩, Nat.le_of_ble_eq_true rfl, Nat.le_of_ble_eq_true rfl⟩ dX10_retime_385) (fun H locs S => ?_)
          refine lv_icmp_eq (tgt := 395) hx hb dX10_retime_388 (by decide) (fun c82 => ?_) (fun c82 => ?_)
          · have hf := (if_pos c82).symm.trans hf
            refine lv_iconst (v := (0 : Int32)) hx hb dX10_retime_395 (by decide) ?_
            cases hf
            exact J75 _ _ _ S (lv_sub hl [0, 1, 2, 3, 5, 6, 7, 8, 9, 10] rfl)
          · have hf := (if_neg c82).symm.trans hf
            refine lv_iconst (v := (1 : Int32)) hx hb dX10_retime_391 (by decide) ?_
            refine lv_goto (tgt := 396) hx hb dX10_retime_392 (by decide) ?_
            cases hf
            exact J75 _ _ _ S (lv_sub hl [0, 1, 2, 3, 5, 6, 7, 8, 9, 10] rfl)
      · have hf := (if_neg c67).symm.trans hf
        refine lv_iload_n hx hb dX10_retime_319 rfl (lv_at hl 4 rfl) ?_
        refine lv_iload hx hb dX10_retime_320 (lv_at hl 1 rfl) ?_
        refine lv_icmp_ne (tgt := 435) hx hb dX10_retime_322 (by decide) (fun c83 => ?_) (fun c83 => ?_)
        · have hf := (if_neg c83).symm.trans hf
          cases hf
          exact J _ _ _ S (lv_sub hl [1, 2, 3, 4, 5, 6, 7, 8] rfl)
        · have hf := (if_pos c83).symm.trans hf
          refine lv_aload_n hx hb dX10_retime_325 rfl (lv_at hl 3 rfl) ?_
          refine lv_iload hx hb dX10_retime_326 (lv_at hl 1 rfl) ?_
          refine lv_iload hx hb dX10_retime_328 (lv_at hl 0 rfl) ?_
          obtain ⟨v84, hv84, hf⟩ := g_s1 hf
          refine g_ki S (g_runV (rest := []) X S (c_X10_first l hN  hv84 _) cvX10_first mlX10_113 (by omega) (ceM_10 _) rfl rfl rfl hl.1 (Nat.le_of_ble_eq_true rfl) ⟨⟨rfl, rfl⟩, ⟨Nat.le_of_ble_eq_true rfl, Nat.le_of_ble_eq_true rfl⟩, Nat.le_of_ble_eq_true rfl, Nat.le_of_ble_eq_true rfl⟩ dX10_retime_330) (fun H locs S => ?_)
          refine lv_iload_n hx hb dX10_retime_333 rfl (lv_at hl 5 rfl) ?_
          refine lv_iload_n hx hb dX10_retime_334 rfl (lv_at hl 6 rfl) ?_
          refine lv_iload hx hb dX10_retime_335 (lv_at hl 7 rfl) ?_
          refine lv_iload hx hb dX10_retime_337 (lv_at hl 8 rfl) ?_
          obtain ⟨v85, hv85, hf⟩ := g_s1 hf
          refine g_ki S (g_runS (rest := []) X S (c_X10_retimed l hN  hv85 _) csX10_retimed mlX10_181 rfl rfl hl.1 (Nat.le_of_ble_eq_true rfl) ⟨⟨rfl, rfl⟩, ⟨Nat.le_of_ble_eq_true rfl, Nat.le_of_ble_eq_true rfl⟩, Nat.le_of_ble_eq_true rfl, Nat.le_of_ble_eq_true rfl⟩ dX10_retime_339) (fun H locs S => ?_)
          refine lv_istore (lv' := [(10, .int v85), (9, .int i60), (8, .int i54), (7, .int i61), (0, .ref (ad 0)), (1, .int a0), (2, .int a1), (3, .int a2), (4, .int a3), (5, .int a4)]) hx hb dX10_retime_342 hl (by decide) rfl (fun ls hl => ?_)
          refine lv_aload_n hx hb dX10_retime_344 rfl (lv_at hl 4 rfl) ?_
          refine lv_iload hx hb dX10_retime_345 (lv_at hl 2 rfl) ?_
          refine lv_iload hx hb dX10_retime_347 (lv_at hl 1 rfl) ?_
          obtain ⟨v86, hv86, hf⟩ := g_s1 hf
          refine g_ki S (g_runV (rest := []) X S (c_X10_end l hN  hv86 _) cvX10_end mlX10_71 (by omega) (ceM_10 _) rfl rfl rfl hl.1 (Nat.le_of_ble_eq_true rfl) ⟨⟨rfl, rfl⟩, ⟨Nat.le_of_ble_eq_true rfl, Nat.le_of_ble_eq_true rfl⟩, Nat.le_of_ble_eq_true rfl, Nat.le_of_ble_eq_true rfl⟩ dX10_retime_349) (fun H locs S => ?_)
          refine lv_iload_n hx hb dX10_retime_352 rfl (lv_at hl 6 rfl) ?_
          refine lv_iload_n hx hb dX10_retime_353 rfl (lv_at hl 7 rfl) ?_
          refine lv_iload hx hb dX10_retime_354 (lv_at hl 8 rfl) ?_
          refine lv_iload hx hb dX10_retime_356 (lv_at hl 9 rfl) ?_
          obtain ⟨v87, hv87, hf⟩ := g_s1 hf
          refine g_ki S (g_runS (rest := []) X S (c_X10_retimed l hN  hv87 _) csX10_retimed mlX10_181 rfl rfl hl.1 (Nat.le_of_ble_eq_true rfl) ⟨⟨rfl, rfl⟩, ⟨Nat.le_of_ble_eq_true rfl, Nat.le_of_ble_eq_true rfl⟩, Nat.le_of_ble_eq_true rfl, Nat.le_of_ble_eq_true rfl⟩ dX10_retime_358) (fun H locs S => ?_)
          refine lv_istore (lv' := [(11, .int v87), (10, .int v85), (9, .int i60), (8, .int i54), (7, .int i61), (0, .ref (ad 0)), (1, .int a0), (2, .int a1), (3, .int a2), (4, .int a3), (5, .int a4)]) hx hb dX10_retime_361 hl (by decide) rfl (fun ls hl => ?_)
          refine lv_iload hx hb dX10_retime_363 (lv_at hl 4 rfl) ?_
          refine lv_iload hx hb dX10_retime_365 (lv_at hl 1 rfl) ?_
          refine lv_aload_n hx hb dX10_retime_367 rfl (lv_at hl 5 rfl) ?_
          refine lv_iload hx hb dX10_retime_368 (lv_at hl 3 rfl) ?_
          refine lv_iload hx hb dX10_retime_370 (lv_at hl 2 rfl) ?_
          obtain ⟨v88, hv88, hf⟩ := g_s1 hf
          refine g_ki S (g_runV (rest := [.int v85, .int i61]) X S (c_X10_first l hN  hv88 _) cvX10_first mlX10_113 (by omega) (ceM_10 _) rfl rfl rfl hl.1 (Nat.le_of_ble_eq_true rfl) ⟨⟨rfl, rfl⟩, ⟨Nat.le_of_ble_eq_true rfl, Nat.le_of_ble_eq_true rfl⟩, Nat.le_of_ble_eq_true rfl, Nat.le_of_ble_eq_true rfl⟩ dX10_retime_372) (fun H locs S => ?_)
          obtain ⟨x89, hr90, hf⟩ := g_s1 hf
          have J91 : ∀ (H : Heap) (locs : List Loc) (ls : Array Slot), gS celM Γ ad N σ62 s H locs → lv_has ls 12 [(11, .int v87), (10, .int v85), (9, .int i60), (8, .int i54), (0, .ref (ad 0)), (1, .int a0), (2, .int a1), (3, .int a2), (4, .int a3), (5, .int a4)] → W p l e (gR 3 0 0) s m args below meth c H locs 0 0 (Q) (F0 m 396 ls [.int x89, .int i61]) := by
            intro H locs ls S hl
            refine lv_iadd hx hb dX10_retime_396 ?_
            refine lv_istore (lv' := [(7, .int (i61 + x89)), (11, .int v87), (10, .int v85), (9, .int i60), (8, .int i54), (0, .ref (ad 0)), (1, .int a0), (2, .int a1), (3, .int a2), (4, .int a3), (5, .int a4)]) hx hb dX10_retime_397 hl (by decide) rfl (fun ls hl => ?_)
            refine lv_aload_n hx hb dX10_retime_399 rfl (lv_at hl 5 rfl) ?_
            refine gfX10_7 X S hN dX10_retime_400 ?_
            refine lv_iload hx hb dX10_retime_403 (lv_at hl 4 rfl) ?_
            refine lv_iload hx hb dX10_retime_405 (lv_at hl 3 rfl) ?_
            refine lv_iconst (v := (0 : Int32)) hx hb dX10_retime_407 (by decide) ?_
            obtain ⟨v92, hv92, hf⟩ := g_s1 hf
            refine g_ki S (g_runS (rest := [.ref (ad 1)]) X S (c_X10_at l hN  hv92 _) csX10_at mlX10_56 rfl rfl hl.1 (Nat.le_of_ble_eq_true rfl) ⟨⟨rfl, rfl⟩, ⟨Nat.le_of_ble_eq_true rfl, Nat.le_of_ble_eq_true rfl⟩, Nat.le_of_ble_eq_true rfl, Nat.le_of_ble_eq_true rfl⟩ dX10_retime_408) (fun H locs S => ?_)
            refine lv_iload hx hb dX10_retime_411 (lv_at hl 2 rfl) ?_
            obtain ⟨σ93, hσ93, hf⟩ := g_s1 hf
            refine g_iast X S (by omega) (ceM_a (rfl : gma 1 = true)) hσ93 dX10_retime_413 (fun H locs S => ?_)
            refine lv_aload_n hx hb dX10_retime_414 rfl (lv_at hl 5 rfl) ?_
            refine gfX10_7 X S hN dX10_retime_415 ?_
            refine lv_iload hx hb dX10_retime_418 (lv_at hl 4 rfl) ?_
            refine lv_iload hx hb dX10_retime_420 (lv_at hl 3 rfl) ?_
            refine lv_iconst (v := (1 : Int32)) hx hb dX10_retime_422 (by decide) ?_
            obtain ⟨v94, hv94, hf⟩ := g_s1 hf
            refine g_ki S (g_runS (rest := [.ref (ad 1)]) X S (c_X10_at l hN  hv94 _) csX10_at mlX10_56 rfl rfl hl.1 (Nat.le_of_ble_eq_true rfl) ⟨⟨rfl, rfl⟩, ⟨Nat.le_of_ble_eq_true rfl, Nat.le_of_ble_eq_true rfl⟩, Nat.le_of_ble_eq_true rfl, Nat.le_of_ble_eq_true rfl⟩ dX10_retime_423) (fun H locs S => ?_)
            refine lv_iload hx hb dX10_retime_426 (lv_at hl 1 rfl) ?_
            obtain ⟨σ95, hσ95, hf⟩ := g_s1 hf
            refine g_iast X S (by omega) (ceM_a (rfl : gma 1 = true)) hσ95 dX10_retime_428 (fun H locs S => ?_)
            refine lv_iinc (v := (i60 + 1)) (lv' := [(9, .int (i60 + 1)), (7, .int (i61 + x89)), (11, .int v87), (10, .int v85), (8, .int i54), (0, .ref (ad 0)), (1, .int a0), (2, .int a1), (3, .int a2), (4, .int a3), (5, .int a4)]) hx hb dX10_retime_429 hl (k := 3) rfl rfl (by decide) rfl (fun ls hl => ?_)
            refine lv_goto (tgt := 300) hx hb dX10_retime_432 (by decide) ?_
            exact ih _ _ _ _ _  hf J _ _ _ S (lv_sub hl [0, 4, 1, 5, 6, 7, 8, 9, 10] rfl)
          replace hf := hr90
          refine lv_icmp_ne (tgt := 391) hx hb dX10_retime_375 (by decide) (fun c96 => ?_) (fun c96 => ?_)
          · have hf := (if_neg c96).symm.trans hf
            refine lv_iconst (v := (1 : Int32)) hx hb dX10_retime_391 (by decide) ?_
            refine lv_goto (tgt := 396) hx hb dX10_retime_392 (by decide) ?_
            cases hf
            exact J91 _ _ _ S (lv_sub hl [0, 1, 2, 3, 5, 6, 7, 8, 9, 10] rfl)
          · have hf := (if_pos c96).symm.trans hf
            refine lv_iload hx hb dX10_retime_378 (lv_at hl 0 rfl) ?_
            refine lv_aload_n hx hb dX10_retime_380 rfl (lv_at hl 5 rfl) ?_
            refine lv_iload hx hb dX10_retime_381 (lv_at hl 3 rfl) ?_
            refine lv_iload hx hb dX10_retime_383 (lv_at hl 2 rfl) ?_
            obtain ⟨v97, hv97, hf⟩ := g_s1 hf
            refine g_ki S (g_runV (rest := [.int v87, .int i61]) X S (c_X10_end l hN  hv97 _) cvX10_end mlX10_71 (by omega) (ceM_10 _) rfl rfl rfl hl.1 (Nat.le_of_ble_eq_true rfl) ⟨⟨rfl, rfl⟩, ⟨Nat.le_of_ble_eq_true rfl, Nat.le_of_ble_eq_true rfl⟩, Nat.le_of_ble_eq_true rfl, Nat.le_of_ble_eq_true rfl⟩ dX10_retime_385) (fun H locs S => ?_)
            refine lv_icmp_eq (tgt := 395) hx hb dX10_retime_388 (by decide) (fun c98 => ?_) (fun c98 => ?_)
            · have hf := (if_pos c98).symm.trans hf
              refine lv_iconst (v := (0 : Int32)) hx hb dX10_retime_395 (by decide) ?_
              cases hf
              exact J91 _ _ _ S (lv_sub hl [0, 1, 2, 3, 5, 6, 7, 8, 9, 10] rfl)
            · have hf := (if_neg c98).symm.trans hf
              refine lv_iconst (v := (1 : Int32)) hx hb dX10_retime_391 (by decide) ?_
              refine lv_goto (tgt := 396) hx hb dX10_retime_392 (by decide) ?_
              cases hf
              exact J91 _ _ _ S (lv_sub hl [0, 1, 2, 3, 5, 6, 7, 8, 9, 10] rfl)
noncomputable def f_X10_retime_l3 (a0 : Int32) (a1 : Int32) (a2 : Int32) (a3 : Int32) (a4 : Int32) (σ53 : gSt) : Nat → Int32 → Int32 → gSt → Option (Int32 × gSt)
  | 0, _, _, _ => none
  | n + 1, i54, i55, σ56 => (if (2 : Int32) ≤ i54 then some (i55, σ56) else (g_k2 (f_X10_retime_l4 a0 a1 a2 a3 a4 i54 σ56 FU (0 : Int32) i55 σ56) fun r63 σ64 => (f_X10_retime_l3 a0 a1 a2 a3 a4 σ53 n (i54 + 1) r63 σ64)))
set_option maxRecDepth 100000 in
set_option maxHeartbeats 4000000 in
theorem w_X10_retime_l3 {l : Launch} {Γ : gG} {ad : Nat → Nat} {N : Nat} {p : Program} {e : Env} {s : State} {m : MethodId} {args : Array Value} {below : List Frame} {meth : Method} {c : Code} {Q : State → Prop} (hN : 8 ≤ N) (X : gX celM Γ ad N RX10 cX10_retime 12 (some .int) p s m args meth c) {a0 : Int32} {a1 : Int32} {a2 : Int32} {a3 : Int32} {a4 : Int32} {σ53 : gSt}  : ∀ (n : Nat) (i54 : Int32) (i55 : Int32) (σ56 : gSt) (r57 : Int32) (σ58 : gSt), f_X10_retime_l3 a0 a1 a2 a3 a4 σ53 n i54 i55 σ56 = some (r57, σ58) → (∀ (H : Heap) (locs : List Loc) (ls : Array Slot), gS celM Γ ad N σ58 s H locs → lv_has ls 12 [(7, .int r57)] → W p l e (gR 3 0 0) s m args below meth c H locs 0 0 (Q) (F0 m 441 ls [])) → ∀ (H : Heap) (locs : List Loc) (ls : Array Slot), gS celM Γ ad N σ56 s H locs → lv_has ls 12 [(8, .int i54), (7, .int i55), (0, .ref (ad 0)), (1, .int a0), (2, .int a1), (3, .int a2), (4, .int a3), (5, .int a4)] → W p l e (gR 3 0 0) s m args below meth c H locs 0 0 (Q) (F0 m 291 ls []) := by
  have hx := X.1
  have hb := X.2.1
  intro n
  induction n with
  | zero =>
    intro i54 i55 σ56 r57 σ58 hf
    cases hf
  | succ n ih =>
    intro i54 i55 σ56 r57 σ58 hf J H locs ls S hl
    rw [f_X10_retime_l3] at hf
    refine lv_iload hx hb dX10_retime_291 (lv_at hl 0 rfl) ?_
    refine lv_iconst (v := (2 : Int32)) hx hb dX10_retime_293 (by decide) ?_
    refine lv_icmp_ge (tgt := 441) hx hb dX10_retime_294 (by decide) (fun c59 => ?_) (fun c59 => ?_)
    · have hf := (if_pos c59).symm.trans hf
      cases hf
      exact J _ _ _ S (lv_sub hl [1] rfl)
    · have hf := (if_neg c59).symm.trans hf
      refine lv_iconst (v := (0 : Int32)) hx hb dX10_retime_297 (by decide) ?_
      refine lv_istore (lv' := [(9, .int (0 : Int32)), (8, .int i54), (7, .int i55), (0, .ref (ad 0)), (1, .int a0), (2, .int a1), (3, .int a2), (4, .int a3), (5, .int a4)]) hx hb dX10_retime_298 hl (by decide) rfl (fun ls hl => ?_)
      obtain ⟨r63, σ64, hr99, hf⟩ := g_s2 hf
      refine w_X10_retime_l4 hN X  FU _ _ _ _ _  hr99 (fun H locs ls S hl => ?_) _ _ _ S (lv_sub hl [0, 1, 2, 3, 4, 5, 6, 7, 8] rfl)
      refine lv_iinc (v := (i54 + 1)) (lv' := [(8, .int (i54 + 1)), (7, .int r63), (0, .ref (ad 0)), (1, .int a0), (2, .int a1), (3, .int a2), (4, .int a3), (5, .int a4)]) hx hb dX10_retime_435 hl (k := 0) rfl rfl (by decide) rfl (fun ls hl => ?_)
      refine lv_goto (tgt := 291) hx hb dX10_retime_438 (by decide) ?_
      exact ih _ _ _ _ _  hf J _ _ _ S (lv_sub hl [0, 1, 2, 3, 4, 5, 6, 7] rfl)
noncomputable def f_X10_retime (σ : gSt) (a0 : Int32) (a1 : Int32) (a2 : Int32) (a3 : Int32) (a4 : Int32) : Option (Int32 × gSt) :=
  (g_k1 (f_X10_in σ a0 (-1 : Int32) (1 : Int32)) fun v1 => (g_k1 (if v1 = 0 then some (1 : Int32) else (g_k1 (f_X10_in σ a1 (0 : Int32) (9999 : Int32)) fun v104 => (if v104 = 0 then some (2 : Int32) else (g_k1 (f_X10_in σ a2 (0 : Int32) (9999 : Int32)) fun v106 => (if v106 = 0 then some (2 : Int32) else (g_k1 (f_X10_in σ a3 (0 : Int32) (9999 : Int32)) fun v108 => (if v108 = 0 then some (2 : Int32) else (g_k1 (f_X10_in σ a4 (0 : Int32) (9999 : Int32)) fun v110 => (if v110 = 0 then some (2 : Int32) else (if a1 = a3 then some (2 : Int32) else (if a2 = a4 then some (2 : Int32) else (g_k1 (if a3 ≤ a1 then some (0 : Int32) else some (1 : Int32)) fun x114 => (g_k1 (if a4 ≤ a2 then some (0 : Int32) else some (1 : Int32)) fun x117 => (if x114 = x117 then some (0 : Int32) else some (2 : Int32))))))))))))))) fun x2 => (g_k1 (gset σ 0 10 x2) fun σ5 => (if (σ5 0 10) ≤ 0 then (g_k1 (f_X10_retime_l1 a0 a1 a2 a3 a4 σ5 FU (0 : Int32) (0 : Int32)) fun r9 => (if r9 ≤ 0 then (g_k1 (f_X10_changes σ5 1) fun σ53 => (g_k2 (f_X10_retime_l3 a0 a1 a2 a3 a4 σ53 FU (0 : Int32) (0 : Int32) σ53) fun r57 σ58 => some (r57, σ58))) else (g_k2 (f_X10_refuses σ5 (3 : Int32) r9) fun v101 σ102 => some (v101, σ102)))) else some ((0 : Int32), σ5)))))
set_option maxRecDepth 100000 in
set_option maxHeartbeats 4000000 in
theorem c_X10_retime (l : Launch) {Γ : gG} {ad : Nat → Nat} {N : Nat} (hN : 8 ≤ N) {σ : gSt} {a0 : Int32} {a1 : Int32} {a2 : Int32} {a3 : Int32} {a4 : Int32}  {r : Int32} {σ' : gSt} (hf : f_X10_retime σ a0 a1 a2 a3 a4 = some (r, σ')) : gMi l celM Γ ad N yX10_retime cX10_retime 12 (some .int) (gR 3 0 0) [.ref (ad 0), .int a0, .int a1, .int a2, .int a3, .int a4] σ r σ' := by
  intro sz
  refine gOf (Qc := fun sz => gQci celM Γ ad N r σ' sz) RX10 (by decide) rfl (Nat.le_of_ble_eq_true rfl) (fun p e s m args below meth c H locs ls X S hl => ?_)
  have hl : lv_has ls 12 [(0, .ref (ad 0)), (1, .int a0), (2, .int a1), (3, .int a2), (4, .int a3), (5, .int a4)] := hl
  have hx := X.1
  have hb := X.2.1
  unfold f_X10_retime at hf
  refine lv_aload_n hx hb dX10_retime_0 rfl (lv_at hl 0 rfl) ?_
  refine lv_iload_n hx hb dX10_retime_1 rfl (lv_at hl 1 rfl) ?_
  refine lv_iconst (v := (-1 : Int32)) hx hb dX10_retime_2 (by decide) ?_
  refine lv_iconst (v := (1 : Int32)) hx hb dX10_retime_3 (by decide) ?_
  obtain ⟨v1, hv1, hf⟩ := g_s1 hf
  refine g_ki S (g_runS (rest := [.ref (ad 0)]) X S (c_X10_in l hN  hv1 _) csX10_in mlX10_48 rfl rfl hl.1 (Nat.le_of_ble_eq_true rfl) ⟨⟨rfl, rfl⟩, ⟨Nat.le_of_ble_eq_true rfl, Nat.le_of_ble_eq_true rfl⟩, Nat.le_of_ble_eq_true rfl, Nat.le_of_ble_eq_true rfl⟩ dX10_retime_4) (fun H locs S => ?_)
  obtain ⟨x2, hr3, hf⟩ := g_s1 hf
  have J4 : ∀ (H : Heap) (locs : List Loc) (ls : Array Slot), gS celM Γ ad N σ s H locs → lv_has ls 12 [(0, .ref (ad 0)), (1, .int a0), (2, .int a1), (3, .int a2), (4, .int a3), (5, .int a4)] → W p l e (gR 3 0 0) s m args below meth c H locs 0 0 (gQi celM Γ ad N r σ' below args s) (F0 m 102 ls [.int x2, .ref (ad 0)]) := by
    intro H locs ls S hl
    obtain ⟨σ5, hσ5, hf⟩ := g_s1 hf
    refine pfX10_35 X S hN hσ5 dX10_retime_102 (fun H locs S => ?_)
    refine lv_aload_n hx hb dX10_retime_105 rfl (lv_at hl 0 rfl) ?_
    refine gfX10_35 X S hN dX10_retime_106 ?_
    refine lv_if_le (tgt := 114) hx hb dX10_retime_109 (by decide) (fun c6 => ?_) (fun c6 => ?_)
    · have hf := (if_pos c6).symm.trans hf
      refine lv_iconst (v := (0 : Int32)) hx hb dX10_retime_114 (by decide) ?_
      refine lv_istore (lv' := [(6, .int (0 : Int32)), (0, .ref (ad 0)), (1, .int a0), (2, .int a1), (3, .int a2), (4, .int a3), (5, .int a4)]) hx hb dX10_retime_115 hl (by decide) rfl (fun ls hl => ?_)
      refine lv_iconst (v := (0 : Int32)) hx hb dX10_retime_117 (by decide) ?_
      refine lv_istore (lv' := [(7, .int (0 : Int32)), (6, .int (0 : Int32)), (0, .ref (ad 0)), (1, .int a0), (2, .int a1), (3, .int a2), (4, .int a3), (5, .int a4)]) hx hb dX10_retime_118 hl (by decide) rfl (fun ls hl => ?_)
      obtain ⟨r9, hr51, hf⟩ := g_s1 hf
      refine w_X10_retime_l1 hN X  FU _ _ _  hr51 (fun H locs ls S hl => ?_) _ _ _ S (lv_sub hl [0, 1, 2, 3, 4, 5, 6, 7] rfl)
      refine lv_iload hx hb dX10_retime_264 (lv_at hl 0 rfl) ?_
      refine lv_if_le (tgt := 277) hx hb dX10_retime_266 (by decide) (fun c52 => ?_) (fun c52 => ?_)
      · have hf := (if_pos c52).symm.trans hf
        refine lv_aload_n hx hb dX10_retime_277 rfl (lv_at hl 1 rfl) ?_
        refine lv_aload_n hx hb dX10_retime_278 rfl (lv_at hl 1 rfl) ?_
        refine gfX10_7 X S hN dX10_retime_279 ?_
        obtain ⟨σ53, hσ53, hf⟩ := g_s1 hf
        refine g_kv S (g_runV (rest := []) X S (c_X10_changes l hN (by rfl : gma 1 = true) hσ53 _) cvX10_changes mlX10_78 (by omega) (ceM_10 _) rfl rfl rfl hl.1 (Nat.le_of_ble_eq_true rfl) ⟨⟨rfl, rfl⟩, ⟨Nat.le_of_ble_eq_true rfl, Nat.le_of_ble_eq_true rfl⟩, Nat.le_of_ble_eq_true rfl, Nat.le_of_ble_eq_true rfl⟩ dX10_retime_282) (fun H locs S => ?_)
        refine lv_iconst (v := (0 : Int32)) hx hb dX10_retime_285 (by decide) ?_
        refine lv_istore (lv' := [(7, .int (0 : Int32)), (6, .int r9), (0, .ref (ad 0)), (1, .int a0), (2, .int a1), (3, .int a2), (4, .int a3), (5, .int a4)]) hx hb dX10_retime_286 hl (by decide) rfl (fun ls hl => ?_)
        refine lv_iconst (v := (0 : Int32)) hx hb dX10_retime_288 (by decide) ?_
        refine lv_istore (lv' := [(8, .int (0 : Int32)), (7, .int (0 : Int32)), (6, .int r9), (0, .ref (ad 0)), (1, .int a0), (2, .int a1), (3, .int a2), (4, .int a3), (5, .int a4)]) hx hb dX10_retime_289 hl (by decide) rfl (fun ls hl => ?_)
        obtain ⟨r57, σ58, hr100, hf⟩ := g_s2 hf
        refine w_X10_retime_l3 hN X  FU _ _ _ _ _  hr100 (fun H locs ls S hl => ?_) _ _ _ S (lv_sub hl [0, 1, 3, 4, 5, 6, 7, 8] rfl)
        refine lv_iload hx hb dX10_retime_441 (lv_at hl 0 rfl) ?_
        cases hf
        exact g_reti X S rfl dX10_retime_443
      · have hf := (if_neg c52).symm.trans hf
        refine lv_aload_n hx hb dX10_retime_269 rfl (lv_at hl 1 rfl) ?_
        refine lv_iconst (v := (3 : Int32)) hx hb dX10_retime_270 (by decide) ?_
        refine lv_iload hx hb dX10_retime_271 (lv_at hl 0 rfl) ?_
        obtain ⟨v101, σ102, hv101, hf⟩ := g_s2 hf
        refine g_ki S (g_runV (rest := []) X S (c_X10_refuses l hN  hv101 _) cvX10_refuses mlX10_75 (by omega) (ceM_10 _) rfl rfl rfl hl.1 (Nat.le_of_ble_eq_true rfl) ⟨⟨rfl, rfl⟩, ⟨Nat.le_of_ble_eq_true rfl, Nat.le_of_ble_eq_true rfl⟩, Nat.le_of_ble_eq_true rfl, Nat.le_of_ble_eq_true rfl⟩ dX10_retime_273) (fun H locs S => ?_)
        cases hf
        exact g_reti X S rfl dX10_retime_276
    · have hf := (if_neg c6).symm.trans hf
      refine lv_iconst (v := (0 : Int32)) hx hb dX10_retime_112 (by decide) ?_
      cases hf
      exact g_reti X S rfl dX10_retime_113
  replace hf := hr3
  refine lv_if_ne (tgt := 14) hx hb dX10_retime_7 (by decide) (fun c103 => ?_) (fun c103 => ?_)
  · have hf := (if_neg c103).symm.trans hf
    refine lv_iload_n hx hb dX10_retime_14 rfl (lv_at hl 2 rfl) ?_
    refine lv_iconst (v := (0 : Int32)) hx hb dX10_retime_15 (by decide) ?_
    refine lv_sipush (v := (9999 : Int32)) hx hb dX10_retime_16 (by decide) ?_
    obtain ⟨v104, hv104, hf⟩ := g_s1 hf
    refine g_ki S (g_runS (rest := [.ref (ad 0)]) X S (c_X10_in l hN  hv104 _) csX10_in mlX10_48 rfl rfl hl.1 (Nat.le_of_ble_eq_true rfl) ⟨⟨rfl, rfl⟩, ⟨Nat.le_of_ble_eq_true rfl, Nat.le_of_ble_eq_true rfl⟩, Nat.le_of_ble_eq_true rfl, Nat.le_of_ble_eq_true rfl⟩ dX10_retime_19) (fun H locs S => ?_)
    refine lv_if_eq (tgt := 97) hx hb dX10_retime_22 (by decide) (fun c105 => ?_) (fun c105 => ?_)
    · have hf := (if_pos c105).symm.trans hf
      refine lv_iconst (v := (2 : Int32)) hx hb dX10_retime_97 (by decide) ?_
      refine lv_goto (tgt := 102) hx hb dX10_retime_98 (by decide) ?_
      cases hf
      exact J4 _ _ _ S (lv_sub hl [0, 1, 2, 3, 4, 5] rfl)
    · have hf := (if_neg c105).symm.trans hf
      refine lv_iload_n hx hb dX10_retime_25 rfl (lv_at hl 3 rfl) ?_
      refine lv_iconst (v := (0 : Int32)) hx hb dX10_retime_26 (by decide) ?_
      refine lv_sipush (v := (9999 : Int32)) hx hb dX10_retime_27 (by decide) ?_
      obtain ⟨v106, hv106, hf⟩ := g_s1 hf
      refine g_ki S (g_runS (rest := [.ref (ad 0)]) X S (c_X10_in l hN  hv106 _) csX10_in mlX10_48 rfl rfl hl.1 (Nat.le_of_ble_eq_true rfl) ⟨⟨rfl, rfl⟩, ⟨Nat.le_of_ble_eq_true rfl, Nat.le_of_ble_eq_true rfl⟩, Nat.le_of_ble_eq_true rfl, Nat.le_of_ble_eq_true rfl⟩ dX10_retime_30) (fun H locs S => ?_)
      refine lv_if_eq (tgt := 97) hx hb dX10_retime_33 (by decide) (fun c107 => ?_) (fun c107 => ?_)
      · have hf := (if_pos c107).symm.trans hf
        refine lv_iconst (v := (2 : Int32)) hx hb dX10_retime_97 (by decide) ?_
        refine lv_goto (tgt := 102) hx hb dX10_retime_98 (by decide) ?_
        cases hf
        exact J4 _ _ _ S (lv_sub hl [0, 1, 2, 3, 4, 5] rfl)
      · have hf := (if_neg c107).symm.trans hf
        refine lv_iload hx hb dX10_retime_36 (lv_at hl 4 rfl) ?_
        refine lv_iconst (v := (0 : Int32)) hx hb dX10_retime_38 (by decide) ?_
        refine lv_sipush (v := (9999 : Int32)) hx hb dX10_retime_39 (by decide) ?_
        obtain ⟨v108, hv108, hf⟩ := g_s1 hf
        refine g_ki S (g_runS (rest := [.ref (ad 0)]) X S (c_X10_in l hN  hv108 _) csX10_in mlX10_48 rfl rfl hl.1 (Nat.le_of_ble_eq_true rfl) ⟨⟨rfl, rfl⟩, ⟨Nat.le_of_ble_eq_true rfl, Nat.le_of_ble_eq_true rfl⟩, Nat.le_of_ble_eq_true rfl, Nat.le_of_ble_eq_true rfl⟩ dX10_retime_42) (fun H locs S => ?_)
        refine lv_if_eq (tgt := 97) hx hb dX10_retime_45 (by decide) (fun c109 => ?_) (fun c109 => ?_)
        · have hf := (if_pos c109).symm.trans hf
          refine lv_iconst (v := (2 : Int32)) hx hb dX10_retime_97 (by decide) ?_
          refine lv_goto (tgt := 102) hx hb dX10_retime_98 (by decide) ?_
          cases hf
          exact J4 _ _ _ S (lv_sub hl [0, 1, 2, 3, 4, 5] rfl)
        · have hf := (if_neg c109).symm.trans hf
          refine lv_iload hx hb dX10_retime_48 (lv_at hl 5 rfl) ?_
          refine lv_iconst (v := (0 : Int32)) hx hb dX10_retime_50 (by decide) ?_
          refine lv_sipush (v := (9999 : Int32)) hx hb dX10_retime_51 (by decide) ?_
          obtain ⟨v110, hv110, hf⟩ := g_s1 hf
          refine g_ki S (g_runS (rest := [.ref (ad 0)]) X S (c_X10_in l hN  hv110 _) csX10_in mlX10_48 rfl rfl hl.1 (Nat.le_of_ble_eq_true rfl) ⟨⟨rfl, rfl⟩, ⟨Nat.le_of_ble_eq_true rfl, Nat.le_of_ble_eq_true rfl⟩, Nat.le_of_ble_eq_true rfl, Nat.le_of_ble_eq_true rfl⟩ dX10_retime_54) (fun H locs S => ?_)
          refine lv_if_eq (tgt := 97) hx hb dX10_retime_57 (by decide) (fun c111 => ?_) (fun c111 => ?_)
          · have hf := (if_pos c111).symm.trans hf
            refine lv_iconst (v := (2 : Int32)) hx hb dX10_retime_97 (by decide) ?_
            refine lv_goto (tgt := 102) hx hb dX10_retime_98 (by decide) ?_
            cases hf
            exact J4 _ _ _ S (lv_sub hl [0, 1, 2, 3, 4, 5] rfl)
          · have hf := (if_neg c111).symm.trans hf
            refine lv_iload_n hx hb dX10_retime_60 rfl (lv_at hl 2 rfl) ?_
            refine lv_iload hx hb dX10_retime_61 (lv_at hl 4 rfl) ?_
            refine lv_icmp_eq (tgt := 97) hx hb dX10_retime_63 (by decide) (fun c112 => ?_) (fun c112 => ?_)
            · have hf := (if_pos c112).symm.trans hf
              refine lv_iconst (v := (2 : Int32)) hx hb dX10_retime_97 (by decide) ?_
              refine lv_goto (tgt := 102) hx hb dX10_retime_98 (by decide) ?_
              cases hf
              exact J4 _ _ _ S (lv_sub hl [0, 1, 2, 3, 4, 5] rfl)
            · have hf := (if_neg c112).symm.trans hf
              refine lv_iload_n hx hb dX10_retime_66 rfl (lv_at hl 3 rfl) ?_
              refine lv_iload hx hb dX10_retime_67 (lv_at hl 5 rfl) ?_
              refine lv_icmp_eq (tgt := 97) hx hb dX10_retime_69 (by decide) (fun c113 => ?_) (fun c113 => ?_)
              · have hf := (if_pos c113).symm.trans hf
                refine lv_iconst (v := (2 : Int32)) hx hb dX10_retime_97 (by decide) ?_
                refine lv_goto (tgt := 102) hx hb dX10_retime_98 (by decide) ?_
                cases hf
                exact J4 _ _ _ S (lv_sub hl [0, 1, 2, 3, 4, 5] rfl)
              · have hf := (if_neg c113).symm.trans hf
                refine lv_iload_n hx hb dX10_retime_72 rfl (lv_at hl 2 rfl) ?_
                refine lv_iload hx hb dX10_retime_73 (lv_at hl 4 rfl) ?_
                obtain ⟨x114, hr115, hf⟩ := g_s1 hf
                have J116 : ∀ (H : Heap) (locs : List Loc) (ls : Array Slot), gS celM Γ ad N σ s H locs → lv_has ls 12 [(0, .ref (ad 0)), (1, .int a0), (2, .int a1), (3, .int a2), (4, .int a3), (5, .int a4)] → W p l e (gR 3 0 0) s m args below meth c H locs 0 0 (gQi celM Γ ad N r σ' below args s) (F0 m 83 ls [.int x114, .ref (ad 0)]) := by
                  intro H locs ls S hl
                  refine lv_iload_n hx hb dX10_retime_83 rfl (lv_at hl 3 rfl) ?_
                  refine lv_iload hx hb dX10_retime_84 (lv_at hl 5 rfl) ?_
                  obtain ⟨x117, hr118, hf⟩ := g_s1 hf
                  have J119 : ∀ (H : Heap) (locs : List Loc) (ls : Array Slot), gS celM Γ ad N σ s H locs → lv_has ls 12 [(0, .ref (ad 0)), (1, .int a0), (2, .int a1), (3, .int a2), (4, .int a3), (5, .int a4)] → W p l e (gR 3 0 0) s m args below meth c H locs 0 0 (gQi celM Γ ad N r σ' below args s) (F0 m 94 ls [.int x117, .int x114, .ref (ad 0)]) := by
                    intro H locs ls S hl
                    refine lv_icmp_eq (tgt := 101) hx hb dX10_retime_94 (by decide) (fun c120 => ?_) (fun c120 => ?_)
                    · have hf := (if_pos c120).symm.trans hf
                      refine lv_iconst (v := (0 : Int32)) hx hb dX10_retime_101 (by decide) ?_
                      cases hf
                      exact J4 _ _ _ S (lv_sub hl [0, 1, 2, 3, 4, 5] rfl)
                    · have hf := (if_neg c120).symm.trans hf
                      refine lv_iconst (v := (2 : Int32)) hx hb dX10_retime_97 (by decide) ?_
                      refine lv_goto (tgt := 102) hx hb dX10_retime_98 (by decide) ?_
                      cases hf
                      exact J4 _ _ _ S (lv_sub hl [0, 1, 2, 3, 4, 5] rfl)
                  replace hf := hr118
                  refine lv_icmp_ge (tgt := 93) hx hb dX10_retime_86 (by decide) (fun c121 => ?_) (fun c121 => ?_)
                  · have hf := (if_pos c121).symm.trans hf
                    refine lv_iconst (v := (0 : Int32)) hx hb dX10_retime_93 (by decide) ?_
                    cases hf
                    exact J119 _ _ _ S (lv_sub hl [0, 1, 2, 3, 4, 5] rfl)
                  · have hf := (if_neg c121).symm.trans hf
                    refine lv_iconst (v := (1 : Int32)) hx hb dX10_retime_89 (by decide) ?_
                    refine lv_goto (tgt := 94) hx hb dX10_retime_90 (by decide) ?_
                    cases hf
                    exact J119 _ _ _ S (lv_sub hl [0, 1, 2, 3, 4, 5] rfl)
                replace hf := hr115
                refine lv_icmp_ge (tgt := 82) hx hb dX10_retime_75 (by decide) (fun c122 => ?_) (fun c122 => ?_)
                · have hf := (if_pos c122).symm.trans hf
                  refine lv_iconst (v := (0 : Int32)) hx hb dX10_retime_82 (by decide) ?_
                  cases hf
                  exact J116 _ _ _ S (lv_sub hl [0, 1, 2, 3, 4, 5] rfl)
                · have hf := (if_neg c122).symm.trans hf
                  refine lv_iconst (v := (1 : Int32)) hx hb dX10_retime_78 (by decide) ?_
                  refine lv_goto (tgt := 83) hx hb dX10_retime_79 (by decide) ?_
                  cases hf
                  exact J116 _ _ _ S (lv_sub hl [0, 1, 2, 3, 4, 5] rfl)
  · have hf := (if_pos c103).symm.trans hf
    refine lv_iconst (v := (1 : Int32)) hx hb dX10_retime_10 (by decide) ?_
    refine lv_goto (tgt := 102) hx hb dX10_retime_11 (by decide) ?_
    cases hf
    exact J4 _ _ _ S (lv_sub hl [0, 1, 2, 3, 4, 5] rfl)

noncomputable def f_X10_both_l2 (σ : gSt) (i1 : Int32) : Nat → Int32 → Int32 → Option (Int32)
  | 0, _, _ => none
  | n + 1, i5, i6 => (if (σ 1 29) ≤ i5 then some i6 else (g_k1 (f_X10_shared σ (0 : Int32) i1 i5) fun v9 => (f_X10_both_l2 σ i1 n (i5 + 1) (i6 + v9))))
set_option maxRecDepth 100000 in
set_option maxHeartbeats 4000000 in
theorem w_X10_both_l2 {l : Launch} {Γ : gG} {ad : Nat → Nat} {N : Nat} {p : Program} {e : Env} {s : State} {m : MethodId} {args : Array Value} {below : List Frame} {meth : Method} {c : Code} {Q : State → Prop} (hN : 8 ≤ N) (X : gX celM Γ ad N RX10 cX10_both 4 (some .int) p s m args meth c) {σ : gSt} {i1 : Int32}  : ∀ (n : Nat) (i5 : Int32) (i6 : Int32) (r7 : Int32), f_X10_both_l2 σ i1 n i5 i6 = some r7 → (∀ (H : Heap) (locs : List Loc) (ls : Array Slot), gS celM Γ ad N σ s H locs → lv_has ls 4 [(2, .int i1), (1, .int r7), (0, .ref (ad 0))] → W p l e (gR 4 0 0) s m args below meth c H locs 0 0 (Q) (F0 m 44 ls [])) → ∀ (H : Heap) (locs : List Loc) (ls : Array Slot), gS celM Γ ad N σ s H locs → lv_has ls 4 [(3, .int i5), (2, .int i1), (1, .int i6), (0, .ref (ad 0))] → W p l e (gR 4 0 0) s m args below meth c H locs 0 0 (Q) (F0 m 17 ls []) := by
  have hx := X.1
  have hb := X.2.1
  intro n
  induction n with
  | zero =>
    intro i5 i6 r7 hf
    cases hf
  | succ n ih =>
    intro i5 i6 r7 hf J H locs ls S hl
    rw [f_X10_both_l2] at hf
    refine lv_iload_n hx hb dX10_both_17 rfl (lv_at hl 0 rfl) ?_
    refine lv_aload_n hx hb dX10_both_18 rfl (lv_at hl 3 rfl) ?_
    refine gfX10_7 X S hN dX10_both_19 ?_
    refine lv_bipush (v := (29 : Int32)) hx hb dX10_both_22 (by decide) ?_
    refine g_ialdC X S (by omega) (ceM_a (rfl : gma 1 = true)) 29 (by decide) (by decide) dX10_both_24 ?_
    refine lv_icmp_ge (tgt := 44) hx hb dX10_both_25 (by decide) (fun c8 => ?_) (fun c8 => ?_)
    · have hf := (if_pos c8).symm.trans hf
      cases hf
      exact J _ _ _ S (lv_sub hl [1, 2, 3] rfl)
    · have hf := (if_neg c8).symm.trans hf
      refine lv_iload_n hx hb dX10_both_28 rfl (lv_at hl 2 rfl) ?_
      refine lv_aload_n hx hb dX10_both_29 rfl (lv_at hl 3 rfl) ?_
      refine lv_iconst (v := (0 : Int32)) hx hb dX10_both_30 (by decide) ?_
      refine lv_iload_n hx hb dX10_both_31 rfl (lv_at hl 1 rfl) ?_
      refine lv_iload_n hx hb dX10_both_32 rfl (lv_at hl 0 rfl) ?_
      obtain ⟨v9, hv9, hf⟩ := g_s1 hf
      refine g_ki S (g_runV (rest := [.int i6]) X S (c_X10_shared l hN  hv9 _) cvX10_shared mlX10_116 (by omega) (ceM_10 _) rfl rfl rfl hl.1 (Nat.le_of_ble_eq_true rfl) ⟨⟨rfl, rfl⟩, ⟨Nat.le_of_ble_eq_true rfl, Nat.le_of_ble_eq_true rfl⟩, Nat.le_of_ble_eq_true rfl, Nat.le_of_ble_eq_true rfl⟩ dX10_both_33) (fun H locs S => ?_)
      refine lv_iadd hx hb dX10_both_36 ?_
      refine lv_istore_n (lv' := [(1, .int (i6 + v9)), (3, .int i5), (2, .int i1), (0, .ref (ad 0))]) hx hb dX10_both_37 rfl hl (by decide) rfl (fun ls hl => ?_)
      refine lv_iinc (v := (i5 + 1)) (lv' := [(3, .int (i5 + 1)), (1, .int (i6 + v9)), (2, .int i1), (0, .ref (ad 0))]) hx hb dX10_both_38 hl (k := 1) rfl rfl (by decide) rfl (fun ls hl => ?_)
      refine lv_goto (tgt := 17) hx hb dX10_both_41 (by decide) ?_
      exact ih _ _ _  hf J _ _ _ S (lv_sub hl [0, 2, 1, 3] rfl)
noncomputable def f_X10_both_l1 (σ : gSt) : Nat → Int32 → Int32 → Option (Int32)
  | 0, _, _ => none
  | n + 1, i1, i2 => (if (σ 1 28) ≤ i1 then some i2 else (g_k1 (f_X10_both_l2 σ i1 FU (0 : Int32) i2) fun r7 => (f_X10_both_l1 σ n (i1 + 1) r7)))
set_option maxRecDepth 100000 in
set_option maxHeartbeats 4000000 in
theorem w_X10_both_l1 {l : Launch} {Γ : gG} {ad : Nat → Nat} {N : Nat} {p : Program} {e : Env} {s : State} {m : MethodId} {args : Array Value} {below : List Frame} {meth : Method} {c : Code} {Q : State → Prop} (hN : 8 ≤ N) (X : gX celM Γ ad N RX10 cX10_both 4 (some .int) p s m args meth c) {σ : gSt}  : ∀ (n : Nat) (i1 : Int32) (i2 : Int32) (r3 : Int32), f_X10_both_l1 σ n i1 i2 = some r3 → (∀ (H : Heap) (locs : List Loc) (ls : Array Slot), gS celM Γ ad N σ s H locs → lv_has ls 4 [(1, .int r3)] → W p l e (gR 4 0 0) s m args below meth c H locs 0 0 (Q) (F0 m 50 ls [])) → ∀ (H : Heap) (locs : List Loc) (ls : Array Slot), gS celM Γ ad N σ s H locs → lv_has ls 4 [(2, .int i1), (1, .int i2), (0, .ref (ad 0))] → W p l e (gR 4 0 0) s m args below meth c H locs 0 0 (Q) (F0 m 4 ls []) := by
  have hx := X.1
  have hb := X.2.1
  intro n
  induction n with
  | zero =>
    intro i1 i2 r3 hf
    cases hf
  | succ n ih =>
    intro i1 i2 r3 hf J H locs ls S hl
    rw [f_X10_both_l1] at hf
    refine lv_iload_n hx hb dX10_both_4 rfl (lv_at hl 0 rfl) ?_
    refine lv_aload_n hx hb dX10_both_5 rfl (lv_at hl 2 rfl) ?_
    refine gfX10_7 X S hN dX10_both_6 ?_
    refine lv_bipush (v := (28 : Int32)) hx hb dX10_both_9 (by decide) ?_
    refine g_ialdC X S (by omega) (ceM_a (rfl : gma 1 = true)) 28 (by decide) (by decide) dX10_both_11 ?_
    refine lv_icmp_ge (tgt := 50) hx hb dX10_both_12 (by decide) (fun c4 => ?_) (fun c4 => ?_)
    · have hf := (if_pos c4).symm.trans hf
      cases hf
      exact J _ _ _ S (lv_sub hl [1] rfl)
    · have hf := (if_neg c4).symm.trans hf
      refine lv_iconst (v := (0 : Int32)) hx hb dX10_both_15 (by decide) ?_
      refine lv_istore_n (lv' := [(3, .int (0 : Int32)), (2, .int i1), (1, .int i2), (0, .ref (ad 0))]) hx hb dX10_both_16 rfl hl (by decide) rfl (fun ls hl => ?_)
      obtain ⟨r7, hr10, hf⟩ := g_s1 hf
      refine w_X10_both_l2 hN X  FU _ _ _  hr10 (fun H locs ls S hl => ?_) _ _ _ S (lv_sub hl [0, 1, 2, 3] rfl)
      refine lv_iinc (v := (i1 + 1)) (lv' := [(2, .int (i1 + 1)), (1, .int r7), (0, .ref (ad 0))]) hx hb dX10_both_44 hl (k := 0) rfl rfl (by decide) rfl (fun ls hl => ?_)
      refine lv_goto (tgt := 4) hx hb dX10_both_47 (by decide) ?_
      exact ih _ _ _  hf J _ _ _ S (lv_sub hl [0, 1, 2] rfl)
noncomputable def f_X10_both (σ : gSt)  : Option (Int32) :=
  (g_k1 (f_X10_both_l1 σ FU (0 : Int32) (0 : Int32)) fun r3 => some r3)
set_option maxRecDepth 100000 in
set_option maxHeartbeats 4000000 in
theorem c_X10_both (l : Launch) {Γ : gG} {ad : Nat → Nat} {N : Nat} (hN : 8 ≤ N) {σ : gSt}   {r : Int32} (hf : f_X10_both σ  = some r) : gMi l celM Γ ad N yX10_both cX10_both 4 (some .int) (gR 4 0 0) [.ref (ad 0)] σ r σ := by
  intro sz
  refine gOf (Qc := fun sz => gQci celM Γ ad N r σ sz) RX10 (by decide) rfl (Nat.le_of_ble_eq_true rfl) (fun p e s m args below meth c H locs ls X S hl => ?_)
  have hl : lv_has ls 4 [(0, .ref (ad 0))] := hl
  have hx := X.1
  have hb := X.2.1
  unfold f_X10_both at hf
  refine lv_iconst (v := (0 : Int32)) hx hb dX10_both_0 (by decide) ?_
  refine lv_istore_n (lv' := [(1, .int (0 : Int32)), (0, .ref (ad 0))]) hx hb dX10_both_1 rfl hl (by decide) rfl (fun ls hl => ?_)
  refine lv_iconst (v := (0 : Int32)) hx hb dX10_both_2 (by decide) ?_
  refine lv_istore_n (lv' := [(2, .int (0 : Int32)), (1, .int (0 : Int32)), (0, .ref (ad 0))]) hx hb dX10_both_3 rfl hl (by decide) rfl (fun ls hl => ?_)
  obtain ⟨r3, hr11, hf⟩ := g_s1 hf
  refine w_X10_both_l1 hN X  FU _ _ _  hr11 (fun H locs ls S hl => ?_) _ _ _ S (lv_sub hl [0, 1, 2] rfl)
  refine lv_iload_n hx hb dX10_both_50 rfl (lv_at hl 0 rfl) ?_
  cases hf
  exact g_reti X S rfl dX10_both_51

noncomputable def f_X10_with_l1 (σ : gSt) (a0 : Int32) (a1 : Int32) : Nat → Int32 → Int32 → Option (Int32)
  | 0, _, _ => none
  | n + 1, i1, i2 => (g_k1 (gald σ 1 926 ((28 : Int32) + a0)) fun v4 => (if v4 ≤ i1 then some i2 else (g_k1 (f_X10_problems σ a0 i1) fun v6 => (g_k1 (if (v6 &&& a1) = 0 then some (0 : Int32) else some (1 : Int32)) fun x7 => (f_X10_with_l1 σ a0 a1 n (i1 + 1) (i2 + x7))))))
set_option maxRecDepth 100000 in
set_option maxHeartbeats 4000000 in
theorem w_X10_with_l1 {l : Launch} {Γ : gG} {ad : Nat → Nat} {N : Nat} {p : Program} {e : Env} {s : State} {m : MethodId} {args : Array Value} {below : List Frame} {meth : Method} {c : Code} {Q : State → Prop} (hN : 8 ≤ N) (X : gX celM Γ ad N RX10 cX10_with 5 (some .int) p s m args meth c) {σ : gSt} {a0 : Int32} {a1 : Int32}  : ∀ (n : Nat) (i1 : Int32) (i2 : Int32) (r3 : Int32), f_X10_with_l1 σ a0 a1 n i1 i2 = some r3 → (∀ (H : Heap) (locs : List Loc) (ls : Array Slot), gS celM Γ ad N σ s H locs → lv_has ls 5 [(3, .int r3)] → W p l e (gR 7 0 0) s m args below meth c H locs 0 0 (Q) (F0 m 45 ls [])) → ∀ (H : Heap) (locs : List Loc) (ls : Array Slot), gS celM Γ ad N σ s H locs → lv_has ls 5 [(4, .int i1), (3, .int i2), (0, .ref (ad 0)), (1, .int a0), (2, .int a1)] → W p l e (gR 7 0 0) s m args below meth c H locs 0 0 (Q) (F0 m 5 ls []) := by
  have hx := X.1
  have hb := X.2.1
  intro n
  induction n with
  | zero =>
    intro i1 i2 r3 hf
    cases hf
  | succ n ih =>
    intro i1 i2 r3 hf J H locs ls S hl
    rw [f_X10_with_l1] at hf
    refine lv_iload hx hb dX10_with_5 (lv_at hl 0 rfl) ?_
    refine lv_aload_n hx hb dX10_with_7 rfl (lv_at hl 2 rfl) ?_
    refine gfX10_7 X S hN dX10_with_8 ?_
    refine lv_bipush (v := (28 : Int32)) hx hb dX10_with_11 (by decide) ?_
    refine lv_iload_n hx hb dX10_with_13 rfl (lv_at hl 3 rfl) ?_
    refine lv_iadd hx hb dX10_with_14 ?_
    obtain ⟨v4, hv4, hf⟩ := g_s1 hf
    refine g_iald X S (by omega) (ceM_a (rfl : gma 1 = true)) hv4 dX10_with_15 ?_
    refine lv_icmp_ge (tgt := 45) hx hb dX10_with_16 (by decide) (fun c5 => ?_) (fun c5 => ?_)
    · have hf := (if_pos c5).symm.trans hf
      cases hf
      exact J _ _ _ S (lv_sub hl [1] rfl)
    · have hf := (if_neg c5).symm.trans hf
      refine lv_iload_n hx hb dX10_with_19 rfl (lv_at hl 1 rfl) ?_
      refine lv_aload_n hx hb dX10_with_20 rfl (lv_at hl 2 rfl) ?_
      refine lv_iload_n hx hb dX10_with_21 rfl (lv_at hl 3 rfl) ?_
      refine lv_iload hx hb dX10_with_22 (lv_at hl 0 rfl) ?_
      obtain ⟨v6, hv6, hf⟩ := g_s1 hf
      refine g_ki S (g_runV (rest := [.int i2]) X S (c_X10_problems l hN  hv6 _) cvX10_problems mlX10_184 (by omega) (ceM_10 _) rfl rfl rfl hl.1 (Nat.le_of_ble_eq_true rfl) ⟨⟨rfl, rfl⟩, ⟨Nat.le_of_ble_eq_true rfl, Nat.le_of_ble_eq_true rfl⟩, Nat.le_of_ble_eq_true rfl, Nat.le_of_ble_eq_true rfl⟩ dX10_with_24) (fun H locs S => ?_)
      refine lv_iload_n hx hb dX10_with_27 rfl (lv_at hl 4 rfl) ?_
      refine lv_iand hx hb dX10_with_28 ?_
      obtain ⟨x7, hr8, hf⟩ := g_s1 hf
      have J9 : ∀ (H : Heap) (locs : List Loc) (ls : Array Slot), gS celM Γ ad N σ s H locs → lv_has ls 5 [(4, .int i1), (0, .ref (ad 0)), (1, .int a0), (2, .int a1)] → W p l e (gR 7 0 0) s m args below meth c H locs 0 0 (Q) (F0 m 37 ls [.int x7, .int i2]) := by
        intro H locs ls S hl
        refine lv_iadd hx hb dX10_with_37 ?_
        refine lv_istore_n (lv' := [(3, .int (i2 + x7)), (4, .int i1), (0, .ref (ad 0)), (1, .int a0), (2, .int a1)]) hx hb dX10_with_38 rfl hl (by decide) rfl (fun ls hl => ?_)
        refine lv_iinc (v := (i1 + 1)) (lv' := [(4, .int (i1 + 1)), (3, .int (i2 + x7)), (0, .ref (ad 0)), (1, .int a0), (2, .int a1)]) hx hb dX10_with_39 hl (k := 1) rfl rfl (by decide) rfl (fun ls hl => ?_)
        refine lv_goto (tgt := 5) hx hb dX10_with_42 (by decide) ?_
        exact ih _ _ _  hf J _ _ _ S (lv_sub hl [0, 1, 2, 3, 4] rfl)
      replace hf := hr8
      refine lv_if_eq (tgt := 36) hx hb dX10_with_29 (by decide) (fun c10 => ?_) (fun c10 => ?_)
      · have hf := (if_pos c10).symm.trans hf
        refine lv_iconst (v := (0 : Int32)) hx hb dX10_with_36 (by decide) ?_
        cases hf
        exact J9 _ _ _ S (lv_sub hl [0, 2, 3, 4] rfl)
      · have hf := (if_neg c10).symm.trans hf
        refine lv_iconst (v := (1 : Int32)) hx hb dX10_with_32 (by decide) ?_
        refine lv_goto (tgt := 37) hx hb dX10_with_33 (by decide) ?_
        cases hf
        exact J9 _ _ _ S (lv_sub hl [0, 2, 3, 4] rfl)
noncomputable def f_X10_with (σ : gSt) (a0 : Int32) (a1 : Int32) : Option (Int32) :=
  (g_k1 (f_X10_with_l1 σ a0 a1 FU (0 : Int32) (0 : Int32)) fun r3 => some r3)
set_option maxRecDepth 100000 in
set_option maxHeartbeats 4000000 in
theorem c_X10_with (l : Launch) {Γ : gG} {ad : Nat → Nat} {N : Nat} (hN : 8 ≤ N) {σ : gSt} {a0 : Int32} {a1 : Int32}  {r : Int32} (hf : f_X10_with σ a0 a1 = some r) : gMi l celM Γ ad N yX10_with cX10_with 5 (some .int) (gR 7 0 0) [.ref (ad 0), .int a0, .int a1] σ r σ := by
  intro sz
  refine gOf (Qc := fun sz => gQci celM Γ ad N r σ sz) RX10 (by decide) rfl (Nat.le_of_ble_eq_true rfl) (fun p e s m args below meth c H locs ls X S hl => ?_)
  have hl : lv_has ls 5 [(0, .ref (ad 0)), (1, .int a0), (2, .int a1)] := hl
  have hx := X.1
  have hb := X.2.1
  unfold f_X10_with at hf
  refine lv_iconst (v := (0 : Int32)) hx hb dX10_with_0 (by decide) ?_
  refine lv_istore_n (lv' := [(3, .int (0 : Int32)), (0, .ref (ad 0)), (1, .int a0), (2, .int a1)]) hx hb dX10_with_1 rfl hl (by decide) rfl (fun ls hl => ?_)
  refine lv_iconst (v := (0 : Int32)) hx hb dX10_with_2 (by decide) ?_
  refine lv_istore (lv' := [(4, .int (0 : Int32)), (3, .int (0 : Int32)), (0, .ref (ad 0)), (1, .int a0), (2, .int a1)]) hx hb dX10_with_3 hl (by decide) rfl (fun ls hl => ?_)
  obtain ⟨r3, hr11, hf⟩ := g_s1 hf
  refine w_X10_with_l1 hN X  FU _ _ _  hr11 (fun H locs ls S hl => ?_) _ _ _ S (lv_sub hl [0, 1, 2, 3, 4] rfl)
  refine lv_iload_n hx hb dX10_with_45 rfl (lv_at hl 0 rfl) ?_
  cases hf
  exact g_reti X S rfl dX10_with_46

noncomputable def f_X10_number (σ : gSt) (a0 : Int32) : Option (Int32 × gSt) :=
  (g_k1 (f_X10_in σ a0 (0 : Int32) (13 : Int32)) fun v1 => (g_k1 (if v1 = 0 then some (1 : Int32) else some (0 : Int32)) fun x2 => (g_k1 (gset σ 0 10 x2) fun σ5 => (if (σ5 0 10) ≤ 0 then (if (6 : Int32) ≤ a0 then (if a0 = (6 : Int32) then some ((σ5 1 0), σ5) else (if a0 = (7 : Int32) then some ((σ5 1 7), σ5) else (if a0 = (8 : Int32) then (g_k1 (gald σ5 1 926 (((28 : Int32) + a0) - (8 : Int32))) fun v11 => some (v11, σ5)) else (if a0 = (9 : Int32) then (g_k1 (gald σ5 1 926 (((28 : Int32) + a0) - (8 : Int32))) fun v13 => some (v13, σ5)) else (if a0 = (10 : Int32) then (g_k1 (f_X10_both σ5 ) fun v15 => some (v15, σ5)) else (if a0 = (11 : Int32) then (g_k1 (f_X10_with σ5 (0 : Int32) (63 : Int32)) fun v17 => (g_k1 (f_X10_with σ5 (1 : Int32) (63 : Int32)) fun v18 => some ((v17 + v18), σ5))) else (if a0 = (12 : Int32) then some ((σ5 0 5), σ5) else some ((σ5 0 12), σ5)))))))) else (g_k1 (gald σ5 1 926 ((1 : Int32) + a0)) fun v20 => some (v20, σ5))) else some ((0 : Int32), σ5)))))
set_option maxRecDepth 100000 in
set_option maxHeartbeats 4000000 in
theorem c_X10_number (l : Launch) {Γ : gG} {ad : Nat → Nat} {N : Nat} (hN : 8 ≤ N) {σ : gSt} {a0 : Int32}  {r : Int32} {σ' : gSt} (hf : f_X10_number σ a0 = some (r, σ')) : gMi l celM Γ ad N yX10_number cX10_number 2 (some .int) (gR 8 0 0) [.ref (ad 0), .int a0] σ r σ' := by
  intro sz
  refine gOf (Qc := fun sz => gQci celM Γ ad N r σ' sz) RX10 (by decide) rfl (Nat.le_of_ble_eq_true rfl) (fun p e s m args below meth c H locs ls X S hl => ?_)
  have hl : lv_has ls 2 [(0, .ref (ad 0)), (1, .int a0)] := hl
  have hx := X.1
  have hb := X.2.1
  unfold f_X10_number at hf
  refine lv_aload_n hx hb dX10_number_0 rfl (lv_at hl 0 rfl) ?_
  refine lv_iload_n hx hb dX10_number_1 rfl (lv_at hl 1 rfl) ?_
  refine lv_iconst (v := (0 : Int32)) hx hb dX10_number_2 (by decide) ?_
  refine lv_bipush (v := (13 : Int32)) hx hb dX10_number_3 (by decide) ?_
  obtain ⟨v1, hv1, hf⟩ := g_s1 hf
  refine g_ki S (g_runS (rest := [.ref (ad 0)]) X S (c_X10_in l hN  hv1 _) csX10_in mlX10_48 rfl rfl hl.1 (Nat.le_of_ble_eq_true rfl) ⟨⟨rfl, rfl⟩, ⟨Nat.le_of_ble_eq_true rfl, Nat.le_of_ble_eq_true rfl⟩, Nat.le_of_ble_eq_true rfl, Nat.le_of_ble_eq_true rfl⟩ dX10_number_5) (fun H locs S => ?_)
  obtain ⟨x2, hr3, hf⟩ := g_s1 hf
  have J4 : ∀ (H : Heap) (locs : List Loc) (ls : Array Slot), gS celM Γ ad N σ s H locs → lv_has ls 2 [(0, .ref (ad 0)), (1, .int a0)] → W p l e (gR 8 0 0) s m args below meth c H locs 0 0 (gQi celM Γ ad N r σ' below args s) (F0 m 16 ls [.int x2, .ref (ad 0)]) := by
    intro H locs ls S hl
    obtain ⟨σ5, hσ5, hf⟩ := g_s1 hf
    refine pfX10_35 X S hN hσ5 dX10_number_16 (fun H locs S => ?_)
    refine lv_aload_n hx hb dX10_number_19 rfl (lv_at hl 0 rfl) ?_
    refine gfX10_35 X S hN dX10_number_20 ?_
    refine lv_if_le (tgt := 28) hx hb dX10_number_23 (by decide) (fun c6 => ?_) (fun c6 => ?_)
    · have hf := (if_pos c6).symm.trans hf
      refine lv_iload_n hx hb dX10_number_28 rfl (lv_at hl 1 rfl) ?_
      refine lv_bipush (v := (6 : Int32)) hx hb dX10_number_29 (by decide) ?_
      refine lv_icmp_ge (tgt := 43) hx hb dX10_number_31 (by decide) (fun c7 => ?_) (fun c7 => ?_)
      · have hf := (if_pos c7).symm.trans hf
        refine lv_iload_n hx hb dX10_number_43 rfl (lv_at hl 1 rfl) ?_
        by_cases c8 : a0 = (6 : Int32)
        · have hf := (if_pos c8).symm.trans hf
          refine lv_tableIn (off := 44) (tgt := 88) hx hb dX10_number_44 (by rw [c8]; decide) (by rw [c8]; decide) (by rw [c8]; decide) (by decide) ?_
          refine lv_aload_n hx hb dX10_number_88 rfl (lv_at hl 0 rfl) ?_
          refine gfX10_7 X S hN dX10_number_89 ?_
          refine lv_iconst (v := (0 : Int32)) hx hb dX10_number_92 (by decide) ?_
          refine g_ialdC X S (by omega) (ceM_a (rfl : gma 1 = true)) 0 (by decide) (by decide) dX10_number_93 ?_
          cases hf
          exact g_reti X S rfl dX10_number_94
        replace hf := (if_neg c8).symm.trans hf
        by_cases c9 : a0 = (7 : Int32)
        · have hf := (if_pos c9).symm.trans hf
          refine lv_tableIn (off := 51) (tgt := 95) hx hb dX10_number_44 (by rw [c9]; decide) (by rw [c9]; decide) (by rw [c9]; decide) (by decide) ?_
          refine lv_aload_n hx hb dX10_number_95 rfl (lv_at hl 0 rfl) ?_
          refine gfX10_7 X S hN dX10_number_96 ?_
          refine lv_bipush (v := (7 : Int32)) hx hb dX10_number_99 (by decide) ?_
          refine g_ialdC X S (by omega) (ceM_a (rfl : gma 1 = true)) 7 (by decide) (by decide) dX10_number_101 ?_
          cases hf
          exact g_reti X S rfl dX10_number_102
        replace hf := (if_neg c9).symm.trans hf
        by_cases c10 : a0 = (8 : Int32)
        · have hf := (if_pos c10).symm.trans hf
          refine lv_tableIn (off := 59) (tgt := 103) hx hb dX10_number_44 (by rw [c10]; decide) (by rw [c10]; decide) (by rw [c10]; decide) (by decide) ?_
          refine lv_aload_n hx hb dX10_number_103 rfl (lv_at hl 0 rfl) ?_
          refine gfX10_7 X S hN dX10_number_104 ?_
          refine lv_bipush (v := (28 : Int32)) hx hb dX10_number_107 (by decide) ?_
          refine lv_iload_n hx hb dX10_number_109 rfl (lv_at hl 1 rfl) ?_
          refine lv_iadd hx hb dX10_number_110 ?_
          refine lv_bipush (v := (8 : Int32)) hx hb dX10_number_111 (by decide) ?_
          refine lv_isub hx hb dX10_number_113 ?_
          obtain ⟨v11, hv11, hf⟩ := g_s1 hf
          refine g_iald X S (by omega) (ceM_a (rfl : gma 1 = true)) hv11 dX10_number_114 ?_
          cases hf
          exact g_reti X S rfl dX10_number_115
        replace hf := (if_neg c10).symm.trans hf
        by_cases c12 : a0 = (9 : Int32)
        · have hf := (if_pos c12).symm.trans hf
          refine lv_tableIn (off := 59) (tgt := 103) hx hb dX10_number_44 (by rw [c12]; decide) (by rw [c12]; decide) (by rw [c12]; decide) (by decide) ?_
          refine lv_aload_n hx hb dX10_number_103 rfl (lv_at hl 0 rfl) ?_
          refine gfX10_7 X S hN dX10_number_104 ?_
          refine lv_bipush (v := (28 : Int32)) hx hb dX10_number_107 (by decide) ?_
          refine lv_iload_n hx hb dX10_number_109 rfl (lv_at hl 1 rfl) ?_
          refine lv_iadd hx hb dX10_number_110 ?_
          refine lv_bipush (v := (8 : Int32)) hx hb dX10_number_111 (by decide) ?_
          refine lv_isub hx hb dX10_number_113 ?_
          obtain ⟨v13, hv13, hf⟩ := g_s1 hf
          refine g_iald X S (by omega) (ceM_a (rfl : gma 1 = true)) hv13 dX10_number_114 ?_
          cases hf
          exact g_reti X S rfl dX10_number_115
        replace hf := (if_neg c12).symm.trans hf
        by_cases c14 : a0 = (10 : Int32)
        · have hf := (if_pos c14).symm.trans hf
          refine lv_tableIn (off := 72) (tgt := 116) hx hb dX10_number_44 (by rw [c14]; decide) (by rw [c14]; decide) (by rw [c14]; decide) (by decide) ?_
          refine lv_aload_n hx hb dX10_number_116 rfl (lv_at hl 0 rfl) ?_
          obtain ⟨v15, hv15, hf⟩ := g_s1 hf
          refine g_ki S (g_runV (rest := []) X S (c_X10_both l hN  hv15 _) cvX10_both mlX10_187 (by omega) (ceM_10 _) rfl rfl rfl hl.1 (Nat.le_of_ble_eq_true rfl) ⟨⟨rfl, rfl⟩, ⟨Nat.le_of_ble_eq_true rfl, Nat.le_of_ble_eq_true rfl⟩, Nat.le_of_ble_eq_true rfl, Nat.le_of_ble_eq_true rfl⟩ dX10_number_117) (fun H locs S => ?_)
          cases hf
          exact g_reti X S rfl dX10_number_120
        replace hf := (if_neg c14).symm.trans hf
        by_cases c16 : a0 = (11 : Int32)
        · have hf := (if_pos c16).symm.trans hf
          refine lv_tableIn (off := 77) (tgt := 121) hx hb dX10_number_44 (by rw [c16]; decide) (by rw [c16]; decide) (by rw [c16]; decide) (by decide) ?_
          refine lv_aload_n hx hb dX10_number_121 rfl (lv_at hl 0 rfl) ?_
          refine lv_iconst (v := (0 : Int32)) hx hb dX10_number_122 (by decide) ?_
          refine lv_bipush (v := (63 : Int32)) hx hb dX10_number_123 (by decide) ?_
          obtain ⟨v17, hv17, hf⟩ := g_s1 hf
          refine g_ki S (g_runV (rest := []) X S (c_X10_with l hN  hv17 _) cvX10_with mlX10_191 (by omega) (ceM_10 _) rfl rfl rfl hl.1 (Nat.le_of_ble_eq_true rfl) ⟨⟨rfl, rfl⟩, ⟨Nat.le_of_ble_eq_true rfl, Nat.le_of_ble_eq_true rfl⟩, Nat.le_of_ble_eq_true rfl, Nat.le_of_ble_eq_true rfl⟩ dX10_number_125) (fun H locs S => ?_)
          refine lv_aload_n hx hb dX10_number_128 rfl (lv_at hl 0 rfl) ?_
          refine lv_iconst (v := (1 : Int32)) hx hb dX10_number_129 (by decide) ?_
          refine lv_bipush (v := (63 : Int32)) hx hb dX10_number_130 (by decide) ?_
          obtain ⟨v18, hv18, hf⟩ := g_s1 hf
          refine g_ki S (g_runV (rest := [.int v17]) X S (c_X10_with l hN  hv18 _) cvX10_with mlX10_191 (by omega) (ceM_10 _) rfl rfl rfl hl.1 (Nat.le_of_ble_eq_true rfl) ⟨⟨rfl, rfl⟩, ⟨Nat.le_of_ble_eq_true rfl, Nat.le_of_ble_eq_true rfl⟩, Nat.le_of_ble_eq_true rfl, Nat.le_of_ble_eq_true rfl⟩ dX10_number_132) (fun H locs S => ?_)
          refine lv_iadd hx hb dX10_number_135 ?_
          cases hf
          exact g_reti X S rfl dX10_number_136
        replace hf := (if_neg c16).symm.trans hf
        by_cases c19 : a0 = (12 : Int32)
        · have hf := (if_pos c19).symm.trans hf
          refine lv_tableIn (off := 93) (tgt := 137) hx hb dX10_number_44 (by rw [c19]; decide) (by rw [c19]; decide) (by rw [c19]; decide) (by decide) ?_
          refine lv_aload_n hx hb dX10_number_137 rfl (lv_at hl 0 rfl) ?_
          refine gfX10_60 X S hN dX10_number_138 ?_
          cases hf
          exact g_reti X S rfl dX10_number_141
        replace hf := (if_neg c19).symm.trans hf
        refine lv_tableOut (tgt := 142) hx hb dX10_number_44 (g_swout0 (x := a0) (lo := 6) (n := 7) (fun j hj => by rcases (show j = 0 ∨ j = 1 ∨ j = 2 ∨ j = 3 ∨ j = 4 ∨ j = 5 ∨ j = 6 by omega) with rfl | rfl | rfl | rfl | rfl | rfl | rfl <;> (intro h9; first | exact c8 (Int32.toInt_inj.mp (h9.trans (by decide))) | exact c9 (Int32.toInt_inj.mp (h9.trans (by decide))) | exact c10 (Int32.toInt_inj.mp (h9.trans (by decide))) | exact c12 (Int32.toInt_inj.mp (h9.trans (by decide))) | exact c14 (Int32.toInt_inj.mp (h9.trans (by decide))) | exact c16 (Int32.toInt_inj.mp (h9.trans (by decide))) | exact c19 (Int32.toInt_inj.mp (h9.trans (by decide)))))) (by decide) ?_
        refine lv_aload_n hx hb dX10_number_142 rfl (lv_at hl 0 rfl) ?_
        refine gfX10_137 X S hN dX10_number_143 ?_
        cases hf
        exact g_reti X S rfl dX10_number_146
      · have hf := (if_neg c7).symm.trans hf
        refine lv_aload_n hx hb dX10_number_34 rfl (lv_at hl 0 rfl) ?_
        refine gfX10_7 X S hN dX10_number_35 ?_
        refine lv_iconst (v := (1 : Int32)) hx hb dX10_number_38 (by decide) ?_
        refine lv_iload_n hx hb dX10_number_39 rfl (lv_at hl 1 rfl) ?_
        refine lv_iadd hx hb dX10_number_40 ?_
        obtain ⟨v20, hv20, hf⟩ := g_s1 hf
        refine g_iald X S (by omega) (ceM_a (rfl : gma 1 = true)) hv20 dX10_number_41 ?_
        cases hf
        exact g_reti X S rfl dX10_number_42
    · have hf := (if_neg c6).symm.trans hf
      refine lv_iconst (v := (0 : Int32)) hx hb dX10_number_26 (by decide) ?_
      cases hf
      exact g_reti X S rfl dX10_number_27
  replace hf := hr3
  refine lv_if_eq (tgt := 15) hx hb dX10_number_8 (by decide) (fun c21 => ?_) (fun c21 => ?_)
  · have hf := (if_pos c21).symm.trans hf
    refine lv_iconst (v := (1 : Int32)) hx hb dX10_number_15 (by decide) ?_
    cases hf
    exact J4 _ _ _ S (lv_sub hl [0, 1] rfl)
  · have hf := (if_neg c21).symm.trans hf
    refine lv_iconst (v := (0 : Int32)) hx hb dX10_number_11 (by decide) ?_
    refine lv_goto (tgt := 16) hx hb dX10_number_12 (by decide) ?_
    cases hf
    exact J4 _ _ _ S (lv_sub hl [0, 1] rfl)

