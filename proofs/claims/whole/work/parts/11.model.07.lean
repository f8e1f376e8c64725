noncomputable def f_X10_caption (σ : gSt) (a0 : Int32) (a1 : Int32) (a2 : Int32) : Option (Int32 × gSt) :=
  (g_k1 (f_X10_isCaption σ a0 a1) fun v1 => (g_k1 (if v1 = 0 then some (1 : Int32) else (g_k1 (f_X10_in σ a2 (0 : Int32) (11 : Int32)) fun v39 => (if v39 = 0 then some (2 : Int32) else some (0 : Int32)))) fun x2 => (g_k1 (gset σ 0 10 x2) fun σ5 => (if (σ5 0 10) ≤ 0 then (if a2 = (3 : Int32) then (g_k1 (f_X10_load σ5 a0 a1) fun v8 => some (v8, σ5)) else (if a2 = (4 : Int32) then (g_k1 (f_X10_needs σ5 a0 a1) fun v10 => some (v10, σ5)) else (if a2 = (5 : Int32) then (g_k1 (f_X10_problems σ5 a0 a1) fun v12 => some (v12, σ5)) else (if a2 = (6 : Int32) then (g_k1 (f_X10_partner σ5 a0 a1) fun v14 => some (v14, σ5)) else (if a2 = (7 : Int32) then (g_k1 (f_X10_at σ5 a0 a1 (3 : Int32)) fun v16 => (g_k1 (gald σ5 1 926 v16) fun v17 => some (v17, σ5))) else (if a2 = (8 : Int32) then (g_k1 (f_X10_longest σ5 a0 a1) fun v19 => some (v19, σ5)) else (if a2 = (9 : Int32) then (g_k1 (f_X10_cutsWithin σ5 a0 a1) fun v21 => some (v21, σ5)) else (if a2 = (10 : Int32) then (g_k1 (if a1 = 0 then some (-1 : Int32) else (g_k1 (f_X10_before σ5 a0 a1) fun v27 => some v27)) fun x23 => some (x23, σ5)) else (if a2 = (11 : Int32) then (g_k1 (f_X10_partner σ5 a0 a1) fun v29 => (g_k1 (if 0 ≤ v29 then (g_k1 (f_X10_partner σ5 a0 a1) fun v34 => (g_k1 (f_X10_shared σ5 a0 a1 v34) fun v35 => some v35)) else some (0 : Int32)) fun x30 => some (x30, σ5))) else (g_k1 (f_X10_at σ5 a0 a1 a2) fun v36 => (g_k1 (gald σ5 1 926 v36) fun v37 => some (v37, σ5)))))))))))) else some ((0 : Int32), σ5)))))
set_option maxRecDepth 100000 in
set_option maxHeartbeats 4000000 in
theorem c_X10_caption (l : Launch) {Γ : gG} {ad : Nat → Nat} {N : Nat} (hN : 8 ≤ N) {σ : gSt} {a0 : Int32} {a1 : Int32} {a2 : Int32}  {r : Int32} {σ' : gSt} (hf : f_X10_caption σ a0 a1 a2 = some (r, σ')) : gMi l celM Γ ad N yX10_caption cX10_caption 4 (some .int) (gR 7 0 0) [.ref (ad 0), .int a0, .int a1, .int a2] σ r σ' := by
  intro sz
  refine gOf (Qc := fun sz => gQci celM Γ ad N r σ' sz) RX10 (by decide) rfl (Nat.le_of_ble_eq_true rfl) (fun p e s m args below meth c H locs ls X S hl => ?_)
  have hl : lv_has ls 4 [(0, .ref (ad 0)), (1, .int a0), (2, .int a1), (3, .int a2)] := hl
  have hx := X.1
  have hb := X.2.1
  unfold f_X10_caption at hf
  refine lv_aload_n hx hb dX10_caption_0 rfl (lv_at hl 0 rfl) ?_
  refine lv_aload_n hx hb dX10_caption_1 rfl (lv_at hl 0 rfl) ?_
  refine lv_iload_n hx hb dX10_caption_2 rfl (lv_at hl 1 rfl) ?_
  refine lv_iload_n hx hb dX10_caption_3 rfl (lv_at hl 2 rfl) ?_
  obtain ⟨v1, hv1, hf⟩ := g_s1 hf
  refine g_ki S (g_runV (rest := [.ref (ad 0)]) X S (c_X10_isCaption l hN  hv1 _) cvX10_isCaption mlX10_159 (by omega) (ceM_10 _) rfl rfl rfl hl.1 (Nat.le_of_ble_eq_true rfl) ⟨⟨rfl, rfl⟩, ⟨Nat.le_of_ble_eq_true rfl, Nat.le_of_ble_eq_true rfl⟩, Nat.le_of_ble_eq_true rfl, Nat.le_of_ble_eq_true rfl⟩ dX10_caption_4) (fun H locs S => ?_)
  obtain ⟨x2, hr3, hf⟩ := g_s1 hf
  have J4 : ∀ (H : Heap) (locs : List Loc) (ls : Array Slot), gS celM Γ ad N σ s H locs → lv_has ls 4 [(0, .ref (ad 0)), (1, .int a0), (2, .int a1), (3, .int a2)] → W p l e (gR 7 0 0) s m args below meth c H locs 0 0 (gQi celM Γ ad N r σ' below args s) (F0 m 29 ls [.int x2, .ref (ad 0)]) := by
    intro H locs ls S hl
    obtain ⟨σ5, hσ5, hf⟩ := g_s1 hf
    refine pfX10_35 X S hN hσ5 dX10_caption_29 (fun H locs S => ?_)
    refine lv_aload_n hx hb dX10_caption_32 rfl (lv_at hl 0 rfl) ?_
    refine gfX10_35 X S hN dX10_caption_33 ?_
    refine lv_if_le (tgt := 41) hx hb dX10_caption_36 (by decide) (fun c6 => ?_) (fun c6 => ?_)
    · have hf := (if_pos c6).symm.trans hf
      refine lv_iload_n hx hb dX10_caption_41 rfl (lv_at hl 3 rfl) ?_
      by_cases c7 : a2 = (3 : Int32)
      · have hf := (if_pos c7).symm.trans hf
        refine lv_tableIn (off := 50) (tgt := 92) hx hb dX10_caption_42 (by rw [c7]; decide) (by rw [c7]; decide) (by rw [c7]; decide) (by decide) ?_
        refine lv_aload_n hx hb dX10_caption_92 rfl (lv_at hl 0 rfl) ?_
        refine lv_iload_n hx hb dX10_caption_93 rfl (lv_at hl 1 rfl) ?_
        refine lv_iload_n hx hb dX10_caption_94 rfl (lv_at hl 2 rfl) ?_
        obtain ⟨v8, hv8, hf⟩ := g_s1 hf
        refine g_ki S (g_runV (rest := []) X S (c_X10_load l hN  hv8 _) cvX10_load mlX10_107 (by omega) (ceM_10 _) rfl rfl rfl hl.1 (Nat.le_of_ble_eq_true rfl) ⟨⟨rfl, rfl⟩, ⟨Nat.le_of_ble_eq_true rfl, Nat.le_of_ble_eq_true rfl⟩, Nat.le_of_ble_eq_true rfl, Nat.le_of_ble_eq_true rfl⟩ dX10_caption_95) (fun H locs S => ?_)
        cases hf
        exact g_reti X S rfl dX10_caption_98
      replace hf := (if_neg c7).symm.trans hf
      by_cases c9 : a2 = (4 : Int32)
      · have hf := (if_pos c9).symm.trans hf
        refine lv_tableIn (off := 57) (tgt := 99) hx hb dX10_caption_42 (by rw [c9]; decide) (by rw [c9]; decide) (by rw [c9]; decide) (by decide) ?_
        refine lv_aload_n hx hb dX10_caption_99 rfl (lv_at hl 0 rfl) ?_
        refine lv_iload_n hx hb dX10_caption_100 rfl (lv_at hl 1 rfl) ?_
        refine lv_iload_n hx hb dX10_caption_101 rfl (lv_at hl 2 rfl) ?_
        obtain ⟨v10, hv10, hf⟩ := g_s1 hf
        refine g_ki S (g_runV (rest := []) X S (c_X10_needs l hN  hv10 _) cvX10_needs mlX10_122 (by omega) (ceM_10 _) rfl rfl rfl hl.1 (Nat.le_of_ble_eq_true rfl) ⟨⟨rfl, rfl⟩, ⟨Nat.le_of_ble_eq_true rfl, Nat.le_of_ble_eq_true rfl⟩, Nat.le_of_ble_eq_true rfl, Nat.le_of_ble_eq_true rfl⟩ dX10_caption_102) (fun H locs S => ?_)
        cases hf
        exact g_reti X S rfl dX10_caption_105
      replace hf := (if_neg c9).symm.trans hf
      by_cases c11 : a2 = (5 : Int32)
      · have hf := (if_pos c11).symm.trans hf
        refine lv_tableIn (off := 64) (tgt := 106) hx hb dX10_caption_42 (by rw [c11]; decide) (by rw [c11]; decide) (by rw [c11]; decide) (by decide) ?_
        refine lv_aload_n hx hb dX10_caption_106 rfl (lv_at hl 0 rfl) ?_
        refine lv_iload_n hx hb dX10_caption_107 rfl (lv_at hl 1 rfl) ?_
        refine lv_iload_n hx hb dX10_caption_108 rfl (lv_at hl 2 rfl) ?_
        obtain ⟨v12, hv12, hf⟩ := g_s1 hf
        refine g_ki S (g_runV (rest := []) X S (c_X10_problems l hN  hv12 _) cvX10_problems mlX10_184 (by omega) (ceM_10 _) rfl rfl rfl hl.1 (Nat.le_of_ble_eq_true rfl) ⟨⟨rfl, rfl⟩, ⟨Nat.le_of_ble_eq_true rfl, Nat.le_of_ble_eq_true rfl⟩, Nat.le_of_ble_eq_true rfl, Nat.le_of_ble_eq_true rfl⟩ dX10_caption_109) (fun H locs S => ?_)
        cases hf
        exact g_reti X S rfl dX10_caption_112
      replace hf := (if_neg c11).symm.trans hf
      by_cases c13 : a2 = (6 : Int32)
      · have hf := (if_pos c13).symm.trans hf
        refine lv_tableIn (off := 71) (tgt := 113) hx hb dX10_caption_42 (by rw [c13]; decide) (by rw [c13]; decide) (by rw [c13]; decide) (by decide) ?_
        refine lv_aload_n hx hb dX10_caption_113 rfl (lv_at hl 0 rfl) ?_
        refine lv_iload_n hx hb dX10_caption_114 rfl (lv_at hl 1 rfl) ?_
        refine lv_iload_n hx hb dX10_caption_115 rfl (lv_at hl 2 rfl) ?_
        obtain ⟨v14, hv14, hf⟩ := g_s1 hf
        refine g_ki S (g_runV (rest := []) X S (c_X10_partner l hN  hv14 _) cvX10_partner mlX10_119 (by omega) (ceM_10 _) rfl rfl rfl hl.1 (Nat.le_of_ble_eq_true rfl) ⟨⟨rfl, rfl⟩, ⟨Nat.le_of_ble_eq_true rfl, Nat.le_of_ble_eq_true rfl⟩, Nat.le_of_ble_eq_true rfl, Nat.le_of_ble_eq_true rfl⟩ dX10_caption_116) (fun H locs S => ?_)
        cases hf
        exact g_reti X S rfl dX10_caption_119
      replace hf := (if_neg c13).symm.trans hf
      by_cases c15 : a2 = (7 : Int32)
      · have hf := (if_pos c15).symm.trans hf
        refine lv_tableIn (off := 78) (tgt := 120) hx hb dX10_caption_42 (by rw [c15]; decide) (by rw [c15]; decide) (by rw [c15]; decide) (by decide) ?_
        refine lv_aload_n hx hb dX10_caption_120 rfl (lv_at hl 0 rfl) ?_
        refine gfX10_7 X S hN dX10_caption_121 ?_
        refine lv_iload_n hx hb dX10_caption_124 rfl (lv_at hl 1 rfl) ?_
        refine lv_iload_n hx hb dX10_caption_125 rfl (lv_at hl 2 rfl) ?_
        refine lv_iconst (v := (3 : Int32)) hx hb dX10_caption_126 (by decide) ?_
        obtain ⟨v16, hv16, hf⟩ := g_s1 hf
        refine g_ki S (g_runS (rest := [.ref (ad 1)]) X S (c_X10_at l hN  hv16 _) csX10_at mlX10_56 rfl rfl hl.1 (Nat.le_of_ble_eq_true rfl) ⟨⟨rfl, rfl⟩, ⟨Nat.le_of_ble_eq_true rfl, Nat.le_of_ble_eq_true rfl⟩, Nat.le_of_ble_eq_true rfl, Nat.le_of_ble_eq_true rfl⟩ dX10_caption_127) (fun H locs S => ?_)
        obtain ⟨v17, hv17, hf⟩ := g_s1 hf
        refine g_iald X S (by omega) (ceM_a (rfl : gma 1 = true)) hv17 dX10_caption_130 ?_
        cases hf
        exact g_reti X S rfl dX10_caption_131
      replace hf := (if_neg c15).symm.trans hf
      by_cases c18 : a2 = (8 : Int32)
      · have hf := (if_pos c18).symm.trans hf
        refine lv_tableIn (off := 90) (tgt := 132) hx hb dX10_caption_42 (by rw [c18]; decide) (by rw [c18]; decide) (by rw [c18]; decide) (by decide) ?_
        refine lv_aload_n hx hb dX10_caption_132 rfl (lv_at hl 0 rfl) ?_
        refine lv_iload_n hx hb dX10_caption_133 rfl (lv_at hl 1 rfl) ?_
        refine lv_iload_n hx hb dX10_caption_134 rfl (lv_at hl 2 rfl) ?_
        obtain ⟨v19, hv19, hf⟩ := g_s1 hf
        refine g_ki S (g_runV (rest := []) X S (c_X10_longest l hN  hv19 _) cvX10_longest mlX10_131 (by omega) (ceM_10 _) rfl rfl rfl hl.1 (Nat.le_of_ble_eq_true rfl) ⟨⟨rfl, rfl⟩, ⟨Nat.le_of_ble_eq_true rfl, Nat.le_of_ble_eq_true rfl⟩, Nat.le_of_ble_eq_true rfl, Nat.le_of_ble_eq_true rfl⟩ dX10_caption_135) (fun H locs S => ?_)
        cases hf
        exact g_reti X S rfl dX10_caption_138
      replace hf := (if_neg c18).symm.trans hf
      by_cases c20 : a2 = (9 : Int32)
      · have hf := (if_pos c20).symm.trans hf
        refine lv_tableIn (off := 97) (tgt := 139) hx hb dX10_caption_42 (by rw [c20]; decide) (by rw [c20]; decide) (by rw [c20]; decide) (by decide) ?_
        refine lv_aload_n hx hb dX10_caption_139 rfl (lv_at hl 0 rfl) ?_
        refine lv_iload_n hx hb dX10_caption_140 rfl (lv_at hl 1 rfl) ?_
        refine lv_iload_n hx hb dX10_caption_141 rfl (lv_at hl 2 rfl) ?_
        obtain ⟨v21, hv21, hf⟩ := g_s1 hf
        refine g_ki S (g_runV (rest := []) X S (c_X10_cutsWithin l hN  hv21 _) cvX10_cutsWithin mlX10_194 (by omega) (ceM_10 _) rfl rfl rfl hl.1 (Nat.le_of_ble_eq_true rfl) ⟨⟨rfl, rfl⟩, ⟨Nat.le_of_ble_eq_true rfl, Nat.le_of_ble_eq_true rfl⟩, Nat.le_of_ble_eq_true rfl, Nat.le_of_ble_eq_true rfl⟩ dX10_caption_142) (fun H locs S => ?_)
        cases hf
        exact g_reti X S rfl dX10_caption_145
      replace hf := (if_neg c20).symm.trans hf
      by_cases c22 : a2 = (10 : Int32)
      · have hf := (if_pos c22).symm.trans hf
        refine lv_tableIn (off := 104) (tgt := 146) hx hb dX10_caption_42 (by rw [c22]; decide) (by rw [c22]; decide) (by rw [c22]; decide) (by decide) ?_
        refine lv_iload_n hx hb dX10_caption_146 rfl (lv_at hl 2 rfl) ?_
        obtain ⟨x23, hr24, hf⟩ := g_s1 hf
        have J25 : ∀ (H : Heap) (locs : List Loc) (ls : Array Slot), gS celM Γ ad N σ5 s H locs → lv_has ls 4 [] → W p l e (gR 7 0 0) s m args below meth c H locs 0 0 (gQi celM Γ ad N r σ' below args s) (F0 m 160 ls [.int x23]) := by
          intro H locs ls S hl
          cases hf
          exact g_reti X S rfl dX10_caption_160
        replace hf := hr24
        refine lv_if_ne (tgt := 154) hx hb dX10_caption_147 (by decide) (fun c26 => ?_) (fun c26 => ?_)
        · have hf := (if_neg c26).symm.trans hf
          refine lv_aload_n hx hb dX10_caption_154 rfl (lv_at hl 0 rfl) ?_
          refine lv_iload_n hx hb dX10_caption_155 rfl (lv_at hl 1 rfl) ?_
          refine lv_iload_n hx hb dX10_caption_156 rfl (lv_at hl 2 rfl) ?_
          obtain ⟨v27, hv27, hf⟩ := g_s1 hf
          refine g_ki S (g_runV (rest := []) X S (c_X10_before l hN  hv27 _) cvX10_before mlX10_128 (by omega) (ceM_10 _) rfl rfl rfl hl.1 (Nat.le_of_ble_eq_true rfl) ⟨⟨rfl, rfl⟩, ⟨Nat.le_of_ble_eq_true rfl, Nat.le_of_ble_eq_true rfl⟩, Nat.le_of_ble_eq_true rfl, Nat.le_of_ble_eq_true rfl⟩ dX10_caption_157) (fun H locs S => ?_)
          cases hf
          exact J25 _ _ _ S (lv_sub hl [] rfl)
        · have hf := (if_pos c26).symm.trans hf
          refine lv_iconst (v := (-1 : Int32)) hx hb dX10_caption_150 (by decide) ?_
          refine lv_goto (tgt := 160) hx hb dX10_caption_151 (by decide) ?_
          cases hf
          exact J25 _ _ _ S (lv_sub hl [] rfl)
      replace hf := (if_neg c22).symm.trans hf
      by_cases c28 : a2 = (11 : Int32)
      · have hf := (if_pos c28).symm.trans hf
        refine lv_tableIn (off := 119) (tgt := 161) hx hb dX10_caption_42 (by rw [c28]; decide) (by rw [c28]; decide) (by rw [c28]; decide) (by decide) ?_
        refine lv_aload_n hx hb dX10_caption_161 rfl (lv_at hl 0 rfl) ?_
        refine lv_iload_n hx hb dX10_caption_162 rfl (lv_at hl 1 rfl) ?_
        refine lv_iload_n hx hb dX10_caption_163 rfl (lv_at hl 2 rfl) ?_
        obtain ⟨v29, hv29, hf⟩ := g_s1 hf
        refine g_ki S (g_runV (rest := []) X S (c_X10_partner l hN  hv29 _) cvX10_partner mlX10_119 (by omega) (ceM_10 _) rfl rfl rfl hl.1 (Nat.le_of_ble_eq_true rfl) ⟨⟨rfl, rfl⟩, ⟨Nat.le_of_ble_eq_true rfl, Nat.le_of_ble_eq_true rfl⟩, Nat.le_of_ble_eq_true rfl, Nat.le_of_ble_eq_true rfl⟩ dX10_caption_164) (fun H locs S => ?_)
        obtain ⟨x30, hr31, hf⟩ := g_s1 hf
        have J32 : ∀ (H : Heap) (locs : List Loc) (ls : Array Slot), gS celM Γ ad N σ5 s H locs → lv_has ls 4 [] → W p l e (gR 7 0 0) s m args below meth c H locs 0 0 (gQi celM Γ ad N r σ' below args s) (F0 m 186 ls [.int x30]) := by
          intro H locs ls S hl
          cases hf
          exact g_reti X S rfl dX10_caption_186
        replace hf := hr31
        refine lv_if_ge (tgt := 174) hx hb dX10_caption_167 (by decide) (fun c33 => ?_) (fun c33 => ?_)
        · have hf := (if_pos c33).symm.trans hf
          refine lv_aload_n hx hb dX10_caption_174 rfl (lv_at hl 0 rfl) ?_
          refine lv_iload_n hx hb dX10_caption_175 rfl (lv_at hl 1 rfl) ?_
          refine lv_iload_n hx hb dX10_caption_176 rfl (lv_at hl 2 rfl) ?_
          refine lv_aload_n hx hb dX10_caption_177 rfl (lv_at hl 0 rfl) ?_
          refine lv_iload_n hx hb dX10_caption_178 rfl (lv_at hl 1 rfl) ?_
          refine lv_iload_n hx hb dX10_caption_179 rfl (lv_at hl 2 rfl) ?_
          obtain ⟨v34, hv34, hf⟩ := g_s1 hf
          refine g_ki S (g_runV (rest := [.int a1, .int a0, .ref (ad 0)]) X S (c_X10_partner l hN  hv34 _) cvX10_partner mlX10_119 (by omega) (ceM_10 _) rfl rfl rfl hl.1 (Nat.le_of_ble_eq_true rfl) ⟨⟨rfl, rfl⟩, ⟨Nat.le_of_ble_eq_true rfl, Nat.le_of_ble_eq_true rfl⟩, Nat.le_of_ble_eq_true rfl, Nat.le_of_ble_eq_true rfl⟩ dX10_caption_180) (fun H locs S => ?_)
          obtain ⟨v35, hv35, hf⟩ := g_s1 hf
          refine g_ki S (g_runV (rest := []) X S (c_X10_shared l hN  hv35 _) cvX10_shared mlX10_116 (by omega) (ceM_10 _) rfl rfl rfl hl.1 (Nat.le_of_ble_eq_true rfl) ⟨⟨rfl, rfl⟩, ⟨Nat.le_of_ble_eq_true rfl, Nat.le_of_ble_eq_true rfl⟩, Nat.le_of_ble_eq_true rfl, Nat.le_of_ble_eq_true rfl⟩ dX10_caption_183) (fun H locs S => ?_)
          cases hf
          exact J32 _ _ _ S (lv_sub hl [] rfl)
        · have hf := (if_neg c33).symm.trans hf
          refine lv_iconst (v := (0 : Int32)) hx hb dX10_caption_170 (by decide) ?_
          refine lv_goto (tgt := 186) hx hb dX10_caption_171 (by decide) ?_
          cases hf
          exact J32 _ _ _ S (lv_sub hl [] rfl)
      replace hf := (if_neg c28).symm.trans hf
      refine lv_tableOut (tgt := 187) hx hb dX10_caption_42 (g_swout0 (x := a2) (lo := 3) (n := 9) (fun j hj => by rcases (show j = 0 ∨ j = 1 ∨ j = 2 ∨ j = 3 ∨ j = 4 ∨ j = 5 ∨ j = 6 ∨ j = 7 ∨ j = 8 by omega) with rfl | rfl | rfl | rfl | rfl | rfl | rfl | rfl | rfl <;> (intro h9; first | exact c7 (Int32.toInt_inj.mp (h9.trans (by decide))) | exact c9 (Int32.toInt_inj.mp (h9.trans (by decide))) | exact c11 (Int32.toInt_inj.mp (h9.trans (by decide))) | exact c13 (Int32.toInt_inj.mp (h9.trans (by decide))) | exact c15 (Int32.toInt_inj.mp (h9.trans (by decide))) | exact c18 (Int32.toInt_inj.mp (h9.trans (by decide))) | exact c20 (Int32.toInt_inj.mp (h9.trans (by decide))) | exact c22 (Int32.toInt_inj.mp (h9.trans (by decide))) | exact c28 (Int32.toInt_inj.mp (h9.trans (by decide)))))) (by decide) ?_
      refine lv_aload_n hx hb dX10_caption_187 rfl (lv_at hl 0 rfl) ?_
      refine gfX10_7 X S hN dX10_caption_188 ?_
      refine lv_iload_n hx hb dX10_caption_191 rfl (lv_at hl 1 rfl) ?_
      refine lv_iload_n hx hb dX10_caption_192 rfl (lv_at hl 2 rfl) ?_
      refine lv_iload_n hx hb dX10_caption_193 rfl (lv_at hl 3 rfl) ?_
      obtain ⟨v36, hv36, hf⟩ := g_s1 hf
      refine g_ki S (g_runS (rest := [.ref (ad 1)]) X S (c_X10_at l hN  hv36 _) csX10_at mlX10_56 rfl rfl hl.1 (Nat.le_of_ble_eq_true rfl) ⟨⟨rfl, rfl⟩, ⟨Nat.le_of_ble_eq_true rfl, Nat.le_of_ble_eq_true rfl⟩, Nat.le_of_ble_eq_true rfl, Nat.le_of_ble_eq_true rfl⟩ dX10_caption_194) (fun H locs S => ?_)
      obtain ⟨v37, hv37, hf⟩ := g_s1 hf
      refine g_iald X S (by omega) (ceM_a (rfl : gma 1 = true)) hv37 dX10_caption_197 ?_
      cases hf
      exact g_reti X S rfl dX10_caption_198
    · have hf := (if_neg c6).symm.trans hf
      refine lv_iconst (v := (0 : Int32)) hx hb dX10_caption_39 (by decide) ?_
      cases hf
      exact g_reti X S rfl dX10_caption_40
  replace hf := hr3
  refine lv_if_eq (tgt := 28) hx hb dX10_caption_7 (by decide) (fun c38 => ?_) (fun c38 => ?_)
  · have hf := (if_pos c38).symm.trans hf
    refine lv_iconst (v := (1 : Int32)) hx hb dX10_caption_28 (by decide) ?_
    cases hf
    exact J4 _ _ _ S (lv_sub hl [0, 1, 2, 3] rfl)
  · have hf := (if_neg c38).symm.trans hf
    refine lv_iload_n hx hb dX10_caption_10 rfl (lv_at hl 3 rfl) ?_
    refine lv_iconst (v := (0 : Int32)) hx hb dX10_caption_11 (by decide) ?_
    refine lv_bipush (v := (11 : Int32)) hx hb dX10_caption_12 (by decide) ?_
    obtain ⟨v39, hv39, hf⟩ := g_s1 hf
    refine g_ki S (g_runS (rest := [.ref (ad 0)]) X S (c_X10_in l hN  hv39 _) csX10_in mlX10_48 rfl rfl hl.1 (Nat.le_of_ble_eq_true rfl) ⟨⟨rfl, rfl⟩, ⟨Nat.le_of_ble_eq_true rfl, Nat.le_of_ble_eq_true rfl⟩, Nat.le_of_ble_eq_true rfl, Nat.le_of_ble_eq_true rfl⟩ dX10_caption_14) (fun H locs S => ?_)
    refine lv_if_eq (tgt := 24) hx hb dX10_caption_17 (by decide) (fun c40 => ?_) (fun c40 => ?_)
    · have hf := (if_pos c40).symm.trans hf
      refine lv_iconst (v := (2 : Int32)) hx hb dX10_caption_24 (by decide) ?_
      refine lv_goto (tgt := 29) hx hb dX10_caption_25 (by decide) ?_
      cases hf
      exact J4 _ _ _ S (lv_sub hl [0, 1, 2, 3] rfl)
    · have hf := (if_neg c40).symm.trans hf
      refine lv_iconst (v := (0 : Int32)) hx hb dX10_caption_20 (by decide) ?_
      refine lv_goto (tgt := 29) hx hb dX10_caption_21 (by decide) ?_
      cases hf
      exact J4 _ _ _ S (lv_sub hl [0, 1, 2, 3] rfl)

noncomputable def f_X10_letter (σ : gSt) (a0 : Int32) (a1 : Int32) (a2 : Int32) : Option (Int32 × gSt) :=
  (g_k1 (f_X10_isCaption σ a0 a1) fun v1 => (g_k1 (if v1 = 0 then some (1 : Int32) else (g_k1 (f_X10_at σ a0 a1 (3 : Int32)) fun v13 => (g_k1 (gald σ 1 926 v13) fun v14 => (g_k1 (f_X10_in σ a2 (0 : Int32) (v14 - (1 : Int32))) fun v15 => (if v15 = 0 then some (2 : Int32) else some (0 : Int32)))))) fun x2 => (g_k1 (gset σ 0 10 x2) fun σ5 => (g_k1 (if (σ5 0 10) ≤ 0 then (g_k1 (f_X10_at σ5 a0 a1 ((4 : Int32) + a2)) fun v10 => (g_k1 (gald σ5 1 926 v10) fun v11 => some v11)) else some (97 : Int32)) fun x6 => some ((((x6).toUInt32 % 65536).toInt32), σ5)))))
set_option maxRecDepth 100000 in
set_option maxHeartbeats 4000000 in
theorem c_X10_letter (l : Launch) {Γ : gG} {ad : Nat → Nat} {N : Nat} (hN : 8 ≤ N) {σ : gSt} {a0 : Int32} {a1 : Int32} {a2 : Int32}  {r : Int32} {σ' : gSt} (hf : f_X10_letter σ a0 a1 a2 = some (r, σ')) : gMi l celM Γ ad N yX10_letter cX10_letter 4 (some .char) (gR 4 0 0) [.ref (ad 0), .int a0, .int a1, .int a2] σ r σ' := by
  intro sz
  refine gOf (Qc := fun sz => gQci celM Γ ad N r σ' sz) RX10 (by decide) rfl (Nat.le_of_ble_eq_true rfl) (fun p e s m args below meth c H locs ls X S hl => ?_)
  have hl : lv_has ls 4 [(0, .ref (ad 0)), (1, .int a0), (2, .int a1), (3, .int a2)] := hl
  have hx := X.1
  have hb := X.2.1
  unfold f_X10_letter at hf
  refine lv_aload_n hx hb dX10_letter_0 rfl (lv_at hl 0 rfl) ?_
  refine lv_aload_n hx hb dX10_letter_1 rfl (lv_at hl 0 rfl) ?_
  refine lv_iload_n hx hb dX10_letter_2 rfl (lv_at hl 1 rfl) ?_
  refine lv_iload_n hx hb dX10_letter_3 rfl (lv_at hl 2 rfl) ?_
  obtain ⟨v1, hv1, hf⟩ := g_s1 hf
  refine g_ki S (g_runV (rest := [.ref (ad 0)]) X S (c_X10_isCaption l hN  hv1 _) cvX10_isCaption mlX10_159 (by omega) (ceM_10 _) rfl rfl rfl hl.1 (Nat.le_of_ble_eq_true rfl) ⟨⟨rfl, rfl⟩, ⟨Nat.le_of_ble_eq_true rfl, Nat.le_of_ble_eq_true rfl⟩, Nat.le_of_ble_eq_true rfl, Nat.le_of_ble_eq_true rfl⟩ dX10_letter_4) (fun H locs S => ?_)
  obtain ⟨x2, hr3, hf⟩ := g_s1 hf
  have J4 : ∀ (H : Heap) (locs : List Loc) (ls : Array Slot), gS celM Γ ad N σ s H locs → lv_has ls 4 [(0, .ref (ad 0)), (1, .int a0), (2, .int a1), (3, .int a2)] → W p l e (gR 4 0 0) s m args below meth c H locs 0 0 (gQi celM Γ ad N r σ' below args s) (F0 m 40 ls [.int x2, .ref (ad 0)]) := by
    intro H locs ls S hl
    obtain ⟨σ5, hσ5, hf⟩ := g_s1 hf
    refine pfX10_35 X S hN hσ5 dX10_letter_40 (fun H locs S => ?_)
    refine lv_aload_n hx hb dX10_letter_43 rfl (lv_at hl 0 rfl) ?_
    refine gfX10_35 X S hN dX10_letter_44 ?_
    obtain ⟨x6, hr7, hf⟩ := g_s1 hf
    have J8 : ∀ (H : Heap) (locs : List Loc) (ls : Array Slot), gS celM Γ ad N σ5 s H locs → lv_has ls 4 [] → W p l e (gR 4 0 0) s m args below meth c H locs 0 0 (gQi celM Γ ad N r σ' below args s) (F0 m 68 ls [.int x6]) := by
      intro H locs ls S hl
      refine lv_i2c (v := (((x6).toUInt32 % 65536).toInt32)) hx hb dX10_letter_68 rfl ?_
      cases hf
      exact g_reti X S (pk_nc _) dX10_letter_69
    replace hf := hr7
    refine lv_if_le (tgt := 55) hx hb dX10_letter_47 (by decide) (fun c9 => ?_) (fun c9 => ?_)
    · have hf := (if_pos c9).symm.trans hf
      refine lv_aload_n hx hb dX10_letter_55 rfl (lv_at hl 0 rfl) ?_
      refine gfX10_7 X S hN dX10_letter_56 ?_
      refine lv_iload_n hx hb dX10_letter_59 rfl (lv_at hl 1 rfl) ?_
      refine lv_iload_n hx hb dX10_letter_60 rfl (lv_at hl 2 rfl) ?_
      refine lv_iconst (v := (4 : Int32)) hx hb dX10_letter_61 (by decide) ?_
      refine lv_iload_n hx hb dX10_letter_62 rfl (lv_at hl 3 rfl) ?_
      refine lv_iadd hx hb dX10_letter_63 ?_
      obtain ⟨v10, hv10, hf⟩ := g_s1 hf
      refine g_ki S (g_runS (rest := [.ref (ad 1)]) X S (c_X10_at l hN  hv10 _) csX10_at mlX10_56 rfl rfl hl.1 (Nat.le_of_ble_eq_true rfl) ⟨⟨rfl, rfl⟩, ⟨Nat.le_of_ble_eq_true rfl, Nat.le_of_ble_eq_true rfl⟩, Nat.le_of_ble_eq_true rfl, Nat.le_of_ble_eq_true rfl⟩ dX10_letter_64) (fun H locs S => ?_)
      obtain ⟨v11, hv11, hf⟩ := g_s1 hf
      refine g_iald X S (by omega) (ceM_a (rfl : gma 1 = true)) hv11 dX10_letter_67 ?_
      cases hf
      exact J8 _ _ _ S (lv_sub hl [] rfl)
    · have hf := (if_neg c9).symm.trans hf
      refine lv_bipush (v := (97 : Int32)) hx hb dX10_letter_50 (by decide) ?_
      refine lv_goto (tgt := 68) hx hb dX10_letter_52 (by decide) ?_
      cases hf
      exact J8 _ _ _ S (lv_sub hl [] rfl)
  replace hf := hr3
  refine lv_if_eq (tgt := 39) hx hb dX10_letter_7 (by decide) (fun c12 => ?_) (fun c12 => ?_)
  · have hf := (if_pos c12).symm.trans hf
    refine lv_iconst (v := (1 : Int32)) hx hb dX10_letter_39 (by decide) ?_
    cases hf
    exact J4 _ _ _ S (lv_sub hl [0, 1, 2, 3] rfl)
  · have hf := (if_neg c12).symm.trans hf
    refine lv_iload_n hx hb dX10_letter_10 rfl (lv_at hl 3 rfl) ?_
    refine lv_iconst (v := (0 : Int32)) hx hb dX10_letter_11 (by decide) ?_
    refine lv_aload_n hx hb dX10_letter_12 rfl (lv_at hl 0 rfl) ?_
    refine gfX10_7 X S hN dX10_letter_13 ?_
    refine lv_iload_n hx hb dX10_letter_16 rfl (lv_at hl 1 rfl) ?_
    refine lv_iload_n hx hb dX10_letter_17 rfl (lv_at hl 2 rfl) ?_
    refine lv_iconst (v := (3 : Int32)) hx hb dX10_letter_18 (by decide) ?_
    obtain ⟨v13, hv13, hf⟩ := g_s1 hf
    refine g_ki S (g_runS (rest := [.ref (ad 1), .int (0 : Int32), .int a2, .ref (ad 0)]) X S (c_X10_at l hN  hv13 _) csX10_at mlX10_56 rfl rfl hl.1 (Nat.le_of_ble_eq_true rfl) ⟨⟨rfl, rfl⟩, ⟨Nat.le_of_ble_eq_true rfl, Nat.le_of_ble_eq_true rfl⟩, Nat.le_of_ble_eq_true rfl, Nat.le_of_ble_eq_true rfl⟩ dX10_letter_19) (fun H locs S => ?_)
    obtain ⟨v14, hv14, hf⟩ := g_s1 hf
    refine g_iald X S (by omega) (ceM_a (rfl : gma 1 = true)) hv14 dX10_letter_22 ?_
    refine lv_iconst (v := (1 : Int32)) hx hb dX10_letter_23 (by decide) ?_
    refine lv_isub hx hb dX10_letter_24 ?_
    obtain ⟨v15, hv15, hf⟩ := g_s1 hf
    refine g_ki S (g_runS (rest := [.ref (ad 0)]) X S (c_X10_in l hN  hv15 _) csX10_in mlX10_48 rfl rfl hl.1 (Nat.le_of_ble_eq_true rfl) ⟨⟨rfl, rfl⟩, ⟨Nat.le_of_ble_eq_true rfl, Nat.le_of_ble_eq_true rfl⟩, Nat.le_of_ble_eq_true rfl, Nat.le_of_ble_eq_true rfl⟩ dX10_letter_25) (fun H locs S => ?_)
    refine lv_if_eq (tgt := 35) hx hb dX10_letter_28 (by decide) (fun c16 => ?_) (fun c16 => ?_)
    · have hf := (if_pos c16).symm.trans hf
      refine lv_iconst (v := (2 : Int32)) hx hb dX10_letter_35 (by decide) ?_
      refine lv_goto (tgt := 40) hx hb dX10_letter_36 (by decide) ?_
      cases hf
      exact J4 _ _ _ S (lv_sub hl [0, 1, 2, 3] rfl)
    · have hf := (if_neg c16).symm.trans hf
      refine lv_iconst (v := (0 : Int32)) hx hb dX10_letter_31 (by decide) ?_
      refine lv_goto (tgt := 40) hx hb dX10_letter_32 (by decide) ?_
      cases hf
      exact J4 _ _ _ S (lv_sub hl [0, 1, 2, 3] rfl)

noncomputable def f_X10_shown_l1 (a0 : Int32) (a1 : Int32) (σ5 : gSt) : Nat → Int32 → Option (Int32 × gSt)
  | 0, _ => none
  | n + 1, i7 => (g_k1 (gald σ5 1 926 ((28 : Int32) + a0)) fun v8 => (if v8 ≤ i7 then (g_k2 (f_X10_fails σ5 (2 : Int32)) fun v10 σ11 => some (v10, σ11)) else (g_k1 (f_X10_first σ5 a0 i7) fun v12 => (g_k1 (f_X10_end σ5 a0 i7) fun v13 => (g_k1 (f_X10_in σ5 a1 v12 (v13 - (1 : Int32))) fun v14 => (if v14 = 0 then (f_X10_shown_l1 a0 a1 σ5 n (i7 + 1)) else some (i7, σ5)))))))
set_option maxRecDepth 100000 in
set_option maxHeartbeats 4000000 in
theorem w_X10_shown_l1 {l : Launch} {Γ : gG} {ad : Nat → Nat} {N : Nat} {p : Program} {e : Env} {s : State} {m : MethodId} {args : Array Value} {below : List Frame} {meth : Method} {c : Code} (hN : 8 ≤ N) (X : gX celM Γ ad N RX10 cX10_shown 4 (some .int) p s m args meth c) {a0 : Int32} {a1 : Int32} {σ5 : gSt}  : ∀ (n : Nat) (i7 : Int32) (r : Int32) (σ' : gSt), f_X10_shown_l1 a0 a1 σ5 n i7 = some (r, σ') → ∀ (H : Heap) (locs : List Loc) (ls : Array Slot), gS celM Γ ad N σ5 s H locs → lv_has ls 4 [(3, .int i7), (0, .ref (ad 0)), (1, .int a0), (2, .int a1)] → W p l e (gR 3 0 0) s m args below meth c H locs 0 0 (gQi celM Γ ad N r σ' below args s) (F0 m 43 ls []) := by
  have hx := X.1
  have hb := X.2.1
  intro n
  induction n with
  | zero =>
    intro i7 r σ' hf
    cases hf
  | succ n ih =>
    intro i7 r σ' hf H locs ls S hl
    rw [f_X10_shown_l1] at hf
    refine lv_iload_n hx hb dX10_shown_43 rfl (lv_at hl 0 rfl) ?_
    refine lv_aload_n hx hb dX10_shown_44 rfl (lv_at hl 1 rfl) ?_
    refine gfX10_7 X S hN dX10_shown_45 ?_
    refine lv_bipush (v := (28 : Int32)) hx hb dX10_shown_48 (by decide) ?_
    refine lv_iload_n hx hb dX10_shown_50 rfl (lv_at hl 2 rfl) ?_
    refine lv_iadd hx hb dX10_shown_51 ?_
    obtain ⟨v8, hv8, hf⟩ := g_s1 hf
    refine g_iald X S (by omega) (ceM_a (rfl : gma 1 = true)) hv8 dX10_shown_52 ?_
    refine lv_icmp_ge (tgt := 85) hx hb dX10_shown_53 (by decide) (fun c9 => ?_) (fun c9 => ?_)
    · have hf := (if_pos c9).symm.trans hf
      refine lv_aload_n hx hb dX10_shown_85 rfl (lv_at hl 1 rfl) ?_
      refine lv_iconst (v := (2 : Int32)) hx hb dX10_shown_86 (by decide) ?_
      obtain ⟨v10, σ11, hv10, hf⟩ := g_s2 hf
      refine g_ki S (g_runV (rest := []) X S (c_X10_fails l hN  hv10 _) cvX10_fails mlX10_44 (by omega) (ceM_10 _) rfl rfl rfl hl.1 (Nat.le_of_ble_eq_true rfl) ⟨⟨rfl, rfl⟩, ⟨Nat.le_of_ble_eq_true rfl, Nat.le_of_ble_eq_true rfl⟩, Nat.le_of_ble_eq_true rfl, Nat.le_of_ble_eq_true rfl⟩ dX10_shown_87) (fun H locs S => ?_)
      cases hf
      exact g_reti X S rfl dX10_shown_90
    · have hf := (if_neg c9).symm.trans hf
      refine lv_iload_n hx hb dX10_shown_56 rfl (lv_at hl 3 rfl) ?_
      refine lv_aload_n hx hb dX10_shown_57 rfl (lv_at hl 1 rfl) ?_
      refine lv_iload_n hx hb dX10_shown_58 rfl (lv_at hl 2 rfl) ?_
      refine lv_iload_n hx hb dX10_shown_59 rfl (lv_at hl 0 rfl) ?_
      obtain ⟨v12, hv12, hf⟩ := g_s1 hf
      refine g_ki S (g_runV (rest := [.int a1]) X S (c_X10_first l hN  hv12 _) cvX10_first mlX10_113 (by omega) (ceM_10 _) rfl rfl rfl hl.1 (Nat.le_of_ble_eq_true rfl) ⟨⟨rfl, rfl⟩, ⟨Nat.le_of_ble_eq_true rfl, Nat.le_of_ble_eq_true rfl⟩, Nat.le_of_ble_eq_true rfl, Nat.le_of_ble_eq_true rfl⟩ dX10_shown_60) (fun H locs S => ?_)
      refine lv_aload_n hx hb dX10_shown_63 rfl (lv_at hl 1 rfl) ?_
      refine lv_iload_n hx hb dX10_shown_64 rfl (lv_at hl 2 rfl) ?_
      refine lv_iload_n hx hb dX10_shown_65 rfl (lv_at hl 0 rfl) ?_
      obtain ⟨v13, hv13, hf⟩ := g_s1 hf
      refine g_ki S (g_runV (rest := [.int v12, .int a1]) X S (c_X10_end l hN  hv13 _) cvX10_end mlX10_71 (by omega) (ceM_10 _) rfl rfl rfl hl.1 (Nat.le_of_ble_eq_true rfl) ⟨⟨rfl, rfl⟩, ⟨Nat.le_of_ble_eq_true rfl, Nat.le_of_ble_eq_true rfl⟩, Nat.le_of_ble_eq_true rfl, Nat.le_of_ble_eq_true rfl⟩ dX10_shown_66) (fun H locs S => ?_)
      refine lv_iconst (v := (1 : Int32)) hx hb dX10_shown_69 (by decide) ?_
      refine lv_isub hx hb dX10_shown_70 ?_
      obtain ⟨v14, hv14, hf⟩ := g_s1 hf
      refine g_ki S (g_runS (rest := []) X S (c_X10_in l hN  hv14 _) csX10_in mlX10_48 rfl rfl hl.1 (Nat.le_of_ble_eq_true rfl) ⟨⟨rfl, rfl⟩, ⟨Nat.le_of_ble_eq_true rfl, Nat.le_of_ble_eq_true rfl⟩, Nat.le_of_ble_eq_true rfl, Nat.le_of_ble_eq_true rfl⟩ dX10_shown_71) (fun H locs S => ?_)
      refine lv_if_eq (tgt := 79) hx hb dX10_shown_74 (by decide) (fun c15 => ?_) (fun c15 => ?_)
      · have hf := (if_pos c15).symm.trans hf
        refine lv_iinc (v := (i7 + 1)) (lv' := [(3, .int (i7 + 1)), (0, .ref (ad 0)), (1, .int a0), (2, .int a1)]) hx hb dX10_shown_79 hl (k := 0) rfl rfl (by decide) rfl (fun ls hl => ?_)
        refine lv_goto (tgt := 43) hx hb dX10_shown_82 (by decide) ?_
        exact ih _ _ _  hf _ _ _ S (lv_sub hl [0, 1, 2, 3] rfl)
      · have hf := (if_neg c15).symm.trans hf
        refine lv_iload_n hx hb dX10_shown_77 rfl (lv_at hl 0 rfl) ?_
        cases hf
        exact g_reti X S rfl dX10_shown_78
noncomputable def f_X10_shown (σ : gSt) (a0 : Int32) (a1 : Int32) : Option (Int32 × gSt) :=
  (g_k1 (f_X10_isTrack σ a0) fun v1 => (g_k1 (if v1 = 0 then some (1 : Int32) else (g_k1 (f_X10_in σ a1 (0 : Int32) ((σ 1 0) - (1 : Int32))) fun v17 => (if v17 = 0 then some (1 : Int32) else some (0 : Int32)))) fun x2 => (g_k1 (gset σ 0 10 x2) fun σ5 => (if (σ5 0 10) ≤ 0 then (f_X10_shown_l1 a0 a1 σ5 FU (0 : Int32)) else some ((0 : Int32), σ5)))))
set_option maxRecDepth 100000 in
set_option maxHeartbeats 4000000 in
theorem c_X10_shown (l : Launch) {Γ : gG} {ad : Nat → Nat} {N : Nat} (hN : 8 ≤ N) {σ : gSt} {a0 : Int32} {a1 : Int32}  {r : Int32} {σ' : gSt} (hf : f_X10_shown σ a0 a1 = some (r, σ')) : gMi l celM Γ ad N yX10_shown cX10_shown 4 (some .int) (gR 3 0 0) [.ref (ad 0), .int a0, .int a1] σ r σ' := by
  intro sz
  refine gOf (Qc := fun sz => gQci celM Γ ad N r σ' sz) RX10 (by decide) rfl (Nat.le_of_ble_eq_true rfl) (fun p e s m args below meth c H locs ls X S hl => ?_)
  have hl : lv_has ls 4 [(0, .ref (ad 0)), (1, .int a0), (2, .int a1)] := hl
  have hx := X.1
  have hb := X.2.1
  unfold f_X10_shown at hf
  refine lv_aload_n hx hb dX10_shown_0 rfl (lv_at hl 0 rfl) ?_
  refine lv_iload_n hx hb dX10_shown_1 rfl (lv_at hl 1 rfl) ?_
  obtain ⟨v1, hv1, hf⟩ := g_s1 hf
  refine g_ki S (g_runS (rest := [.ref (ad 0)]) X S (c_X10_isTrack l hN  hv1 _) csX10_isTrack mlX10_52 rfl rfl hl.1 (Nat.le_of_ble_eq_true rfl) ⟨⟨rfl, rfl⟩, ⟨Nat.le_of_ble_eq_true rfl, Nat.le_of_ble_eq_true rfl⟩, Nat.le_of_ble_eq_true rfl, Nat.le_of_ble_eq_true rfl⟩ dX10_shown_2) (fun H locs S => ?_)
  obtain ⟨x2, hr3, hf⟩ := g_s1 hf
  have J4 : ∀ (H : Heap) (locs : List Loc) (ls : Array Slot), gS celM Γ ad N σ s H locs → lv_has ls 4 [(0, .ref (ad 0)), (1, .int a0), (2, .int a1)] → W p l e (gR 3 0 0) s m args below meth c H locs 0 0 (gQi celM Γ ad N r σ' below args s) (F0 m 29 ls [.int x2, .ref (ad 0)]) := by
    intro H locs ls S hl
    obtain ⟨σ5, hσ5, hf⟩ := g_s1 hf
    refine pfX10_35 X S hN hσ5 dX10_shown_29 (fun H locs S => ?_)
    refine lv_aload_n hx hb dX10_shown_32 rfl (lv_at hl 0 rfl) ?_
    refine gfX10_35 X S hN dX10_shown_33 ?_
    refine lv_if_le (tgt := 41) hx hb dX10_shown_36 (by decide) (fun c6 => ?_) (fun c6 => ?_)
    · have hf := (if_pos c6).symm.trans hf
      refine lv_iconst (v := (0 : Int32)) hx hb dX10_shown_41 (by decide) ?_
      refine lv_istore_n (lv' := [(3, .int (0 : Int32)), (0, .ref (ad 0)), (1, .int a0), (2, .int a1)]) hx hb dX10_shown_42 rfl hl (by decide) rfl (fun ls hl => ?_)
      exact w_X10_shown_l1 hN X  FU _ _ _  hf _ _ _ S (lv_sub hl [0, 1, 2, 3] rfl)
    · have hf := (if_neg c6).symm.trans hf
      refine lv_iconst (v := (0 : Int32)) hx hb dX10_shown_39 (by decide) ?_
      cases hf
      exact g_reti X S rfl dX10_shown_40
  replace hf := hr3
  refine lv_if_eq (tgt := 28) hx hb dX10_shown_5 (by decide) (fun c16 => ?_) (fun c16 => ?_)
  · have hf := (if_pos c16).symm.trans hf
    refine lv_iconst (v := (1 : Int32)) hx hb dX10_shown_28 (by decide) ?_
    cases hf
    exact J4 _ _ _ S (lv_sub hl [0, 1, 2] rfl)
  · have hf := (if_neg c16).symm.trans hf
    refine lv_iload_n hx hb dX10_shown_8 rfl (lv_at hl 2 rfl) ?_
    refine lv_iconst (v := (0 : Int32)) hx hb dX10_shown_9 (by decide) ?_
    refine lv_aload_n hx hb dX10_shown_10 rfl (lv_at hl 0 rfl) ?_
    refine gfX10_7 X S hN dX10_shown_11 ?_
    refine lv_iconst (v := (0 : Int32)) hx hb dX10_shown_14 (by decide) ?_
    refine g_ialdC X S (by omega) (ceM_a (rfl : gma 1 = true)) 0 (by decide) (by decide) dX10_shown_15 ?_
    refine lv_iconst (v := (1 : Int32)) hx hb dX10_shown_16 (by decide) ?_
    refine lv_isub hx hb dX10_shown_17 ?_
    obtain ⟨v17, hv17, hf⟩ := g_s1 hf
    refine g_ki S (g_runS (rest := [.ref (ad 0)]) X S (c_X10_in l hN  hv17 _) csX10_in mlX10_48 rfl rfl hl.1 (Nat.le_of_ble_eq_true rfl) ⟨⟨rfl, rfl⟩, ⟨Nat.le_of_ble_eq_true rfl, Nat.le_of_ble_eq_true rfl⟩, Nat.le_of_ble_eq_true rfl, Nat.le_of_ble_eq_true rfl⟩ dX10_shown_18) (fun H locs S => ?_)
    refine lv_if_eq (tgt := 28) hx hb dX10_shown_21 (by decide) (fun c18 => ?_) (fun c18 => ?_)
    · have hf := (if_pos c18).symm.trans hf
      refine lv_iconst (v := (1 : Int32)) hx hb dX10_shown_28 (by decide) ?_
      cases hf
      exact J4 _ _ _ S (lv_sub hl [0, 1, 2] rfl)
    · have hf := (if_neg c18).symm.trans hf
      refine lv_iconst (v := (0 : Int32)) hx hb dX10_shown_24 (by decide) ?_
      refine lv_goto (tgt := 29) hx hb dX10_shown_25 (by decide) ?_
      cases hf
      exact J4 _ _ _ S (lv_sub hl [0, 1, 2] rfl)

noncomputable def f_X10_frames_l1 (σ : gSt) (a0 : Int32) : Nat → Int32 → Int32 → Option (Int32)
  | 0, _, _ => none
  | n + 1, i1, i2 => (g_k1 (gald σ 1 926 ((28 : Int32) + a0)) fun v4 => (if v4 ≤ i1 then some i2 else (g_k1 (f_X10_end σ a0 i1) fun v6 => (g_k1 (f_X10_first σ a0 i1) fun v7 => (f_X10_frames_l1 σ a0 n (i1 + 1) (i2 + (v6 - v7)))))))
set_option maxRecDepth 100000 in
set_option maxHeartbeats 4000000 in
theorem w_X10_frames_l1 {l : Launch} {Γ : gG} {ad : Nat → Nat} {N : Nat} {p : Program} {e : Env} {s : State} {m : MethodId} {args : Array Value} {below : List Frame} {meth : Method} {c : Code} {Q : State → Prop} (hN : 8 ≤ N) (X : gX celM Γ ad N RX10 cX10_frames 4 (some .int) p s m args meth c) {σ : gSt} {a0 : Int32}  : ∀ (n : Nat) (i1 : Int32) (i2 : Int32) (r3 : Int32), f_X10_frames_l1 σ a0 n i1 i2 = some r3 → (∀ (H : Heap) (locs : List Loc) (ls : Array Slot), gS celM Γ ad N σ s H locs → lv_has ls 4 [(2, .int r3)] → W p l e (gR 3 0 0) s m args below meth c H locs 0 0 (Q) (F0 m 39 ls [])) → ∀ (H : Heap) (locs : List Loc) (ls : Array Slot), gS celM Γ ad N σ s H locs → lv_has ls 4 [(3, .int i1), (2, .int i2), (0, .ref (ad 0)), (1, .int a0)] → W p l e (gR 3 0 0) s m args below meth c H locs 0 0 (Q) (F0 m 4 ls []) := by
  have hx := X.1
  have hb := X.2.1
  intro n
  induction n with
  | zero =>
    intro i1 i2 r3 hf
    cases hf
  | succ n ih =>
    intro i1 i2 r3 hf J H locs ls S hl
    rw [f_X10_frames_l1] at hf
    refine lv_iload_n hx hb dX10_frames_4 rfl (lv_at hl 0 rfl) ?_
    refine lv_aload_n hx hb dX10_frames_5 rfl (lv_at hl 2 rfl) ?_
    refine gfX10_7 X S hN dX10_frames_6 ?_
    refine lv_bipush (v := (28 : Int32)) hx hb dX10_frames_9 (by decide) ?_
    refine lv_iload_n hx hb dX10_frames_11 rfl (lv_at hl 3 rfl) ?_
    refine lv_iadd hx hb dX10_frames_12 ?_
    obtain ⟨v4, hv4, hf⟩ := g_s1 hf
    refine g_iald X S (by omega) (ceM_a (rfl : gma 1 = true)) hv4 dX10_frames_13 ?_
    refine lv_icmp_ge (tgt := 39) hx hb dX10_frames_14 (by decide) (fun c5 => ?_) (fun c5 => ?_)
    · have hf := (if_pos c5).symm.trans hf
      cases hf
      exact J _ _ _ S (lv_sub hl [1] rfl)
    · have hf := (if_neg c5).symm.trans hf
      refine lv_iload_n hx hb dX10_frames_17 rfl (lv_at hl 1 rfl) ?_
      refine lv_aload_n hx hb dX10_frames_18 rfl (lv_at hl 2 rfl) ?_
      refine lv_iload_n hx hb dX10_frames_19 rfl (lv_at hl 3 rfl) ?_
      refine lv_iload_n hx hb dX10_frames_20 rfl (lv_at hl 0 rfl) ?_
      obtain ⟨v6, hv6, hf⟩ := g_s1 hf
      refine g_ki S (g_runV (rest := [.int i2]) X S (c_X10_end l hN  hv6 _) cvX10_end mlX10_71 (by omega) (ceM_10 _) rfl rfl rfl hl.1 (Nat.le_of_ble_eq_true rfl) ⟨⟨rfl, rfl⟩, ⟨Nat.le_of_ble_eq_true rfl, Nat.le_of_ble_eq_true rfl⟩, Nat.le_of_ble_eq_true rfl, Nat.le_of_ble_eq_true rfl⟩ dX10_frames_21) (fun H locs S => ?_)
      refine lv_aload_n hx hb dX10_frames_24 rfl (lv_at hl 2 rfl) ?_
      refine lv_iload_n hx hb dX10_frames_25 rfl (lv_at hl 3 rfl) ?_
      refine lv_iload_n hx hb dX10_frames_26 rfl (lv_at hl 0 rfl) ?_
      obtain ⟨v7, hv7, hf⟩ := g_s1 hf
      refine g_ki S (g_runV (rest := [.int v6, .int i2]) X S (c_X10_first l hN  hv7 _) cvX10_first mlX10_113 (by omega) (ceM_10 _) rfl rfl rfl hl.1 (Nat.le_of_ble_eq_true rfl) ⟨⟨rfl, rfl⟩, ⟨Nat.le_of_ble_eq_true rfl, Nat.le_of_ble_eq_true rfl⟩, Nat.le_of_ble_eq_true rfl, Nat.le_of_ble_eq_true rfl⟩ dX10_frames_27) (fun H locs S => ?_)
      refine lv_isub hx hb dX10_frames_30 ?_
      refine lv_iadd hx hb dX10_frames_31 ?_
      refine lv_istore_n (lv' := [(2, .int (i2 + (v6 - v7))), (3, .int i1), (0, .ref (ad 0)), (1, .int a0)]) hx hb dX10_frames_32 rfl hl (by decide) rfl (fun ls hl => ?_)
      refine lv_iinc (v := (i1 + 1)) (lv' := [(3, .int (i1 + 1)), (2, .int (i2 + (v6 - v7))), (0, .ref (ad 0)), (1, .int a0)]) hx hb dX10_frames_33 hl (k := 1) rfl rfl (by decide) rfl (fun ls hl => ?_)
      refine lv_goto (tgt := 4) hx hb dX10_frames_36 (by decide) ?_
      exact ih _ _ _  hf J _ _ _ S (lv_sub hl [0, 1, 2, 3] rfl)
noncomputable def f_X10_frames (σ : gSt) (a0 : Int32) : Option (Int32) :=
  (g_k1 (f_X10_frames_l1 σ a0 FU (0 : Int32) (0 : Int32)) fun r3 => some r3)
set_option maxRecDepth 100000 in
set_option maxHeartbeats 4000000 in
theorem c_X10_frames (l : Launch) {Γ : gG} {ad : Nat → Nat} {N : Nat} (hN : 8 ≤ N) {σ : gSt} {a0 : Int32}  {r : Int32} (hf : f_X10_frames σ a0 = some r) : gMi l celM Γ ad N yX10_frames cX10_frames 4 (some .int) (gR 3 0 0) [.ref (ad 0), .int a0] σ r σ := by
  intro sz
  refine gOf (Qc := fun sz => gQci celM Γ ad N r σ sz) RX10 (by decide) rfl (Nat.le_of_ble_eq_true rfl) (fun p e s m args below meth c H locs ls X S hl => ?_)
  have hl : lv_has ls 4 [(0, .ref (ad 0)), (1, .int a0)] := hl
  have hx := X.1
  have hb := X.2.1
  unfold f_X10_frames at hf
  refine lv_iconst (v := (0 : Int32)) hx hb dX10_frames_0 (by decide) ?_
  refine lv_istore_n (lv' := [(2, .int (0 : Int32)), (0, .ref (ad 0)), (1, .int a0)]) hx hb dX10_frames_1 rfl hl (by decide) rfl (fun ls hl => ?_)
  refine lv_iconst (v := (0 : Int32)) hx hb dX10_frames_2 (by decide) ?_
  refine lv_istore_n (lv' := [(3, .int (0 : Int32)), (2, .int (0 : Int32)), (0, .ref (ad 0)), (1, .int a0)]) hx hb dX10_frames_3 rfl hl (by decide) rfl (fun ls hl => ?_)
  obtain ⟨r3, hr8, hf⟩ := g_s1 hf
  refine w_X10_frames_l1 hN X  FU _ _ _  hr8 (fun H locs ls S hl => ?_) _ _ _ S (lv_sub hl [0, 1, 2, 3] rfl)
  refine lv_iload_n hx hb dX10_frames_39 rfl (lv_at hl 0 rfl) ?_
  cases hf
  exact g_reti X S rfl dX10_frames_40

noncomputable def f_X10_loads_l1 (σ : gSt) (a0 : Int32) : Nat → Int32 → Int32 → Option (Int32)
  | 0, _, _ => none
  | n + 1, i1, i2 => (g_k1 (gald σ 1 926 ((28 : Int32) + a0)) fun v4 => (if v4 ≤ i1 then some i2 else (g_k1 (f_X10_load σ a0 i1) fun v6 => (f_X10_loads_l1 σ a0 n (i1 + 1) (i2 + v6)))))
set_option maxRecDepth 100000 in
set_option maxHeartbeats 4000000 in
theorem w_X10_loads_l1 {l : Launch} {Γ : gG} {ad : Nat → Nat} {N : Nat} {p : Program} {e : Env} {s : State} {m : MethodId} {args : Array Value} {below : List Frame} {meth : Method} {c : Code} {Q : State → Prop} (hN : 8 ≤ N) (X : gX celM Γ ad N RX10 cX10_loads 4 (some .int) p s m args meth c) {σ : gSt} {a0 : Int32}  : ∀ (n : Nat) (i1 : Int32) (i2 : Int32) (r3 : Int32), f_X10_loads_l1 σ a0 n i1 i2 = some r3 → (∀ (H : Heap) (locs : List Loc) (ls : Array Slot), gS celM Γ ad N σ s H locs → lv_has ls 4 [(2, .int r3)] → W p l e (gR 3 0 0) s m args below meth c H locs 0 0 (Q) (F0 m 32 ls [])) → ∀ (H : Heap) (locs : List Loc) (ls : Array Slot), gS celM Γ ad N σ s H locs → lv_has ls 4 [(3, .int i1), (2, .int i2), (0, .ref (ad 0)), (1, .int a0)] → W p l e (gR 3 0 0) s m args below meth c H locs 0 0 (Q) (F0 m 4 ls []) := by
  have hx := X.1
  have hb := X.2.1
  intro n
  induction n with
  | zero =>
    intro i1 i2 r3 hf
    cases hf
  | succ n ih =>
    intro i1 i2 r3 hf J H locs ls S hl
    rw [f_X10_loads_l1] at hf
    refine lv_iload_n hx hb dX10_loads_4 rfl (lv_at hl 0 rfl) ?_
    refine lv_aload_n hx hb dX10_loads_5 rfl (lv_at hl 2 rfl) ?_
    refine gfX10_7 X S hN dX10_loads_6 ?_
    refine lv_bipush (v := (28 : Int32)) hx hb dX10_loads_9 (by decide) ?_
    refine lv_iload_n hx hb dX10_loads_11 rfl (lv_at hl 3 rfl) ?_
    refine lv_iadd hx hb dX10_loads_12 ?_
    obtain ⟨v4, hv4, hf⟩ := g_s1 hf
    refine g_iald X S (by omega) (ceM_a (rfl : gma 1 = true)) hv4 dX10_loads_13 ?_
    refine lv_icmp_ge (tgt := 32) hx hb dX10_loads_14 (by decide) (fun c5 => ?_) (fun c5 => ?_)
    · have hf := (if_pos c5).symm.trans hf
      cases hf
      exact J _ _ _ S (lv_sub hl [1] rfl)
    · have hf := (if_neg c5).symm.trans hf
      refine lv_iload_n hx hb dX10_loads_17 rfl (lv_at hl 1 rfl) ?_
      refine lv_aload_n hx hb dX10_loads_18 rfl (lv_at hl 2 rfl) ?_
      refine lv_iload_n hx hb dX10_loads_19 rfl (lv_at hl 3 rfl) ?_
      refine lv_iload_n hx hb dX10_loads_20 rfl (lv_at hl 0 rfl) ?_
      obtain ⟨v6, hv6, hf⟩ := g_s1 hf
      refine g_ki S (g_runV (rest := [.int i2]) X S (c_X10_load l hN  hv6 _) cvX10_load mlX10_107 (by omega) (ceM_10 _) rfl rfl rfl hl.1 (Nat.le_of_ble_eq_true rfl) ⟨⟨rfl, rfl⟩, ⟨Nat.le_of_ble_eq_true rfl, Nat.le_of_ble_eq_true rfl⟩, Nat.le_of_ble_eq_true rfl, Nat.le_of_ble_eq_true rfl⟩ dX10_loads_21) (fun H locs S => ?_)
      refine lv_iadd hx hb dX10_loads_24 ?_
      refine lv_istore_n (lv' := [(2, .int (i2 + v6)), (3, .int i1), (0, .ref (ad 0)), (1, .int a0)]) hx hb dX10_loads_25 rfl hl (by decide) rfl (fun ls hl => ?_)
      refine lv_iinc (v := (i1 + 1)) (lv' := [(3, .int (i1 + 1)), (2, .int (i2 + v6)), (0, .ref (ad 0)), (1, .int a0)]) hx hb dX10_loads_26 hl (k := 1) rfl rfl (by decide) rfl (fun ls hl => ?_)
      refine lv_goto (tgt := 4) hx hb dX10_loads_29 (by decide) ?_
      exact ih _ _ _  hf J _ _ _ S (lv_sub hl [0, 1, 2, 3] rfl)
noncomputable def f_X10_loads (σ : gSt) (a0 : Int32) : Option (Int32) :=
  (g_k1 (f_X10_loads_l1 σ a0 FU (0 : Int32) (0 : Int32)) fun r3 => some r3)
set_option maxRecDepth 100000 in
set_option maxHeartbeats 4000000 in
theorem c_X10_loads (l : Launch) {Γ : gG} {ad : Nat → Nat} {N : Nat} (hN : 8 ≤ N) {σ : gSt} {a0 : Int32}  {r : Int32} (hf : f_X10_loads σ a0 = some r) : gMi l celM Γ ad N yX10_loads cX10_loads 4 (some .int) (gR 3 0 0) [.ref (ad 0), .int a0] σ r σ := by
  intro sz
  refine gOf (Qc := fun sz => gQci celM Γ ad N r σ sz) RX10 (by decide) rfl (Nat.le_of_ble_eq_true rfl) (fun p e s m args below meth c H locs ls X S hl => ?_)
  have hl : lv_has ls 4 [(0, .ref (ad 0)), (1, .int a0)] := hl
  have hx := X.1
  have hb := X.2.1
  unfold f_X10_loads at hf
  refine lv_iconst (v := (0 : Int32)) hx hb dX10_loads_0 (by decide) ?_
  refine lv_istore_n (lv' := [(2, .int (0 : Int32)), (0, .ref (ad 0)), (1, .int a0)]) hx hb dX10_loads_1 rfl hl (by decide) rfl (fun ls hl => ?_)
  refine lv_iconst (v := (0 : Int32)) hx hb dX10_loads_2 (by decide) ?_
  refine lv_istore_n (lv' := [(3, .int (0 : Int32)), (2, .int (0 : Int32)), (0, .ref (ad 0)), (1, .int a0)]) hx hb dX10_loads_3 rfl hl (by decide) rfl (fun ls hl => ?_)
  obtain ⟨r3, hr7, hf⟩ := g_s1 hf
  refine w_X10_loads_l1 hN X  FU _ _ _  hr7 (fun H locs ls S hl => ?_) _ _ _ S (lv_sub hl [0, 1, 2, 3] rfl)
  refine lv_iload_n hx hb dX10_loads_32 rfl (lv_at hl 0 rfl) ?_
  cases hf
  exact g_reti X S rfl dX10_loads_33

noncomputable def f_X10_overCuts_l1 (σ : gSt) (a0 : Int32) : Nat → Int32 → Int32 → Option (Int32)
  | 0, _, _ => none
  | n + 1, i1, i2 => (g_k1 (gald σ 1 926 ((28 : Int32) + a0)) fun v4 => (if v4 ≤ i1 then some i2 else (g_k1 (f_X10_cutsWithin σ a0 i1) fun v6 => (g_k1 (if v6 ≤ 0 then some (0 : Int32) else some (1 : Int32)) fun x7 => (f_X10_overCuts_l1 σ a0 n (i1 + 1) (i2 + x7))))))
set_option maxRecDepth 100000 in
set_option maxHeartbeats 4000000 in
theorem w_X10_overCuts_l1 {l : Launch} {Γ : gG} {ad : Nat → Nat} {N : Nat} {p : Program} {e : Env} {s : State} {m : MethodId} {args : Array Value} {below : List Frame} {meth : Method} {c : Code} {Q : State → Prop} (hN : 8 ≤ N) (X : gX celM Γ ad N RX10 cX10_overCuts 4 (some .int) p s m args meth c) {σ : gSt} {a0 : Int32}  : ∀ (n : Nat) (i1 : Int32) (i2 : Int32) (r3 : Int32), f_X10_overCuts_l1 σ a0 n i1 i2 = some r3 → (∀ (H : Heap) (locs : List Loc) (ls : Array Slot), gS celM Γ ad N σ s H locs → lv_has ls 4 [(2, .int r3)] → W p l e (gR 4 0 0) s m args below meth c H locs 0 0 (Q) (F0 m 40 ls [])) → ∀ (H : Heap) (locs : List Loc) (ls : Array Slot), gS celM Γ ad N σ s H locs → lv_has ls 4 [(3, .int i1), (2, .int i2), (0, .ref (ad 0)), (1, .int a0)] → W p l e (gR 4 0 0) s m args below meth c H locs 0 0 (Q) (F0 m 4 ls []) := by
  have hx := X.1
  have hb := X.2.1
  intro n
  induction n with
  | zero =>
    intro i1 i2 r3 hf
    cases hf
  | succ n ih =>
    intro i1 i2 r3 hf J H locs ls S hl
    rw [f_X10_overCuts_l1] at hf
    refine lv_iload_n hx hb dX10_overCuts_4 rfl (lv_at hl 0 rfl) ?_
    refine lv_aload_n hx hb dX10_overCuts_5 rfl (lv_at hl 2 rfl) ?_
    refine gfX10_7 X S hN dX10_overCuts_6 ?_
    refine lv_bipush (v := (28 : Int32)) hx hb dX10_overCuts_9 (by decide) ?_
    refine lv_iload_n hx hb dX10_overCuts_11 rfl (lv_at hl 3 rfl) ?_
    refine lv_iadd hx hb dX10_overCuts_12 ?_
    obtain ⟨v4, hv4, hf⟩ := g_s1 hf
    refine g_iald X S (by omega) (ceM_a (rfl : gma 1 = true)) hv4 dX10_overCuts_13 ?_
    refine lv_icmp_ge (tgt := 40) hx hb dX10_overCuts_14 (by decide) (fun c5 => ?_) (fun c5 => ?_)
    · have hf := (if_pos c5).symm.trans hf
      cases hf
      exact J _ _ _ S (lv_sub hl [1] rfl)
    · have hf := (if_neg c5).symm.trans hf
      refine lv_iload_n hx hb dX10_overCuts_17 rfl (lv_at hl 1 rfl) ?_
      refine lv_aload_n hx hb dX10_overCuts_18 rfl (lv_at hl 2 rfl) ?_
      refine lv_iload_n hx hb dX10_overCuts_19 rfl (lv_at hl 3 rfl) ?_
      refine lv_iload_n hx hb dX10_overCuts_20 rfl (lv_at hl 0 rfl) ?_
      obtain ⟨v6, hv6, hf⟩ := g_s1 hf
      refine g_ki S (g_runV (rest := [.int i2]) X S (c_X10_cutsWithin l hN  hv6 _) cvX10_cutsWithin mlX10_194 (by omega) (ceM_10 _) rfl rfl rfl hl.1 (Nat.le_of_ble_eq_true rfl) ⟨⟨rfl, rfl⟩, ⟨Nat.le_of_ble_eq_true rfl, Nat.le_of_ble_eq_true rfl⟩, Nat.le_of_ble_eq_true rfl, Nat.le_of_ble_eq_true rfl⟩ dX10_overCuts_21) (fun H locs S => ?_)
      obtain ⟨x7, hr8, hf⟩ := g_s1 hf
      have J9 : ∀ (H : Heap) (locs : List Loc) (ls : Array Slot), gS celM Γ ad N σ s H locs → lv_has ls 4 [(3, .int i1), (0, .ref (ad 0)), (1, .int a0)] → W p l e (gR 4 0 0) s m args below meth c H locs 0 0 (Q) (F0 m 32 ls [.int x7, .int i2]) := by
        intro H locs ls S hl
        refine lv_iadd hx hb dX10_overCuts_32 ?_
        refine lv_istore_n (lv' := [(2, .int (i2 + x7)), (3, .int i1), (0, .ref (ad 0)), (1, .int a0)]) hx hb dX10_overCuts_33 rfl hl (by decide) rfl (fun ls hl => ?_)
        refine lv_iinc (v := (i1 + 1)) (lv' := [(3, .int (i1 + 1)), (2, .int (i2 + x7)), (0, .ref (ad 0)), (1, .int a0)]) hx hb dX10_overCuts_34 hl (k := 1) rfl rfl (by decide) rfl (fun ls hl => ?_)
        refine lv_goto (tgt := 4) hx hb dX10_overCuts_37 (by decide) ?_
        exact ih _ _ _  hf J _ _ _ S (lv_sub hl [0, 1, 2, 3] rfl)
      replace hf := hr8
      refine lv_if_le (tgt := 31) hx hb dX10_overCuts_24 (by decide) (fun c10 => ?_) (fun c10 => ?_)
      · have hf := (if_pos c10).symm.trans hf
        refine lv_iconst (v := (0 : Int32)) hx hb dX10_overCuts_31 (by decide) ?_
        cases hf
        exact J9 _ _ _ S (lv_sub hl [0, 2, 3] rfl)
      · have hf := (if_neg c10).symm.trans hf
        refine lv_iconst (v := (1 : Int32)) hx hb dX10_overCuts_27 (by decide) ?_
        refine lv_goto (tgt := 32) hx hb dX10_overCuts_28 (by decide) ?_
        cases hf
        exact J9 _ _ _ S (lv_sub hl [0, 2, 3] rfl)
noncomputable def f_X10_overCuts (σ : gSt) (a0 : Int32) : Option (Int32) :=
  (g_k1 (f_X10_overCuts_l1 σ a0 FU (0 : Int32) (0 : Int32)) fun r3 => some r3)
set_option maxRecDepth 100000 in
set_option maxHeartbeats 4000000 in
theorem c_X10_overCuts (l : Launch) {Γ : gG} {ad : Nat → Nat} {N : Nat} (hN : 8 ≤ N) {σ : gSt} {a0 : Int32}  {r : Int32} (hf : f_X10_overCuts σ a0 = some r) : gMi l celM Γ ad N yX10_overCuts cX10_overCuts 4 (some .int) (gR 4 0 0) [.ref (ad 0), .int a0] σ r σ := by
  intro sz
  refine gOf (Qc := fun sz => gQci celM Γ ad N r σ sz) RX10 (by decide) rfl (Nat.le_of_ble_eq_true rfl) (fun p e s m args below meth c H locs ls X S hl => ?_)
  have hl : lv_has ls 4 [(0, .ref (ad 0)), (1, .int a0)] := hl
  have hx := X.1
  have hb := X.2.1
  unfold f_X10_overCuts at hf
  refine lv_iconst (v := (0 : Int32)) hx hb dX10_overCuts_0 (by decide) ?_
  refine lv_istore_n (lv' := [(2, .int (0 : Int32)), (0, .ref (ad 0)), (1, .int a0)]) hx hb dX10_overCuts_1 rfl hl (by decide) rfl (fun ls hl => ?_)
  refine lv_iconst (v := (0 : Int32)) hx hb dX10_overCuts_2 (by decide) ?_
  refine lv_istore_n (lv' := [(3, .int (0 : Int32)), (2, .int (0 : Int32)), (0, .ref (ad 0)), (1, .int a0)]) hx hb dX10_overCuts_3 rfl hl (by decide) rfl (fun ls hl => ?_)
  obtain ⟨r3, hr11, hf⟩ := g_s1 hf
  refine w_X10_overCuts_l1 hN X  FU _ _ _  hr11 (fun H locs ls S hl => ?_) _ _ _ S (lv_sub hl [0, 1, 2, 3] rfl)
  refine lv_iload_n hx hb dX10_overCuts_40 rfl (lv_at hl 0 rfl) ?_
  cases hf
  exact g_reti X S rfl dX10_overCuts_41

noncomputable def f_X10_merging_l1 (σ : gSt) (a0 : Int32) : Nat → Int32 → Int32 → Option (Int32)
  | 0, _, _ => none
  | n + 1, i1, i2 => (g_k1 (gald σ 1 926 ((28 : Int32) + a0)) fun v4 => (if v4 ≤ i1 then some i2 else (g_k1 (f_X10_againstMerge σ a0 i1) fun v6 => (g_k1 (if v6 = 0 then some (1 : Int32) else some (0 : Int32)) fun x7 => (f_X10_merging_l1 σ a0 n (i1 + 1) (i2 + x7))))))
set_option maxRecDepth 100000 in
set_option maxHeartbeats 4000000 in
theorem w_X10_merging_l1 {l : Launch} {Γ : gG} {ad : Nat → Nat} {N : Nat} {p : Program} {e : Env} {s : State} {m : MethodId} {args : Array Value} {below : List Frame} {meth : Method} {c : Code} {Q : State → Prop} (hN : 8 ≤ N) (X : gX celM Γ ad N RX10 cX10_merging 4 (some .int) p s m args meth c) {σ : gSt} {a0 : Int32}  : ∀ (n : Nat) (i1 : Int32) (i2 : Int32) (r3 : Int32), f_X10_merging_l1 σ a0 n i1 i2 = some r3 → (∀ (H : Heap) (locs : List Loc) (ls : Array Slot), gS celM Γ ad N σ s H locs → lv_has ls 4 [(2, .int r3)] → W p l e (gR 5 0 0) s m args below meth c H locs 0 0 (Q) (F0 m 40 ls [])) → ∀ (H : Heap) (locs : List Loc) (ls : Array Slot), gS celM Γ ad N σ s H locs → lv_has ls 4 [(3, .int i1), (2, .int i2), (0, .ref (ad 0)), (1, .int a0)] → W p l e (gR 5 0 0) s m args below meth c H locs 0 0 (Q) (F0 m 4 ls []) := by
  have hx := X.1
  have hb := X.2.1
  intro n
  induction n with
  | zero =>
    intro i1 i2 r3 hf
    cases hf
  | succ n ih =>
    intro i1 i2 r3 hf J H locs ls S hl
    rw [f_X10_merging_l1] at hf
    refine lv_iload_n hx hb dX10_merging_4 rfl (lv_at hl 0 rfl) ?_
    refine lv_aload_n hx hb dX10_merging_5 rfl (lv_at hl 2 rfl) ?_
    refine gfX10_7 X S hN dX10_merging_6 ?_
    refine lv_bipush (v := (28 : Int32)) hx hb dX10_merging_9 (by decide) ?_
    refine lv_iload_n hx hb dX10_merging_11 rfl (lv_at hl 3 rfl) ?_
    refine lv_iadd hx hb dX10_merging_12 ?_
    obtain ⟨v4, hv4, hf⟩ := g_s1 hf
    refine g_iald X S (by omega) (ceM_a (rfl : gma 1 = true)) hv4 dX10_merging_13 ?_
    refine lv_icmp_ge (tgt := 40) hx hb dX10_merging_14 (by decide) (fun c5 => ?_) (fun c5 => ?_)
    · have hf := (if_pos c5).symm.trans hf
      cases hf
      exact J _ _ _ S (lv_sub hl [1] rfl)
    · have hf := (if_neg c5).symm.trans hf
      refine lv_iload_n hx hb dX10_merging_17 rfl (lv_at hl 1 rfl) ?_
      refine lv_aload_n hx hb dX10_merging_18 rfl (lv_at hl 2 rfl) ?_
      refine lv_iload_n hx hb dX10_merging_19 rfl (lv_at hl 3 rfl) ?_
      refine lv_iload_n hx hb dX10_merging_20 rfl (lv_at hl 0 rfl) ?_
      obtain ⟨v6, hv6, hf⟩ := g_s1 hf
      refine g_ki S (g_runV (rest := [.int i2]) X S (c_X10_againstMerge l hN  hv6 _) cvX10_againstMerge mlX10_172 (by omega) (ceM_10 _) rfl rfl rfl hl.1 (Nat.le_of_ble_eq_true rfl) ⟨⟨rfl, rfl⟩, ⟨Nat.le_of_ble_eq_true rfl, Nat.le_of_ble_eq_true rfl⟩, Nat.le_of_ble_eq_true rfl, Nat.le_of_ble_eq_true rfl⟩ dX10_merging_21) (fun H locs S => ?_)
      obtain ⟨x7, hr8, hf⟩ := g_s1 hf
      have J9 : ∀ (H : Heap) (locs : List Loc) (ls : Array Slot), gS celM Γ ad N σ s H locs → lv_has ls 4 [(3, .int i1), (0, .ref (ad 0)), (1, .int a0)] → W p l e (gR 5 0 0) s m args below meth c H locs 0 0 (Q) (F0 m 32 ls [.int x7, .int i2]) := by
        intro H locs ls S hl
        refine lv_iadd hx hb dX10_merging_32 ?_
        refine lv_istore_n (lv' := [(2, .int (i2 + x7)), (3, .int i1), (0, .ref (ad 0)), (1, .int a0)]) hx hb dX10_merging_33 rfl hl (by decide) rfl (fun ls hl => ?_)
        refine lv_iinc (v := (i1 + 1)) (lv' := [(3, .int (i1 + 1)), (2, .int (i2 + x7)), (0, .ref (ad 0)), (1, .int a0)]) hx hb dX10_merging_34 hl (k := 1) rfl rfl (by decide) rfl (fun ls hl => ?_)
        refine lv_goto (tgt := 4) hx hb dX10_merging_37 (by decide) ?_
        exact ih _ _ _  hf J _ _ _ S (lv_sub hl [0, 1, 2, 3] rfl)
      replace hf := hr8
      refine lv_if_ne (tgt := 31) hx hb dX10_merging_24 (by decide) (fun c10 => ?_) (fun c10 => ?_)
      · have hf := (if_neg c10).symm.trans hf
        refine lv_iconst (v := (0 : Int32)) hx hb dX10_merging_31 (by decide) ?_
        cases hf
        exact J9 _ _ _ S (lv_sub hl [0, 2, 3] rfl)
      · have hf := (if_pos c10).symm.trans hf
        refine lv_iconst (v := (1 : Int32)) hx hb dX10_merging_27 (by decide) ?_
        refine lv_goto (tgt := 32) hx hb dX10_merging_28 (by decide) ?_
        cases hf
        exact J9 _ _ _ S (lv_sub hl [0, 2, 3] rfl)
noncomputable def f_X10_merging (σ : gSt) (a0 : Int32) : Option (Int32) :=
  (g_k1 (f_X10_merging_l1 σ a0 FU (0 : Int32) (0 : Int32)) fun r3 => some r3)
set_option maxRecDepth 100000 in
set_option maxHeartbeats 4000000 in
theorem c_X10_merging (l : Launch) {Γ : gG} {ad : Nat → Nat} {N : Nat} (hN : 8 ≤ N) {σ : gSt} {a0 : Int32}  {r : Int32} (hf : f_X10_merging σ a0 = some r) : gMi l celM Γ ad N yX10_merging cX10_merging 4 (some .int) (gR 5 0 0) [.ref (ad 0), .int a0] σ r σ := by
  intro sz
  refine gOf (Qc := fun sz => gQci celM Γ ad N r σ sz) RX10 (by decide) rfl (Nat.le_of_ble_eq_true rfl) (fun p e s m args below meth c H locs ls X S hl => ?_)
  have hl : lv_has ls 4 [(0, .ref (ad 0)), (1, .int a0)] := hl
  have hx := X.1
  have hb := X.2.1
  unfold f_X10_merging at hf
  refine lv_iconst (v := (0 : Int32)) hx hb dX10_merging_0 (by decide) ?_
  refine lv_istore_n (lv' := [(2, .int (0 : Int32)), (0, .ref (ad 0)), (1, .int a0)]) hx hb dX10_merging_1 rfl hl (by decide) rfl (fun ls hl => ?_)
  refine lv_iconst (v := (0 : Int32)) hx hb dX10_merging_2 (by decide) ?_
  refine lv_istore_n (lv' := [(3, .int (0 : Int32)), (2, .int (0 : Int32)), (0, .ref (ad 0)), (1, .int a0)]) hx hb dX10_merging_3 rfl hl (by decide) rfl (fun ls hl => ?_)
  obtain ⟨r3, hr11, hf⟩ := g_s1 hf
  refine w_X10_merging_l1 hN X  FU _ _ _  hr11 (fun H locs ls S hl => ?_) _ _ _ S (lv_sub hl [0, 1, 2, 3] rfl)
  refine lv_iload_n hx hb dX10_merging_40 rfl (lv_at hl 0 rfl) ?_
  cases hf
  exact g_reti X S rfl dX10_merging_41

noncomputable def f_X10_track (σ : gSt) (a0 : Int32) (a1 : Int32) : Option (Int32 × gSt) :=
  (g_k1 (f_X10_isTrack σ a0) fun v1 => (g_k1 (if v1 = 0 then some (1 : Int32) else (g_k1 (f_X10_in σ a1 (0 : Int32) (8 : Int32)) fun v25 => (if v25 = 0 then some (2 : Int32) else some (0 : Int32)))) fun x2 => (g_k1 (gset σ 0 10 x2) fun σ5 => (if (σ5 0 10) ≤ 0 then (if a1 = (0 : Int32) then (g_k1 (f_X10_frames σ5 a0) fun v8 => some (v8, σ5)) else (if a1 = (1 : Int32) then (g_k1 (f_X10_loads σ5 a0) fun v10 => some (v10, σ5)) else (if a1 = (2 : Int32) then (g_k1 (f_X10_with σ5 a0 (1 : Int32)) fun v12 => some (v12, σ5)) else (if a1 = (3 : Int32) then (g_k1 (f_X10_with σ5 a0 (6 : Int32)) fun v14 => some (v14, σ5)) else (if a1 = (4 : Int32) then (g_k1 (f_X10_with σ5 a0 ((8 : Int32) <<< ((a1 - (4 : Int32)) &&& 31))) fun v16 => some (v16, σ5)) else (if a1 = (5 : Int32) then (g_k1 (f_X10_with σ5 a0 ((8 : Int32) <<< ((a1 - (4 : Int32)) &&& 31))) fun v18 => some (v18, σ5)) else (if a1 = (6 : Int32) then (g_k1 (f_X10_with σ5 a0 ((8 : Int32) <<< ((a1 - (4 : Int32)) &&& 31))) fun v20 => some (v20, σ5)) else (if a1 = (7 : Int32) then (g_k1 (f_X10_overCuts σ5 a0) fun v22 => some (v22, σ5)) else (g_k1 (f_X10_merging σ5 a0) fun v23 => some (v23, σ5)))))))))) else some ((0 : Int32), σ5)))))
set_option maxRecDepth 100000 in
set_option maxHeartbeats 4000000 in
theorem c_X10_track (l : Launch) {Γ : gG} {ad : Nat → Nat} {N : Nat} (hN : 8 ≤ N) {σ : gSt} {a0 : Int32} {a1 : Int32}  {r : Int32} {σ' : gSt} (hf : f_X10_track σ a0 a1 = some (r, σ')) : gMi l celM Γ ad N yX10_track cX10_track 3 (some .int) (gR 8 0 0) [.ref (ad 0), .int a0, .int a1] σ r σ' := by
  intro sz
  refine gOf (Qc := fun sz => gQci celM Γ ad N r σ' sz) RX10 (by decide) rfl (Nat.le_of_ble_eq_true rfl) (fun p e s m args below meth c H locs ls X S hl => ?_)
  have hl : lv_has ls 3 [(0, .ref (ad 0)), (1, .int a0), (2, .int a1)] := hl
  have hx := X.1
  have hb := X.2.1
  unfold f_X10_track at hf
  refine lv_aload_n hx hb dX10_track_0 rfl (lv_at hl 0 rfl) ?_
  refine lv_iload_n hx hb dX10_track_1 rfl (lv_at hl 1 rfl) ?_
  obtain ⟨v1, hv1, hf⟩ := g_s1 hf
  refine g_ki S (g_runS (rest := [.ref (ad 0)]) X S (c_X10_isTrack l hN  hv1 _) csX10_isTrack mlX10_52 rfl rfl hl.1 (Nat.le_of_ble_eq_true rfl) ⟨⟨rfl, rfl⟩, ⟨Nat.le_of_ble_eq_true rfl, Nat.le_of_ble_eq_true rfl⟩, Nat.le_of_ble_eq_true rfl, Nat.le_of_ble_eq_true rfl⟩ dX10_track_2) (fun H locs S => ?_)
  obtain ⟨x2, hr3, hf⟩ := g_s1 hf
  have J4 : ∀ (H : Heap) (locs : List Loc) (ls : Array Slot), gS celM Γ ad N σ s H locs → lv_has ls 3 [(0, .ref (ad 0)), (1, .int a0), (2, .int a1)] → W p l e (gR 8 0 0) s m args below meth c H locs 0 0 (gQi celM Γ ad N r σ' below args s) (F0 m 27 ls [.int x2, .ref (ad 0)]) := by
    intro H locs ls S hl
    obtain ⟨σ5, hσ5, hf⟩ := g_s1 hf
    refine pfX10_35 X S hN hσ5 dX10_track_27 (fun H locs S => ?_)
    refine lv_aload_n hx hb dX10_track_30 rfl (lv_at hl 0 rfl) ?_
    refine gfX10_35 X S hN dX10_track_31 ?_
    refine lv_if_le (tgt := 39) hx hb dX10_track_34 (by decide) (fun c6 => ?_) (fun c6 => ?_)
    · have hf := (if_pos c6).symm.trans hf
      refine lv_iload_n hx hb dX10_track_39 rfl (lv_at hl 2 rfl) ?_
      by_cases c7 : a1 = (0 : Int32)
      · have hf := (if_pos c7).symm.trans hf
        refine lv_tableIn (off := 48) (tgt := 88) hx hb dX10_track_40 (by rw [c7]; decide) (by rw [c7]; decide) (by rw [c7]; decide) (by decide) ?_
        refine lv_aload_n hx hb dX10_track_88 rfl (lv_at hl 0 rfl) ?_
        refine lv_iload_n hx hb dX10_track_89 rfl (lv_at hl 1 rfl) ?_
        obtain ⟨v8, hv8, hf⟩ := g_s1 hf
        refine g_ki S (g_runV (rest := []) X S (c_X10_frames l hN  hv8 _) cvX10_frames mlX10_197 (by omega) (ceM_10 _) rfl rfl rfl hl.1 (Nat.le_of_ble_eq_true rfl) ⟨⟨rfl, rfl⟩, ⟨Nat.le_of_ble_eq_true rfl, Nat.le_of_ble_eq_true rfl⟩, Nat.le_of_ble_eq_true rfl, Nat.le_of_ble_eq_true rfl⟩ dX10_track_90) (fun H locs S => ?_)
        cases hf
        exact g_reti X S rfl dX10_track_93
      replace hf := (if_neg c7).symm.trans hf
      by_cases c9 : a1 = (1 : Int32)
      · have hf := (if_pos c9).symm.trans hf
        refine lv_tableIn (off := 54) (tgt := 94) hx hb dX10_track_40 (by rw [c9]; decide) (by rw [c9]; decide) (by rw [c9]; decide) (by decide) ?_
        refine lv_aload_n hx hb dX10_track_94 rfl (lv_at hl 0 rfl) ?_
        refine lv_iload_n hx hb dX10_track_95 rfl (lv_at hl 1 rfl) ?_
        obtain ⟨v10, hv10, hf⟩ := g_s1 hf
        refine g_ki S (g_runV (rest := []) X S (c_X10_loads l hN  hv10 _) cvX10_loads mlX10_200 (by omega) (ceM_10 _) rfl rfl rfl hl.1 (Nat.le_of_ble_eq_true rfl) ⟨⟨rfl, rfl⟩, ⟨Nat.le_of_ble_eq_true rfl, Nat.le_of_ble_eq_true rfl⟩, Nat.le_of_ble_eq_true rfl, Nat.le_of_ble_eq_true rfl⟩ dX10_track_96) (fun H locs S => ?_)
        cases hf
        exact g_reti X S rfl dX10_track_99
      replace hf := (if_neg c9).symm.trans hf
      by_cases c11 : a1 = (2 : Int32)
      · have hf := (if_pos c11).symm.trans hf
        refine lv_tableIn (off := 60) (tgt := 100) hx hb dX10_track_40 (by rw [c11]; decide) (by rw [c11]; decide) (by rw [c11]; decide) (by decide) ?_
        refine lv_aload_n hx hb dX10_track_100 rfl (lv_at hl 0 rfl) ?_
        refine lv_iload_n hx hb dX10_track_101 rfl (lv_at hl 1 rfl) ?_
        refine lv_iconst (v := (1 : Int32)) hx hb dX10_track_102 (by decide) ?_
        obtain ⟨v12, hv12, hf⟩ := g_s1 hf
        refine g_ki S (g_runV (rest := []) X S (c_X10_with l hN  hv12 _) cvX10_with mlX10_191 (by omega) (ceM_10 _) rfl rfl rfl hl.1 (Nat.le_of_ble_eq_true rfl) ⟨⟨rfl, rfl⟩, ⟨Nat.le_of_ble_eq_true rfl, Nat.le_of_ble_eq_true rfl⟩, Nat.le_of_ble_eq_true rfl, Nat.le_of_ble_eq_true rfl⟩ dX10_track_103) (fun H locs S => ?_)
        cases hf
        exact g_reti X S rfl dX10_track_106
      replace hf := (if_neg c11).symm.trans hf
      by_cases c13 : a1 = (3 : Int32)
      · have hf := (if_pos c13).symm.trans hf
        refine lv_tableIn (off := 67) (tgt := 107) hx hb dX10_track_40 (by rw [c13]; decide) (by rw [c13]; decide) (by rw [c13]; decide) (by decide) ?_
        refine lv_aload_n hx hb dX10_track_107 rfl (lv_at hl 0 rfl) ?_
        refine lv_iload_n hx hb dX10_track_108 rfl (lv_at hl 1 rfl) ?_
        refine lv_bipush (v := (6 : Int32)) hx hb dX10_track_109 (by decide) ?_
        obtain ⟨v14, hv14, hf⟩ := g_s1 hf
        refine g_ki S (g_runV (rest := []) X S (c_X10_with l hN  hv14 _) cvX10_with mlX10_191 (by omega) (ceM_10 _) rfl rfl rfl hl.1 (Nat.le_of_ble_eq_true rfl) ⟨⟨rfl, rfl⟩, ⟨Nat.le_of_ble_eq_true rfl, Nat.le_of_ble_eq_true rfl⟩, Nat.le_of_ble_eq_true rfl, Nat.le_of_ble_eq_true rfl⟩ dX10_track_111) (fun H locs S => ?_)
        cases hf
        exact g_reti X S rfl dX10_track_114
      replace hf := (if_neg c13).symm.trans hf
      by_cases c15 : a1 = (4 : Int32)
      · have hf := (if_pos c15).symm.trans hf
        refine lv_tableIn (off := 75) (tgt := 115) hx hb dX10_track_40 (by rw [c15]; decide) (by rw [c15]; decide) (by rw [c15]; decide) (by decide) ?_
        refine lv_aload_n hx hb dX10_track_115 rfl (lv_at hl 0 rfl) ?_
        refine lv_iload_n hx hb dX10_track_116 rfl (lv_at hl 1 rfl) ?_
        refine lv_bipush (v := (8 : Int32)) hx hb dX10_track_117 (by decide) ?_
        refine lv_iload_n hx hb dX10_track_119 rfl (lv_at hl 2 rfl) ?_
        refine lv_iconst (v := (4 : Int32)) hx hb dX10_track_120 (by decide) ?_
        refine lv_isub hx hb dX10_track_121 ?_
        refine lv_ishl hx hb dX10_track_122 ?_
        obtain ⟨v16, hv16, hf⟩ := g_s1 hf
        refine g_ki S (g_runV (rest := []) X S (c_X10_with l hN  hv16 _) cvX10_with mlX10_191 (by omega) (ceM_10 _) rfl rfl rfl hl.1 (Nat.le_of_ble_eq_true rfl) ⟨⟨rfl, rfl⟩, ⟨Nat.le_of_ble_eq_true rfl, Nat.le_of_ble_eq_true rfl⟩, Nat.le_of_ble_eq_true rfl, Nat.le_of_ble_eq_true rfl⟩ dX10_track_123) (fun H locs S => ?_)
        cases hf
        exact g_reti X S rfl dX10_track_126
      replace hf := (if_neg c15).symm.trans hf
      by_cases c17 : a1 = (5 : Int32)
      · have hf := (if_pos c17).symm.trans hf
        refine lv_tableIn (off := 75) (tgt := 115) hx hb dX10_track_40 (by rw [c17]; decide) (by rw [c17]; decide) (by rw [c17]; decide) (by decide) ?_
        refine lv_aload_n hx hb dX10_track_115 rfl (lv_at hl 0 rfl) ?_
        refine lv_iload_n hx hb dX10_track_116 rfl (lv_at hl 1 rfl) ?_
        refine lv_bipush (v := (8 : Int32)) hx hb dX10_track_117 (by decide) ?_
        refine lv_iload_n hx hb dX10_track_119 rfl (lv_at hl 2 rfl) ?_
        refine lv_iconst (v := (4 : Int32)) hx hb dX10_track_120 (by decide) ?_
        refine lv_isub hx hb dX10_track_121 ?_
        refine lv_ishl hx hb dX10_track_122 ?_
        obtain ⟨v18, hv18, hf⟩ := g_s1 hf
        refine g_ki S (g_runV (rest := []) X S (c_X10_with l hN  hv18 _) cvX10_with mlX10_191 (by omega) (ceM_10 _) rfl rfl rfl hl.1 (Nat.le_of_ble_eq_true rfl) ⟨⟨rfl, rfl⟩, ⟨Nat.le_of_ble_eq_true rfl, Nat.le_of_ble_eq_true rfl⟩, Nat.le_of_ble_eq_true rfl, Nat.le_of_ble_eq_true rfl⟩ dX10_track_123) (fun H locs S => ?_)
        cases hf
        exact g_reti X S rfl dX10_track_126
      replace hf := (if_neg c17).symm.trans hf
      by_cases c19 : a1 = (6 : Int32)
      · have hf := (if_pos c19).symm.trans hf
        refine lv_tableIn (off := 75) (tgt := 115) hx hb dX10_track_40 (by rw [c19]; decide) (by rw [c19]; decide) (by rw [c19]; decide) (by decide) ?_
        refine lv_aload_n hx hb dX10_track_115 rfl (lv_at hl 0 rfl) ?_
        refine lv_iload_n hx hb dX10_track_116 rfl (lv_at hl 1 rfl) ?_
        refine lv_bipush (v := (8 : Int32)) hx hb dX10_track_117 (by decide) ?_
        refine lv_iload_n hx hb dX10_track_119 rfl (lv_at hl 2 rfl) ?_
        refine lv_iconst (v := (4 : Int32)) hx hb dX10_track_120 (by decide) ?_
        refine lv_isub hx hb dX10_track_121 ?_
        refine lv_ishl hx hb dX10_track_122 ?_
        obtain ⟨v20, hv20, hf⟩ := g_s1 hf
        refine g_ki S (g_runV (rest := []) X S (c_X10_with l hN  hv20 _) cvX10_with mlX10_191 (by omega) (ceM_10 _) rfl rfl rfl hl.1 (Nat.le_of_ble_eq_true rfl) ⟨⟨rfl, rfl⟩, ⟨Nat.le_of_ble_eq_true rfl, Nat.le_of_ble_eq_true rfl⟩, Nat.le_of_ble_eq_true rfl, Nat.le_of_ble_eq_true rfl⟩ dX10_track_123) (fun H locs S => ?_)
        cases hf
        exact g_reti X S rfl dX10_track_126
      replace hf := (if_neg c19).symm.trans hf
      by_cases c21 : a1 = (7 : Int32)
      · have hf := (if_pos c21).symm.trans hf
        refine lv_tableIn (off := 87) (tgt := 127) hx hb dX10_track_40 (by rw [c21]; decide) (by rw [c21]; decide) (by rw [c21]; decide) (by decide) ?_
        refine lv_aload_n hx hb dX10_track_127 rfl (lv_at hl 0 rfl) ?_
        refine lv_iload_n hx hb dX10_track_128 rfl (lv_at hl 1 rfl) ?_
        obtain ⟨v22, hv22, hf⟩ := g_s1 hf
        refine g_ki S (g_runV (rest := []) X S (c_X10_overCuts l hN  hv22 _) cvX10_overCuts mlX10_203 (by omega) (ceM_10 _) rfl rfl rfl hl.1 (Nat.le_of_ble_eq_true rfl) ⟨⟨rfl, rfl⟩, ⟨Nat.le_of_ble_eq_true rfl, Nat.le_of_ble_eq_true rfl⟩, Nat.le_of_ble_eq_true rfl, Nat.le_of_ble_eq_true rfl⟩ dX10_track_129) (fun H locs S => ?_)
        cases hf
        exact g_reti X S rfl dX10_track_132
      replace hf := (if_neg c21).symm.trans hf
      refine lv_tableOut (tgt := 133) hx hb dX10_track_40 (g_swout0 (x := a1) (lo := 0) (n := 8) (fun j hj => by rcases (show j = 0 ∨ j = 1 ∨ j = 2 ∨ j = 3 ∨ j = 4 ∨ j = 5 ∨ j = 6 ∨ j = 7 by omega) with rfl | rfl | rfl | rfl | rfl | rfl | rfl | rfl <;> (intro h9; first | exact c7 (Int32.toInt_inj.mp (h9.trans (by decide))) | exact c9 (Int32.toInt_inj.mp (h9.trans (by decide))) | exact c11 (Int32.toInt_inj.mp (h9.trans (by decide))) | exact c13 (Int32.toInt_inj.mp (h9.trans (by decide))) | exact c15 (Int32.toInt_inj.mp (h9.trans (by decide))) | exact c17 (Int32.toInt_inj.mp (h9.trans (by decide))) | exact c19 (Int32.toInt_inj.mp (h9.trans (by decide))) | exact c21 (Int32.toInt_inj.mp (h9.trans (by decide)))))) (by decide) ?_
      refine lv_aload_n hx hb dX10_track_133 rfl (lv_at hl 0 rfl) ?_
      refine lv_iload_n hx hb dX10_track_134 rfl (lv_at hl 1 rfl) ?_
      obtain ⟨v23, hv23, hf⟩ := g_s1 hf
      refine g_ki S (g_runV (rest := []) X S (c_X10_merging l hN  hv23 _) cvX10_merging mlX10_206 (by omega) (ceM_10 _) rfl rfl rfl hl.1 (Nat.le_of_ble_eq_true rfl) ⟨⟨rfl, rfl⟩, ⟨Nat.le_of_ble_eq_true rfl, Nat.le_of_ble_eq_true rfl⟩, Nat.le_of_ble_eq_true rfl, Nat.le_of_ble_eq_true rfl⟩ dX10_track_135) (fun H locs S => ?_)
      cases hf
      exact g_reti X S rfl dX10_track_138
    · have hf := (if_neg c6).symm.trans hf
      refine lv_iconst (v := (0 : Int32)) hx hb dX10_track_37 (by decide) ?_
      cases hf
      exact g_reti X S rfl dX10_track_38
  replace hf := hr3
  refine lv_if_eq (tgt := 26) hx hb dX10_track_5 (by decide) (fun c24 => ?_) (fun c24 => ?_)
  · have hf := (if_pos c24).symm.trans hf
    refine lv_iconst (v := (1 : Int32)) hx hb dX10_track_26 (by decide) ?_
    cases hf
    exact J4 _ _ _ S (lv_sub hl [0, 1, 2] rfl)
  · have hf := (if_neg c24).symm.trans hf
    refine lv_iload_n hx hb dX10_track_8 rfl (lv_at hl 2 rfl) ?_
    refine lv_iconst (v := (0 : Int32)) hx hb dX10_track_9 (by decide) ?_
    refine lv_bipush (v := (8 : Int32)) hx hb dX10_track_10 (by decide) ?_
    obtain ⟨v25, hv25, hf⟩ := g_s1 hf
    refine g_ki S (g_runS (rest := [.ref (ad 0)]) X S (c_X10_in l hN  hv25 _) csX10_in mlX10_48 rfl rfl hl.1 (Nat.le_of_ble_eq_true rfl) ⟨⟨rfl, rfl⟩, ⟨Nat.le_of_ble_eq_true rfl, Nat.le_of_ble_eq_true rfl⟩, Nat.le_of_ble_eq_true rfl, Nat.le_of_ble_eq_true rfl⟩ dX10_track_12) (fun H locs S => ?_)
    refine lv_if_eq (tgt := 22) hx hb dX10_track_15 (by decide) (fun c26 => ?_) (fun c26 => ?_)
    · have hf := (if_pos c26).symm.trans hf
      refine lv_iconst (v := (2 : Int32)) hx hb dX10_track_22 (by decide) ?_
      refine lv_goto (tgt := 27) hx hb dX10_track_23 (by decide) ?_
      cases hf
      exact J4 _ _ _ S (lv_sub hl [0, 1, 2] rfl)
    · have hf := (if_neg c26).symm.trans hf
      refine lv_iconst (v := (0 : Int32)) hx hb dX10_track_18 (by decide) ?_
      refine lv_goto (tgt := 27) hx hb dX10_track_19 (by decide) ?_
      cases hf
      exact J4 _ _ _ S (lv_sub hl [0, 1, 2] rfl)

noncomputable def f_X10_fastest_l1 (a0 : Int32) (σ5 : gSt) : Nat → Int32 → Int32 → Option (Int32)
  | 0, _, _ => none
  | n + 1, i6, i7 => (if (σ5 0 10) = 0 then (g_k1 (gald σ5 1 926 ((28 : Int32) + a0)) fun v10 => (if v10 ≤ i6 then some i7 else (g_k1 (f_X10_load σ5 a0 i6) fun v12 => (g_k1 (f_X10_end σ5 a0 i7) fun v13 => (g_k1 (f_X10_first σ5 a0 i7) fun v14 => (g_k1 (f_X10_load σ5 a0 i7) fun v15 => (g_k1 (f_X10_end σ5 a0 i6) fun v16 => (g_k1 (f_X10_first σ5 a0 i6) fun v17 => (g_k1 (if (v12 * (v13 - v14)) ≤ (v15 * (v16 - v17)) then some i7 else some i6) fun x18 => (f_X10_fastest_l1 a0 σ5 n (i6 + 1) x18)))))))))) else some i7)
set_option maxRecDepth 100000 in
set_option maxHeartbeats 4000000 in
theorem w_X10_fastest_l1 {l : Launch} {Γ : gG} {ad : Nat → Nat} {N : Nat} {p : Program} {e : Env} {s : State} {m : MethodId} {args : Array Value} {below : List Frame} {meth : Method} {c : Code} {Q : State → Prop} (hN : 8 ≤ N) (X : gX celM Γ ad N RX10 cX10_fastest 4 (some .int) p s m args meth c) {a0 : Int32} {σ5 : gSt}  : ∀ (n : Nat) (i6 : Int32) (i7 : Int32) (r8 : Int32), f_X10_fastest_l1 a0 σ5 n i6 i7 = some r8 → (∀ (H : Heap) (locs : List Loc) (ls : Array Slot), gS celM Γ ad N σ5 s H locs → lv_has ls 4 [(2, .int r8)] → W p l e (gR 3 0 0) s m args below meth c H locs 0 0 (Q) (F0 m 111 ls [])) → ∀ (H : Heap) (locs : List Loc) (ls : Array Slot), gS celM Γ ad N σ5 s H locs → lv_has ls 4 [(3, .int i6), (2, .int i7), (0, .ref (ad 0)), (1, .int a0)] → W p l e (gR 3 0 0) s m args below meth c H locs 0 0 (Q) (F0 m 36 ls []) := by
  have hx := X.1
  have hb := X.2.1
  intro n
  induction n with
  | zero =>
    intro i6 i7 r8 hf
    cases hf
  | succ n ih =>
    intro i6 i7 r8 hf J H locs ls S hl
    rw [f_X10_fastest_l1] at hf
    refine lv_aload_n hx hb dX10_fastest_36 rfl (lv_at hl 2 rfl) ?_
    refine gfX10_35 X S hN dX10_fastest_37 ?_
    refine lv_if_ne (tgt := 111) hx hb dX10_fastest_40 (by decide) (fun c9 => ?_) (fun c9 => ?_)
    · have hf := (if_neg c9).symm.trans hf
      cases hf
      exact J _ _ _ S (lv_sub hl [1] rfl)
    · have hf := (if_pos c9).symm.trans hf
      refine lv_iload_n hx hb dX10_fastest_43 rfl (lv_at hl 0 rfl) ?_
      refine lv_aload_n hx hb dX10_fastest_44 rfl (lv_at hl 2 rfl) ?_
      refine gfX10_7 X S hN dX10_fastest_45 ?_
      refine lv_bipush (v := (28 : Int32)) hx hb dX10_fastest_48 (by decide) ?_
      refine lv_iload_n hx hb dX10_fastest_50 rfl (lv_at hl 3 rfl) ?_
      refine lv_iadd hx hb dX10_fastest_51 ?_
      obtain ⟨v10, hv10, hf⟩ := g_s1 hf
      refine g_iald X S (by omega) (ceM_a (rfl : gma 1 = true)) hv10 dX10_fastest_52 ?_
      refine lv_icmp_ge (tgt := 111) hx hb dX10_fastest_53 (by decide) (fun c11 => ?_) (fun c11 => ?_)
      · have hf := (if_pos c11).symm.trans hf
        cases hf
        exact J _ _ _ S (lv_sub hl [1] rfl)
      · have hf := (if_neg c11).symm.trans hf
        refine lv_aload_n hx hb dX10_fastest_56 rfl (lv_at hl 2 rfl) ?_
        refine lv_iload_n hx hb dX10_fastest_57 rfl (lv_at hl 3 rfl) ?_
        refine lv_iload_n hx hb dX10_fastest_58 rfl (lv_at hl 0 rfl) ?_
        obtain ⟨v12, hv12, hf⟩ := g_s1 hf
        refine g_ki S (g_runV (rest := []) X S (c_X10_load l hN  hv12 _) cvX10_load mlX10_107 (by omega) (ceM_10 _) rfl rfl rfl hl.1 (Nat.le_of_ble_eq_true rfl) ⟨⟨rfl, rfl⟩, ⟨Nat.le_of_ble_eq_true rfl, Nat.le_of_ble_eq_true rfl⟩, Nat.le_of_ble_eq_true rfl, Nat.le_of_ble_eq_true rfl⟩ dX10_fastest_59) (fun H locs S => ?_)
        refine lv_aload_n hx hb dX10_fastest_62 rfl (lv_at hl 2 rfl) ?_
        refine lv_iload_n hx hb dX10_fastest_63 rfl (lv_at hl 3 rfl) ?_
        refine lv_iload_n hx hb dX10_fastest_64 rfl (lv_at hl 1 rfl) ?_
        obtain ⟨v13, hv13, hf⟩ := g_s1 hf
        refine g_ki S (g_runV (rest := [.int v12]) X S (c_X10_end l hN  hv13 _) cvX10_end mlX10_71 (by omega) (ceM_10 _) rfl rfl rfl hl.1 (Nat.le_of_ble_eq_true rfl) ⟨⟨rfl, rfl⟩, ⟨Nat.le_of_ble_eq_true rfl, Nat.le_of_ble_eq_true rfl⟩, Nat.le_of_ble_eq_true rfl, Nat.le_of_ble_eq_true rfl⟩ dX10_fastest_65) (fun H locs S => ?_)
        refine lv_aload_n hx hb dX10_fastest_68 rfl (lv_at hl 2 rfl) ?_
        refine lv_iload_n hx hb dX10_fastest_69 rfl (lv_at hl 3 rfl) ?_
        refine lv_iload_n hx hb dX10_fastest_70 rfl (lv_at hl 1 rfl) ?_
        obtain ⟨v14, hv14, hf⟩ := g_s1 hf
        refine g_ki S (g_runV (rest := [.int v13, .int v12]) X S (c_X10_first l hN  hv14 _) cvX10_first mlX10_113 (by omega) (ceM_10 _) rfl rfl rfl hl.1 (Nat.le_of_ble_eq_true rfl) ⟨⟨rfl, rfl⟩, ⟨Nat.le_of_ble_eq_true rfl, Nat.le_of_ble_eq_true rfl⟩, Nat.le_of_ble_eq_true rfl, Nat.le_of_ble_eq_true rfl⟩ dX10_fastest_71) (fun H locs S => ?_)
        refine lv_isub hx hb dX10_fastest_74 ?_
        refine lv_imul hx hb dX10_fastest_75 ?_
        refine lv_aload_n hx hb dX10_fastest_76 rfl (lv_at hl 2 rfl) ?_
        refine lv_iload_n hx hb dX10_fastest_77 rfl (lv_at hl 3 rfl) ?_
        refine lv_iload_n hx hb dX10_fastest_78 rfl (lv_at hl 1 rfl) ?_
        obtain ⟨v15, hv15, hf⟩ := g_s1 hf
        refine g_ki S (g_runV (rest := [.int (v12 * (v13 - v14))]) X S (c_X10_load l hN  hv15 _) cvX10_load mlX10_107 (by omega) (ceM_10 _) rfl rfl rfl hl.1 (Nat.le_of_ble_eq_true rfl) ⟨⟨rfl, rfl⟩, ⟨Nat.le_of_ble_eq_true rfl, Nat.le_of_ble_eq_true rfl⟩, Nat.le_of_ble_eq_true rfl, Nat.le_of_ble_eq_true rfl⟩ dX10_fastest_79) (fun H locs S => ?_)
        refine lv_aload_n hx hb dX10_fastest_82 rfl (lv_at hl 2 rfl) ?_
        refine lv_iload_n hx hb dX10_fastest_83 rfl (lv_at hl 3 rfl) ?_
        refine lv_iload_n hx hb dX10_fastest_84 rfl (lv_at hl 0 rfl) ?_
        obtain ⟨v16, hv16, hf⟩ := g_s1 hf
        refine g_ki S (g_runV (rest := [.int v15, .int (v12 * (v13 - v14))]) X S (c_X10_end l hN  hv16 _) cvX10_end mlX10_71 (by omega) (ceM_10 _) rfl rfl rfl hl.1 (Nat.le_of_ble_eq_true rfl) ⟨⟨rfl, rfl⟩, ⟨Nat.le_of_ble_eq_true rfl, Nat.le_of_ble_eq_true rfl⟩, Nat.le_of_ble_eq_true rfl, Nat.le_of_ble_eq_true rfl⟩ dX10_fastest_85) (fun H locs S => ?_)
        refine lv_aload_n hx hb dX10_fastest_88 rfl (lv_at hl 2 rfl) ?_
        refine lv_iload_n hx hb dX10_fastest_89 rfl (lv_at hl 3 rfl) ?_
        refine lv_iload_n hx hb dX10_fastest_90 rfl (lv_at hl 0 rfl) ?_
        obtain ⟨v17, hv17, hf⟩ := g_s1 hf
        refine g_ki S (g_runV (rest := [.int v16, .int v15, .int (v12 * (v13 - v14))]) X S (c_X10_first l hN  hv17 _) cvX10_first mlX10_113 (by omega) (ceM_10 _) rfl rfl rfl hl.1 (Nat.le_of_ble_eq_true rfl) ⟨⟨rfl, rfl⟩, ⟨Nat.le_of_ble_eq_true rfl, Nat.le_of_ble_eq_true rfl⟩, Nat.le_of_ble_eq_true rfl, Nat.le_of_ble_eq_true rfl⟩ dX10_fastest_91) (fun H locs S => ?_)
        refine lv_isub hx hb dX10_fastest_94 ?_
        refine lv_imul hx hb dX10_fastest_95 ?_
        obtain ⟨x18, hr19, hf⟩ := g_s1 hf
        have J20 : ∀ (H : Heap) (locs : List Loc) (ls : Array Slot), gS celM Γ ad N σ5 s H locs → lv_has ls 4 [(3, .int i6), (0, .ref (ad 0)), (1, .int a0)] → W p l e (gR 3 0 0) s m args below meth c H locs 0 0 (Q) (F0 m 104 ls [.int x18]) := by
          intro H locs ls S hl
          refine lv_istore_n (lv' := [(2, .int x18), (3, .int i6), (0, .ref (ad 0)), (1, .int a0)]) hx hb dX10_fastest_104 rfl hl (by decide) rfl (fun ls hl => ?_)
          refine lv_iinc (v := (i6 + 1)) (lv' := [(3, .int (i6 + 1)), (2, .int x18), (0, .ref (ad 0)), (1, .int a0)]) hx hb dX10_fastest_105 hl (k := 1) rfl rfl (by decide) rfl (fun ls hl => ?_)
          refine lv_goto (tgt := 36) hx hb dX10_fastest_108 (by decide) ?_
          exact ih _ _ _  hf J _ _ _ S (lv_sub hl [0, 1, 2, 3] rfl)
        replace hf := hr19
        refine lv_icmp_le (tgt := 103) hx hb dX10_fastest_96 (by decide) (fun c21 => ?_) (fun c21 => ?_)
        · have hf := (if_pos c21).symm.trans hf
          refine lv_iload_n hx hb dX10_fastest_103 rfl (lv_at hl 1 rfl) ?_
          cases hf
          exact J20 _ _ _ S (lv_sub hl [0, 2, 3] rfl)
        · have hf := (if_neg c21).symm.trans hf
          refine lv_iload_n hx hb dX10_fastest_99 rfl (lv_at hl 0 rfl) ?_
          refine lv_goto (tgt := 104) hx hb dX10_fastest_100 (by decide) ?_
          cases hf
          exact J20 _ _ _ S (lv_sub hl [0, 2, 3] rfl)
noncomputable def f_X10_fastest (σ : gSt) (a0 : Int32) : Option (Int32 × gSt) :=
  (g_k1 (f_X10_isTrack σ a0) fun v1 => (g_k1 (if v1 = 0 then some (1 : Int32) else (g_k1 (gald σ 1 926 ((28 : Int32) + a0)) fun v24 => (if v24 = 0 then some (2 : Int32) else some (0 : Int32)))) fun x2 => (g_k1 (gset σ 0 10 x2) fun σ5 => (g_k1 (f_X10_fastest_l1 a0 σ5 FU (1 : Int32) (0 : Int32)) fun r8 => some (r8, σ5)))))
set_option maxRecDepth 100000 in
set_option maxHeartbeats 4000000 in
theorem c_X10_fastest (l : Launch) {Γ : gG} {ad : Nat → Nat} {N : Nat} (hN : 8 ≤ N) {σ : gSt} {a0 : Int32}  {r : Int32} {σ' : gSt} (hf : f_X10_fastest σ a0 = some (r, σ')) : gMi l celM Γ ad N yX10_fastest cX10_fastest 4 (some .int) (gR 3 0 0) [.ref (ad 0), .int a0] σ r σ' := by
  intro sz
  refine gOf (Qc := fun sz => gQci celM Γ ad N r σ' sz) RX10 (by decide) rfl (Nat.le_of_ble_eq_true rfl) (fun p e s m args below meth c H locs ls X S hl => ?_)
  have hl : lv_has ls 4 [(0, .ref (ad 0)), (1, .int a0)] := hl
  have hx := X.1
  have hb := X.2.1
  unfold f_X10_fastest at hf
  refine lv_aload_n hx hb dX10_fastest_0 rfl (lv_at hl 0 rfl) ?_
  refine lv_iload_n hx hb dX10_fastest_1 rfl (lv_at hl 1 rfl) ?_
  obtain ⟨v1, hv1, hf⟩ := g_s1 hf
  refine g_ki S (g_runS (rest := [.ref (ad 0)]) X S (c_X10_isTrack l hN  hv1 _) csX10_isTrack mlX10_52 rfl rfl hl.1 (Nat.le_of_ble_eq_true rfl) ⟨⟨rfl, rfl⟩, ⟨Nat.le_of_ble_eq_true rfl, Nat.le_of_ble_eq_true rfl⟩, Nat.le_of_ble_eq_true rfl, Nat.le_of_ble_eq_true rfl⟩ dX10_fastest_2) (fun H locs S => ?_)
  obtain ⟨x2, hr3, hf⟩ := g_s1 hf
  have J4 : ∀ (H : Heap) (locs : List Loc) (ls : Array Slot), gS celM Γ ad N σ s H locs → lv_has ls 4 [(0, .ref (ad 0)), (1, .int a0)] → W p l e (gR 3 0 0) s m args below meth c H locs 0 0 (gQi celM Γ ad N r σ' below args s) (F0 m 29 ls [.int x2, .ref (ad 0)]) := by
    intro H locs ls S hl
    obtain ⟨σ5, hσ5, hf⟩ := g_s1 hf
    refine pfX10_35 X S hN hσ5 dX10_fastest_29 (fun H locs S => ?_)
    refine lv_iconst (v := (0 : Int32)) hx hb dX10_fastest_32 (by decide) ?_
    refine lv_istore_n (lv' := [(2, .int (0 : Int32)), (0, .ref (ad 0)), (1, .int a0)]) hx hb dX10_fastest_33 rfl hl (by decide) rfl (fun ls hl => ?_)
    refine lv_iconst (v := (1 : Int32)) hx hb dX10_fastest_34 (by decide) ?_
    refine lv_istore_n (lv' := [(3, .int (1 : Int32)), (2, .int (0 : Int32)), (0, .ref (ad 0)), (1, .int a0)]) hx hb dX10_fastest_35 rfl hl (by decide) rfl (fun ls hl => ?_)
    obtain ⟨r8, hr22, hf⟩ := g_s1 hf
    refine w_X10_fastest_l1 hN X  FU _ _ _  hr22 (fun H locs ls S hl => ?_) _ _ _ S (lv_sub hl [0, 1, 2, 3] rfl)
    refine lv_iload_n hx hb dX10_fastest_111 rfl (lv_at hl 0 rfl) ?_
    cases hf
    exact g_reti X S rfl dX10_fastest_112
  replace hf := hr3
  refine lv_if_eq (tgt := 28) hx hb dX10_fastest_5 (by decide) (fun c23 => ?_) (fun c23 => ?_)
  · have hf := (if_pos c23).symm.trans hf
    refine lv_iconst (v := (1 : Int32)) hx hb dX10_fastest_28 (by decide) ?_
    cases hf
    exact J4 _ _ _ S (lv_sub hl [0, 1] rfl)
  · have hf := (if_neg c23).symm.trans hf
    refine lv_aload_n hx hb dX10_fastest_8 rfl (lv_at hl 0 rfl) ?_
    refine gfX10_7 X S hN dX10_fastest_9 ?_
    refine lv_bipush (v := (28 : Int32)) hx hb dX10_fastest_12 (by decide) ?_
    refine lv_iload_n hx hb dX10_fastest_14 rfl (lv_at hl 1 rfl) ?_
    refine lv_iadd hx hb dX10_fastest_15 ?_
    obtain ⟨v24, hv24, hf⟩ := g_s1 hf
    refine g_iald X S (by omega) (ceM_a (rfl : gma 1 = true)) hv24 dX10_fastest_16 ?_
    refine lv_if_ne (tgt := 24) hx hb dX10_fastest_17 (by decide) (fun c25 => ?_) (fun c25 => ?_)
    · have hf := (if_neg c25).symm.trans hf
      refine lv_iconst (v := (0 : Int32)) hx hb dX10_fastest_24 (by decide) ?_
      refine lv_goto (tgt := 29) hx hb dX10_fastest_25 (by decide) ?_
      cases hf
      exact J4 _ _ _ S (lv_sub hl [0, 1] rfl)
    · have hf := (if_pos c25).symm.trans hf
      refine lv_iconst (v := (2 : Int32)) hx hb dX10_fastest_20 (by decide) ?_
      refine lv_goto (tgt := 29) hx hb dX10_fastest_21 (by decide) ?_
      cases hf
      exact J4 _ _ _ S (lv_sub hl [0, 1] rfl)

