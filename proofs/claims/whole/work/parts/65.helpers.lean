theorem cwL_film : Cond.codeWith yL_film cL_film 4 (some .int) [(0, 9, 12, 13), (0, 9, 15, 15)] ∈ lwg := gq 344 (by decide +kernel) rfl
set_option maxRecDepth 100000 in
set_option maxHeartbeats 4000000 in
theorem c_L_film (l : Launch) (hl0 : l.stackTraces = false) {Γ : gG} {ad : Nat → Nat} {σ σ' : gSt} {a0 : Int32} {x i : Nat} {r : Int32} (hf : f_X9_film σ a0 = some (x, r, σ')) (hi : i < 3) (hL : [0, 1, 2].getD i 99 = x) (sz : Nat) : Met l yL_film (gwmH yL_film cL_film 4 (some .int) [(0, 9, 12, 13), (0, 9, 15, 15)]) (gR 10 1 6) (fun a U => hPc Γ ad σ [.ref (ad 0), .int a0, .ref (ad 201)] sz a U ∧ True) (gQci celC Γ ad 202 (nI i) (if x = 0 then up2 σ' 201 0 r else σ') sz) 1 6 (gA ad 202 sz) := by
  refine gOfH (Qc := fun sz => gQci celC Γ ad 202 (nI i) (if x = 0 then up2 σ' 201 0 r else σ') sz) (fr := fun sz => gA ad 202 sz) (E := fun _ _ => True) RL (by decide) rfl (Nat.le_of_ble_eq_true rfl) (fun p e s m args below meth c H locs ls X hN hTab S _ _ _ hl => ?_)
  have hl : lv_has ls 4 [(0, .ref (ad 0)), (1, .int a0), (2, .ref (ad 201))] := hl
  have hx := X.1
  have hb := X.2.1
  refine lv_aload_n hx hb dL_film_0 rfl (lv_at hl 2 rfl) ?_
  refine lv_iconst (v := 0) hx hb dL_film_1 (by decide) ?_
  refine lv_aload_n hx hb dL_film_2 rfl (lv_at hl 0 rfl) ?_
  refine lv_iload_n hx hb dL_film_3 rfl (lv_at hl 1 rfl) ?_
  refine vx_calli (g_xrunV (rest := [.int 0, .ref (ad 201)]) X S (c_X9_film l hl0 (Nat.le_refl 202) hf _) cvX9_film mlL_7 (by decide) (ceC_9 kd_s0 _) rfl rfl rfl hl.1 (Nat.le_of_ble_eq_true rfl) ⟨⟨rfl, rfl⟩, ⟨Nat.le_of_ble_eq_true rfl, Nat.le_of_ble_eq_true rfl⟩, Nat.le_of_ble_eq_true rfl, Nat.le_of_ble_eq_true rfl⟩ dL_film_4) S.2 (fun q _ hq => gA_le S.2.1 q hq) (gA_le S.2.1) (fun q _ hq => gA_le S.2.1 q hq) ?_ ?_
  · intro E ce q9 u t H1 locs1 ht hvm hpx hB hz hk hS hce hcv hcl
    obtain ⟨rfl, hB⟩ := hB
    subst ht
    rw [if_neg hpx]
    rcases (show i = 0 ∨ i = 1 ∨ i = 2 by omega) with rfl | rfl | rfl
    · exact absurd hL.symm hpx
    · have hx1 : 1 = x := hL
      subst hx1
      refine h_catch (name := "java/lang/IllegalArgumentException") (E := "java/lang/IllegalArgumentException") X hN [] ⟨0, 9, 12, 13⟩ [⟨0, 9, 15, 15⟩] (hTab.trans rfl) (fun z hz => nomatch hz) (by decide) (by decide) clL_13 cst_1 hce hcv hcl ?_
      refine lv_astore_n (lv' := [(3, .ref q9), (0, .ref (ad 0)), (1, .int a0), (2, .ref (ad 201))]) hx hb dL_film_12 rfl hl (by decide) rfl (fun ls hl => ?_)
      refine lv_iconst (v := 1) hx hb dL_film_13 (by decide) ?_
      exact h_reti X (σ := σ') ⟨hB, hS⟩ rfl dL_film_14 (by decide) (by decide)
    · have hx1 : 2 = x := hL
      subst hx1
      refine h_catch (name := "java/lang/UnsupportedOperationException") (E := "java/lang/UnsupportedOperationException") X hN [⟨0, 9, 12, 13⟩] ⟨0, 9, 15, 15⟩ [] (hTab.trans rfl) (fun z hz => by
        rcases (show z = ⟨0, 9, 12, 13⟩ by simpa using hz) with rfl
        · exact Or.inr ⟨by decide, _, clL_13, by decide⟩) (by decide) (by decide) clL_15 cst_2 hce hcv hcl ?_
      refine lv_astore_n (lv' := [(3, .ref q9), (0, .ref (ad 0)), (1, .int a0), (2, .ref (ad 201))]) hx hb dL_film_15 rfl hl (by decide) rfl (fun ls hl => ?_)
      refine lv_iconst (v := 2) hx hb dL_film_16 (by decide) ?_
      exact h_reti X (σ := σ') ⟨hB, hS⟩ rfl dL_film_17 (by decide) (by decide)
  · intro rr u t H1 locs1 ht hvm hw hB hz hk hS
    obtain ⟨h0, rfl⟩ := hw
    subst ht
    have S1 : gS celC Γ ad 202 σ' s t.heap locs1 := ⟨hB, hS⟩
    have hi0 : i = 0 := by
      rcases (show i = 0 ∨ i = 1 ∨ i = 2 by omega) with rfl | rfl | rfl
      · rfl
      · exact absurd (hL.trans h0) (by decide)
      · exact absurd (hL.trans h0) (by decide)
    subst hi0
    rw [if_pos h0]
    refine lv_i2l hx hb dL_film_7 rfl ?_
    refine h_last X S1 dL_film_8 (fun H locs S => ?_)
    refine lv_goto (tgt := 18) hx hb dL_film_9 (by decide) ?_
    refine lv_iconst (v := 0) hx hb dL_film_18 (by decide) ?_
    exact h_reti X S rfl dL_film_19 (by decide) (by decide)
theorem cwL_set : Cond.codeWith yL_set cL_set 5 (some .int) [(0, 10, 13, 13)] ∈ lwg := gq 489 (by decide +kernel) rfl
set_option maxRecDepth 100000 in
set_option maxHeartbeats 4000000 in
theorem c_L_set (l : Launch) (hl0 : l.stackTraces = false) {Γ : gG} {ad : Nat → Nat} {σ σ' : gSt} {a0 a1 : Int32} {x i : Nat} {r : Int32} (hf : f_X9_set σ a0 a1 = some (x, r, σ')) (hi : i < 2) (hL : [0, 1].getD i 99 = x) (sz : Nat) : Met l yL_set (gwmH yL_set cL_set 5 (some .int) [(0, 10, 13, 13)]) (gR 9 1 6) (fun a U => hPc Γ ad σ [.ref (ad 0), .int a0, .int a1, .ref (ad 201)] sz a U ∧ True) (gQci celC Γ ad 202 (nI i) (if x = 0 then up2 σ' 201 0 r else σ') sz) 1 6 (gA ad 202 sz) := by
  refine gOfH (Qc := fun sz => gQci celC Γ ad 202 (nI i) (if x = 0 then up2 σ' 201 0 r else σ') sz) (fr := fun sz => gA ad 202 sz) (E := fun _ _ => True) RL (by decide) rfl (Nat.le_of_ble_eq_true rfl) (fun p e s m args below meth c H locs ls X hN hTab S _ _ _ hl => ?_)
  have hl : lv_has ls 5 [(0, .ref (ad 0)), (1, .int a0), (2, .int a1), (3, .ref (ad 201))] := hl
  have hx := X.1
  have hb := X.2.1
  refine lv_aload_n hx hb dL_set_0 rfl (lv_at hl 3 rfl) ?_
  refine lv_iconst (v := 0) hx hb dL_set_1 (by decide) ?_
  refine lv_aload_n hx hb dL_set_2 rfl (lv_at hl 0 rfl) ?_
  refine lv_iload_n hx hb dL_set_3 rfl (lv_at hl 1 rfl) ?_
  refine lv_iload_n hx hb dL_set_4 rfl (lv_at hl 2 rfl) ?_
  refine vx_calli (g_xrunV (rest := [.int 0, .ref (ad 201)]) X S (c_X9_set l hl0 (Nat.le_refl 202) hf _) cvX9_set mlL_17 (by decide) (ceC_9 kd_s0 _) rfl rfl rfl hl.1 (Nat.le_of_ble_eq_true rfl) ⟨⟨rfl, rfl⟩, ⟨Nat.le_of_ble_eq_true rfl, Nat.le_of_ble_eq_true rfl⟩, Nat.le_of_ble_eq_true rfl, Nat.le_of_ble_eq_true rfl⟩ dL_set_5) S.2 (fun q _ hq => gA_le S.2.1 q hq) (gA_le S.2.1) (fun q _ hq => gA_le S.2.1 q hq) ?_ ?_
  · intro E ce q9 u t H1 locs1 ht hvm hpx hB hz hk hS hce hcv hcl
    obtain ⟨rfl, hB⟩ := hB
    subst ht
    rw [if_neg hpx]
    rcases (show i = 0 ∨ i = 1 by omega) with rfl | rfl
    · exact absurd hL.symm hpx
    · have hx1 : 1 = x := hL
      subst hx1
      refine h_catch (name := "java/lang/IllegalArgumentException") (E := "java/lang/IllegalArgumentException") X hN [] ⟨0, 10, 13, 13⟩ [] (hTab.trans rfl) (fun z hz => nomatch hz) (by decide) (by decide) clL_13 cst_1 hce hcv hcl ?_
      refine lv_astore (lv' := [(4, .ref q9), (0, .ref (ad 0)), (1, .int a0), (2, .int a1), (3, .ref (ad 201))]) hx hb dL_set_13 hl (by decide) rfl (fun ls hl => ?_)
      refine lv_iconst (v := 1) hx hb dL_set_15 (by decide) ?_
      exact h_reti X (σ := σ') ⟨hB, hS⟩ rfl dL_set_16 (by decide) (by decide)
  · intro rr u t H1 locs1 ht hvm hw hB hz hk hS
    obtain ⟨h0, rfl⟩ := hw
    subst ht
    have S1 : gS celC Γ ad 202 σ' s t.heap locs1 := ⟨hB, hS⟩
    have hi0 : i = 0 := by
      rcases (show i = 0 ∨ i = 1 by omega) with rfl | rfl
      · rfl
      · exact absurd (hL.trans h0) (by decide)
    subst hi0
    rw [if_pos h0]
    refine lv_i2l hx hb dL_set_8 rfl ?_
    refine h_last X S1 dL_set_9 (fun H locs S => ?_)
    refine lv_goto (tgt := 17) hx hb dL_set_10 (by decide) ?_
    refine lv_iconst (v := 0) hx hb dL_set_17 (by decide) ?_
    exact h_reti X S rfl dL_set_18 (by decide) (by decide)
theorem cwL_cut : Cond.codeWith yL_cut cL_cut 5 (some .int) [(0, 10, 13, 25), (0, 10, 17, 27)] ∈ lwg := gq 516 (by decide +kernel) rfl
set_option maxRecDepth 100000 in
set_option maxHeartbeats 4000000 in
theorem c_L_cut (l : Launch) (hl0 : l.stackTraces = false) {Γ : gG} {ad : Nat → Nat} {σ σ' : gSt} {a0 a1 : Int32} {x i : Nat} {r : Int32} (hf : f_X9_cut σ a0 a1 = some (x, r, σ')) (hi : i < 3) (hL : [0, 3, 4].getD i 99 = x) (sz : Nat) : Met l yL_cut (gwmH yL_cut cL_cut 5 (some .int) [(0, 10, 13, 25), (0, 10, 17, 27)]) (gR 9 1 6) (fun a U => hPc Γ ad σ [.ref (ad 0), .int a0, .int a1, .ref (ad 201)] sz a U ∧ True) (gQci celC Γ ad 202 (nI i) (if x = 0 then up2 σ' 201 0 r else σ') sz) 1 6 (gA ad 202 sz) := by
  refine gOfH (Qc := fun sz => gQci celC Γ ad 202 (nI i) (if x = 0 then up2 σ' 201 0 r else σ') sz) (fr := fun sz => gA ad 202 sz) (E := fun _ _ => True) RL (by decide) rfl (Nat.le_of_ble_eq_true rfl) (fun p e s m args below meth c H locs ls X hN hTab S _ _ _ hl => ?_)
  have hl : lv_has ls 5 [(0, .ref (ad 0)), (1, .int a0), (2, .int a1), (3, .ref (ad 201))] := hl
  have hx := X.1
  have hb := X.2.1
  refine lv_aload_n hx hb dL_cut_0 rfl (lv_at hl 3 rfl) ?_
  refine lv_iconst (v := 0) hx hb dL_cut_1 (by decide) ?_
  refine lv_aload_n hx hb dL_cut_2 rfl (lv_at hl 0 rfl) ?_
  refine lv_iload_n hx hb dL_cut_3 rfl (lv_at hl 1 rfl) ?_
  refine lv_iload_n hx hb dL_cut_4 rfl (lv_at hl 2 rfl) ?_
  refine vx_calli (g_xrunV (rest := [.int 0, .ref (ad 201)]) X S (c_X9_cut l hl0 (Nat.le_refl 202) hf _) cvX9_cut mlL_21 (by decide) (ceC_9 kd_s0 _) rfl rfl rfl hl.1 (Nat.le_of_ble_eq_true rfl) ⟨⟨rfl, rfl⟩, ⟨Nat.le_of_ble_eq_true rfl, Nat.le_of_ble_eq_true rfl⟩, Nat.le_of_ble_eq_true rfl, Nat.le_of_ble_eq_true rfl⟩ dL_cut_5) S.2 (fun q _ hq => gA_le S.2.1 q hq) (gA_le S.2.1) (fun q _ hq => gA_le S.2.1 q hq) ?_ ?_
  · intro E ce q9 u t H1 locs1 ht hvm hpx hB hz hk hS hce hcv hcl
    obtain ⟨rfl, hB⟩ := hB
    subst ht
    rw [if_neg hpx]
    rcases (show i = 0 ∨ i = 1 ∨ i = 2 by omega) with rfl | rfl | rfl
    · exact absurd hL.symm hpx
    · have hx1 : 3 = x := hL
      subst hx1
      refine h_catch (name := "java/lang/IndexOutOfBoundsException") (E := "java/lang/IndexOutOfBoundsException") X hN [] ⟨0, 10, 13, 25⟩ [⟨0, 10, 17, 27⟩] (hTab.trans rfl) (fun z hz => nomatch hz) (by decide) (by decide) clL_25 cst_3 hce hcv hcl ?_
      refine lv_astore (lv' := [(4, .ref q9), (0, .ref (ad 0)), (1, .int a0), (2, .int a1), (3, .ref (ad 201))]) hx hb dL_cut_13 hl (by decide) rfl (fun ls hl => ?_)
      refine lv_iconst (v := 1) hx hb dL_cut_15 (by decide) ?_
      exact h_reti X (σ := σ') ⟨hB, hS⟩ rfl dL_cut_16 (by decide) (by decide)
    · have hx1 : 4 = x := hL
      subst hx1
      refine h_catch (name := "java/lang/IllegalStateException") (E := "java/lang/IllegalStateException") X hN [⟨0, 10, 13, 25⟩] ⟨0, 10, 17, 27⟩ [] (hTab.trans rfl) (fun z hz => by
        rcases (show z = ⟨0, 10, 13, 25⟩ by simpa using hz) with rfl
        · exact Or.inr ⟨by decide, _, clL_25, by decide⟩) (by decide) (by decide) clL_27 cst_4 hce hcv hcl ?_
      refine lv_astore (lv' := [(4, .ref q9), (0, .ref (ad 0)), (1, .int a0), (2, .int a1), (3, .ref (ad 201))]) hx hb dL_cut_17 hl (by decide) rfl (fun ls hl => ?_)
      refine lv_iconst (v := 2) hx hb dL_cut_19 (by decide) ?_
      exact h_reti X (σ := σ') ⟨hB, hS⟩ rfl dL_cut_20 (by decide) (by decide)
  · intro rr u t H1 locs1 ht hvm hw hB hz hk hS
    obtain ⟨h0, rfl⟩ := hw
    subst ht
    have S1 : gS celC Γ ad 202 σ' s t.heap locs1 := ⟨hB, hS⟩
    have hi0 : i = 0 := by
      rcases (show i = 0 ∨ i = 1 ∨ i = 2 by omega) with rfl | rfl | rfl
      · rfl
      · exact absurd (hL.trans h0) (by decide)
      · exact absurd (hL.trans h0) (by decide)
    subst hi0
    rw [if_pos h0]
    refine lv_i2l hx hb dL_cut_8 rfl ?_
    refine h_last X S1 dL_cut_9 (fun H locs S => ?_)
    refine lv_goto (tgt := 21) hx hb dL_cut_10 (by decide) ?_
    refine lv_iconst (v := 0) hx hb dL_cut_21 (by decide) ?_
    exact h_reti X S rfl dL_cut_22 (by decide) (by decide)
theorem cwL_number : Cond.codeWith yL_number cL_number 4 (some .int) [(0, 9, 12, 13)] ∈ lwg := gq 601 (by decide +kernel) rfl
set_option maxRecDepth 100000 in
set_option maxHeartbeats 4000000 in
theorem c_L_number (l : Launch) (hl0 : l.stackTraces = false) {Γ : gG} {ad : Nat → Nat} {σ σ' : gSt} {a0 : Int32} {x i : Nat} {r : Int32} (hf : f_X9_number σ a0 = some (x, r, σ')) (hi : i < 2) (hL : [0, 1].getD i 99 = x) (sz : Nat) : Met l yL_number (gwmH yL_number cL_number 4 (some .int) [(0, 9, 12, 13)]) (gR 9 1 6) (fun a U => hPc Γ ad σ [.ref (ad 0), .int a0, .ref (ad 201)] sz a U ∧ True) (gQci celC Γ ad 202 (nI i) (if x = 0 then up2 σ' 201 0 r else σ') sz) 1 6 (gA ad 202 sz) := by
  refine gOfH (Qc := fun sz => gQci celC Γ ad 202 (nI i) (if x = 0 then up2 σ' 201 0 r else σ') sz) (fr := fun sz => gA ad 202 sz) (E := fun _ _ => True) RL (by decide) rfl (Nat.le_of_ble_eq_true rfl) (fun p e s m args below meth c H locs ls X hN hTab S _ _ _ hl => ?_)
  have hl : lv_has ls 4 [(0, .ref (ad 0)), (1, .int a0), (2, .ref (ad 201))] := hl
  have hx := X.1
  have hb := X.2.1
  refine lv_aload_n hx hb dL_number_0 rfl (lv_at hl 2 rfl) ?_
  refine lv_iconst (v := 0) hx hb dL_number_1 (by decide) ?_
  refine lv_aload_n hx hb dL_number_2 rfl (lv_at hl 0 rfl) ?_
  refine lv_iload_n hx hb dL_number_3 rfl (lv_at hl 1 rfl) ?_
  refine vx_calli (g_xrunV (rest := [.int 0, .ref (ad 201)]) X S (c_X9_number l hl0 (Nat.le_refl 202) hf _) cvX9_number mlL_29 (by decide) (ceC_9 kd_s0 _) rfl rfl rfl hl.1 (Nat.le_of_ble_eq_true rfl) ⟨⟨rfl, rfl⟩, ⟨Nat.le_of_ble_eq_true rfl, Nat.le_of_ble_eq_true rfl⟩, Nat.le_of_ble_eq_true rfl, Nat.le_of_ble_eq_true rfl⟩ dL_number_4) S.2 (fun q _ hq => gA_le S.2.1 q hq) (gA_le S.2.1) (fun q _ hq => gA_le S.2.1 q hq) ?_ ?_
  · intro E ce q9 u t H1 locs1 ht hvm hpx hB hz hk hS hce hcv hcl
    obtain ⟨rfl, hB⟩ := hB
    subst ht
    rw [if_neg hpx]
    rcases (show i = 0 ∨ i = 1 by omega) with rfl | rfl
    · exact absurd hL.symm hpx
    · have hx1 : 1 = x := hL
      subst hx1
      refine h_catch (name := "java/lang/IllegalArgumentException") (E := "java/lang/IllegalArgumentException") X hN [] ⟨0, 9, 12, 13⟩ [] (hTab.trans rfl) (fun z hz => nomatch hz) (by decide) (by decide) clL_13 cst_1 hce hcv hcl ?_
      refine lv_astore_n (lv' := [(3, .ref q9), (0, .ref (ad 0)), (1, .int a0), (2, .ref (ad 201))]) hx hb dL_number_12 rfl hl (by decide) rfl (fun ls hl => ?_)
      refine lv_iconst (v := 1) hx hb dL_number_13 (by decide) ?_
      exact h_reti X (σ := σ') ⟨hB, hS⟩ rfl dL_number_14 (by decide) (by decide)
  · intro rr u t H1 locs1 ht hvm hw hB hz hk hS
    obtain ⟨h0, rfl⟩ := hw
    subst ht
    have S1 : gS celC Γ ad 202 σ' s t.heap locs1 := ⟨hB, hS⟩
    have hi0 : i = 0 := by
      rcases (show i = 0 ∨ i = 1 by omega) with rfl | rfl
      · rfl
      · exact absurd (hL.trans h0) (by decide)
    subst hi0
    rw [if_pos h0]
    refine lv_i2l hx hb dL_number_7 rfl ?_
    refine h_last X S1 dL_number_8 (fun H locs S => ?_)
    refine lv_goto (tgt := 15) hx hb dL_number_9 (by decide) ?_
    refine lv_iconst (v := 0) hx hb dL_number_15 (by decide) ?_
    exact h_reti X S rfl dL_number_16 (by decide) (by decide)
theorem cwL_shot : Cond.codeWith yL_shot cL_shot 4 (some .int) [(0, 9, 12, 25)] ∈ lwg := gq 712 (by decide +kernel) rfl
set_option maxRecDepth 100000 in
set_option maxHeartbeats 4000000 in
theorem c_L_shot (l : Launch) (hl0 : l.stackTraces = false) {Γ : gG} {ad : Nat → Nat} {σ σ' : gSt} {a0 : Int32} {x i : Nat} {r : Int32} (hf : f_X9_shot σ a0 = some (x, r, σ')) (hi : i < 2) (hL : [0, 3].getD i 99 = x) (sz : Nat) : Met l yL_shot (gwmH yL_shot cL_shot 4 (some .int) [(0, 9, 12, 25)]) (gR 9 1 6) (fun a U => hPc Γ ad σ [.ref (ad 0), .int a0, .ref (ad 201)] sz a U ∧ True) (gQci celC Γ ad 202 (nI i) (if x = 0 then up2 σ' 201 0 r else σ') sz) 1 6 (gA ad 202 sz) := by
  refine gOfH (Qc := fun sz => gQci celC Γ ad 202 (nI i) (if x = 0 then up2 σ' 201 0 r else σ') sz) (fr := fun sz => gA ad 202 sz) (E := fun _ _ => True) RL (by decide) rfl (Nat.le_of_ble_eq_true rfl) (fun p e s m args below meth c H locs ls X hN hTab S _ _ _ hl => ?_)
  have hl : lv_has ls 4 [(0, .ref (ad 0)), (1, .int a0), (2, .ref (ad 201))] := hl
  have hx := X.1
  have hb := X.2.1
  refine lv_aload_n hx hb dL_shot_0 rfl (lv_at hl 2 rfl) ?_
  refine lv_iconst (v := 0) hx hb dL_shot_1 (by decide) ?_
  refine lv_aload_n hx hb dL_shot_2 rfl (lv_at hl 0 rfl) ?_
  refine lv_iload_n hx hb dL_shot_3 rfl (lv_at hl 1 rfl) ?_
  refine vx_calli (g_xrunV (rest := [.int 0, .ref (ad 201)]) X S (c_X9_shot l hl0 (Nat.le_refl 202) hf _) cvX9_shot mlL_32 (by decide) (ceC_9 kd_s0 _) rfl rfl rfl hl.1 (Nat.le_of_ble_eq_true rfl) ⟨⟨rfl, rfl⟩, ⟨Nat.le_of_ble_eq_true rfl, Nat.le_of_ble_eq_true rfl⟩, Nat.le_of_ble_eq_true rfl, Nat.le_of_ble_eq_true rfl⟩ dL_shot_4) S.2 (fun q _ hq => gA_le S.2.1 q hq) (gA_le S.2.1) (fun q _ hq => gA_le S.2.1 q hq) ?_ ?_
  · intro E ce q9 u t H1 locs1 ht hvm hpx hB hz hk hS hce hcv hcl
    obtain ⟨rfl, hB⟩ := hB
    subst ht
    rw [if_neg hpx]
    rcases (show i = 0 ∨ i = 1 by omega) with rfl | rfl
    · exact absurd hL.symm hpx
    · have hx1 : 3 = x := hL
      subst hx1
      refine h_catch (name := "java/lang/IndexOutOfBoundsException") (E := "java/lang/IndexOutOfBoundsException") X hN [] ⟨0, 9, 12, 25⟩ [] (hTab.trans rfl) (fun z hz => nomatch hz) (by decide) (by decide) clL_25 cst_3 hce hcv hcl ?_
      refine lv_astore_n (lv' := [(3, .ref q9), (0, .ref (ad 0)), (1, .int a0), (2, .ref (ad 201))]) hx hb dL_shot_12 rfl hl (by decide) rfl (fun ls hl => ?_)
      refine lv_iconst (v := 1) hx hb dL_shot_13 (by decide) ?_
      exact h_reti X (σ := σ') ⟨hB, hS⟩ rfl dL_shot_14 (by decide) (by decide)
  · intro rr u t H1 locs1 ht hvm hw hB hz hk hS
    obtain ⟨h0, rfl⟩ := hw
    subst ht
    have S1 : gS celC Γ ad 202 σ' s t.heap locs1 := ⟨hB, hS⟩
    have hi0 : i = 0 := by
      rcases (show i = 0 ∨ i = 1 by omega) with rfl | rfl
      · rfl
      · exact absurd (hL.trans h0) (by decide)
    subst hi0
    rw [if_pos h0]
    refine lv_i2l hx hb dL_shot_7 rfl ?_
    refine h_last X S1 dL_shot_8 (fun H locs S => ?_)
    refine lv_goto (tgt := 15) hx hb dL_shot_9 (by decide) ?_
    refine lv_iconst (v := 0) hx hb dL_shot_15 (by decide) ?_
    exact h_reti X S rfl dL_shot_16 (by decide) (by decide)
theorem cwL_feed : Cond.codeWith yL_feed cL_feed 4 (some .int) [(0, 9, 12, 27)] ∈ lwg := gq 725 (by decide +kernel) rfl
set_option maxRecDepth 100000 in
set_option maxHeartbeats 4000000 in
theorem c_L_feed (l : Launch) (hl0 : l.stackTraces = false) {Γ : gG} {ad : Nat → Nat} {σ σ' : gSt} {a0 : Int32} {x i : Nat} {r : Int32} (hf : f_X9_feed σ a0 = some (x, r, σ')) (hi : i < 2) (hL : [0, 4].getD i 99 = x) (sz : Nat) : Met l yL_feed (gwmH yL_feed cL_feed 4 (some .int) [(0, 9, 12, 27)]) (gR 9 1 6) (fun a U => hPc Γ ad σ [.ref (ad 0), .int a0, .ref (ad 201)] sz a U ∧ True) (gQci celC Γ ad 202 (nI i) (if x = 0 then up2 σ' 201 0 r else σ') sz) 1 6 (gA ad 202 sz) := by
  refine gOfH (Qc := fun sz => gQci celC Γ ad 202 (nI i) (if x = 0 then up2 σ' 201 0 r else σ') sz) (fr := fun sz => gA ad 202 sz) (E := fun _ _ => True) RL (by decide) rfl (Nat.le_of_ble_eq_true rfl) (fun p e s m args below meth c H locs ls X hN hTab S _ _ _ hl => ?_)
  have hl : lv_has ls 4 [(0, .ref (ad 0)), (1, .int a0), (2, .ref (ad 201))] := hl
  have hx := X.1
  have hb := X.2.1
  refine lv_aload_n hx hb dL_feed_0 rfl (lv_at hl 2 rfl) ?_
  refine lv_iconst (v := 0) hx hb dL_feed_1 (by decide) ?_
  refine lv_aload_n hx hb dL_feed_2 rfl (lv_at hl 0 rfl) ?_
  refine lv_iload_n hx hb dL_feed_3 rfl (lv_at hl 1 rfl) ?_
  refine vx_calli (g_xrunV (rest := [.int 0, .ref (ad 201)]) X S (c_X9_feed l hl0 (Nat.le_refl 202) hf _) cvX9_feed mlL_35 (by decide) (ceC_9 kd_s0 _) rfl rfl rfl hl.1 (Nat.le_of_ble_eq_true rfl) ⟨⟨rfl, rfl⟩, ⟨Nat.le_of_ble_eq_true rfl, Nat.le_of_ble_eq_true rfl⟩, Nat.le_of_ble_eq_true rfl, Nat.le_of_ble_eq_true rfl⟩ dL_feed_4) S.2 (fun q _ hq => gA_le S.2.1 q hq) (gA_le S.2.1) (fun q _ hq => gA_le S.2.1 q hq) ?_ ?_
  · intro E ce q9 u t H1 locs1 ht hvm hpx hB hz hk hS hce hcv hcl
    obtain ⟨rfl, hB⟩ := hB
    subst ht
    rw [if_neg hpx]
    rcases (show i = 0 ∨ i = 1 by omega) with rfl | rfl
    · exact absurd hL.symm hpx
    · have hx1 : 4 = x := hL
      subst hx1
      refine h_catch (name := "java/lang/IllegalStateException") (E := "java/lang/IllegalStateException") X hN [] ⟨0, 9, 12, 27⟩ [] (hTab.trans rfl) (fun z hz => nomatch hz) (by decide) (by decide) clL_27 cst_4 hce hcv hcl ?_
      refine lv_astore_n (lv' := [(3, .ref q9), (0, .ref (ad 0)), (1, .int a0), (2, .ref (ad 201))]) hx hb dL_feed_12 rfl hl (by decide) rfl (fun ls hl => ?_)
      refine lv_iconst (v := 1) hx hb dL_feed_13 (by decide) ?_
      exact h_reti X (σ := σ') ⟨hB, hS⟩ rfl dL_feed_14 (by decide) (by decide)
  · intro rr u t H1 locs1 ht hvm hw hB hz hk hS
    obtain ⟨h0, rfl⟩ := hw
    subst ht
    have S1 : gS celC Γ ad 202 σ' s t.heap locs1 := ⟨hB, hS⟩
    have hi0 : i = 0 := by
      rcases (show i = 0 ∨ i = 1 by omega) with rfl | rfl
      · rfl
      · exact absurd (hL.trans h0) (by decide)
    subst hi0
    rw [if_pos h0]
    refine lv_i2l hx hb dL_feed_7 rfl ?_
    refine h_last X S1 dL_feed_8 (fun H locs S => ?_)
    refine lv_goto (tgt := 15) hx hb dL_feed_9 (by decide) ?_
    refine lv_iconst (v := 0) hx hb dL_feed_15 (by decide) ?_
    exact h_reti X S rfl dL_feed_16 (by decide) (by decide)
theorem cwL_add : Cond.codeWith yL_add cL_add 7 (some .int) [(0, 14, 17, 25), (0, 14, 21, 13), (0, 14, 25, 15)] ∈ lwg := gq 737 (by decide +kernel) rfl
set_option maxRecDepth 100000 in
set_option maxHeartbeats 4000000 in
theorem c_L_add (l : Launch) (hl0 : l.stackTraces = false) {Γ : gG} {ad : Nat → Nat} {σ σ' : gSt} {a0 a1 a2 a3 : Int32} {x i : Nat} {r : Int32} (hf : f_X9_add σ a0 a1 a2 a3 = some (x, r, σ')) (hi : i < 4) (hL : [0, 3, 1, 2].getD i 99 = x) (sz : Nat) : Met l yL_add (gwmH yL_add cL_add 7 (some .int) [(0, 14, 17, 25), (0, 14, 21, 13), (0, 14, 25, 15)]) (gR 10 2 12) (fun a U => hPc Γ ad σ [.ref (ad 0), .int a0, .int a1, .int a2, .int a3, .ref (ad 201)] sz a U ∧ True) (gQci celC Γ ad 202 (nI i) (if x = 0 then up2 σ' 201 0 r else σ') sz) 2 12 (gA ad 202 sz) := by
  refine gOfH (Qc := fun sz => gQci celC Γ ad 202 (nI i) (if x = 0 then up2 σ' 201 0 r else σ') sz) (fr := fun sz => gA ad 202 sz) (E := fun _ _ => True) RL (by decide) rfl (Nat.le_of_ble_eq_true rfl) (fun p e s m args below meth c H locs ls X hN hTab S _ _ _ hl => ?_)
  have hl : lv_has ls 7 [(0, .ref (ad 0)), (1, .int a0), (2, .int a1), (3, .int a2), (4, .int a3), (5, .ref (ad 201))] := hl
  have hx := X.1
  have hb := X.2.1
  refine lv_aload hx hb dL_add_0 (lv_at hl 5 rfl) ?_
  refine lv_iconst (v := 0) hx hb dL_add_2 (by decide) ?_
  refine lv_aload_n hx hb dL_add_3 rfl (lv_at hl 0 rfl) ?_
  refine lv_iload_n hx hb dL_add_4 rfl (lv_at hl 1 rfl) ?_
  refine lv_iload_n hx hb dL_add_5 rfl (lv_at hl 2 rfl) ?_
  refine lv_iload_n hx hb dL_add_6 rfl (lv_at hl 3 rfl) ?_
  refine lv_iload hx hb dL_add_7 (lv_at hl 4 rfl) ?_
  refine vx_calli (g_xrunV (rest := [.int 0, .ref (ad 201)]) X S (c_X9_add l hl0 (Nat.le_refl 202) hf _) cvX9_add mlL_39 (by decide) (ceC_9 kd_s0 _) rfl rfl rfl hl.1 (Nat.le_of_ble_eq_true rfl) ⟨⟨rfl, rfl⟩, ⟨Nat.le_of_ble_eq_true rfl, Nat.le_of_ble_eq_true rfl⟩, Nat.le_of_ble_eq_true rfl, Nat.le_of_ble_eq_true rfl⟩ dL_add_9) S.2 (fun q _ hq => gA_le S.2.1 q hq) (gA_le S.2.1) (fun q _ hq => gA_le S.2.1 q hq) ?_ ?_
  · intro E ce q9 u t H1 locs1 ht hvm hpx hB hz hk hS hce hcv hcl
    obtain ⟨rfl, hB⟩ := hB
    subst ht
    rw [if_neg hpx]
    rcases (show i = 0 ∨ i = 1 ∨ i = 2 ∨ i = 3 by omega) with rfl | rfl | rfl | rfl
    · exact absurd hL.symm hpx
    · have hx1 : 3 = x := hL
      subst hx1
      refine h_catch (name := "java/lang/IndexOutOfBoundsException") (E := "java/lang/IndexOutOfBoundsException") X hN [] ⟨0, 14, 17, 25⟩ [⟨0, 14, 21, 13⟩, ⟨0, 14, 25, 15⟩] (hTab.trans rfl) (fun z hz => nomatch hz) (by decide) (by decide) clL_25 cst_3 hce hcv hcl ?_
      refine lv_astore (lv' := [(6, .ref q9), (0, .ref (ad 0)), (1, .int a0), (2, .int a1), (3, .int a2), (4, .int a3), (5, .ref (ad 201))]) hx hb dL_add_17 hl (by decide) rfl (fun ls hl => ?_)
      refine lv_iconst (v := 1) hx hb dL_add_19 (by decide) ?_
      exact h_reti X (σ := σ') ⟨hB, hS⟩ rfl dL_add_20 (by decide) (by decide)
    · have hx1 : 1 = x := hL
      subst hx1
      refine h_catch (name := "java/lang/IllegalArgumentException") (E := "java/lang/IllegalArgumentException") X hN [⟨0, 14, 17, 25⟩] ⟨0, 14, 21, 13⟩ [⟨0, 14, 25, 15⟩] (hTab.trans rfl) (fun z hz => by
        rcases (show z = ⟨0, 14, 17, 25⟩ by simpa using hz) with rfl
        · exact Or.inr ⟨by decide, _, clL_25, by decide⟩) (by decide) (by decide) clL_13 cst_1 hce hcv hcl ?_
      refine lv_astore (lv' := [(6, .ref q9), (0, .ref (ad 0)), (1, .int a0), (2, .int a1), (3, .int a2), (4, .int a3), (5, .ref (ad 201))]) hx hb dL_add_21 hl (by decide) rfl (fun ls hl => ?_)
      refine lv_iconst (v := 2) hx hb dL_add_23 (by decide) ?_
      exact h_reti X (σ := σ') ⟨hB, hS⟩ rfl dL_add_24 (by decide) (by decide)
    · have hx1 : 2 = x := hL
      subst hx1
      refine h_catch (name := "java/lang/UnsupportedOperationException") (E := "java/lang/UnsupportedOperationException") X hN [⟨0, 14, 17, 25⟩, ⟨0, 14, 21, 13⟩] ⟨0, 14, 25, 15⟩ [] (hTab.trans rfl) (fun z hz => by
        rcases (show z = ⟨0, 14, 17, 25⟩ ∨ z = ⟨0, 14, 21, 13⟩ by simpa using hz) with rfl | rfl
        · exact Or.inr ⟨by decide, _, clL_25, by decide⟩
        · exact Or.inr ⟨by decide, _, clL_13, by decide⟩) (by decide) (by decide) clL_15 cst_2 hce hcv hcl ?_
      refine lv_astore (lv' := [(6, .ref q9), (0, .ref (ad 0)), (1, .int a0), (2, .int a1), (3, .int a2), (4, .int a3), (5, .ref (ad 201))]) hx hb dL_add_25 hl (by decide) rfl (fun ls hl => ?_)
      refine lv_iconst (v := 3) hx hb dL_add_27 (by decide) ?_
      exact h_reti X (σ := σ') ⟨hB, hS⟩ rfl dL_add_28 (by decide) (by decide)
  · intro rr u t H1 locs1 ht hvm hw hB hz hk hS
    obtain ⟨h0, rfl⟩ := hw
    subst ht
    have S1 : gS celC Γ ad 202 σ' s t.heap locs1 := ⟨hB, hS⟩
    have hi0 : i = 0 := by
      rcases (show i = 0 ∨ i = 1 ∨ i = 2 ∨ i = 3 by omega) with rfl | rfl | rfl | rfl
      · rfl
      · exact absurd (hL.trans h0) (by decide)
      · exact absurd (hL.trans h0) (by decide)
      · exact absurd (hL.trans h0) (by decide)
    subst hi0
    rw [if_pos h0]
    refine lv_i2l hx hb dL_add_12 rfl ?_
    refine h_last X S1 dL_add_13 (fun H locs S => ?_)
    refine lv_goto (tgt := 29) hx hb dL_add_14 (by decide) ?_
    refine lv_iconst (v := 0) hx hb dL_add_29 (by decide) ?_
    exact h_reti X S rfl dL_add_30 (by decide) (by decide)
theorem cwL_remove : Cond.codeWith yL_remove cL_remove 5 (some .int) [(0, 10, 13, 25)] ∈ lwg := gq 810 (by decide +kernel) rfl
set_option maxRecDepth 100000 in
set_option maxHeartbeats 4000000 in
theorem c_L_remove (l : Launch) (hl0 : l.stackTraces = false) {Γ : gG} {ad : Nat → Nat} {σ σ' : gSt} {a0 a1 : Int32} {x i : Nat} {r : Int32} (hf : f_X9_remove σ a0 a1 = some (x, r, σ')) (hi : i < 2) (hL : [0, 3].getD i 99 = x) (sz : Nat) : Met l yL_remove (gwmH yL_remove cL_remove 5 (some .int) [(0, 10, 13, 25)]) (gR 11 2 12) (fun a U => hPc Γ ad σ [.ref (ad 0), .int a0, .int a1, .ref (ad 201)] sz a U ∧ True) (gQci celC Γ ad 202 (nI i) (if x = 0 then up2 σ' 201 0 r else σ') sz) 2 12 (gA ad 202 sz) := by
  refine gOfH (Qc := fun sz => gQci celC Γ ad 202 (nI i) (if x = 0 then up2 σ' 201 0 r else σ') sz) (fr := fun sz => gA ad 202 sz) (E := fun _ _ => True) RL (by decide) rfl (Nat.le_of_ble_eq_true rfl) (fun p e s m args below meth c H locs ls X hN hTab S _ _ _ hl => ?_)
  have hl : lv_has ls 5 [(0, .ref (ad 0)), (1, .int a0), (2, .int a1), (3, .ref (ad 201))] := hl
  have hx := X.1
  have hb := X.2.1
  refine lv_aload_n hx hb dL_remove_0 rfl (lv_at hl 3 rfl) ?_
  refine lv_iconst (v := 0) hx hb dL_remove_1 (by decide) ?_
  refine lv_aload_n hx hb dL_remove_2 rfl (lv_at hl 0 rfl) ?_
  refine lv_iload_n hx hb dL_remove_3 rfl (lv_at hl 1 rfl) ?_
  refine lv_iload_n hx hb dL_remove_4 rfl (lv_at hl 2 rfl) ?_
  refine vx_calli (g_xrunV (rest := [.int 0, .ref (ad 201)]) X S (c_X9_remove l hl0 (Nat.le_refl 202) hf _) cvX9_remove mlL_43 (by decide) (ceC_9 kd_s0 _) rfl rfl rfl hl.1 (Nat.le_of_ble_eq_true rfl) ⟨⟨rfl, rfl⟩, ⟨Nat.le_of_ble_eq_true rfl, Nat.le_of_ble_eq_true rfl⟩, Nat.le_of_ble_eq_true rfl, Nat.le_of_ble_eq_true rfl⟩ dL_remove_5) S.2 (fun q _ hq => gA_le S.2.1 q hq) (gA_le S.2.1) (fun q _ hq => gA_le S.2.1 q hq) ?_ ?_
  · intro E ce q9 u t H1 locs1 ht hvm hpx hB hz hk hS hce hcv hcl
    obtain ⟨rfl, hB⟩ := hB
    subst ht
    rw [if_neg hpx]
    rcases (show i = 0 ∨ i = 1 by omega) with rfl | rfl
    · exact absurd hL.symm hpx
    · have hx1 : 3 = x := hL
      subst hx1
      refine h_catch (name := "java/lang/IndexOutOfBoundsException") (E := "java/lang/IndexOutOfBoundsException") X hN [] ⟨0, 10, 13, 25⟩ [] (hTab.trans rfl) (fun z hz => nomatch hz) (by decide) (by decide) clL_25 cst_3 hce hcv hcl ?_
      refine lv_astore (lv' := [(4, .ref q9), (0, .ref (ad 0)), (1, .int a0), (2, .int a1), (3, .ref (ad 201))]) hx hb dL_remove_13 hl (by decide) rfl (fun ls hl => ?_)
      refine lv_iconst (v := 1) hx hb dL_remove_15 (by decide) ?_
      exact h_reti X (σ := σ') ⟨hB, hS⟩ rfl dL_remove_16 (by decide) (by decide)
  · intro rr u t H1 locs1 ht hvm hw hB hz hk hS
    obtain ⟨h0, rfl⟩ := hw
    subst ht
    have S1 : gS celC Γ ad 202 σ' s t.heap locs1 := ⟨hB, hS⟩
    have hi0 : i = 0 := by
      rcases (show i = 0 ∨ i = 1 by omega) with rfl | rfl
      · rfl
      · exact absurd (hL.trans h0) (by decide)
    subst hi0
    rw [if_pos h0]
    refine lv_i2l hx hb dL_remove_8 rfl ?_
    refine h_last X S1 dL_remove_9 (fun H locs S => ?_)
    refine lv_goto (tgt := 17) hx hb dL_remove_10 (by decide) ?_
    refine lv_iconst (v := 0) hx hb dL_remove_17 (by decide) ?_
    exact h_reti X S rfl dL_remove_18 (by decide) (by decide)
theorem cwL_move : Cond.codeWith yL_move cL_move 7 (some .int) [(0, 14, 17, 25), (0, 14, 21, 15)] ∈ lwg := gq 827 (by decide +kernel) rfl
set_option maxRecDepth 100000 in
set_option maxHeartbeats 4000000 in
theorem c_L_move (l : Launch) (hl0 : l.stackTraces = false) {Γ : gG} {ad : Nat → Nat} {σ σ' : gSt} {a0 a1 a2 a3 : Int32} {x i : Nat} {r : Int32} (hf : f_X9_move σ a0 a1 a2 a3 = some (x, r, σ')) (hi : i < 3) (hL : [0, 3, 2].getD i 99 = x) (sz : Nat) : Met l yL_move (gwmH yL_move cL_move 7 (some .int) [(0, 14, 17, 25), (0, 14, 21, 15)]) (gR 11 3 18) (fun a U => hPc Γ ad σ [.ref (ad 0), .int a0, .int a1, .int a2, .int a3, .ref (ad 201)] sz a U ∧ True) (gQci celC Γ ad 202 (nI i) (if x = 0 then up2 σ' 201 0 r else σ') sz) 3 18 (gA ad 202 sz) := by
  refine gOfH (Qc := fun sz => gQci celC Γ ad 202 (nI i) (if x = 0 then up2 σ' 201 0 r else σ') sz) (fr := fun sz => gA ad 202 sz) (E := fun _ _ => True) RL (by decide) rfl (Nat.le_of_ble_eq_true rfl) (fun p e s m args below meth c H locs ls X hN hTab S _ _ _ hl => ?_)
  have hl : lv_has ls 7 [(0, .ref (ad 0)), (1, .int a0), (2, .int a1), (3, .int a2), (4, .int a3), (5, .ref (ad 201))] := hl
  have hx := X.1
  have hb := X.2.1
  refine lv_aload hx hb dL_move_0 (lv_at hl 5 rfl) ?_
  refine lv_iconst (v := 0) hx hb dL_move_2 (by decide) ?_
  refine lv_aload_n hx hb dL_move_3 rfl (lv_at hl 0 rfl) ?_
  refine lv_iload_n hx hb dL_move_4 rfl (lv_at hl 1 rfl) ?_
  refine lv_iload_n hx hb dL_move_5 rfl (lv_at hl 2 rfl) ?_
  refine lv_iload_n hx hb dL_move_6 rfl (lv_at hl 3 rfl) ?_
  refine lv_iload hx hb dL_move_7 (lv_at hl 4 rfl) ?_
  refine vx_calli (g_xrunV (rest := [.int 0, .ref (ad 201)]) X S (c_X9_move l hl0 (Nat.le_refl 202) hf _) cvX9_move mlL_46 (by decide) (ceC_9 kd_s0 _) rfl rfl rfl hl.1 (Nat.le_of_ble_eq_true rfl) ⟨⟨rfl, rfl⟩, ⟨Nat.le_of_ble_eq_true rfl, Nat.le_of_ble_eq_true rfl⟩, Nat.le_of_ble_eq_true rfl, Nat.le_of_ble_eq_true rfl⟩ dL_move_9) S.2 (fun q _ hq => gA_le S.2.1 q hq) (gA_le S.2.1) (fun q _ hq => gA_le S.2.1 q hq) ?_ ?_
  · intro E ce q9 u t H1 locs1 ht hvm hpx hB hz hk hS hce hcv hcl
    obtain ⟨rfl, hB⟩ := hB
    subst ht
    rw [if_neg hpx]
    rcases (show i = 0 ∨ i = 1 ∨ i = 2 by omega) with rfl | rfl | rfl
    · exact absurd hL.symm hpx
    · have hx1 : 3 = x := hL
      subst hx1
      refine h_catch (name := "java/lang/IndexOutOfBoundsException") (E := "java/lang/IndexOutOfBoundsException") X hN [] ⟨0, 14, 17, 25⟩ [⟨0, 14, 21, 15⟩] (hTab.trans rfl) (fun z hz => nomatch hz) (by decide) (by decide) clL_25 cst_3 hce hcv hcl ?_
      refine lv_astore (lv' := [(6, .ref q9), (0, .ref (ad 0)), (1, .int a0), (2, .int a1), (3, .int a2), (4, .int a3), (5, .ref (ad 201))]) hx hb dL_move_17 hl (by decide) rfl (fun ls hl => ?_)
      refine lv_iconst (v := 1) hx hb dL_move_19 (by decide) ?_
      exact h_reti X (σ := σ') ⟨hB, hS⟩ rfl dL_move_20 (by decide) (by decide)
    · have hx1 : 2 = x := hL
      subst hx1
      refine h_catch (name := "java/lang/UnsupportedOperationException") (E := "java/lang/UnsupportedOperationException") X hN [⟨0, 14, 17, 25⟩] ⟨0, 14, 21, 15⟩ [] (hTab.trans rfl) (fun z hz => by
        rcases (show z = ⟨0, 14, 17, 25⟩ by simpa using hz) with rfl
        · exact Or.inr ⟨by decide, _, clL_25, by decide⟩) (by decide) (by decide) clL_15 cst_2 hce hcv hcl ?_
      refine lv_astore (lv' := [(6, .ref q9), (0, .ref (ad 0)), (1, .int a0), (2, .int a1), (3, .int a2), (4, .int a3), (5, .ref (ad 201))]) hx hb dL_move_21 hl (by decide) rfl (fun ls hl => ?_)
      refine lv_iconst (v := 2) hx hb dL_move_23 (by decide) ?_
      exact h_reti X (σ := σ') ⟨hB, hS⟩ rfl dL_move_24 (by decide) (by decide)
  · intro rr u t H1 locs1 ht hvm hw hB hz hk hS
    obtain ⟨h0, rfl⟩ := hw
    subst ht
    have S1 : gS celC Γ ad 202 σ' s t.heap locs1 := ⟨hB, hS⟩
    have hi0 : i = 0 := by
      rcases (show i = 0 ∨ i = 1 ∨ i = 2 by omega) with rfl | rfl | rfl
      · rfl
      · exact absurd (hL.trans h0) (by decide)
      · exact absurd (hL.trans h0) (by decide)
    subst hi0
    rw [if_pos h0]
    refine lv_i2l hx hb dL_move_12 rfl ?_
    refine h_last X S1 dL_move_13 (fun H locs S => ?_)
    refine lv_goto (tgt := 25) hx hb dL_move_14 (by decide) ?_
    refine lv_iconst (v := 0) hx hb dL_move_25 (by decide) ?_
    exact h_reti X S rfl dL_move_26 (by decide) (by decide)
theorem cwL_split : Cond.codeWith yL_split cL_split 6 (some .int) [(0, 12, 15, 25), (0, 12, 19, 15)] ∈ lwg := gq 850 (by decide +kernel) rfl
set_option maxRecDepth 100000 in
set_option maxHeartbeats 4000000 in
theorem c_L_split (l : Launch) (hl0 : l.stackTraces = false) {Γ : gG} {ad : Nat → Nat} {σ σ' : gSt} {a0 a1 a2 : Int32} {x i : Nat} {r : Int32} (hf : f_X9_split σ a0 a1 a2 = some (x, r, σ')) (hi : i < 3) (hL : [0, 3, 2].getD i 99 = x) (sz : Nat) : Met l yL_split (gwmH yL_split cL_split 6 (some .int) [(0, 12, 15, 25), (0, 12, 19, 15)]) (gR 11 3 18) (fun a U => hPc Γ ad σ [.ref (ad 0), .int a0, .int a1, .int a2, .ref (ad 201)] sz a U ∧ True) (gQci celC Γ ad 202 (nI i) (if x = 0 then up2 σ' 201 0 r else σ') sz) 3 18 (gA ad 202 sz) := by
  refine gOfH (Qc := fun sz => gQci celC Γ ad 202 (nI i) (if x = 0 then up2 σ' 201 0 r else σ') sz) (fr := fun sz => gA ad 202 sz) (E := fun _ _ => True) RL (by decide) rfl (Nat.le_of_ble_eq_true rfl) (fun p e s m args below meth c H locs ls X hN hTab S _ _ _ hl => ?_)
  have hl : lv_has ls 6 [(0, .ref (ad 0)), (1, .int a0), (2, .int a1), (3, .int a2), (4, .ref (ad 201))] := hl
  have hx := X.1
  have hb := X.2.1
  refine lv_aload hx hb dL_split_0 (lv_at hl 4 rfl) ?_
  refine lv_iconst (v := 0) hx hb dL_split_2 (by decide) ?_
  refine lv_aload_n hx hb dL_split_3 rfl (lv_at hl 0 rfl) ?_
  refine lv_iload_n hx hb dL_split_4 rfl (lv_at hl 1 rfl) ?_
  refine lv_iload_n hx hb dL_split_5 rfl (lv_at hl 2 rfl) ?_
  refine lv_iload_n hx hb dL_split_6 rfl (lv_at hl 3 rfl) ?_
  refine vx_calli (g_xrunV (rest := [.int 0, .ref (ad 201)]) X S (c_X9_split l hl0 (Nat.le_refl 202) hf _) cvX9_split mlL_49 (by decide) (ceC_9 kd_s0 _) rfl rfl rfl hl.1 (Nat.le_of_ble_eq_true rfl) ⟨⟨rfl, rfl⟩, ⟨Nat.le_of_ble_eq_true rfl, Nat.le_of_ble_eq_true rfl⟩, Nat.le_of_ble_eq_true rfl, Nat.le_of_ble_eq_true rfl⟩ dL_split_7) S.2 (fun q _ hq => gA_le S.2.1 q hq) (gA_le S.2.1) (fun q _ hq => gA_le S.2.1 q hq) ?_ ?_
  · intro E ce q9 u t H1 locs1 ht hvm hpx hB hz hk hS hce hcv hcl
    obtain ⟨rfl, hB⟩ := hB
    subst ht
    rw [if_neg hpx]
    rcases (show i = 0 ∨ i = 1 ∨ i = 2 by omega) with rfl | rfl | rfl
    · exact absurd hL.symm hpx
    · have hx1 : 3 = x := hL
      subst hx1
      refine h_catch (name := "java/lang/IndexOutOfBoundsException") (E := "java/lang/IndexOutOfBoundsException") X hN [] ⟨0, 12, 15, 25⟩ [⟨0, 12, 19, 15⟩] (hTab.trans rfl) (fun z hz => nomatch hz) (by decide) (by decide) clL_25 cst_3 hce hcv hcl ?_
      refine lv_astore (lv' := [(5, .ref q9), (0, .ref (ad 0)), (1, .int a0), (2, .int a1), (3, .int a2), (4, .ref (ad 201))]) hx hb dL_split_15 hl (by decide) rfl (fun ls hl => ?_)
      refine lv_iconst (v := 1) hx hb dL_split_17 (by decide) ?_
      exact h_reti X (σ := σ') ⟨hB, hS⟩ rfl dL_split_18 (by decide) (by decide)
    · have hx1 : 2 = x := hL
      subst hx1
      refine h_catch (name := "java/lang/UnsupportedOperationException") (E := "java/lang/UnsupportedOperationException") X hN [⟨0, 12, 15, 25⟩] ⟨0, 12, 19, 15⟩ [] (hTab.trans rfl) (fun z hz => by
        rcases (show z = ⟨0, 12, 15, 25⟩ by simpa using hz) with rfl
        · exact Or.inr ⟨by decide, _, clL_25, by decide⟩) (by decide) (by decide) clL_15 cst_2 hce hcv hcl ?_
      refine lv_astore (lv' := [(5, .ref q9), (0, .ref (ad 0)), (1, .int a0), (2, .int a1), (3, .int a2), (4, .ref (ad 201))]) hx hb dL_split_19 hl (by decide) rfl (fun ls hl => ?_)
      refine lv_iconst (v := 2) hx hb dL_split_21 (by decide) ?_
      exact h_reti X (σ := σ') ⟨hB, hS⟩ rfl dL_split_22 (by decide) (by decide)
  · intro rr u t H1 locs1 ht hvm hw hB hz hk hS
    obtain ⟨h0, rfl⟩ := hw
    subst ht
    have S1 : gS celC Γ ad 202 σ' s t.heap locs1 := ⟨hB, hS⟩
    have hi0 : i = 0 := by
      rcases (show i = 0 ∨ i = 1 ∨ i = 2 by omega) with rfl | rfl | rfl
      · rfl
      · exact absurd (hL.trans h0) (by decide)
      · exact absurd (hL.trans h0) (by decide)
    subst hi0
    rw [if_pos h0]
    refine lv_i2l hx hb dL_split_10 rfl ?_
    refine h_last X S1 dL_split_11 (fun H locs S => ?_)
    refine lv_goto (tgt := 23) hx hb dL_split_12 (by decide) ?_
    refine lv_iconst (v := 0) hx hb dL_split_23 (by decide) ?_
    exact h_reti X S rfl dL_split_24 (by decide) (by decide)
theorem cwL_merge : Cond.codeWith yL_merge cL_merge 5 (some .int) [(0, 10, 13, 25), (0, 10, 17, 15)] ∈ lwg := gq 884 (by decide +kernel) rfl
set_option maxRecDepth 100000 in
set_option maxHeartbeats 4000000 in
theorem c_L_merge (l : Launch) (hl0 : l.stackTraces = false) {Γ : gG} {ad : Nat → Nat} {σ σ' : gSt} {a0 a1 : Int32} {x i : Nat} {r : Int32} (hf : f_X9_merge σ a0 a1 = some (x, r, σ')) (hi : i < 3) (hL : [0, 3, 2].getD i 99 = x) (sz : Nat) : Met l yL_merge (gwmH yL_merge cL_merge 5 (some .int) [(0, 10, 13, 25), (0, 10, 17, 15)]) (gR 11 3 18) (fun a U => hPc Γ ad σ [.ref (ad 0), .int a0, .int a1, .ref (ad 201)] sz a U ∧ True) (gQci celC Γ ad 202 (nI i) (if x = 0 then up2 σ' 201 0 r else σ') sz) 3 18 (gA ad 202 sz) := by
  refine gOfH (Qc := fun sz => gQci celC Γ ad 202 (nI i) (if x = 0 then up2 σ' 201 0 r else σ') sz) (fr := fun sz => gA ad 202 sz) (E := fun _ _ => True) RL (by decide) rfl (Nat.le_of_ble_eq_true rfl) (fun p e s m args below meth c H locs ls X hN hTab S _ _ _ hl => ?_)
  have hl : lv_has ls 5 [(0, .ref (ad 0)), (1, .int a0), (2, .int a1), (3, .ref (ad 201))] := hl
  have hx := X.1
  have hb := X.2.1
  refine lv_aload_n hx hb dL_merge_0 rfl (lv_at hl 3 rfl) ?_
  refine lv_iconst (v := 0) hx hb dL_merge_1 (by decide) ?_
  refine lv_aload_n hx hb dL_merge_2 rfl (lv_at hl 0 rfl) ?_
  refine lv_iload_n hx hb dL_merge_3 rfl (lv_at hl 1 rfl) ?_
  refine lv_iload_n hx hb dL_merge_4 rfl (lv_at hl 2 rfl) ?_
  refine vx_calli (g_xrunV (rest := [.int 0, .ref (ad 201)]) X S (c_X9_merge l hl0 (Nat.le_refl 202) hf _) cvX9_merge mlL_53 (by decide) (ceC_9 kd_s0 _) rfl rfl rfl hl.1 (Nat.le_of_ble_eq_true rfl) ⟨⟨rfl, rfl⟩, ⟨Nat.le_of_ble_eq_true rfl, Nat.le_of_ble_eq_true rfl⟩, Nat.le_of_ble_eq_true rfl, Nat.le_of_ble_eq_true rfl⟩ dL_merge_5) S.2 (fun q _ hq => gA_le S.2.1 q hq) (gA_le S.2.1) (fun q _ hq => gA_le S.2.1 q hq) ?_ ?_
  · intro E ce q9 u t H1 locs1 ht hvm hpx hB hz hk hS hce hcv hcl
    obtain ⟨rfl, hB⟩ := hB
    subst ht
    rw [if_neg hpx]
    rcases (show i = 0 ∨ i = 1 ∨ i = 2 by omega) with rfl | rfl | rfl
    · exact absurd hL.symm hpx
    · have hx1 : 3 = x := hL
      subst hx1
      refine h_catch (name := "java/lang/IndexOutOfBoundsException") (E := "java/lang/IndexOutOfBoundsException") X hN [] ⟨0, 10, 13, 25⟩ [⟨0, 10, 17, 15⟩] (hTab.trans rfl) (fun z hz => nomatch hz) (by decide) (by decide) clL_25 cst_3 hce hcv hcl ?_
      refine lv_astore (lv' := [(4, .ref q9), (0, .ref (ad 0)), (1, .int a0), (2, .int a1), (3, .ref (ad 201))]) hx hb dL_merge_13 hl (by decide) rfl (fun ls hl => ?_)
      refine lv_iconst (v := 1) hx hb dL_merge_15 (by decide) ?_
      exact h_reti X (σ := σ') ⟨hB, hS⟩ rfl dL_merge_16 (by decide) (by decide)
    · have hx1 : 2 = x := hL
      subst hx1
      refine h_catch (name := "java/lang/UnsupportedOperationException") (E := "java/lang/UnsupportedOperationException") X hN [⟨0, 10, 13, 25⟩] ⟨0, 10, 17, 15⟩ [] (hTab.trans rfl) (fun z hz => by
        rcases (show z = ⟨0, 10, 13, 25⟩ by simpa using hz) with rfl
        · exact Or.inr ⟨by decide, _, clL_25, by decide⟩) (by decide) (by decide) clL_15 cst_2 hce hcv hcl ?_
      refine lv_astore (lv' := [(4, .ref q9), (0, .ref (ad 0)), (1, .int a0), (2, .int a1), (3, .ref (ad 201))]) hx hb dL_merge_17 hl (by decide) rfl (fun ls hl => ?_)
      refine lv_iconst (v := 2) hx hb dL_merge_19 (by decide) ?_
      exact h_reti X (σ := σ') ⟨hB, hS⟩ rfl dL_merge_20 (by decide) (by decide)
  · intro rr u t H1 locs1 ht hvm hw hB hz hk hS
    obtain ⟨h0, rfl⟩ := hw
    subst ht
    have S1 : gS celC Γ ad 202 σ' s t.heap locs1 := ⟨hB, hS⟩
    have hi0 : i = 0 := by
      rcases (show i = 0 ∨ i = 1 ∨ i = 2 by omega) with rfl | rfl | rfl
      · rfl
      · exact absurd (hL.trans h0) (by decide)
      · exact absurd (hL.trans h0) (by decide)
    subst hi0
    rw [if_pos h0]
    refine lv_i2l hx hb dL_merge_8 rfl ?_
    refine h_last X S1 dL_merge_9 (fun H locs S => ?_)
    refine lv_goto (tgt := 21) hx hb dL_merge_10 (by decide) ?_
    refine lv_iconst (v := 0) hx hb dL_merge_21 (by decide) ?_
    exact h_reti X S rfl dL_merge_22 (by decide) (by decide)
theorem cwL_snap : Cond.codeWith yL_snap cL_snap 5 (some .int) [(0, 10, 13, 25), (0, 10, 17, 15)] ∈ lwg := gq 911 (by decide +kernel) rfl
set_option maxRecDepth 100000 in
set_option maxHeartbeats 4000000 in
theorem c_L_snap (l : Launch) (hl0 : l.stackTraces = false) {Γ : gG} {ad : Nat → Nat} {σ σ' : gSt} {a0 a1 : Int32} {x i : Nat} {r : Int32} (hf : f_X9_snap σ a0 a1 = some (x, r, σ')) (hi : i < 3) (hL : [0, 3, 2].getD i 99 = x) (sz : Nat) : Met l yL_snap (gwmH yL_snap cL_snap 5 (some .int) [(0, 10, 13, 25), (0, 10, 17, 15)]) (gR 11 3 18) (fun a U => hPc Γ ad σ [.ref (ad 0), .int a0, .int a1, .ref (ad 201)] sz a U ∧ True) (gQci celC Γ ad 202 (nI i) (if x = 0 then up2 σ' 201 0 r else σ') sz) 3 18 (gA ad 202 sz) := by
  refine gOfH (Qc := fun sz => gQci celC Γ ad 202 (nI i) (if x = 0 then up2 σ' 201 0 r else σ') sz) (fr := fun sz => gA ad 202 sz) (E := fun _ _ => True) RL (by decide) rfl (Nat.le_of_ble_eq_true rfl) (fun p e s m args below meth c H locs ls X hN hTab S _ _ _ hl => ?_)
  have hl : lv_has ls 5 [(0, .ref (ad 0)), (1, .int a0), (2, .int a1), (3, .ref (ad 201))] := hl
  have hx := X.1
  have hb := X.2.1
  refine lv_aload_n hx hb dL_snap_0 rfl (lv_at hl 3 rfl) ?_
  refine lv_iconst (v := 0) hx hb dL_snap_1 (by decide) ?_
  refine lv_aload_n hx hb dL_snap_2 rfl (lv_at hl 0 rfl) ?_
  refine lv_iload_n hx hb dL_snap_3 rfl (lv_at hl 1 rfl) ?_
  refine lv_iload_n hx hb dL_snap_4 rfl (lv_at hl 2 rfl) ?_
  refine vx_calli (g_xrunV (rest := [.int 0, .ref (ad 201)]) X S (c_X9_snap l hl0 (Nat.le_refl 202) hf _) cvX9_snap mlL_56 (by decide) (ceC_9 kd_s0 _) rfl rfl rfl hl.1 (Nat.le_of_ble_eq_true rfl) ⟨⟨rfl, rfl⟩, ⟨Nat.le_of_ble_eq_true rfl, Nat.le_of_ble_eq_true rfl⟩, Nat.le_of_ble_eq_true rfl, Nat.le_of_ble_eq_true rfl⟩ dL_snap_5) S.2 (fun q _ hq => gA_le S.2.1 q hq) (gA_le S.2.1) (fun q _ hq => gA_le S.2.1 q hq) ?_ ?_
  · intro E ce q9 u t H1 locs1 ht hvm hpx hB hz hk hS hce hcv hcl
    obtain ⟨rfl, hB⟩ := hB
    subst ht
    rw [if_neg hpx]
    rcases (show i = 0 ∨ i = 1 ∨ i = 2 by omega) with rfl | rfl | rfl
    · exact absurd hL.symm hpx
    · have hx1 : 3 = x := hL
      subst hx1
      refine h_catch (name := "java/lang/IndexOutOfBoundsException") (E := "java/lang/IndexOutOfBoundsException") X hN [] ⟨0, 10, 13, 25⟩ [⟨0, 10, 17, 15⟩] (hTab.trans rfl) (fun z hz => nomatch hz) (by decide) (by decide) clL_25 cst_3 hce hcv hcl ?_
      refine lv_astore (lv' := [(4, .ref q9), (0, .ref (ad 0)), (1, .int a0), (2, .int a1), (3, .ref (ad 201))]) hx hb dL_snap_13 hl (by decide) rfl (fun ls hl => ?_)
      refine lv_iconst (v := 1) hx hb dL_snap_15 (by decide) ?_
      exact h_reti X (σ := σ') ⟨hB, hS⟩ rfl dL_snap_16 (by decide) (by decide)
    · have hx1 : 2 = x := hL
      subst hx1
      refine h_catch (name := "java/lang/UnsupportedOperationException") (E := "java/lang/UnsupportedOperationException") X hN [⟨0, 10, 13, 25⟩] ⟨0, 10, 17, 15⟩ [] (hTab.trans rfl) (fun z hz => by
        rcases (show z = ⟨0, 10, 13, 25⟩ by simpa using hz) with rfl
        · exact Or.inr ⟨by decide, _, clL_25, by decide⟩) (by decide) (by decide) clL_15 cst_2 hce hcv hcl ?_
      refine lv_astore (lv' := [(4, .ref q9), (0, .ref (ad 0)), (1, .int a0), (2, .int a1), (3, .ref (ad 201))]) hx hb dL_snap_17 hl (by decide) rfl (fun ls hl => ?_)
      refine lv_iconst (v := 2) hx hb dL_snap_19 (by decide) ?_
      exact h_reti X (σ := σ') ⟨hB, hS⟩ rfl dL_snap_20 (by decide) (by decide)
  · intro rr u t H1 locs1 ht hvm hw hB hz hk hS
    obtain ⟨h0, rfl⟩ := hw
    subst ht
    have S1 : gS celC Γ ad 202 σ' s t.heap locs1 := ⟨hB, hS⟩
    have hi0 : i = 0 := by
      rcases (show i = 0 ∨ i = 1 ∨ i = 2 by omega) with rfl | rfl | rfl
      · rfl
      · exact absurd (hL.trans h0) (by decide)
      · exact absurd (hL.trans h0) (by decide)
    subst hi0
    rw [if_pos h0]
    refine lv_i2l hx hb dL_snap_8 rfl ?_
    refine h_last X S1 dL_snap_9 (fun H locs S => ?_)
    refine lv_goto (tgt := 21) hx hb dL_snap_10 (by decide) ?_
    refine lv_iconst (v := 0) hx hb dL_snap_21 (by decide) ?_
    exact h_reti X S rfl dL_snap_22 (by decide) (by decide)
theorem cwL_fit : Cond.codeWith yL_fit cL_fit 5 (some .int) [(0, 10, 13, 25)] ∈ lwg := gq 934 (by decide +kernel) rfl
set_option maxRecDepth 100000 in
set_option maxHeartbeats 4000000 in
theorem c_L_fit (l : Launch) (hl0 : l.stackTraces = false) {Γ : gG} {ad : Nat → Nat} {σ σ' : gSt} {a0 a1 : Int32} {x i : Nat} {r : Int32} (hf : f_X9_fit σ a0 a1 = some (x, r, σ')) (hi : i < 2) (hL : [0, 3].getD i 99 = x) (sz : Nat) : Met l yL_fit (gwmH yL_fit cL_fit 5 (some .int) [(0, 10, 13, 25)]) (gR 11 2 12) (fun a U => hPc Γ ad σ [.ref (ad 0), .int a0, .int a1, .ref (ad 201)] sz a U ∧ True) (gQci celC Γ ad 202 (nI i) (if x = 0 then up2 σ' 201 0 r else σ') sz) 2 12 (gA ad 202 sz) := by
  refine gOfH (Qc := fun sz => gQci celC Γ ad 202 (nI i) (if x = 0 then up2 σ' 201 0 r else σ') sz) (fr := fun sz => gA ad 202 sz) (E := fun _ _ => True) RL (by decide) rfl (Nat.le_of_ble_eq_true rfl) (fun p e s m args below meth c H locs ls X hN hTab S _ _ _ hl => ?_)
  have hl : lv_has ls 5 [(0, .ref (ad 0)), (1, .int a0), (2, .int a1), (3, .ref (ad 201))] := hl
  have hx := X.1
  have hb := X.2.1
  refine lv_aload_n hx hb dL_fit_0 rfl (lv_at hl 3 rfl) ?_
  refine lv_iconst (v := 0) hx hb dL_fit_1 (by decide) ?_
  refine lv_aload_n hx hb dL_fit_2 rfl (lv_at hl 0 rfl) ?_
  refine lv_iload_n hx hb dL_fit_3 rfl (lv_at hl 1 rfl) ?_
  refine lv_iload_n hx hb dL_fit_4 rfl (lv_at hl 2 rfl) ?_
  refine vx_calli (g_xrunV (rest := [.int 0, .ref (ad 201)]) X S (c_X9_fit l hl0 (Nat.le_refl 202) hf _) cvX9_fit mlL_59 (by decide) (ceC_9 kd_s0 _) rfl rfl rfl hl.1 (Nat.le_of_ble_eq_true rfl) ⟨⟨rfl, rfl⟩, ⟨Nat.le_of_ble_eq_true rfl, Nat.le_of_ble_eq_true rfl⟩, Nat.le_of_ble_eq_true rfl, Nat.le_of_ble_eq_true rfl⟩ dL_fit_5) S.2 (fun q _ hq => gA_le S.2.1 q hq) (gA_le S.2.1) (fun q _ hq => gA_le S.2.1 q hq) ?_ ?_
  · intro E ce q9 u t H1 locs1 ht hvm hpx hB hz hk hS hce hcv hcl
    obtain ⟨rfl, hB⟩ := hB
    subst ht
    rw [if_neg hpx]
    rcases (show i = 0 ∨ i = 1 by omega) with rfl | rfl
    · exact absurd hL.symm hpx
    · have hx1 : 3 = x := hL
      subst hx1
      refine h_catch (name := "java/lang/IndexOutOfBoundsException") (E := "java/lang/IndexOutOfBoundsException") X hN [] ⟨0, 10, 13, 25⟩ [] (hTab.trans rfl) (fun z hz => nomatch hz) (by decide) (by decide) clL_25 cst_3 hce hcv hcl ?_
      refine lv_astore (lv' := [(4, .ref q9), (0, .ref (ad 0)), (1, .int a0), (2, .int a1), (3, .ref (ad 201))]) hx hb dL_fit_13 hl (by decide) rfl (fun ls hl => ?_)
      refine lv_iconst (v := 1) hx hb dL_fit_15 (by decide) ?_
      exact h_reti X (σ := σ') ⟨hB, hS⟩ rfl dL_fit_16 (by decide) (by decide)
  · intro rr u t H1 locs1 ht hvm hw hB hz hk hS
    obtain ⟨h0, rfl⟩ := hw
    subst ht
    have S1 : gS celC Γ ad 202 σ' s t.heap locs1 := ⟨hB, hS⟩
    have hi0 : i = 0 := by
      rcases (show i = 0 ∨ i = 1 by omega) with rfl | rfl
      · rfl
      · exact absurd (hL.trans h0) (by decide)
    subst hi0
    rw [if_pos h0]
    refine lv_i2l hx hb dL_fit_8 rfl ?_
    refine h_last X S1 dL_fit_9 (fun H locs S => ?_)
    refine lv_goto (tgt := 17) hx hb dL_fit_10 (by decide) ?_
    refine lv_iconst (v := 0) hx hb dL_fit_17 (by decide) ?_
    exact h_reti X S rfl dL_fit_18 (by decide) (by decide)
theorem cwL_retime : Cond.codeWith yL_retime cL_retime 8 (some .int) [(0, 16, 19, 25), (0, 16, 23, 13), (0, 16, 27, 15)] ∈ lwg := gq 953 (by decide +kernel) rfl
set_option maxRecDepth 100000 in
set_option maxHeartbeats 4000000 in
theorem c_L_retime (l : Launch) (hl0 : l.stackTraces = false) {Γ : gG} {ad : Nat → Nat} {σ σ' : gSt} {a0 a1 a2 a3 a4 : Int32} {x i : Nat} {r : Int32} (h9 : r9 σ) (h9' : r9 σ') (hf : f_X9_retime σ a0 a1 a2 a3 a4 = some (x, r, σ')) (hi : i < 4) (hL : [0, 3, 1, 2].getD i 99 = x) (sz : Nat) : Met l yL_retime (gwmH yL_retime cL_retime 8 (some .int) [(0, 16, 19, 25), (0, 16, 23, 13), (0, 16, 27, 15)]) (gR 11 3 16) (fun a U => hPc Γ ad σ [.ref (ad 0), .int a0, .int a1, .int a2, .int a3, .int a4, .ref (ad 201)] sz a U ∧ True) (gQci celC Γ ad 202 (nI i) (if x = 0 then up2 σ' 201 0 r else σ') sz) 3 16 (gA ad 202 sz) := by
  refine gOfH (Qc := fun sz => gQci celC Γ ad 202 (nI i) (if x = 0 then up2 σ' 201 0 r else σ') sz) (fr := fun sz => gA ad 202 sz) (E := fun _ _ => True) RL (by decide) rfl (Nat.le_of_ble_eq_true rfl) (fun p e s m args below meth c H locs ls X hN hTab S _ _ _ hl => ?_)
  have hl : lv_has ls 8 [(0, .ref (ad 0)), (1, .int a0), (2, .int a1), (3, .int a2), (4, .int a3), (5, .int a4), (6, .ref (ad 201))] := hl
  have hx := X.1
  have hb := X.2.1
  refine lv_aload hx hb dL_retime_0 (lv_at hl 6 rfl) ?_
  refine lv_iconst (v := 0) hx hb dL_retime_2 (by decide) ?_
  refine lv_aload_n hx hb dL_retime_3 rfl (lv_at hl 0 rfl) ?_
  refine lv_iload_n hx hb dL_retime_4 rfl (lv_at hl 1 rfl) ?_
  refine lv_iload_n hx hb dL_retime_5 rfl (lv_at hl 2 rfl) ?_
  refine lv_iload_n hx hb dL_retime_6 rfl (lv_at hl 3 rfl) ?_
  refine lv_iload hx hb dL_retime_7 (lv_at hl 4 rfl) ?_
  refine lv_iload hx hb dL_retime_9 (lv_at hl 5 rfl) ?_
  refine vx_calli (g_xrunV (rest := [.int 0, .ref (ad 201)]) X S (c_X9_retime l hl0  h9 h9' hf _) cvX9_retime mlL_62 (by decide) (ceC_9 kd_s0 _) rfl rfl rfl hl.1 (Nat.le_of_ble_eq_true rfl) ⟨⟨rfl, rfl⟩, ⟨Nat.le_of_ble_eq_true rfl, Nat.le_of_ble_eq_true rfl⟩, Nat.le_of_ble_eq_true rfl, Nat.le_of_ble_eq_true rfl⟩ dL_retime_11) S.2 (fun q _ hq => gA_le S.2.1 q hq) (gA_le S.2.1) (fun q _ hq => gA_le S.2.1 q hq) ?_ ?_
  · intro E ce q9 u t H1 locs1 ht hvm hpx hB hz hk hS hce hcv hcl
    obtain ⟨rfl, hB⟩ := hB
    subst ht
    rw [if_neg hpx]
    rcases (show i = 0 ∨ i = 1 ∨ i = 2 ∨ i = 3 by omega) with rfl | rfl | rfl | rfl
    · exact absurd hL.symm hpx
    · have hx1 : 3 = x := hL
      subst hx1
      refine h_catch (name := "java/lang/IndexOutOfBoundsException") (E := "java/lang/IndexOutOfBoundsException") X hN [] ⟨0, 16, 19, 25⟩ [⟨0, 16, 23, 13⟩, ⟨0, 16, 27, 15⟩] (hTab.trans rfl) (fun z hz => nomatch hz) (by decide) (by decide) clL_25 cst_3 hce hcv hcl ?_
      refine lv_astore (lv' := [(7, .ref q9), (0, .ref (ad 0)), (1, .int a0), (2, .int a1), (3, .int a2), (4, .int a3), (5, .int a4), (6, .ref (ad 201))]) hx hb dL_retime_19 hl (by decide) rfl (fun ls hl => ?_)
      refine lv_iconst (v := 1) hx hb dL_retime_21 (by decide) ?_
      exact h_reti X (σ := σ') ⟨hB, hS⟩ rfl dL_retime_22 (by decide) (by decide)
    · have hx1 : 1 = x := hL
      subst hx1
      refine h_catch (name := "java/lang/IllegalArgumentException") (E := "java/lang/IllegalArgumentException") X hN [⟨0, 16, 19, 25⟩] ⟨0, 16, 23, 13⟩ [⟨0, 16, 27, 15⟩] (hTab.trans rfl) (fun z hz => by
        rcases (show z = ⟨0, 16, 19, 25⟩ by simpa using hz) with rfl
        · exact Or.inr ⟨by decide, _, clL_25, by decide⟩) (by decide) (by decide) clL_13 cst_1 hce hcv hcl ?_
      refine lv_astore (lv' := [(7, .ref q9), (0, .ref (ad 0)), (1, .int a0), (2, .int a1), (3, .int a2), (4, .int a3), (5, .int a4), (6, .ref (ad 201))]) hx hb dL_retime_23 hl (by decide) rfl (fun ls hl => ?_)
      refine lv_iconst (v := 2) hx hb dL_retime_25 (by decide) ?_
      exact h_reti X (σ := σ') ⟨hB, hS⟩ rfl dL_retime_26 (by decide) (by decide)
    · have hx1 : 2 = x := hL
      subst hx1
      refine h_catch (name := "java/lang/UnsupportedOperationException") (E := "java/lang/UnsupportedOperationException") X hN [⟨0, 16, 19, 25⟩, ⟨0, 16, 23, 13⟩] ⟨0, 16, 27, 15⟩ [] (hTab.trans rfl) (fun z hz => by
        rcases (show z = ⟨0, 16, 19, 25⟩ ∨ z = ⟨0, 16, 23, 13⟩ by simpa using hz) with rfl | rfl
        · exact Or.inr ⟨by decide, _, clL_25, by decide⟩
        · exact Or.inr ⟨by decide, _, clL_13, by decide⟩) (by decide) (by decide) clL_15 cst_2 hce hcv hcl ?_
      refine lv_astore (lv' := [(7, .ref q9), (0, .ref (ad 0)), (1, .int a0), (2, .int a1), (3, .int a2), (4, .int a3), (5, .int a4), (6, .ref (ad 201))]) hx hb dL_retime_27 hl (by decide) rfl (fun ls hl => ?_)
      refine lv_iconst (v := 3) hx hb dL_retime_29 (by decide) ?_
      exact h_reti X (σ := σ') ⟨hB, hS⟩ rfl dL_retime_30 (by decide) (by decide)
  · intro rr u t H1 locs1 ht hvm hw hB hz hk hS
    obtain ⟨h0, rfl⟩ := hw
    subst ht
    have S1 : gS celC Γ ad 202 σ' s t.heap locs1 := ⟨hB, hS⟩
    have hi0 : i = 0 := by
      rcases (show i = 0 ∨ i = 1 ∨ i = 2 ∨ i = 3 by omega) with rfl | rfl | rfl | rfl
      · rfl
      · exact absurd (hL.trans h0) (by decide)
      · exact absurd (hL.trans h0) (by decide)
      · exact absurd (hL.trans h0) (by decide)
    subst hi0
    rw [if_pos h0]
    refine lv_i2l hx hb dL_retime_14 rfl ?_
    refine h_last X S1 dL_retime_15 (fun H locs S => ?_)
    refine lv_goto (tgt := 31) hx hb dL_retime_16 (by decide) ?_
    refine lv_iconst (v := 0) hx hb dL_retime_31 (by decide) ?_
    exact h_reti X S rfl dL_retime_32 (by decide) (by decide)
theorem cwL_caption : Cond.codeWith yL_caption cL_caption 6 (some .int) [(0, 12, 15, 25), (0, 12, 19, 13)] ∈ lwg := gq 1006 (by decide +kernel) rfl
set_option maxRecDepth 100000 in
set_option maxHeartbeats 4000000 in
theorem c_L_caption (l : Launch) (hl0 : l.stackTraces = false) {Γ : gG} {ad : Nat → Nat} {σ σ' : gSt} {a0 a1 a2 : Int32} {x i : Nat} {r : Int32} (hf : f_X9_caption σ a0 a1 a2 = some (x, r, σ')) (hi : i < 3) (hL : [0, 3, 1].getD i 99 = x) (sz : Nat) : Met l yL_caption (gwmH yL_caption cL_caption 6 (some .int) [(0, 12, 15, 25), (0, 12, 19, 13)]) (gR 11 3 18) (fun a U => hPc Γ ad σ [.ref (ad 0), .int a0, .int a1, .int a2, .ref (ad 201)] sz a U ∧ True) (gQci celC Γ ad 202 (nI i) (if x = 0 then up2 σ' 201 0 r else σ') sz) 3 18 (gA ad 202 sz) := by
  refine gOfH (Qc := fun sz => gQci celC Γ ad 202 (nI i) (if x = 0 then up2 σ' 201 0 r else σ') sz) (fr := fun sz => gA ad 202 sz) (E := fun _ _ => True) RL (by decide) rfl (Nat.le_of_ble_eq_true rfl) (fun p e s m args below meth c H locs ls X hN hTab S _ _ _ hl => ?_)
  have hl : lv_has ls 6 [(0, .ref (ad 0)), (1, .int a0), (2, .int a1), (3, .int a2), (4, .ref (ad 201))] := hl
  have hx := X.1
  have hb := X.2.1
  refine lv_aload hx hb dL_caption_0 (lv_at hl 4 rfl) ?_
  refine lv_iconst (v := 0) hx hb dL_caption_2 (by decide) ?_
  refine lv_aload_n hx hb dL_caption_3 rfl (lv_at hl 0 rfl) ?_
  refine lv_iload_n hx hb dL_caption_4 rfl (lv_at hl 1 rfl) ?_
  refine lv_iload_n hx hb dL_caption_5 rfl (lv_at hl 2 rfl) ?_
  refine lv_iload_n hx hb dL_caption_6 rfl (lv_at hl 3 rfl) ?_
  refine vx_calli (g_xrunV (rest := [.int 0, .ref (ad 201)]) X S (c_X9_caption l hl0 (Nat.le_refl 202) hf _) cvX9_caption mlL_66 (by decide) (ceC_9 kd_s0 _) rfl rfl rfl hl.1 (Nat.le_of_ble_eq_true rfl) ⟨⟨rfl, rfl⟩, ⟨Nat.le_of_ble_eq_true rfl, Nat.le_of_ble_eq_true rfl⟩, Nat.le_of_ble_eq_true rfl, Nat.le_of_ble_eq_true rfl⟩ dL_caption_7) S.2 (fun q _ hq => gA_le S.2.1 q hq) (gA_le S.2.1) (fun q _ hq => gA_le S.2.1 q hq) ?_ ?_
  · intro E ce q9 u t H1 locs1 ht hvm hpx hB hz hk hS hce hcv hcl
    obtain ⟨rfl, hB⟩ := hB
    subst ht
    rw [if_neg hpx]
    rcases (show i = 0 ∨ i = 1 ∨ i = 2 by omega) with rfl | rfl | rfl
    · exact absurd hL.symm hpx
    · have hx1 : 3 = x := hL
      subst hx1
      refine h_catch (name := "java/lang/IndexOutOfBoundsException") (E := "java/lang/IndexOutOfBoundsException") X hN [] ⟨0, 12, 15, 25⟩ [⟨0, 12, 19, 13⟩] (hTab.trans rfl) (fun z hz => nomatch hz) (by decide) (by decide) clL_25 cst_3 hce hcv hcl ?_
      refine lv_astore (lv' := [(5, .ref q9), (0, .ref (ad 0)), (1, .int a0), (2, .int a1), (3, .int a2), (4, .ref (ad 201))]) hx hb dL_caption_15 hl (by decide) rfl (fun ls hl => ?_)
      refine lv_iconst (v := 1) hx hb dL_caption_17 (by decide) ?_
      exact h_reti X (σ := σ') ⟨hB, hS⟩ rfl dL_caption_18 (by decide) (by decide)
    · have hx1 : 1 = x := hL
      subst hx1
      refine h_catch (name := "java/lang/IllegalArgumentException") (E := "java/lang/IllegalArgumentException") X hN [⟨0, 12, 15, 25⟩] ⟨0, 12, 19, 13⟩ [] (hTab.trans rfl) (fun z hz => by
        rcases (show z = ⟨0, 12, 15, 25⟩ by simpa using hz) with rfl
        · exact Or.inr ⟨by decide, _, clL_25, by decide⟩) (by decide) (by decide) clL_13 cst_1 hce hcv hcl ?_
      refine lv_astore (lv' := [(5, .ref q9), (0, .ref (ad 0)), (1, .int a0), (2, .int a1), (3, .int a2), (4, .ref (ad 201))]) hx hb dL_caption_19 hl (by decide) rfl (fun ls hl => ?_)
      refine lv_iconst (v := 2) hx hb dL_caption_21 (by decide) ?_
      exact h_reti X (σ := σ') ⟨hB, hS⟩ rfl dL_caption_22 (by decide) (by decide)
  · intro rr u t H1 locs1 ht hvm hw hB hz hk hS
    obtain ⟨h0, rfl⟩ := hw
    subst ht
    have S1 : gS celC Γ ad 202 σ' s t.heap locs1 := ⟨hB, hS⟩
    have hi0 : i = 0 := by
      rcases (show i = 0 ∨ i = 1 ∨ i = 2 by omega) with rfl | rfl | rfl
      · rfl
      · exact absurd (hL.trans h0) (by decide)
      · exact absurd (hL.trans h0) (by decide)
    subst hi0
    rw [if_pos h0]
    refine lv_i2l hx hb dL_caption_10 rfl ?_
    refine h_last X S1 dL_caption_11 (fun H locs S => ?_)
    refine lv_goto (tgt := 23) hx hb dL_caption_12 (by decide) ?_
    refine lv_iconst (v := 0) hx hb dL_caption_23 (by decide) ?_
    exact h_reti X S rfl dL_caption_24 (by decide) (by decide)
theorem cwL_letter : Cond.codeWith yL_letter cL_letter 6 (some .int) [(0, 12, 15, 25), (0, 12, 19, 73)] ∈ lwg := gq 1031 (by decide +kernel) rfl
set_option maxRecDepth 100000 in
set_option maxHeartbeats 4000000 in
theorem c_L_letter (l : Launch) (hl0 : l.stackTraces = false) {Γ : gG} {ad : Nat → Nat} {σ σ' : gSt} {a0 a1 a2 : Int32} {x i : Nat} {r : Int32} (hf : f_X9_letter σ a0 a1 a2 = some (x, r, σ')) (hi : i < 3) (hL : [0, 3, 5].getD i 99 = x) (sz : Nat) : Met l yL_letter (gwmH yL_letter cL_letter 6 (some .int) [(0, 12, 15, 25), (0, 12, 19, 73)]) (gR 11 3 18) (fun a U => hPc Γ ad σ [.ref (ad 0), .int a0, .int a1, .int a2, .ref (ad 201)] sz a U ∧ True) (gQci celC Γ ad 202 (nI i) (if x = 0 then up2 σ' 201 0 r else σ') sz) 3 18 (gA ad 202 sz) := by
  refine gOfH (Qc := fun sz => gQci celC Γ ad 202 (nI i) (if x = 0 then up2 σ' 201 0 r else σ') sz) (fr := fun sz => gA ad 202 sz) (E := fun _ _ => True) RL (by decide) rfl (Nat.le_of_ble_eq_true rfl) (fun p e s m args below meth c H locs ls X hN hTab S _ _ _ hl => ?_)
  have hl : lv_has ls 6 [(0, .ref (ad 0)), (1, .int a0), (2, .int a1), (3, .int a2), (4, .ref (ad 201))] := hl
  have hx := X.1
  have hb := X.2.1
  refine lv_aload hx hb dL_letter_0 (lv_at hl 4 rfl) ?_
  refine lv_iconst (v := 0) hx hb dL_letter_2 (by decide) ?_
  refine lv_aload_n hx hb dL_letter_3 rfl (lv_at hl 0 rfl) ?_
  refine lv_iload_n hx hb dL_letter_4 rfl (lv_at hl 1 rfl) ?_
  refine lv_iload_n hx hb dL_letter_5 rfl (lv_at hl 2 rfl) ?_
  refine lv_iload_n hx hb dL_letter_6 rfl (lv_at hl 3 rfl) ?_
  refine vx_calli (g_xrunV (rest := [.int 0, .ref (ad 201)]) X S (c_X9_letter l hl0 (Nat.le_refl 202) hf _) cvX9_letter mlL_69 (by decide) (ceC_9 kd_s0 _) rfl rfl rfl hl.1 (Nat.le_of_ble_eq_true rfl) ⟨⟨rfl, rfl⟩, ⟨Nat.le_of_ble_eq_true rfl, Nat.le_of_ble_eq_true rfl⟩, Nat.le_of_ble_eq_true rfl, Nat.le_of_ble_eq_true rfl⟩ dL_letter_7) S.2 (fun q _ hq => gA_le S.2.1 q hq) (gA_le S.2.1) (fun q _ hq => gA_le S.2.1 q hq) ?_ ?_
  · intro E ce q9 u t H1 locs1 ht hvm hpx hB hz hk hS hce hcv hcl
    obtain ⟨rfl, hB⟩ := hB
    subst ht
    rw [if_neg hpx]
    rcases (show i = 0 ∨ i = 1 ∨ i = 2 by omega) with rfl | rfl | rfl
    · exact absurd hL.symm hpx
    · have hx1 : 3 = x := hL
      subst hx1
      refine h_catch (name := "java/lang/IndexOutOfBoundsException") (E := "java/lang/IndexOutOfBoundsException") X hN [] ⟨0, 12, 15, 25⟩ [⟨0, 12, 19, 73⟩] (hTab.trans rfl) (fun z hz => nomatch hz) (by decide) (by decide) clL_25 cst_3 hce hcv hcl ?_
      refine lv_astore (lv' := [(5, .ref q9), (0, .ref (ad 0)), (1, .int a0), (2, .int a1), (3, .int a2), (4, .ref (ad 201))]) hx hb dL_letter_15 hl (by decide) rfl (fun ls hl => ?_)
      refine lv_iconst (v := 1) hx hb dL_letter_17 (by decide) ?_
      exact h_reti X (σ := σ') ⟨hB, hS⟩ rfl dL_letter_18 (by decide) (by decide)
    · have hx1 : 5 = x := hL
      subst hx1
      refine h_catch (name := "java/util/NoSuchElementException") (E := "java/util/NoSuchElementException") X hN [⟨0, 12, 15, 25⟩] ⟨0, 12, 19, 73⟩ [] (hTab.trans rfl) (fun z hz => by
        rcases (show z = ⟨0, 12, 15, 25⟩ by simpa using hz) with rfl
        · exact Or.inr ⟨by decide, _, clL_25, by decide⟩) (by decide) (by decide) clL_73 cst_5 hce hcv hcl ?_
      refine lv_astore (lv' := [(5, .ref q9), (0, .ref (ad 0)), (1, .int a0), (2, .int a1), (3, .int a2), (4, .ref (ad 201))]) hx hb dL_letter_19 hl (by decide) rfl (fun ls hl => ?_)
      refine lv_iconst (v := 2) hx hb dL_letter_21 (by decide) ?_
      exact h_reti X (σ := σ') ⟨hB, hS⟩ rfl dL_letter_22 (by decide) (by decide)
  · intro rr u t H1 locs1 ht hvm hw hB hz hk hS
    obtain ⟨h0, rfl⟩ := hw
    subst ht
    have S1 : gS celC Γ ad 202 σ' s t.heap locs1 := ⟨hB, hS⟩
    have hi0 : i = 0 := by
      rcases (show i = 0 ∨ i = 1 ∨ i = 2 by omega) with rfl | rfl | rfl
      · rfl
      · exact absurd (hL.trans h0) (by decide)
      · exact absurd (hL.trans h0) (by decide)
    subst hi0
    rw [if_pos h0]
    refine lv_i2l hx hb dL_letter_10 rfl ?_
    refine h_last X S1 dL_letter_11 (fun H locs S => ?_)
    refine lv_goto (tgt := 23) hx hb dL_letter_12 (by decide) ?_
    refine lv_iconst (v := 0) hx hb dL_letter_23 (by decide) ?_
    exact h_reti X S rfl dL_letter_24 (by decide) (by decide)
theorem cwL_shown : Cond.codeWith yL_shown cL_shown 5 (some .int) [(0, 10, 13, 25), (0, 10, 17, 73)] ∈ lwg := gq 1055 (by decide +kernel) rfl
set_option maxRecDepth 100000 in
set_option maxHeartbeats 4000000 in
theorem c_L_shown (l : Launch) (hl0 : l.stackTraces = false) {Γ : gG} {ad : Nat → Nat} {σ σ' : gSt} {a0 a1 : Int32} {x i : Nat} {r : Int32} (hf : f_X9_shown σ a0 a1 = some (x, r, σ')) (hi : i < 3) (hL : [0, 3, 5].getD i 99 = x) (sz : Nat) : Met l yL_shown (gwmH yL_shown cL_shown 5 (some .int) [(0, 10, 13, 25), (0, 10, 17, 73)]) (gR 10 2 12) (fun a U => hPc Γ ad σ [.ref (ad 0), .int a0, .int a1, .ref (ad 201)] sz a U ∧ True) (gQci celC Γ ad 202 (nI i) (if x = 0 then up2 σ' 201 0 r else σ') sz) 2 12 (gA ad 202 sz) := by
  refine gOfH (Qc := fun sz => gQci celC Γ ad 202 (nI i) (if x = 0 then up2 σ' 201 0 r else σ') sz) (fr := fun sz => gA ad 202 sz) (E := fun _ _ => True) RL (by decide) rfl (Nat.le_of_ble_eq_true rfl) (fun p e s m args below meth c H locs ls X hN hTab S _ _ _ hl => ?_)
  have hl : lv_has ls 5 [(0, .ref (ad 0)), (1, .int a0), (2, .int a1), (3, .ref (ad 201))] := hl
  have hx := X.1
  have hb := X.2.1
  refine lv_aload_n hx hb dL_shown_0 rfl (lv_at hl 3 rfl) ?_
  refine lv_iconst (v := 0) hx hb dL_shown_1 (by decide) ?_
  refine lv_aload_n hx hb dL_shown_2 rfl (lv_at hl 0 rfl) ?_
  refine lv_iload_n hx hb dL_shown_3 rfl (lv_at hl 1 rfl) ?_
  refine lv_iload_n hx hb dL_shown_4 rfl (lv_at hl 2 rfl) ?_
  refine vx_calli (g_xrunV (rest := [.int 0, .ref (ad 201)]) X S (c_X9_shown l hl0 (Nat.le_refl 202) hf _) cvX9_shown mlL_75 (by decide) (ceC_9 kd_s0 _) rfl rfl rfl hl.1 (Nat.le_of_ble_eq_true rfl) ⟨⟨rfl, rfl⟩, ⟨Nat.le_of_ble_eq_true rfl, Nat.le_of_ble_eq_true rfl⟩, Nat.le_of_ble_eq_true rfl, Nat.le_of_ble_eq_true rfl⟩ dL_shown_5) S.2 (fun q _ hq => gA_le S.2.1 q hq) (gA_le S.2.1) (fun q _ hq => gA_le S.2.1 q hq) ?_ ?_
  · intro E ce q9 u t H1 locs1 ht hvm hpx hB hz hk hS hce hcv hcl
    obtain ⟨rfl, hB⟩ := hB
    subst ht
    rw [if_neg hpx]
    rcases (show i = 0 ∨ i = 1 ∨ i = 2 by omega) with rfl | rfl | rfl
    · exact absurd hL.symm hpx
    · have hx1 : 3 = x := hL
      subst hx1
      refine h_catch (name := "java/lang/IndexOutOfBoundsException") (E := "java/lang/IndexOutOfBoundsException") X hN [] ⟨0, 10, 13, 25⟩ [⟨0, 10, 17, 73⟩] (hTab.trans rfl) (fun z hz => nomatch hz) (by decide) (by decide) clL_25 cst_3 hce hcv hcl ?_
      refine lv_astore (lv' := [(4, .ref q9), (0, .ref (ad 0)), (1, .int a0), (2, .int a1), (3, .ref (ad 201))]) hx hb dL_shown_13 hl (by decide) rfl (fun ls hl => ?_)
      refine lv_iconst (v := 1) hx hb dL_shown_15 (by decide) ?_
      exact h_reti X (σ := σ') ⟨hB, hS⟩ rfl dL_shown_16 (by decide) (by decide)
    · have hx1 : 5 = x := hL
      subst hx1
      refine h_catch (name := "java/util/NoSuchElementException") (E := "java/util/NoSuchElementException") X hN [⟨0, 10, 13, 25⟩] ⟨0, 10, 17, 73⟩ [] (hTab.trans rfl) (fun z hz => by
        rcases (show z = ⟨0, 10, 13, 25⟩ by simpa using hz) with rfl
        · exact Or.inr ⟨by decide, _, clL_25, by decide⟩) (by decide) (by decide) clL_73 cst_5 hce hcv hcl ?_
      refine lv_astore (lv' := [(4, .ref q9), (0, .ref (ad 0)), (1, .int a0), (2, .int a1), (3, .ref (ad 201))]) hx hb dL_shown_17 hl (by decide) rfl (fun ls hl => ?_)
      refine lv_iconst (v := 2) hx hb dL_shown_19 (by decide) ?_
      exact h_reti X (σ := σ') ⟨hB, hS⟩ rfl dL_shown_20 (by decide) (by decide)
  · intro rr u t H1 locs1 ht hvm hw hB hz hk hS
    obtain ⟨h0, rfl⟩ := hw
    subst ht
    have S1 : gS celC Γ ad 202 σ' s t.heap locs1 := ⟨hB, hS⟩
    have hi0 : i = 0 := by
      rcases (show i = 0 ∨ i = 1 ∨ i = 2 by omega) with rfl | rfl | rfl
      · rfl
      · exact absurd (hL.trans h0) (by decide)
      · exact absurd (hL.trans h0) (by decide)
    subst hi0
    rw [if_pos h0]
    refine lv_i2l hx hb dL_shown_8 rfl ?_
    refine h_last X S1 dL_shown_9 (fun H locs S => ?_)
    refine lv_goto (tgt := 21) hx hb dL_shown_10 (by decide) ?_
    refine lv_iconst (v := 0) hx hb dL_shown_21 (by decide) ?_
    exact h_reti X S rfl dL_shown_22 (by decide) (by decide)
theorem cwL_track : Cond.codeWith yL_track cL_track 5 (some .int) [(0, 10, 13, 25), (0, 10, 17, 13)] ∈ lwg := gq 1067 (by decide +kernel) rfl
set_option maxRecDepth 100000 in
set_option maxHeartbeats 4000000 in
theorem c_L_track (l : Launch) (hl0 : l.stackTraces = false) {Γ : gG} {ad : Nat → Nat} {σ σ' : gSt} {a0 a1 : Int32} {x i : Nat} {r : Int32} (hf : f_X9_track σ a0 a1 = some (x, r, σ')) (hi : i < 3) (hL : [0, 3, 1].getD i 99 = x) (sz : Nat) : Met l yL_track (gwmH yL_track cL_track 5 (some .int) [(0, 10, 13, 25), (0, 10, 17, 13)]) (gR 10 2 12) (fun a U => hPc Γ ad σ [.ref (ad 0), .int a0, .int a1, .ref (ad 201)] sz a U ∧ True) (gQci celC Γ ad 202 (nI i) (if x = 0 then up2 σ' 201 0 r else σ') sz) 2 12 (gA ad 202 sz) := by
  refine gOfH (Qc := fun sz => gQci celC Γ ad 202 (nI i) (if x = 0 then up2 σ' 201 0 r else σ') sz) (fr := fun sz => gA ad 202 sz) (E := fun _ _ => True) RL (by decide) rfl (Nat.le_of_ble_eq_true rfl) (fun p e s m args below meth c H locs ls X hN hTab S _ _ _ hl => ?_)
  have hl : lv_has ls 5 [(0, .ref (ad 0)), (1, .int a0), (2, .int a1), (3, .ref (ad 201))] := hl
  have hx := X.1
  have hb := X.2.1
  refine lv_aload_n hx hb dL_track_0 rfl (lv_at hl 3 rfl) ?_
  refine lv_iconst (v := 0) hx hb dL_track_1 (by decide) ?_
  refine lv_aload_n hx hb dL_track_2 rfl (lv_at hl 0 rfl) ?_
  refine lv_iload_n hx hb dL_track_3 rfl (lv_at hl 1 rfl) ?_
  refine lv_iload_n hx hb dL_track_4 rfl (lv_at hl 2 rfl) ?_
  refine vx_calli (g_xrunV (rest := [.int 0, .ref (ad 201)]) X S (c_X9_track l hl0 (Nat.le_refl 202) hf _) cvX9_track mlL_78 (by decide) (ceC_9 kd_s0 _) rfl rfl rfl hl.1 (Nat.le_of_ble_eq_true rfl) ⟨⟨rfl, rfl⟩, ⟨Nat.le_of_ble_eq_true rfl, Nat.le_of_ble_eq_true rfl⟩, Nat.le_of_ble_eq_true rfl, Nat.le_of_ble_eq_true rfl⟩ dL_track_5) S.2 (fun q _ hq => gA_le S.2.1 q hq) (gA_le S.2.1) (fun q _ hq => gA_le S.2.1 q hq) ?_ ?_
  · intro E ce q9 u t H1 locs1 ht hvm hpx hB hz hk hS hce hcv hcl
    obtain ⟨rfl, hB⟩ := hB
    subst ht
    rw [if_neg hpx]
    rcases (show i = 0 ∨ i = 1 ∨ i = 2 by omega) with rfl | rfl | rfl
    · exact absurd hL.symm hpx
    · have hx1 : 3 = x := hL
      subst hx1
      refine h_catch (name := "java/lang/IndexOutOfBoundsException") (E := "java/lang/IndexOutOfBoundsException") X hN [] ⟨0, 10, 13, 25⟩ [⟨0, 10, 17, 13⟩] (hTab.trans rfl) (fun z hz => nomatch hz) (by decide) (by decide) clL_25 cst_3 hce hcv hcl ?_
      refine lv_astore (lv' := [(4, .ref q9), (0, .ref (ad 0)), (1, .int a0), (2, .int a1), (3, .ref (ad 201))]) hx hb dL_track_13 hl (by decide) rfl (fun ls hl => ?_)
      refine lv_iconst (v := 1) hx hb dL_track_15 (by decide) ?_
      exact h_reti X (σ := σ') ⟨hB, hS⟩ rfl dL_track_16 (by decide) (by decide)
    · have hx1 : 1 = x := hL
      subst hx1
      refine h_catch (name := "java/lang/IllegalArgumentException") (E := "java/lang/IllegalArgumentException") X hN [⟨0, 10, 13, 25⟩] ⟨0, 10, 17, 13⟩ [] (hTab.trans rfl) (fun z hz => by
        rcases (show z = ⟨0, 10, 13, 25⟩ by simpa using hz) with rfl
        · exact Or.inr ⟨by decide, _, clL_25, by decide⟩) (by decide) (by decide) clL_13 cst_1 hce hcv hcl ?_
      refine lv_astore (lv' := [(4, .ref q9), (0, .ref (ad 0)), (1, .int a0), (2, .int a1), (3, .ref (ad 201))]) hx hb dL_track_17 hl (by decide) rfl (fun ls hl => ?_)
      refine lv_iconst (v := 2) hx hb dL_track_19 (by decide) ?_
      exact h_reti X (σ := σ') ⟨hB, hS⟩ rfl dL_track_20 (by decide) (by decide)
  · intro rr u t H1 locs1 ht hvm hw hB hz hk hS
    obtain ⟨h0, rfl⟩ := hw
    subst ht
    have S1 : gS celC Γ ad 202 σ' s t.heap locs1 := ⟨hB, hS⟩
    have hi0 : i = 0 := by
      rcases (show i = 0 ∨ i = 1 ∨ i = 2 by omega) with rfl | rfl | rfl
      · rfl
      · exact absurd (hL.trans h0) (by decide)
      · exact absurd (hL.trans h0) (by decide)
    subst hi0
    rw [if_pos h0]
    refine lv_i2l hx hb dL_track_8 rfl ?_
    refine h_last X S1 dL_track_9 (fun H locs S => ?_)
    refine lv_goto (tgt := 21) hx hb dL_track_10 (by decide) ?_
    refine lv_iconst (v := 0) hx hb dL_track_21 (by decide) ?_
    exact h_reti X S rfl dL_track_22 (by decide) (by decide)
theorem cwL_fastest : Cond.codeWith yL_fastest cL_fastest 4 (some .int) [(0, 9, 12, 25), (0, 9, 15, 73)] ∈ lwg := gq 1094 (by decide +kernel) rfl
set_option maxRecDepth 100000 in
set_option maxHeartbeats 4000000 in
theorem c_L_fastest (l : Launch) (hl0 : l.stackTraces = false) {Γ : gG} {ad : Nat → Nat} {σ σ' : gSt} {a0 : Int32} {x i : Nat} {r : Int32} (hf : f_X9_fastest σ a0 = some (x, r, σ')) (hi : i < 3) (hL : [0, 3, 5].getD i 99 = x) (sz : Nat) : Met l yL_fastest (gwmH yL_fastest cL_fastest 4 (some .int) [(0, 9, 12, 25), (0, 9, 15, 73)]) (gR 10 2 12) (fun a U => hPc Γ ad σ [.ref (ad 0), .int a0, .ref (ad 201)] sz a U ∧ True) (gQci celC Γ ad 202 (nI i) (if x = 0 then up2 σ' 201 0 r else σ') sz) 2 12 (gA ad 202 sz) := by
  refine gOfH (Qc := fun sz => gQci celC Γ ad 202 (nI i) (if x = 0 then up2 σ' 201 0 r else σ') sz) (fr := fun sz => gA ad 202 sz) (E := fun _ _ => True) RL (by decide) rfl (Nat.le_of_ble_eq_true rfl) (fun p e s m args below meth c H locs ls X hN hTab S _ _ _ hl => ?_)
  have hl : lv_has ls 4 [(0, .ref (ad 0)), (1, .int a0), (2, .ref (ad 201))] := hl
  have hx := X.1
  have hb := X.2.1
  refine lv_aload_n hx hb dL_fastest_0 rfl (lv_at hl 2 rfl) ?_
  refine lv_iconst (v := 0) hx hb dL_fastest_1 (by decide) ?_
  refine lv_aload_n hx hb dL_fastest_2 rfl (lv_at hl 0 rfl) ?_
  refine lv_iload_n hx hb dL_fastest_3 rfl (lv_at hl 1 rfl) ?_
  refine vx_calli (g_xrunV (rest := [.int 0, .ref (ad 201)]) X S (c_X9_fastest l hl0 (Nat.le_refl 202) hf _) cvX9_fastest mlL_81 (by decide) (ceC_9 kd_s0 _) rfl rfl rfl hl.1 (Nat.le_of_ble_eq_true rfl) ⟨⟨rfl, rfl⟩, ⟨Nat.le_of_ble_eq_true rfl, Nat.le_of_ble_eq_true rfl⟩, Nat.le_of_ble_eq_true rfl, Nat.le_of_ble_eq_true rfl⟩ dL_fastest_4) S.2 (fun q _ hq => gA_le S.2.1 q hq) (gA_le S.2.1) (fun q _ hq => gA_le S.2.1 q hq) ?_ ?_
  · intro E ce q9 u t H1 locs1 ht hvm hpx hB hz hk hS hce hcv hcl
    obtain ⟨rfl, hB⟩ := hB
    subst ht
    rw [if_neg hpx]
    rcases (show i = 0 ∨ i = 1 ∨ i = 2 by omega) with rfl | rfl | rfl
    · exact absurd hL.symm hpx
    · have hx1 : 3 = x := hL
      subst hx1
      refine h_catch (name := "java/lang/IndexOutOfBoundsException") (E := "java/lang/IndexOutOfBoundsException") X hN [] ⟨0, 9, 12, 25⟩ [⟨0, 9, 15, 73⟩] (hTab.trans rfl) (fun z hz => nomatch hz) (by decide) (by decide) clL_25 cst_3 hce hcv hcl ?_
      refine lv_astore_n (lv' := [(3, .ref q9), (0, .ref (ad 0)), (1, .int a0), (2, .ref (ad 201))]) hx hb dL_fastest_12 rfl hl (by decide) rfl (fun ls hl => ?_)
      refine lv_iconst (v := 1) hx hb dL_fastest_13 (by decide) ?_
      exact h_reti X (σ := σ') ⟨hB, hS⟩ rfl dL_fastest_14 (by decide) (by decide)
    · have hx1 : 5 = x := hL
      subst hx1
      refine h_catch (name := "java/util/NoSuchElementException") (E := "java/util/NoSuchElementException") X hN [⟨0, 9, 12, 25⟩] ⟨0, 9, 15, 73⟩ [] (hTab.trans rfl) (fun z hz => by
        rcases (show z = ⟨0, 9, 12, 25⟩ by simpa using hz) with rfl
        · exact Or.inr ⟨by decide, _, clL_25, by decide⟩) (by decide) (by decide) clL_73 cst_5 hce hcv hcl ?_
      refine lv_astore_n (lv' := [(3, .ref q9), (0, .ref (ad 0)), (1, .int a0), (2, .ref (ad 201))]) hx hb dL_fastest_15 rfl hl (by decide) rfl (fun ls hl => ?_)
      refine lv_iconst (v := 2) hx hb dL_fastest_16 (by decide) ?_
      exact h_reti X (σ := σ') ⟨hB, hS⟩ rfl dL_fastest_17 (by decide) (by decide)
  · intro rr u t H1 locs1 ht hvm hw hB hz hk hS
    obtain ⟨h0, rfl⟩ := hw
    subst ht
    have S1 : gS celC Γ ad 202 σ' s t.heap locs1 := ⟨hB, hS⟩
    have hi0 : i = 0 := by
      rcases (show i = 0 ∨ i = 1 ∨ i = 2 by omega) with rfl | rfl | rfl
      · rfl
      · exact absurd (hL.trans h0) (by decide)
      · exact absurd (hL.trans h0) (by decide)
    subst hi0
    rw [if_pos h0]
    refine lv_i2l hx hb dL_fastest_7 rfl ?_
    refine h_last X S1 dL_fastest_8 (fun H locs S => ?_)
    refine lv_goto (tgt := 18) hx hb dL_fastest_9 (by decide) ?_
    refine lv_iconst (v := 0) hx hb dL_fastest_18 (by decide) ?_
    exact h_reti X S rfl dL_fastest_19 (by decide) (by decide)
theorem cwL_read : Cond.codeWith yL_read cL_read 3 (some .int) [(0, 8, 11, 13), (0, 8, 14, 15)] ∈ lwg := gq 1130 (by decide +kernel) rfl
set_option maxRecDepth 100000 in
set_option maxHeartbeats 4000000 in
theorem c_L_read (l : Launch) (hl0 : l.stackTraces = false) {Γ : gG} {ad : Nat → Nat} {σ σ' : gSt} {x i : Nat} {r : Int32} (hf : f_X9_read σ  = some (x, r, σ')) (hi : i < 3) (hL : [0, 1, 2].getD i 99 = x) (sz : Nat) : Met l yL_read (gwmH yL_read cL_read 3 (some .int) [(0, 8, 11, 13), (0, 8, 14, 15)]) (gR 9 1 6) (fun a U => hPc Γ ad σ [.ref (ad 0), .ref (ad 201)] sz a U ∧ True) (gQci celC Γ ad 202 (nI i) (if x = 0 then up2 σ' 201 0 r else σ') sz) 1 6 (gA ad 202 sz) := by
  refine gOfH (Qc := fun sz => gQci celC Γ ad 202 (nI i) (if x = 0 then up2 σ' 201 0 r else σ') sz) (fr := fun sz => gA ad 202 sz) (E := fun _ _ => True) RL (by decide) rfl (Nat.le_of_ble_eq_true rfl) (fun p e s m args below meth c H locs ls X hN hTab S _ _ _ hl => ?_)
  have hl : lv_has ls 3 [(0, .ref (ad 0)), (1, .ref (ad 201))] := hl
  have hx := X.1
  have hb := X.2.1
  refine lv_aload_n hx hb dL_read_0 rfl (lv_at hl 1 rfl) ?_
  refine lv_iconst (v := 0) hx hb dL_read_1 (by decide) ?_
  refine lv_aload_n hx hb dL_read_2 rfl (lv_at hl 0 rfl) ?_
  refine vx_calli (g_xrunV (rest := [.int 0, .ref (ad 201)]) X S (c_X9_read l hl0 (Nat.le_refl 202) hf _) cvX9_read mlL_90 (by decide) (ceC_9 kd_s0 _) rfl rfl rfl hl.1 (Nat.le_of_ble_eq_true rfl) ⟨⟨rfl, rfl⟩, ⟨Nat.le_of_ble_eq_true rfl, Nat.le_of_ble_eq_true rfl⟩, Nat.le_of_ble_eq_true rfl, Nat.le_of_ble_eq_true rfl⟩ dL_read_3) S.2 (fun q _ hq => gA_le S.2.1 q hq) (gA_le S.2.1) (fun q _ hq => gA_le S.2.1 q hq) ?_ ?_
  · intro E ce q9 u t H1 locs1 ht hvm hpx hB hz hk hS hce hcv hcl
    obtain ⟨rfl, hB⟩ := hB
    subst ht
    rw [if_neg hpx]
    rcases (show i = 0 ∨ i = 1 ∨ i = 2 by omega) with rfl | rfl | rfl
    · exact absurd hL.symm hpx
    · have hx1 : 1 = x := hL
      subst hx1
      refine h_catch (name := "java/lang/IllegalArgumentException") (E := "java/lang/IllegalArgumentException") X hN [] ⟨0, 8, 11, 13⟩ [⟨0, 8, 14, 15⟩] (hTab.trans rfl) (fun z hz => nomatch hz) (by decide) (by decide) clL_13 cst_1 hce hcv hcl ?_
      refine lv_astore_n (lv' := [(2, .ref q9), (0, .ref (ad 0)), (1, .ref (ad 201))]) hx hb dL_read_11 rfl hl (by decide) rfl (fun ls hl => ?_)
      refine lv_iconst (v := 1) hx hb dL_read_12 (by decide) ?_
      exact h_reti X (σ := σ') ⟨hB, hS⟩ rfl dL_read_13 (by decide) (by decide)
    · have hx1 : 2 = x := hL
      subst hx1
      refine h_catch (name := "java/lang/UnsupportedOperationException") (E := "java/lang/UnsupportedOperationException") X hN [⟨0, 8, 11, 13⟩] ⟨0, 8, 14, 15⟩ [] (hTab.trans rfl) (fun z hz => by
        rcases (show z = ⟨0, 8, 11, 13⟩ by simpa using hz) with rfl
        · exact Or.inr ⟨by decide, _, clL_13, by decide⟩) (by decide) (by decide) clL_15 cst_2 hce hcv hcl ?_
      refine lv_astore_n (lv' := [(2, .ref q9), (0, .ref (ad 0)), (1, .ref (ad 201))]) hx hb dL_read_14 rfl hl (by decide) rfl (fun ls hl => ?_)
      refine lv_iconst (v := 2) hx hb dL_read_15 (by decide) ?_
      exact h_reti X (σ := σ') ⟨hB, hS⟩ rfl dL_read_16 (by decide) (by decide)
  · intro rr u t H1 locs1 ht hvm hw hB hz hk hS
    obtain ⟨h0, rfl⟩ := hw
    subst ht
    have S1 : gS celC Γ ad 202 σ' s t.heap locs1 := ⟨hB, hS⟩
    have hi0 : i = 0 := by
      rcases (show i = 0 ∨ i = 1 ∨ i = 2 by omega) with rfl | rfl | rfl
      · rfl
      · exact absurd (hL.trans h0) (by decide)
      · exact absurd (hL.trans h0) (by decide)
    subst hi0
    rw [if_pos h0]
    refine lv_i2l hx hb dL_read_6 rfl ?_
    refine h_last X S1 dL_read_7 (fun H locs S => ?_)
    refine lv_goto (tgt := 17) hx hb dL_read_8 (by decide) ?_
    refine lv_iconst (v := 0) hx hb dL_read_17 (by decide) ?_
    exact h_reti X S rfl dL_read_18 (by decide) (by decide)
theorem cwL_faultPosition : Cond.codeWith yL_faultPosition cL_faultPosition 3 (some .int) [(0, 8, 11, 73)] ∈ lwg := gq 1229 (by decide +kernel) rfl
set_option maxRecDepth 100000 in
set_option maxHeartbeats 4000000 in
theorem c_L_faultPosition (l : Launch) (hl0 : l.stackTraces = false) {Γ : gG} {ad : Nat → Nat} {σ σ' : gSt} {x i : Nat} {r : Int32} (hf : f_X9_faultPosition σ  = some (x, r, σ')) (hi : i < 2) (hL : [0, 5].getD i 99 = x) (sz : Nat) : Met l yL_faultPosition (gwmH yL_faultPosition cL_faultPosition 3 (some .int) [(0, 8, 11, 73)]) (gR 9 1 6) (fun a U => hPc Γ ad σ [.ref (ad 0), .ref (ad 201)] sz a U ∧ True) (gQci celC Γ ad 202 (nI i) (if x = 0 then up2 σ' 201 0 r else σ') sz) 1 6 (gA ad 202 sz) := by
  refine gOfH (Qc := fun sz => gQci celC Γ ad 202 (nI i) (if x = 0 then up2 σ' 201 0 r else σ') sz) (fr := fun sz => gA ad 202 sz) (E := fun _ _ => True) RL (by decide) rfl (Nat.le_of_ble_eq_true rfl) (fun p e s m args below meth c H locs ls X hN hTab S _ _ _ hl => ?_)
  have hl : lv_has ls 3 [(0, .ref (ad 0)), (1, .ref (ad 201))] := hl
  have hx := X.1
  have hb := X.2.1
  refine lv_aload_n hx hb dL_faultPosition_0 rfl (lv_at hl 1 rfl) ?_
  refine lv_iconst (v := 0) hx hb dL_faultPosition_1 (by decide) ?_
  refine lv_aload_n hx hb dL_faultPosition_2 rfl (lv_at hl 0 rfl) ?_
  refine vx_calli (g_xrunV (rest := [.int 0, .ref (ad 201)]) X S (c_X9_faultPosition l hl0 (Nat.le_refl 202) hf _) cvX9_faultPosition mlL_94 (by decide) (ceC_9 kd_s0 _) rfl rfl rfl hl.1 (Nat.le_of_ble_eq_true rfl) ⟨⟨rfl, rfl⟩, ⟨Nat.le_of_ble_eq_true rfl, Nat.le_of_ble_eq_true rfl⟩, Nat.le_of_ble_eq_true rfl, Nat.le_of_ble_eq_true rfl⟩ dL_faultPosition_3) S.2 (fun q _ hq => gA_le S.2.1 q hq) (gA_le S.2.1) (fun q _ hq => gA_le S.2.1 q hq) ?_ ?_
  · intro E ce q9 u t H1 locs1 ht hvm hpx hB hz hk hS hce hcv hcl
    obtain ⟨rfl, hB⟩ := hB
    subst ht
    rw [if_neg hpx]
    rcases (show i = 0 ∨ i = 1 by omega) with rfl | rfl
    · exact absurd hL.symm hpx
    · have hx1 : 5 = x := hL
      subst hx1
      refine h_catch (name := "java/util/NoSuchElementException") (E := "java/util/NoSuchElementException") X hN [] ⟨0, 8, 11, 73⟩ [] (hTab.trans rfl) (fun z hz => nomatch hz) (by decide) (by decide) clL_73 cst_5 hce hcv hcl ?_
      refine lv_astore_n (lv' := [(2, .ref q9), (0, .ref (ad 0)), (1, .ref (ad 201))]) hx hb dL_faultPosition_11 rfl hl (by decide) rfl (fun ls hl => ?_)
      refine lv_iconst (v := 1) hx hb dL_faultPosition_12 (by decide) ?_
      exact h_reti X (σ := σ') ⟨hB, hS⟩ rfl dL_faultPosition_13 (by decide) (by decide)
  · intro rr u t H1 locs1 ht hvm hw hB hz hk hS
    obtain ⟨h0, rfl⟩ := hw
    subst ht
    have S1 : gS celC Γ ad 202 σ' s t.heap locs1 := ⟨hB, hS⟩
    have hi0 : i = 0 := by
      rcases (show i = 0 ∨ i = 1 by omega) with rfl | rfl
      · rfl
      · exact absurd (hL.trans h0) (by decide)
    subst hi0
    rw [if_pos h0]
    refine lv_i2l hx hb dL_faultPosition_6 rfl ?_
    refine h_last X S1 dL_faultPosition_7 (fun H locs S => ?_)
    refine lv_goto (tgt := 14) hx hb dL_faultPosition_8 (by decide) ?_
    refine lv_iconst (v := 0) hx hb dL_faultPosition_14 (by decide) ?_
    exact h_reti X S rfl dL_faultPosition_15 (by decide) (by decide)
theorem cwL_refusal : Cond.codeWith yL_refusal cL_refusal 4 (some .int) [(0, 9, 12, 73)] ∈ lwg := gq 1237 (by decide +kernel) rfl
set_option maxRecDepth 100000 in
set_option maxHeartbeats 4000000 in
theorem c_L_refusal (l : Launch) (hl0 : l.stackTraces = false) {Γ : gG} {ad : Nat → Nat} {σ σ' : gSt} {a0 : Int32} {x i : Nat} {r : Int32} (hf : f_X9_refusal σ a0 = some (x, r, σ')) (hi : i < 2) (hL : [0, 5].getD i 99 = x) (sz : Nat) : Met l yL_refusal (gwmH yL_refusal cL_refusal 4 (some .int) [(0, 9, 12, 73)]) (gR 9 1 6) (fun a U => hPc Γ ad σ [.ref (ad 0), .int a0, .ref (ad 201)] sz a U ∧ True) (gQci celC Γ ad 202 (nI i) (if x = 0 then up2 σ' 201 0 r else σ') sz) 1 6 (gA ad 202 sz) := by
  refine gOfH (Qc := fun sz => gQci celC Γ ad 202 (nI i) (if x = 0 then up2 σ' 201 0 r else σ') sz) (fr := fun sz => gA ad 202 sz) (E := fun _ _ => True) RL (by decide) rfl (Nat.le_of_ble_eq_true rfl) (fun p e s m args below meth c H locs ls X hN hTab S _ _ _ hl => ?_)
  have hl : lv_has ls 4 [(0, .ref (ad 0)), (1, .int a0), (2, .ref (ad 201))] := hl
  have hx := X.1
  have hb := X.2.1
  refine lv_aload_n hx hb dL_refusal_0 rfl (lv_at hl 2 rfl) ?_
  refine lv_iconst (v := 0) hx hb dL_refusal_1 (by decide) ?_
  refine lv_aload_n hx hb dL_refusal_2 rfl (lv_at hl 0 rfl) ?_
  refine lv_iload_n hx hb dL_refusal_3 rfl (lv_at hl 1 rfl) ?_
  refine vx_calli (g_xrunV (rest := [.int 0, .ref (ad 201)]) X S (c_X9_refusal l hl0 (Nat.le_refl 202) hf _) cvX9_refusal mlL_97 (by decide) (ceC_9 kd_s0 _) rfl rfl rfl hl.1 (Nat.le_of_ble_eq_true rfl) ⟨⟨rfl, rfl⟩, ⟨Nat.le_of_ble_eq_true rfl, Nat.le_of_ble_eq_true rfl⟩, Nat.le_of_ble_eq_true rfl, Nat.le_of_ble_eq_true rfl⟩ dL_refusal_4) S.2 (fun q _ hq => gA_le S.2.1 q hq) (gA_le S.2.1) (fun q _ hq => gA_le S.2.1 q hq) ?_ ?_
  · intro E ce q9 u t H1 locs1 ht hvm hpx hB hz hk hS hce hcv hcl
    obtain ⟨rfl, hB⟩ := hB
    subst ht
    rw [if_neg hpx]
    rcases (show i = 0 ∨ i = 1 by omega) with rfl | rfl
    · exact absurd hL.symm hpx
    · have hx1 : 5 = x := hL
      subst hx1
      refine h_catch (name := "java/util/NoSuchElementException") (E := "java/util/NoSuchElementException") X hN [] ⟨0, 9, 12, 73⟩ [] (hTab.trans rfl) (fun z hz => nomatch hz) (by decide) (by decide) clL_73 cst_5 hce hcv hcl ?_
      refine lv_astore_n (lv' := [(3, .ref q9), (0, .ref (ad 0)), (1, .int a0), (2, .ref (ad 201))]) hx hb dL_refusal_12 rfl hl (by decide) rfl (fun ls hl => ?_)
      refine lv_iconst (v := 1) hx hb dL_refusal_13 (by decide) ?_
      exact h_reti X (σ := σ') ⟨hB, hS⟩ rfl dL_refusal_14 (by decide) (by decide)
  · intro rr u t H1 locs1 ht hvm hw hB hz hk hS
    obtain ⟨h0, rfl⟩ := hw
    subst ht
    have S1 : gS celC Γ ad 202 σ' s t.heap locs1 := ⟨hB, hS⟩
    have hi0 : i = 0 := by
      rcases (show i = 0 ∨ i = 1 by omega) with rfl | rfl
      · rfl
      · exact absurd (hL.trans h0) (by decide)
    subst hi0
    rw [if_pos h0]
    refine lv_i2l hx hb dL_refusal_7 rfl ?_
    refine h_last X S1 dL_refusal_8 (fun H locs S => ?_)
    refine lv_goto (tgt := 15) hx hb dL_refusal_9 (by decide) ?_
    refine lv_iconst (v := 0) hx hb dL_refusal_15 (by decide) ?_
    exact h_reti X S rfl dL_refusal_16 (by decide) (by decide)
theorem cwL_undo : Cond.codeWith yL_undo cL_undo 3 (some .int) [(0, 8, 11, 27)] ∈ lwg := gq 1245 (by decide +kernel) rfl
set_option maxRecDepth 100000 in
set_option maxHeartbeats 4000000 in
theorem c_L_undo (l : Launch) (hl0 : l.stackTraces = false) {Γ : gG} {ad : Nat → Nat} {σ σ' : gSt} {x i : Nat} {r : Int32} (hf : f_X9_undo σ  = some (x, r, σ')) (hi : i < 2) (hL : [0, 4].getD i 99 = x) (sz : Nat) : Met l yL_undo (gwmH yL_undo cL_undo 3 (some .int) [(0, 8, 11, 27)]) (gR 9 1 6) (fun a U => hPc Γ ad σ [.ref (ad 0), .ref (ad 201)] sz a U ∧ True) (gQci celC Γ ad 202 (nI i) (if x = 0 then up2 σ' 201 0 r else σ') sz) 1 6 (gA ad 202 sz) := by
  refine gOfH (Qc := fun sz => gQci celC Γ ad 202 (nI i) (if x = 0 then up2 σ' 201 0 r else σ') sz) (fr := fun sz => gA ad 202 sz) (E := fun _ _ => True) RL (by decide) rfl (Nat.le_of_ble_eq_true rfl) (fun p e s m args below meth c H locs ls X hN hTab S _ _ _ hl => ?_)
  have hl : lv_has ls 3 [(0, .ref (ad 0)), (1, .ref (ad 201))] := hl
  have hx := X.1
  have hb := X.2.1
  refine lv_aload_n hx hb dL_undo_0 rfl (lv_at hl 1 rfl) ?_
  refine lv_iconst (v := 0) hx hb dL_undo_1 (by decide) ?_
  refine lv_aload_n hx hb dL_undo_2 rfl (lv_at hl 0 rfl) ?_
  refine vx_calli (g_xrunV (rest := [.int 0, .ref (ad 201)]) X S (c_X9_undo l hl0 (Nat.le_refl 202) hf _) cvX9_undo mlL_101 (by decide) (ceC_9 kd_s0 _) rfl rfl rfl hl.1 (Nat.le_of_ble_eq_true rfl) ⟨⟨rfl, rfl⟩, ⟨Nat.le_of_ble_eq_true rfl, Nat.le_of_ble_eq_true rfl⟩, Nat.le_of_ble_eq_true rfl, Nat.le_of_ble_eq_true rfl⟩ dL_undo_3) S.2 (fun q _ hq => gA_le S.2.1 q hq) (gA_le S.2.1) (fun q _ hq => gA_le S.2.1 q hq) ?_ ?_
  · intro E ce q9 u t H1 locs1 ht hvm hpx hB hz hk hS hce hcv hcl
    obtain ⟨rfl, hB⟩ := hB
    subst ht
    rw [if_neg hpx]
    rcases (show i = 0 ∨ i = 1 by omega) with rfl | rfl
    · exact absurd hL.symm hpx
    · have hx1 : 4 = x := hL
      subst hx1
      refine h_catch (name := "java/lang/IllegalStateException") (E := "java/lang/IllegalStateException") X hN [] ⟨0, 8, 11, 27⟩ [] (hTab.trans rfl) (fun z hz => nomatch hz) (by decide) (by decide) clL_27 cst_4 hce hcv hcl ?_
      refine lv_astore_n (lv' := [(2, .ref q9), (0, .ref (ad 0)), (1, .ref (ad 201))]) hx hb dL_undo_11 rfl hl (by decide) rfl (fun ls hl => ?_)
      refine lv_iconst (v := 1) hx hb dL_undo_12 (by decide) ?_
      exact h_reti X (σ := σ') ⟨hB, hS⟩ rfl dL_undo_13 (by decide) (by decide)
  · intro rr u t H1 locs1 ht hvm hw hB hz hk hS
    obtain ⟨h0, rfl⟩ := hw
    subst ht
    have S1 : gS celC Γ ad 202 σ' s t.heap locs1 := ⟨hB, hS⟩
    have hi0 : i = 0 := by
      rcases (show i = 0 ∨ i = 1 by omega) with rfl | rfl
      · rfl
      · exact absurd (hL.trans h0) (by decide)
    subst hi0
    rw [if_pos h0]
    refine lv_i2l hx hb dL_undo_6 rfl ?_
    refine h_last X S1 dL_undo_7 (fun H locs S => ?_)
    refine lv_goto (tgt := 14) hx hb dL_undo_8 (by decide) ?_
    refine lv_iconst (v := 0) hx hb dL_undo_14 (by decide) ?_
    exact h_reti X S rfl dL_undo_15 (by decide) (by decide)
theorem cwL_restoreSnapshot : Cond.codeWith yL_restoreSnapshot cL_restoreSnapshot 3 (some .int) [(0, 8, 11, 27)] ∈ lwg := gq 1258 (by decide +kernel) rfl
set_option maxRecDepth 100000 in
set_option maxHeartbeats 4000000 in
theorem c_L_restoreSnapshot (l : Launch) (hl0 : l.stackTraces = false) {Γ : gG} {ad : Nat → Nat} {σ σ' : gSt} {x i : Nat} {r : Int32} (hf : f_X9_restoreSnapshot σ  = some (x, r, σ')) (hi : i < 2) (hL : [0, 4].getD i 99 = x) (sz : Nat) : Met l yL_restoreSnapshot (gwmH yL_restoreSnapshot cL_restoreSnapshot 3 (some .int) [(0, 8, 11, 27)]) (gR 9 1 6) (fun a U => hPc Γ ad σ [.ref (ad 0), .ref (ad 201)] sz a U ∧ True) (gQci celC Γ ad 202 (nI i) (if x = 0 then up2 σ' 201 0 r else σ') sz) 1 6 (gA ad 202 sz) := by
  refine gOfH (Qc := fun sz => gQci celC Γ ad 202 (nI i) (if x = 0 then up2 σ' 201 0 r else σ') sz) (fr := fun sz => gA ad 202 sz) (E := fun _ _ => True) RL (by decide) rfl (Nat.le_of_ble_eq_true rfl) (fun p e s m args below meth c H locs ls X hN hTab S _ _ _ hl => ?_)
  have hl : lv_has ls 3 [(0, .ref (ad 0)), (1, .ref (ad 201))] := hl
  have hx := X.1
  have hb := X.2.1
  refine lv_aload_n hx hb dL_restoreSnapshot_0 rfl (lv_at hl 1 rfl) ?_
  refine lv_iconst (v := 0) hx hb dL_restoreSnapshot_1 (by decide) ?_
  refine lv_aload_n hx hb dL_restoreSnapshot_2 rfl (lv_at hl 0 rfl) ?_
  refine vx_calli (g_xrunV (rest := [.int 0, .ref (ad 201)]) X S (c_X9_restoreSnapshot l hl0 (Nat.le_refl 202) hf _) cvX9_restoreSnapshot mlL_104 (by decide) (ceC_9 kd_s0 _) rfl rfl rfl hl.1 (Nat.le_of_ble_eq_true rfl) ⟨⟨rfl, rfl⟩, ⟨Nat.le_of_ble_eq_true rfl, Nat.le_of_ble_eq_true rfl⟩, Nat.le_of_ble_eq_true rfl, Nat.le_of_ble_eq_true rfl⟩ dL_restoreSnapshot_3) S.2 (fun q _ hq => gA_le S.2.1 q hq) (gA_le S.2.1) (fun q _ hq => gA_le S.2.1 q hq) ?_ ?_
  · intro E ce q9 u t H1 locs1 ht hvm hpx hB hz hk hS hce hcv hcl
    obtain ⟨rfl, hB⟩ := hB
    subst ht
    rw [if_neg hpx]
    rcases (show i = 0 ∨ i = 1 by omega) with rfl | rfl
    · exact absurd hL.symm hpx
    · have hx1 : 4 = x := hL
      subst hx1
      refine h_catch (name := "java/lang/IllegalStateException") (E := "java/lang/IllegalStateException") X hN [] ⟨0, 8, 11, 27⟩ [] (hTab.trans rfl) (fun z hz => nomatch hz) (by decide) (by decide) clL_27 cst_4 hce hcv hcl ?_
      refine lv_astore_n (lv' := [(2, .ref q9), (0, .ref (ad 0)), (1, .ref (ad 201))]) hx hb dL_restoreSnapshot_11 rfl hl (by decide) rfl (fun ls hl => ?_)
      refine lv_iconst (v := 1) hx hb dL_restoreSnapshot_12 (by decide) ?_
      exact h_reti X (σ := σ') ⟨hB, hS⟩ rfl dL_restoreSnapshot_13 (by decide) (by decide)
  · intro rr u t H1 locs1 ht hvm hw hB hz hk hS
    obtain ⟨h0, rfl⟩ := hw
    subst ht
    have S1 : gS celC Γ ad 202 σ' s t.heap locs1 := ⟨hB, hS⟩
    have hi0 : i = 0 := by
      rcases (show i = 0 ∨ i = 1 by omega) with rfl | rfl
      · rfl
      · exact absurd (hL.trans h0) (by decide)
    subst hi0
    rw [if_pos h0]
    refine lv_i2l hx hb dL_restoreSnapshot_6 rfl ?_
    refine h_last X S1 dL_restoreSnapshot_7 (fun H locs S => ?_)
    refine lv_goto (tgt := 14) hx hb dL_restoreSnapshot_8 (by decide) ?_
    refine lv_iconst (v := 0) hx hb dL_restoreSnapshot_14 (by decide) ?_
    exact h_reti X S rfl dL_restoreSnapshot_15 (by decide) (by decide)
