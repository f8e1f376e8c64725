/-! ===== retime: the walk; the Retiming that it makes is cell 202 of a world with one cell more ===== -/
theorem kd_all : ∀ k, k < 203 → gkd k = 0 ∨ gkd k = 1 ∨ gkd k = 2 ∨ gkd k = 3 ∨ gkd k = 4 ∨ gkd k = 5 ∨ gkd k = 6 ∨ gkd k = 7 ∨ gkd k = 8 ∨ gkd k = 9 ∨ gkd k = 30 ∨ gkd k = 106 ∨ gkd k = 116 ∨ gkd k = 120 ∨ gkd k = 130 ∨ gkd k = 160 ∨ gkd k = 484 ∨ gkd k = 209 := by decide +kernel
theorem kd_202 : gkd 202 = 6 := by decide +kernel
theorem kd_n202 {k d c : Nat} (h : gkd (k + d) = c) (hc : c ≠ 6) : k + d ≠ 202 := fun e => hc (by rw [← h, e, kd_202])
theorem celC_ad {Γ : gG} {ad ad' : Nat → Nat} {k : Nat} {r : Nat → Int32} (hk : k < 203) (hj : ∀ j, j ≠ 202 → ad' j = ad j) (h9 : gkd k = 5 → (r 9).toNatClampNeg ≠ 202) : celC Γ ad' k r = celC Γ ad k r := by
  rcases kd_all k hk with h | h | h | h | h | h | h | h | h | h | h | h | h | h | h | h | h | h
  · rw [ceC_0 h, ceC_0 h, hj _ (kd_n202 (kd_0_1 h) (by decide))]
  · rw [ceC_1 h, ceC_1 h, hj 1 (by decide), hj 17 (by decide), hj 21 (by decide), hj 23 (by decide)]
  · rw [ceC_2 h, ceC_2 h, hj 1 (by decide), hj 18 (by decide)]
  · rw [ceC_3 h, ceC_3 h, hj _ (kd_n202 (kd_3_1 h) (by decide)), hj _ (kd_n202 (kd_3_2 h) (by decide)), hj _ (kd_n202 (kd_3_4 h) (by decide)), hj _ (kd_n202 (kd_3_10 h) (by decide))]
  · rw [ceC_4 h, ceC_4 h, hj 26 (by decide)]
  · rw [ceC_5 h, ceC_5 h, hj 192 (by decide), hj 193 (by decide), hj 194 (by decide), hj 195 (by decide), hj 196 (by decide), hj 197 (by decide), hj 198 (by decide), hj _ (h9 h)]
  · rw [ceC_6 h, ceC_6 h]
  · rw [ceC_7 h, ceC_7 h, hj _ (kd_n202 (kd_7_1 h) (by decide))]
  · rw [ceC_8 h, ceC_8 h, hj _ (kd_n202 (kd_8_1 h) (by decide)), hj _ (kd_n202 (kd_8_2 h) (by decide)), hj _ (kd_n202 (kd_8_3 h) (by decide)), hj _ (kd_n202 (kd_8_4 h) (by decide)), hj _ (kd_n202 (kd_8_5 h) (by decide))]
  · rw [ceC_9 h, ceC_9 h, hj 1 (by decide), hj 17 (by decide), hj 20 (by decide), hj 25 (by decide), hj 171 (by decide), hj 187 (by decide), hj 189 (by decide), hj 191 (by decide)]
  · rw [ceC_30 h, ceC_30 h]
  · rw [ceC_106 h, ceC_106 h]
  · rw [ceC_116 h, ceC_116 h]
  · rw [ceC_120 h, ceC_120 h]
  · rw [ceC_130 h, ceC_130 h]
  · rw [ceC_160 h, ceC_160 h]
  · rw [ceC_484 h, ceC_484 h]
  · rw [ceC_209 h, ceC_209 h]
    have e : (fun j => some (ad' (gFx j))) = fun j => some (ad (gFx j)) := funext fun j => by rw [hj _ (by unfold gFx; omega)]
    rw [e]
theorem kd5_191 : ∀ k, k < 203 → gkd k = 5 → k = 191 := by decide +kernel
def r9 (σ : gSt) : Prop := (σ 191 9).toNatClampNeg ≠ 202
def adR (ad : Nat → Nat) (q : Nat) : Nat → Nat := fun k => if k = 202 then q else ad k
theorem adR_n {ad : Nat → Nat} {q j : Nat} (h : j ≠ 202) : adR ad q j = ad j := by unfold adR; rw [if_neg h]
theorem gws_202 {Γ : gG} {ad : Nat → Nat} {q : Nat} {σ : gSt} (h9 : r9 σ) {H : Heap} (hP : va_P Γ.1 gCl (gws celC Γ (adR ad q) 203 σ) H) : va_P Γ.1 gCl (gws celC Γ ad 202 σ) H := by
  intro k x hk
  obtain ⟨h1, rfl⟩ := gws_inv hk
  have h2 := hP k _ (gws_get (show k < 203 by omega))
  rw [adR_n (by omega), celC_ad (ad := ad) (by omega) (fun j hj => adR_n hj) (fun h => by rw [kd5_191 k (by omega) h]; exact h9)] at h2
  exact h2
theorem gws_203 {Γ : gG} {ad : Nat → Nat} {q : Nat} {σ σ' : gSt} (h9 : r9 σ) (hσ : ∀ k, k ≠ 202 → σ' k = σ k) {H : Heap} (hP : va_P Γ.1 gCl (gws celC Γ ad 202 σ) H) (hq : va_at Γ.1 gCl (q, .inr (6, [.int (σ' 202 0), .int (σ' 202 1), .int (σ' 202 2), .int (σ' 202 3)])) H) : va_P Γ.1 gCl (gws celC Γ (adR ad q) 203 σ') H := by
  intro k x hk
  obtain ⟨h1, rfl⟩ := gws_inv hk
  by_cases h : k = 202
  · subst h
    rw [ceC_6 kd_202]
    have : adR ad q 202 = q := if_pos rfl
    rw [this]
    exact hq
  · have h2 := hP k _ (gws_get (show k < 202 by omega))
    rw [adR_n h, hσ k h, celC_ad (ad := ad) (by omega) (fun j hj => adR_n hj) (fun h => by rw [kd5_191 k (by omega) h]; exact h9)]
    exact h2
theorem gA_203 {ad : Nat → Nat} {q sz : Nat} (hq : sz ≤ q) : gA (adR ad q) 203 sz = gA ad 202 sz := by
  funext x
  refine propext ⟨fun h => ?_, fun h => ?_⟩
  · rcases h with ⟨k, hk, rfl⟩ | h
    · by_cases e : k = 202
      · right; unfold adR; rw [if_pos e]; exact hq
      · left; exact ⟨k, by omega, adR_n e⟩
    · exact Or.inr h
  · rcases h with ⟨k, hk, rfl⟩ | h
    · left; exact ⟨k, by omega, (adR_n (by omega)).symm⟩
    · exact Or.inr h
theorem gInj_203 {ad : Nat → Nat} {q : Nat} (h : gInj ad 202) (hq : ∀ k, k < 202 → ad k ≠ q) : gInj (adR ad q) 203 := by
  intro i j hi hj e
  by_cases h1 : i = 202
  · by_cases h2 : j = 202
    · omega
    · have e2 : q = ad j := by rw [← adR_n (ad := ad) (q := q) h2, ← e, h1]; unfold adR; rw [if_pos rfl]
      exact absurd e2.symm (hq j (by omega))
  · by_cases h2 : j = 202
    · have e2 : ad i = q := by rw [← adR_n (ad := ad) (q := q) h1, e, h2]; unfold adR; rw [if_pos rfl]
      exact absurd e2 (hq i (by omega))
    · rw [adR_n h1, adR_n h2] at e
      exact h i j (by omega) (by omega) e
set_option maxRecDepth 100000 in
set_option maxHeartbeats 4000000 in
theorem c_X6_init (l : Launch) {Γ : gG} {b : Nat} (u v x y : Int32) : gMk l Γ yX6_init cX6_init 5 (gR 2 0 0) [.int u, .int v, .int x, .int y] b (.inr (6, [.int 0, .int 0, .int 0, .int 0])) 1 [.inr (6, [.int u, .int v, .int (if 0 ≤ y - v then y - v else 0 - (y - v)), .int (if 0 ≤ x - u then x - u else 0 - (x - u))])] 0 0 := by
  refine gzOf RX6 (by decide) rfl rfl (Nat.le_of_ble_eq_true rfl) (fun p e s m args below meth c H locs ls X hin hF B hl => ?_)
  have hx := X.1
  have hb := X.2.1
  have hl : lv_has ls 5 [(0, .ref b), (1, .int u), (2, .int v), (3, .int x), (4, .int y)] := hl
  refine lv_aload_n hx hb dX6_init_0 rfl (lv_at hl 0 rfl) ?_
  refine gz_obj X hl.1 mlX6_1 oi_i oi_c (Nat.le_of_ble_eq_true rfl) (Nat.le_of_ble_eq_true rfl) dX6_init_1 ?_
  refine lv_aload_n hx hb dX6_init_4 rfl (lv_at hl 0 rfl) ?_
  refine lv_iload_n hx hb dX6_init_5 rfl (lv_at hl 1 rfl) ?_
  refine gz_put (b := b) X B 0 rfl rfl inX6 tyX6 tyX6_ok nmX6 0 (by decide) flX6_7 (Or.inr ⟨rfl, hin, rfl⟩) rfl rfl (Nat.le_of_ble_eq_true rfl) (cs' := [.inr (6, [.int u, .int 0, .int 0, .int 0])]) rfl dX6_init_6 (fun H locs B => ?_)
  refine lv_aload_n hx hb dX6_init_9 rfl (lv_at hl 0 rfl) ?_
  refine lv_iload_n hx hb dX6_init_10 rfl (lv_at hl 2 rfl) ?_
  refine gz_put (b := b) X B 0 rfl rfl inX6 tyX6 tyX6_ok nmX6 1 (by decide) flX6_13 (Or.inr ⟨rfl, hin, rfl⟩) rfl rfl (Nat.le_of_ble_eq_true rfl) (cs' := [.inr (6, [.int u, .int v, .int 0, .int 0])]) rfl dX6_init_11 (fun H locs B => ?_)
  refine lv_aload_n hx hb dX6_init_14 rfl (lv_at hl 0 rfl) ?_
  refine lv_iload hx hb dX6_init_15 (lv_at hl 4 rfl) ?_
  refine lv_iload_n hx hb dX6_init_17 rfl (lv_at hl 2 rfl) ?_
  refine lv_isub hx hb dX6_init_18 ?_
  refine g_abs X hl.1 mwX6_16 ⟨⟨by decide, Nat.le_of_ble_eq_true rfl⟩, Nat.le_of_ble_eq_true rfl, Nat.le_of_ble_eq_true rfl⟩ dX6_init_19 ?_
  refine gz_put (b := b) X B 0 rfl rfl inX6 tyX6 tyX6_ok nmX6 2 (by decide) flX6_22 (Or.inr ⟨rfl, hin, rfl⟩) rfl rfl (Nat.le_of_ble_eq_true rfl) (cs' := [.inr (6, [.int u, .int v, .int (if 0 ≤ y - v then y - v else 0 - (y - v)), .int 0])]) rfl dX6_init_22 (fun H locs B => ?_)
  refine lv_aload_n hx hb dX6_init_25 rfl (lv_at hl 0 rfl) ?_
  refine lv_iload_n hx hb dX6_init_26 rfl (lv_at hl 3 rfl) ?_
  refine lv_iload_n hx hb dX6_init_27 rfl (lv_at hl 1 rfl) ?_
  refine lv_isub hx hb dX6_init_28 ?_
  refine g_abs X hl.1 mwX6_16 ⟨⟨by decide, Nat.le_of_ble_eq_true rfl⟩, Nat.le_of_ble_eq_true rfl, Nat.le_of_ble_eq_true rfl⟩ dX6_init_29 ?_
  refine gz_put (b := b) X B 0 rfl rfl inX6 tyX6 tyX6_ok nmX6 3 (by decide) flX6_25 (Or.inr ⟨rfl, hin, rfl⟩) rfl rfl (Nat.le_of_ble_eq_true rfl) (cs' := [.inr (6, [.int u, .int v, .int (if 0 ≤ y - v then y - v else 0 - (y - v)), .int (if 0 ≤ x - u then x - u else 0 - (x - u))])]) rfl dX6_init_32 (fun H locs B => ?_)
  exact gz_retv X B dX6_init_35 (by decide) (by decide)
theorem W.mono {p : Program} {l : Launch} {e : Env} {R : Room} {s : State} {m : MethodId} {args : Array Value} {below : List Frame} {meth : Method} {c : Code} {H : Heap} {locs : List Loc} {cells slots : Nat} {Q Q' : State → Prop} {g : JFrame} (h : ∀ t, Q' t → Q t) (k : W p l e R s m args below meth c H locs cells slots Q' g) : W p l e R s m args below meth c H locs cells slots Q g := fun T hT X => by
  obtain ⟨t, a, b⟩ := k T hT X
  exact ⟨t, a, h t b⟩
theorem gQxi_203 {Γ : gG} {ad : Nat → Nat} {q z : Nat} {r : Int32} {σ' : gSt} {mc ms : Nat} {below : List Frame} {args : Array Value} {s : State} (hq : s.heap.size ≤ q) (h9 : r9 σ') (t : State) (h : gQxi Γ (adR ad q) 203 z r σ' mc ms below args s t) : gQxi Γ ad 202 z r σ' mc ms below args s t := by
  obtain ⟨o, a, b, c⟩ := h
  refine ⟨o, a, b, ?_⟩
  rw [gA_203 hq] at c
  rcases c with ⟨⟨⟨r', u, e1, e2, e3⟩, hF⟩, L⟩ | ⟨q9, e0, E, ce, L, ⟨u, e1, ⟨e2, e3⟩, hF⟩, e4⟩
  · rw [gA_203 hq] at hF
    exact Or.inl ⟨⟨⟨r', u, e1, e2, gws_202 h9 e3⟩, hF⟩, L⟩
  · rw [gA_203 hq] at hF
    exact Or.inr ⟨q9, e0, E, ce, L, ⟨u, e1, ⟨e2, gws_202 h9 e3⟩, hF⟩, e4⟩
theorem st_240 : (RX9, 240, "the points tell no retiming") ∈ gStr := by decide +kernel
section RETIME
variable {l : Launch} {Γ : gG} {ad : Nat → Nat} {p : Program} {e : Env} {s : State} {m : MethodId} {args : Array Value} {below : List Frame} {meth : Method} {c : Code}
set_option maxRecDepth 100000 in
set_option maxHeartbeats 4000000 in
/-- behind the making: a world with one cell more -/
theorem w_X9_retime_c (hl0 : l.stackTraces = false) {N : Nat} (hN : 203 ≤ N) (X : gX celC Γ ad N RX9 cX9_retime 7 (some .int) p s m args meth c) (hT : ∀ x ∈ c.exceptionTable.toList, False) {σ σ' : gSt} {a0 u v x y q2 : Int32} {z : Nat} {r : Int32}
    (h1 : f_X1_retimeRefusal σ a0 202 = some q2) (hf : g_x2 (f_X9_passOrRefuse σ q2) (fun x s => (x, (0 : Int32), s)) (fun σ2 => g_k1 (f_X4_keep σ2 1) fun σ3 => g_k2 (f_X1_retimeCaptions σ3 a0 202) fun r σ4 => some (0, r, σ4)) = some (z, r, σ'))
    (H : Heap) (locs : List Loc) (ls : Array Slot) (S : gS celC Γ ad N σ s H locs) (hl : lv_has ls 7 [(0, .ref (ad 0)), (1, .int a0), (2, .int u), (3, .int v), (4, .int x), (5, .int y)]) :
    W p l e (gR 10 3 16) s m args below meth c H locs 2 10 (gQxi Γ ad N z r σ' 3 16 below args s) (F0 m 45 ls [.ref (ad 202)]) := by
  have hN2 : 202 ≤ N := by omega
  have hx := X.1
  have hb := X.2.1
  refine lv_astore (lv' := [(6, .ref (ad 202)), (0, .ref (ad 0)), (1, .int a0), (2, .int u), (3, .int v), (4, .int x), (5, .int y)]) hx hb dX9_retime_45 hl (by decide) rfl (fun ls hl => ?_)
  refine lv_aload_n hx hb dX9_retime_47 rfl (lv_at hl 1 rfl) ?_
  refine lv_aload_n hx hb dX9_retime_48 rfl (lv_at hl 1 rfl) ?_
  refine gfX9_30 X S hN2 kd_s0 dX9_retime_49 ?_
  refine lv_iload_n hx hb dX9_retime_52 rfl (lv_at hl 2 rfl) ?_
  refine lv_aload hx hb dX9_retime_53 (lv_at hl 0 rfl) ?_
  refine g_ki S (g_runV (rest := [.ref (ad 0)]) X S (c_X1_retimeRefusal l hN2 kd_202 (by omega) h1 _) cvX1_retimeRefusal mlX9_247 (kd_N kd_s20 (by decide) hN2) (ceC_1 kd_s20 _) rfl rfl rfl hl.1 (Nat.le_of_ble_eq_true rfl) ⟨⟨rfl, rfl⟩, ⟨Nat.le_of_ble_eq_true rfl, Nat.le_of_ble_eq_true rfl⟩, Nat.le_of_ble_eq_true rfl, Nat.le_of_ble_eq_true rfl⟩ dX9_retime_55) (fun H locs S => ?_)
  obtain ⟨x4, σ5, hx4, hf, hfx⟩ := g_sx2 hf
  refine g_kxG S X hT (g_xrunV (rest := []) X S (c_X9_passOrRefuse l hl0 hN2 hx4 _) cvX9_passOrRefuse mlX9_86 (kd_N kd_s0 (by decide) hN2) (ceC_9 kd_s0 _) rfl rfl rfl hl.1 (Nat.le_of_ble_eq_true rfl) ⟨⟨rfl, rfl⟩, ⟨Nat.le_of_ble_eq_true rfl, Nat.le_of_ble_eq_true rfl⟩, Nat.le_of_ble_eq_true rfl, Nat.le_of_ble_eq_true rfl⟩ dX9_retime_58) (fun h0 => by have h9 := hfx h0; cases h9; exact ⟨rfl, rfl⟩) (by decide) (by decide) (fun h0 H locs S => ?_)
  have hf := hf h0
  refine lv_aload_n hx hb dX9_retime_61 rfl (lv_at hl 1 rfl) ?_
  refine gfX9_37 X S hN2 kd_s0 dX9_retime_62 ?_
  refine lv_aload_n hx hb dX9_retime_65 rfl (lv_at hl 1 rfl) ?_
  refine gfX9_10 X S hN2 kd_s0 dX9_retime_66 ?_
  obtain ⟨σ6, hσ6, hf⟩ := g_s1 hf
  refine g_kv S (g_runV (rest := []) X S (c_X4_keep l hN2 kd_s1 hσ6 _) cvX4_keep mlX9_90 (kd_N kd_s25 (by decide) hN2) (ceC_4 kd_s25 _) rfl rfl rfl hl.1 (Nat.le_of_ble_eq_true rfl) ⟨⟨rfl, rfl⟩, ⟨Nat.le_of_ble_eq_true rfl, Nat.le_of_ble_eq_true rfl⟩, Nat.le_of_ble_eq_true rfl, Nat.le_of_ble_eq_true rfl⟩ dX9_retime_69) (fun H locs S => ?_)
  refine lv_aload_n hx hb dX9_retime_72 rfl (lv_at hl 1 rfl) ?_
  refine gfX9_30 X S hN2 kd_s0 dX9_retime_73 ?_
  refine lv_iload_n hx hb dX9_retime_76 rfl (lv_at hl 2 rfl) ?_
  refine lv_aload hx hb dX9_retime_77 (lv_at hl 0 rfl) ?_
  obtain ⟨v7, σ8, hv7, hf⟩ := g_s2 hf
  refine g_ki S (g_runV (rest := []) X S (c_X1_retimeCaptions l hN2 kd_202 (by omega) hv7 _) cvX1_retimeCaptions mlX9_251 (kd_N kd_s20 (by decide) hN2) (ceC_1 kd_s20 _) rfl rfl rfl hl.1 (Nat.le_of_ble_eq_true rfl) ⟨⟨rfl, rfl⟩, ⟨Nat.le_of_ble_eq_true rfl, Nat.le_of_ble_eq_true rfl⟩, Nat.le_of_ble_eq_true rfl, Nat.le_of_ble_eq_true rfl⟩ dX9_retime_79) (fun H locs S => ?_)
  cases hf
  exact g_xreti X S rfl dX9_retime_82 (by decide) (by decide)
theorem rtW_n {σ : gSt} {u v x y : Int32} {k : Nat} (h : k ≠ 202) : rtW σ u v x y k = σ k := by
  unfold rtW up2
  simp [va_up, h]
theorem rtW_r (σ : gSt) (u v x y : Int32) : rtW σ u v x y 202 0 = u ∧ rtW σ u v x y 202 1 = v ∧ rtW σ u v x y 202 2 = (if 0 ≤ y - v then y - v else 0 - (y - v)) ∧ rtW σ u v x y 202 3 = (if 0 ≤ x - u then x - u else 0 - (x - u)) := by
  unfold rtW up2
  simp [va_up, upd]
set_option maxRecDepth 100000 in
set_option maxHeartbeats 4000000 in
theorem w_X9_retime_b (hl0 : l.stackTraces = false) (X : gX celC Γ ad 202 RX9 cX9_retime 7 (some .int) p s m args meth c) (hT : ∀ x ∈ c.exceptionTable.toList, False) {σ σ' : gSt} {a0 u v x y : Int32} {z : Nat} {r : Int32} (h9 : r9 σ) (h9' : r9 σ')
    (hf : f_X9_retime_b σ a0 u v x y = some (z, r, σ')) (H : Heap) (locs : List Loc) (ls : Array Slot) (S : gS celC Γ ad 202 σ s H locs) (hl : lv_has ls 7 [(0, .ref (ad 0)), (1, .int a0), (2, .int u), (3, .int v), (4, .int x), (5, .int y)]) :
    W p l e (gR 10 3 16) s m args below meth c H locs 1 6 (gQxi Γ ad 202 z r σ' 3 16 below args s) (F0 m 10 ls []) := by
  have hN2 : 202 ≤ 202 := Nat.le_refl _
  have hx := X.1
  have hb := X.2.1
  unfold f_X9_retime_b at hf
  refine lv_iload_n hx hb dX9_retime_10 rfl (lv_at hl 2 rfl) ?_
  refine lv_iload_n hx hb dX9_retime_11 rfl (lv_at hl 3 rfl) ?_
  refine lv_iload hx hb dX9_retime_12 (lv_at hl 4 rfl) ?_
  refine lv_iload hx hb dX9_retime_14 (lv_at hl 5 rfl) ?_
  obtain ⟨w1, hw1, hf⟩ := g_s1 hf
  refine g_ki S (g_runS (rest := []) X S (c_X9_arePoints l hN2 hw1 _) csX9_arePoints mlX9_236 rfl rfl hl.1 (Nat.le_of_ble_eq_true rfl) ⟨⟨rfl, rfl⟩, ⟨Nat.le_of_ble_eq_true rfl, Nat.le_of_ble_eq_true rfl⟩, Nat.le_of_ble_eq_true rfl, Nat.le_of_ble_eq_true rfl⟩ dX9_retime_16) (fun H locs S => ?_)
  refine lv_if_ne (tgt := 32) hx hb dX9_retime_19 (by decide) (fun c1 => ?_) (fun c1 => ?_)
  · have hf := (if_neg c1).symm.trans hf
    obtain ⟨q2, hq2, hf⟩ := g_s1 hf
    -- new Retiming
    have hKn := X.K.1 6 _ rfl
    refine W.newcK hx hb X.ow (X.w _ clX9_242) (X.w _ ins_X6) (X.w _ ini_X6) rfl dX9_retime_32 (by decide) (by decide) hKn.2.1 rfl fun H1 kC hkC e1 z1 o1 => ?_
    refine W.widen (k := 2) (n := 10) (by decide) (by decide) ?_
    have hsz : s.heap.size ≤ H.size := S.2.1
    have hlt : ∀ k, k < 202 → ad k < H.size := fun k hk => (S.1 k _ (gws_get hk)).lt
    have hP1 : va_P Γ.1 gCl (gws celC Γ ad 202 σ) H1 := S.1.kept (fun k q hk => o1 _ ((S.1 k q hk).lt))
    have hQ1 : va_at Γ.1 gCl (H.size, .inr (6, [.int 0, .int 0, .int 0, .int 0])) H1 := ⟨_, rfl, (u_born tyX6 X.w inX6 hKn hkC e1 tyX6_ok).to frs_X6⟩
    have hS1 : va_S (gA ad 202 s.heap.size) s.heap H1 locs := ⟨by omega, fun q g1 g2 => (o1 q (Nat.lt_of_lt_of_le g1 hsz)).trans (S.2.2.1 q g1 g2), S.2.2.2⟩
    refine lv_dup hx hb dX9_retime_35 rfl ?_
    refine lv_iload_n hx hb dX9_retime_36 rfl (lv_at hl 2 rfl) ?_
    refine lv_iload_n hx hb dX9_retime_37 rfl (lv_at hl 3 rfl) ?_
    refine lv_iload hx hb dX9_retime_38 (lv_at hl 4 rfl) ?_
    refine lv_iload hx hb dX9_retime_40 (lv_at hl 5 rfl) ?_
    have run := va_runI (rest := [.ref H.size]) (As := [.int u, .int v, .int x, .int y]) X.fix (c_X6_init l (Γ := Γ) (b := H.size) u v x y)
      (R := gR 10 3 16) (n := 4) ⟨callB_of 4 X.w (gwm_in ci_X6.2.1) rfl rfl rfl (X.w _ ci_X6.2.2.1) (X.w _ mlX9_244) ci_X6.1 ⟨Nat.le_of_ble_eq_true rfl, Nat.le_of_ble_eq_true rfl⟩, rfl, X.w _ ci_X6.2.2.2.1⟩
      (H := H1) ⟨gI0_blind, fun U hU hW => ⟨rfl, by rw [hU, z1], by rw [hU]; exact hQ1, va_K.moved hW.alike X.K, by rw [hU]; exact ((X.F.kept hS1.2.1).narrow (fun q hq => Or.inr (Nat.le_trans hsz hq))).warm hW⟩⟩ (p := p) (e := e) (meth := meth) (below := below) (locs := locs) (cells := 2) (slots := 10) (g := F0 m 42 ls [.int y, .int x, .int v, .int u, .ref H.size, .ref H.size]) rfl rfl hl.1 rfl (lv_room (Nat.le_of_ble_eq_true rfl)) dX9_retime_42 ⟨Nat.le_of_ble_eq_true rfl, Nat.le_of_ble_eq_true rfl⟩
    refine va_callv run hS1 (fun q _ hq => Or.inr (Nat.le_trans hsz hq)) (fun q hq => Or.inr (Nat.le_trans hsz hq)) (fun w t H2 locs2 ht _ _ hB hz hk hS2 => ?_)
    obtain ⟨b1, b2, b3⟩ := hB
    subst ht
    have hQ2 : va_at Γ.1 gCl (H.size, .inr (6, [.int (rtW σ u v x y 202 0), .int (rtW σ u v x y 202 1), .int (rtW σ u v x y 202 2), .int (rtW σ u v x y 202 3)])) t.heap := by
      obtain ⟨r1, r2, r3, r4⟩ := rtW_r σ u v x y
      rw [r1, r2, r3, r4]
      exact b3 0 _ rfl
    have hP2 : va_P Γ.1 gCl (gws celC Γ ad 202 σ) t.heap := fun k x hkx => by
      have h1 := hP1 k x hkx
      obtain ⟨g1, rfl⟩ := gws_inv hkx
      exact h1.kept (hk _ h1.lt (by show ¬ H.size ≤ ad k; have := hlt k g1; omega))
    have S3 : gS celC Γ (adR ad H.size) 203 (rtW σ u v x y) s t.heap locs2 := ⟨gws_203 h9 (fun k hk => rtW_n hk) hP2 hQ2, by rw [gA_203 hsz]; exact hS2⟩
    have X3 : gX celC Γ (adR ad H.size) 203 RX9 cX9_retime 7 (some .int) p s m args meth c := ⟨X.1, X.2.1, X.2.2.1, X.ow, X.w, X.r, X.lk, X.K, gInj_203 X.I (fun k hk => by have := hlt k hk; omega), by rw [gA_203 hsz]; exact X.F⟩
    have e0 : adR ad H.size 0 = ad 0 := adR_n (by decide)
    have e202 : adR ad H.size 202 = H.size := if_pos rfl
    have := w_X9_retime_c (e := e) (below := below) (u := u) (v := v) (x := x) (y := y) hl0 (Nat.le_refl _) X3 hT hq2 hf t.heap locs2 ls S3 (by rw [e0]; exact hl)
    rw [e202] at this
    exact W.mono (gQxi_203 hsz h9') this
  · have hf := (if_pos c1).symm.trans hf
    cases hf
    exact g_throwX hl0 X S hT hl.1 ex_1 st_240 dX9_retime_22 dX9_retime_25 dX9_retime_26 dX9_retime_28 dX9_retime_31 (by decide) (Nat.le_of_ble_eq_true rfl) (Nat.le_of_ble_eq_true rfl) (Nat.le_of_ble_eq_true rfl) (Nat.le_of_ble_eq_true rfl) (Nat.le_of_ble_eq_true rfl)
end RETIME
set_option maxRecDepth 100000 in
set_option maxHeartbeats 4000000 in
theorem c_X9_retime (l : Launch) (hl0 : l.stackTraces = false) {Γ : gG} {ad : Nat → Nat} {σ : gSt} {a0 u v x y : Int32} {z : Nat} {r : Int32} {σ' : gSt} (h9 : r9 σ) (h9' : r9 σ') (hf : f_X9_retime σ a0 u v x y = some (z, r, σ')) : gMxi l Γ ad 202 yX9_retime cX9_retime 7 (some .int) (gR 10 3 16) [.ref (ad 0), .int a0, .int u, .int v, .int x, .int y] σ z r σ' 3 16 := by
  intro sz
  refine gOfX (Qc := fun sz => gQcxi Γ ad 202 z r σ' sz) (XC := fun sz => gXc Γ ad 202 z σ' sz) RX9 (by decide) rfl (Nat.le_of_ble_eq_true rfl) (fun p e s m args below meth c H locs ls X hT S hl => ?_)
  have hl : lv_has ls 7 [(0, .ref (ad 0)), (1, .int a0), (2, .int u), (3, .int v), (4, .int x), (5, .int y)] := hl
  have hN : 202 ≤ 202 := Nat.le_refl _
  have hx := X.1
  have hb := X.2.1
  unfold f_X9_retime at hf
  refine lv_iload_n hx hb dX9_retime_0 rfl (lv_at hl 1 rfl) ?_
  refine lv_iconst (v := (-1)) hx hb dX9_retime_1 (by decide) ?_
  refine lv_icmp_eq (tgt := 10) hx hb dX9_retime_2 (by decide) (fun c1 => ?_) (fun c1 => ?_)
  · have hf := (if_pos c1).symm.trans hf
    exact W.widen (by decide) (by decide) (w_X9_retime_b hl0 X hT h9 h9' hf _ _ _ S hl)
  · have hf := (if_neg c1).symm.trans hf
    refine lv_aload_n hx hb dX9_retime_5 rfl (lv_at hl 0 rfl) ?_
    refine lv_iload_n hx hb dX9_retime_6 rfl (lv_at hl 1 rfl) ?_
    obtain ⟨x1, σ2, hx1, hf, hfx⟩ := g_sx2 hf
    have hs2 : x1 = 0 → σ2 = σ := fun h0 => by
      subst h0
      unfold f_X9_requireTrack at hx1
      obtain ⟨w, -, hx1⟩ := g_s1 hx1
      split at hx1 <;> cases hx1
      rfl
    refine g_kxG S X hT (g_xrunV (rest := []) X S (c_X9_requireTrack l hl0 hN hx1 _) cvX9_requireTrack mlX9_184 (kd_N kd_s0 (by decide) hN) (ceC_9 kd_s0 _) rfl rfl rfl hl.1 (Nat.le_of_ble_eq_true rfl) ⟨⟨rfl, rfl⟩, ⟨Nat.le_of_ble_eq_true rfl, Nat.le_of_ble_eq_true rfl⟩, Nat.le_of_ble_eq_true rfl, Nat.le_of_ble_eq_true rfl⟩ dX9_retime_7) (fun h0 => by have h9 := hfx h0; cases h9; exact ⟨rfl, rfl⟩) (by decide) (by decide) (fun h0 H locs S => ?_)
    have hf := hf h0
    rw [hs2 h0] at S hf
    exact w_X9_retime_b hl0 X hT h9 h9' hf _ _ _ S hl
