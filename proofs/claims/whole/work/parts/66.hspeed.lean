/-! ===== the law's helper for speed: its answer goes into a row of doubles outside the desk's world ===== -/
def hE (Γ : gG) (ad : Nat → Nat) (cD dA : Nat) (f : Nat → UInt64) (U : State) : Prop := U.heap[dA]? = some (vp_cell cD (1, .inr (.inr (.inr (.inl f))))) ∧ ArrOfT U cD .double ∧ (∀ k, k < 202 → ad k ≠ dA) ∧ dA < U.heap.size
theorem cwL_speed : Cond.codeWith yL_speed cL_speed 4 (some .int) [(0, 8, 11, 25), (0, 8, 14, 88)] ∈ lwg := gq 1106 (by decide +kernel) rfl
def hDf (x : Nat) (r : UInt64) (f : Nat → UInt64) : Nat → UInt64 := if x = 0 then vf_upd f 0 r else f
abbrev hQs (Γ : gG) (ad : Nat → Nat) (cD dA : Nat) (σ' : gSt) (f' : Nat → UInt64) (i : Nat) (sz : Nat) : Array Value → State → Outcome → State → Prop := va_Qi (fun r' (_ : Unit) => r' = nI i) (fun _ t => gO celC Γ ad 202 σ' t ∧ t.heap[dA]? = some (vp_cell cD (1, .inr (.inr (.inr (.inl f')))))) (fun q => gA ad 202 sz q ∨ q = dA)
set_option maxRecDepth 100000 in
set_option maxHeartbeats 4000000 in
theorem c_L_speed (l : Launch) (hl0 : l.stackTraces = false) {Γ : gG} {ad : Nat → Nat} {cD dA : Nat} {f : Nat → UInt64} {σ σ' : gSt} {a0 : Int32} {x i : Nat} {r : UInt64} (hf : f_X9_speed σ a0 = some (x, r, σ')) (hi : i < 3) (hL : [0, 3, 6].getD i 99 = x) (sz : Nat) : Met l yL_speed (gwmH yL_speed cL_speed 4 (some .int) [(0, 8, 11, 25), (0, 8, 14, 88)]) (gR 11 2 12) (fun a U => hPc Γ ad σ [.ref (ad 0), .int a0, .ref dA] sz a U ∧ hE Γ ad cD dA f U) (hQs Γ ad cD dA σ' (hDf x r f) i sz) 2 12 (fun q => gA ad 202 sz q ∨ q = dA) := by
  refine gOfH (Qc := fun sz => hQs Γ ad cD dA σ' (hDf x r f) i sz) (fr := fun sz q => gA ad 202 sz q ∨ q = dA) (E := fun _ U => hE Γ ad cD dA f U) RL (by decide) rfl (Nat.le_of_ble_eq_true rfl) (fun p e s m args below meth c H locs ls X hN hTab S hH hlo hE0 hl => ?_)
  have hl : lv_has ls 4 [(0, .ref (ad 0)), (1, .int a0), (2, .ref dA)] := hl
  have hx := X.1
  have hb := X.2.1
  obtain ⟨d1, d2, d3, d4⟩ := hE0
  have nA : ∀ z, dA < z → ¬ gA ad 202 z dA := fun z hz h => h.elim (fun ⟨k, hk, e⟩ => d3 k hk e.symm) (fun h => by omega)
  refine lv_aload_n hx hb dL_speed_0 rfl (lv_at hl 2 rfl) ?_
  refine lv_iconst (v := 0) hx hb dL_speed_1 (by decide) ?_
  refine lv_aload_n hx hb dL_speed_2 rfl (lv_at hl 0 rfl) ?_
  refine lv_iload_n hx hb dL_speed_3 rfl (lv_at hl 1 rfl) ?_
  refine vx_calld (g_xrunV (rest := [.int 0, .ref dA]) X S (c_X9_speed l hl0 (Nat.le_refl 202) hf _) cvX9_speed mlL_84 (by decide) (ceC_9 kd_s0 _) rfl rfl rfl hl.1 (Nat.le_of_ble_eq_true rfl) ⟨⟨rfl, rfl⟩, ⟨Nat.le_of_ble_eq_true rfl, Nat.le_of_ble_eq_true rfl⟩, Nat.le_of_ble_eq_true rfl, Nat.le_of_ble_eq_true rfl⟩ dL_speed_4) S.2 (fun q _ hq => gA_le S.2.1 q hq) (gA_le S.2.1) (fun q _ hq => gA_le S.2.1 q hq) ?_ ?_
  · intro E ce q9 u t H1 locs1 ht hvm hpx hB hz hk hS hce hcv hcl
    obtain ⟨rfl, hB⟩ := hB
    subst ht
    have hd : t.heap[dA]? = some (vp_cell cD (1, .inr (.inr (.inr (.inl (hDf x r f)))))) := by
      rw [show hDf x r f = f from if_neg hpx, hk dA (by rw [hH]; exact d4) (nA _ (by rw [hH]; exact d4)), hH]; exact d1
    have fin : ∀ {pc : Nat} {ls : Array Slot}, decode cL_speed pc = .ok (.ireturn, 1) → W p l e (gR 11 2 12) s m args below meth c t.heap locs1 (0 + 2) (0 + 12) (MQ below (hQs Γ ad cD dA σ' (hDf x r f) i s.heap.size) args s 2 12 (fun q => gA ad 202 s.heap.size q ∨ q = dA)) (F0 m pc ls [.int (nI i)]) := fun hdg =>
      W.widen (by decide) (by decide) (W.zret (v := nI i) hx hb X.r rfl (fun t2 ht2 _ => ⟨⟨nI i, (), rfl, rfl, by unfold gO; rw [ht2]; exact hB, by rw [ht2]; exact hd⟩, by rw [ht2]; exact hS.1, fun q h1 h2 => by rw [ht2]; exact hS.2.1 q h1 (fun z => h2 (Or.inl z))⟩) (fun q hq => Or.inl (hS.2.2 q hq)) hdg X.lk)
    rcases (show i = 0 ∨ i = 1 ∨ i = 2 by omega) with rfl | rfl | rfl
    · exact absurd hL.symm hpx
    · have hx1 : 3 = x := hL
      subst hx1
      refine h_catch (name := "java/lang/IndexOutOfBoundsException") (E := "java/lang/IndexOutOfBoundsException") X hN [] ⟨0, 8, 11, 25⟩ [⟨0, 8, 14, 88⟩] (hTab.trans rfl) (fun z hz => nomatch hz) (by decide) (by decide) clL_25 cst_3 hce hcv hcl ?_
      refine lv_astore_n (lv' := [(3, .ref q9), (0, .ref (ad 0)), (1, .int a0), (2, .ref dA)]) hx hb dL_speed_11 rfl hl (by decide) rfl (fun ls hl => ?_)
      refine lv_iconst (v := 1) hx hb dL_speed_12 (by decide) ?_
      exact fin dL_speed_13
    · have hx1 : 6 = x := hL
      subst hx1
      refine h_catch (name := "java/lang/ArithmeticException") (E := "java/lang/ArithmeticException") X hN [⟨0, 8, 11, 25⟩] ⟨0, 8, 14, 88⟩ [] (hTab.trans rfl) (fun z hz => by
        rcases (show z = ⟨0, 8, 11, 25⟩ by simpa using hz) with rfl
        exact Or.inr ⟨by decide, _, clL_25, by decide⟩) (by decide) (by decide) clL_88 cst_6 hce hcv hcl ?_
      refine lv_astore_n (lv' := [(3, .ref q9), (0, .ref (ad 0)), (1, .int a0), (2, .ref dA)]) hx hb dL_speed_14 rfl hl (by decide) rfl (fun ls hl => ?_)
      refine lv_iconst (v := 2) hx hb dL_speed_15 (by decide) ?_
      exact fin dL_speed_16
  · intro rr u t H1 locs1 ht hvm hw hB hz hk hS
    obtain ⟨h0, rfl⟩ := hw
    subst ht
    have hi0 : i = 0 := by
      rcases (show i = 0 ∨ i = 1 ∨ i = 2 by omega) with rfl | rfl | rfl
      · rfl
      · exact absurd (hL.trans h0) (by decide)
      · exact absurd (hL.trans h0) (by decide)
    subst hi0
    have hd : t.heap[dA]? = some (vp_cell cD (1, .inr (.inr (.inr (.inl f))))) := by
      rw [hk dA (by rw [hH]; exact d4) (nA _ (by rw [hH]; exact d4)), hH]; exact d1
    refine W.dast hx hb hd (d2 1 (fun j => .double (f j))) (fun q => by cases q) (by show ¬ ((0 : Int32) < 0 ∨ (arrV _ _ _).slots.size ≤ _); rw [arrV_size]; show ¬ ((0 : Int32) < 0 ∨ 1 ≤ (0 : Int32).toNatClampNeg); decide) rfl rfl dL_speed_7 fun H2 e8 z oq => ?_
    have hS2 : va_S (fun q => gA ad 202 s.heap.size q ∨ q = dA) s.heap H2 (locs1 ++ [⟨dA, (0 : Int32).toNatClampNeg⟩]) := ⟨by rw [z]; exact hS.1, fun q h1 h2 => by rw [oq q (fun e => h2 (Or.inr e))]; exact hS.2.1 q h1 (fun z => h2 (Or.inl z)), fun q hq => by
      rcases List.mem_append.mp hq with h | h
      · exact Or.inl (hS.2.2 q h)
      · right; rw [List.mem_singleton.mp h]⟩
    have hP2 : va_P Γ.1 gCl (gws celC Γ ad 202 σ') H2 := hB.kept (fun k q hkq => by
      obtain ⟨g1, rfl⟩ := gws_inv hkq
      exact oq _ (d3 k g1))
    have hd2 : H2[dA]? = some (vp_cell cD (1, .inr (.inr (.inr (.inl (hDf x rr f)))))) := by
      rw [e8, show hDf x rr f = vf_upd f 0 rr from if_pos h0, vp_cell_d, vp_cell_d, arrV_store]
      congr 2
      funext q
      by_cases hq : q = (0 : Int32).toNatClampNeg
      · subst hq
        simp [updV, vf_upd]
      · have hq' : q ≠ 0 := hq
        simp [updV, vf_upd, hq, hq']
    show W p l e (gR 11 2 12) s m args below meth c H2 _ (0 + 2) (0 + 12) _ (F0 m 8 ls [])
    refine lv_goto (tgt := 17) hx hb dL_speed_8 (by decide) ?_
    refine lv_iconst (v := 0) hx hb dL_speed_17 (by decide) ?_
    exact W.widen (by decide) (by decide) (W.zret (v := nI 0) hx hb X.r rfl (fun t2 ht2 _ => ⟨⟨nI 0, (), rfl, rfl, by unfold gO; rw [ht2]; exact hP2, by rw [ht2]; exact hd2⟩, by rw [ht2]; exact hS2.1, fun q h1 h2 => by rw [ht2]; exact hS2.2.1 q h1 h2⟩) hS2.2.2 dL_speed_18 X.lk)
