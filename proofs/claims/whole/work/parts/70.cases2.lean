/-! ===== the cases saveSnapshot and speed ===== -/
section CASES2
variable {l : Launch} {Γ : gG} {ad adM : Nat → Nat} {cD dA : Nat} {p : Program} {e : Env} {R : Room} {s : State} {m : MethodId} {args : Array Value} {below : List Frame} {meth : Method} {c : Code} {H : Heap} {locs : List Loc} {cells slots : Nat} {Q : State → Prop} {ls : Array Slot} {σ τ : gSt} {f : Nat → UInt64} {b L n : Nat} {xs : Nat → Int32}
set_option maxRecDepth 100000 in
set_option maxHeartbeats 4000000 in
theorem case_24 (hl0 : l.stackTraces = false) (X : lwX Γ cD p s m args meth c) (A : lwA ad adM dA s.heap.size) (S : lwS Γ ad adM cD dA σ τ f s H locs) (hR : lwR R cells slots) (R0 : RR σ τ) (hX : va_X b L xs s s.heap) (hbl : b < s.heap.size) (hn : 6 * n + 6 ≤ L) (hL3 : L ≤ 3072) (hl : lv_has ls 9 (L6 b (ad 0) (adM 0) (ad 201) dA n))(J : lwJ l Γ ad adM cD dA p e R s m args below meth c cells slots Q b n) : W p l e R s m args below meth c H locs cells slots Q (F0 m 1815 ls []) := by
  have hx := X.1
  have hb := X.2.1
  obtain ⟨r, σ', r', τ', e1, e2, R1, -, hr⟩ := call_save R0
  refine lv_aload_n hx hb dL_law_1815 rfl (lv_at hl 1 rfl) ?_
  refine L_clsi X A S (As := []) (c_X9_saveSnapshot l (Nat.le_refl 202) e1) cvX9_saveSnapshot mlL_198 rfl rfl rfl hl.1 (by decide) (L_rm hR ⟨rfl, rfl⟩ (by decide) (by decide) (by omega) (by omega)) dL_law_1816 (fun H locs S => ?_)
  refine lv_aload_n hx hb dL_law_1819 rfl (lv_at hl 2 rfl) ?_
  refine L_modi X A S (As := []) (rest := [.int r]) (c_X10_saveSnapshot l (Nat.le_refl 8) e2) cvX10_saveSnapshot mlL_201 rfl rfl rfl hl.1 (Nat.le_of_ble_eq_true rfl) (L_rm hR ⟨rfl, rfl⟩ (by decide) (by decide) (by omega) (by omega)) dL_law_1820 (fun H locs S => ?_)
  exact lv_icmp_eq (tgt := 1872) hx hb dL_law_1823 rfl (fun _ => W.widen (k := cells + 3) (n := slots + 18) (by omega) (by omega) (J ad _ _ _ _ _ _ (fun _ _ => rfl) S R1 hl)) (fun h => absurd (hr rfl) h)
theorem chL_speed : gCH yL_speed cL_speed 4 (some .int) [(0, 8, 11, 25), (0, 8, 14, 88)] 3 := ⟨⟨by decide +kernel, by decide +kernel, by decide +kernel⟩, cwL_speed, L_ini, gq 1105 (by decide +kernel) rfl⟩
set_option maxRecDepth 100000 in
set_option maxHeartbeats 4000000 in
theorem case_19 (hl0 : l.stackTraces = false) (X : lwX Γ cD p s m args meth c) (A : lwA ad adM dA s.heap.size) (S : lwS Γ ad adM cD dA σ τ f s H locs) (hR : lwR R cells slots) (R0 : RR σ τ) (hX : va_X b L xs s s.heap) (hbl : b < s.heap.size) (hn : 6 * n + 6 ≤ L) (hL3 : L ≤ 3072) (hl : lv_has ls 9 (L6 b (ad 0) (adM 0) (ad 201) dA n))(J : lwJ l Γ ad adM cD dA p e R s m args below meth c cells slots Q b n) : W p l e R s m args below meth c H locs cells slots Q (F0 m 1534 ls []) := by
  have hx := X.1
  have hb := X.2.1
  obtain ⟨x, r, σ', r', τ', e1, e2, R2, ⟨i, hi, ht, hLx⟩, hr⟩ := call_speed R0 (xs (6 * n + 1))
  refine lv_aload_n hx hb dL_law_1534 rfl (lv_at hl 1 rfl) ?_
  refine L_arg (i0 := 0) (i5 := 5) (k := 1) X S hX hbl hn hL3 hl rfl rfl (by decide) rfl dL_law_1535 dL_law_1536 dL_law_1538 dL_law_1539 dL_law_1540 rfl ?_
  refine lv_aload hx hb dL_law_1541 (lv_at hl 4 rfl) ?_
  refine L_speed X A S (As := [.ref (ad 0), .int (xs (6 * n + 1)), .ref dA]) (c_L_speed l hl0 e1 hi hLx H.size) chL_speed mlL_180 rfl rfl hl.1 (by decide) (L_rm hR ⟨rfl, rfl⟩ (by decide) (by decide) (by omega) (by omega)) dL_law_1543 (fun H locs S => ?_)
  refine lv_istore hx hb dL_law_1546 hl (by decide) rfl (fun ls hl => ?_)
  refine lv_aload_n hx hb dL_law_1548 rfl (lv_at hl 3 rfl) ?_
  refine L_arg (i0 := 1) (i5 := 6) (k := 1) X S hX hbl hn hL3 hl rfl rfl (by decide) rfl dL_law_1549 dL_law_1550 dL_law_1552 dL_law_1553 dL_law_1554 rfl ?_
  refine L_modd X A S (As := [.int (xs (6 * n + 1))]) (c_X10_speed l (Nat.le_refl 8) e2) cvX10_speed mlL_183 rfl rfl rfl hl.1 (by decide) (L_rm hR ⟨rfl, rfl⟩ (by decide) (by decide) (by omega) (by omega)) dL_law_1555 (fun H locs S => ?_)
  refine lv_dstore hx hb dL_law_1558 hl (by decide) rfl (fun ls hl => ?_)
  refine lv_aload_n hx hb dL_law_1560 rfl (lv_at hl 4 rfl) ?_
  refine L_modi X A S (As := []) (c_X10_thrown l (Nat.le_refl 8) (r := τ' 0 10) rfl) cvX10_thrown mlL_117 rfl rfl rfl hl.1 (by decide) (L_rm hR ⟨rfl, rfl⟩ (by decide) (by decide) (by omega) (by omega)) dL_law_1561 (fun H locs S => ?_)
  rw [ht]
  refine lv_iload hx hb dL_law_1564 (lv_at hl 1 rfl) ?_
  refine lv_icmp_eq (tgt := 1571) hx hb dL_law_1566 rfl (fun _ => ?_) (fun h => absurd rfl h)
  have out : W p l e R s m args below meth c H locs (cells + 2) (slots + 12) Q (F0 m 1608 _ []) := lv_goto (tgt := 1872) hx hb dL_law_1608 rfl (W.widen (k := cells + 3) (n := slots + 18) (by omega) (by omega) (J ad _ _ _ _ _ _ (fun _ _ => rfl) S R2 (lv_sub hl [2, 3, 4, 5, 6, 7] rfl)))
  refine lv_iload hx hb dL_law_1571 (lv_at hl 1 rfl) ?_
  refine lv_if_ne (tgt := 1608) hx hb dL_law_1573 rfl (fun _ => out) (fun h => ?_)
  have hi0 : i = 0 := by
    have hi : i < 3 := hi
    have h1 := nI_toInt (show i < 2 ^ 31 by omega)
    rw [h] at h1
    have z : (0 : Int32).toInt = 0 := rfl
    omega
  subst hi0
  have hx0 : x = 0 := hLx.symm
  subst hx0
  obtain ⟨rfl, hd⟩ := hr rfl
  refine lv_aload hx hb dL_law_1576 (lv_at hl 6 rfl) ?_
  refine lv_iconst (v := 0) hx hb dL_law_1578 rfl ?_
  refine L_dald X S dL_law_1579 ?_
  refine lv_dload hx hb dL_law_1580 (lv_at hl 0 rfl) ?_
  refine lv_dcmp hx hb dL_law_1582 ?_
  have hf0 : hDf 0 r f 0 = r := rfl
  rw [hf0, hd]
  exact lv_if_eq (tgt := 1608) hx hb dL_law_1583 rfl (fun _ => out) (fun h => absurd rfl h)
end CASES2
