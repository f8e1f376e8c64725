/-! ===== the law's loop ===== -/
theorem x31 (x : Int32) : ∃ j, j < 32 ∧ x &&& 31 = nI j := by
  refine ⟨(x &&& 31).toBitVec.toNat, ?_, ?_⟩
  · show (x.toBitVec &&& 31#32).toNat < 32
    rw [BitVec.toNat_and]
    exact Nat.and_lt_two_pow (n := 5) _ (by decide)
  · apply Int32.toBitVec_inj.mp
    show (x &&& 31).toBitVec = BitVec.ofNat 32 _
    simp
section LOOP
variable {l : Launch} {Γ : gG} {ad adM : Nat → Nat} {cD dA : Nat} {p : Program} {e : Env} {R : Room} {s : State} {m : MethodId} {args : Array Value} {below : List Frame} {meth : Method} {c : Code} {H : Heap} {locs : List Loc} {cells slots : Nat} {Q : State → Prop} {ls : Array Slot} {σ τ : gSt} {f : Nat → UInt64} {b L n : Nat} {xs : Nat → Int32}
set_option maxRecDepth 100000 in
set_option maxHeartbeats 4000000 in
theorem law_switch {j : Nat} (hj : j < 32) (hl0 : l.stackTraces = false) (X : lwX Γ cD p s m args meth c) (A : lwA ad adM dA s.heap.size) (S : lwS Γ ad adM cD dA σ τ f s H locs) (hR : lwR R cells slots) (R0 : RR σ τ) (hX : va_X b L xs s s.heap) (hbl : b < s.heap.size) (hn : 6 * n + 6 ≤ L) (hL3 : L ≤ 3072) (hl : lv_has ls 9 (L6 b (ad 0) (adM 0) (ad 201) dA n)) (J : lwJ l Γ ad adM cD dA p e R s m args below meth c cells slots Q b n)
    (hread : ∃ x r σ' r' τ', f_X9_read σ = some (x, r, σ') ∧ f_X10_read τ = some (r', τ') ∧ CR [0, 1, 2] σ' τ' x r r') : W p l e R s m args below meth c H locs cells slots Q (F0 m 45 ls [.int (nI j)]) := by
  have hx := X.1
  have hb := X.2.1
  rcases (show j = 0 ∨ j = 1 ∨ j = 2 ∨ j = 3 ∨ j = 4 ∨ j = 5 ∨ j = 6 ∨ j = 7 ∨ j = 8 ∨ j = 9 ∨ j = 10 ∨ j = 11 ∨ j = 12 ∨ j = 13 ∨ j = 14 ∨ j = 15 ∨ j = 16 ∨ j = 17 ∨ j = 18 ∨ j = 19 ∨ j = 20 ∨ j = 21 ∨ j = 22 ∨ j = 23 ∨ j = 24 ∨ j = 25 ∨ j = 26 ∨ j = 27 ∨ j = 28 ∨ j = 29 ∨ j = 30 ∨ j = 31 by omega) with rfl | rfl | rfl | rfl | rfl | rfl | rfl | rfl | rfl | rfl | rfl | rfl | rfl | rfl | rfl | rfl | rfl | rfl | rfl | rfl | rfl | rfl | rfl | rfl | rfl | rfl | rfl | rfl | rfl | rfl | rfl | rfl
  · exact lv_tableIn (tgt := 164) (off := 119) hx hb dL_law_45 (by decide) (by decide) rfl rfl (case_0 hl0 X A S hR R0 hX hbl hn hL3 hl J)
  · exact lv_tableIn (tgt := 220) (off := 175) hx hb dL_law_45 (by decide) (by decide) rfl rfl (case_1 hl0 X A S hR R0 hX hbl hn hL3 hl J)
  · exact lv_tableIn (tgt := 288) (off := 243) hx hb dL_law_45 (by decide) (by decide) rfl rfl (case_2 hl0 X A S hR R0 hX hbl hn hL3 hl J)
  · exact lv_tableIn (tgt := 372) (off := 327) hx hb dL_law_45 (by decide) (by decide) rfl rfl (case_3 hl0 X A S hR R0 hX hbl hn hL3 hl J)
  · exact lv_tableIn (tgt := 428) (off := 383) hx hb dL_law_45 (by decide) (by decide) rfl rfl (case_4 hl0 X A S hR R0 hX hbl hn hL3 hl J)
  · exact lv_tableIn (tgt := 484) (off := 439) hx hb dL_law_45 (by decide) (by decide) rfl rfl (case_5 hl0 X A S hR R0 hX hbl hn hL3 hl J)
  · exact lv_tableIn (tgt := 542) (off := 497) hx hb dL_law_45 (by decide) (by decide) rfl rfl (case_6 hl0 X A S hR R0 hX hbl hn hL3 hl J)
  · exact lv_tableIn (tgt := 634) (off := 589) hx hb dL_law_45 (by decide) (by decide) rfl rfl (case_7 hl0 X A S hR R0 hX hbl hn hL3 hl J)
  · exact lv_tableIn (tgt := 702) (off := 657) hx hb dL_law_45 (by decide) (by decide) rfl rfl (case_8 hl0 X A S hR R0 hX hbl hn hL3 hl J)
  · exact lv_tableIn (tgt := 794) (off := 749) hx hb dL_law_45 (by decide) (by decide) rfl rfl (case_9 hl0 X A S hR R0 hX hbl hn hL3 hl J)
  · exact lv_tableIn (tgt := 874) (off := 829) hx hb dL_law_45 (by decide) (by decide) rfl rfl (case_10 hl0 X A S hR R0 hX hbl hn hL3 hl J)
  · exact lv_tableIn (tgt := 942) (off := 897) hx hb dL_law_45 (by decide) (by decide) rfl rfl (case_11 hl0 X A S hR R0 hX hbl hn hL3 hl J)
  · exact lv_tableIn (tgt := 1010) (off := 965) hx hb dL_law_45 (by decide) (by decide) rfl rfl (case_12 hl0 X A S hR R0 hX hbl hn hL3 hl J)
  · exact lv_tableIn (tgt := 1078) (off := 1033) hx hb dL_law_45 (by decide) (by decide) rfl rfl (case_13 hl0 X A S hR R0 hX hbl hn hL3 hl J)
  · exact lv_tableIn (tgt := 1182) (off := 1137) hx hb dL_law_45 (by decide) (by decide) rfl rfl (case_14 hl0 X A S hR R0 hX hbl hn hL3 hl J)
  · exact lv_tableIn (tgt := 1262) (off := 1217) hx hb dL_law_45 (by decide) (by decide) rfl rfl (case_15 hl0 X A S hR R0 hX hbl hn hL3 hl J)
  · exact lv_tableIn (tgt := 1342) (off := 1297) hx hb dL_law_45 (by decide) (by decide) rfl rfl (case_16 hl0 X A S hR R0 hX hbl hn hL3 hl J)
  · exact lv_tableIn (tgt := 1410) (off := 1365) hx hb dL_law_45 (by decide) (by decide) rfl rfl (case_17 hl0 X A S hR R0 hX hbl hn hL3 hl J)
  · exact lv_tableIn (tgt := 1478) (off := 1433) hx hb dL_law_45 (by decide) (by decide) rfl rfl (case_18 hl0 X A S hR R0 hX hbl hn hL3 hl J)
  · exact lv_tableIn (tgt := 1534) (off := 1489) hx hb dL_law_45 (by decide) (by decide) rfl rfl (case_19 hl0 X A S hR R0 hX hbl hn hL3 hl J)
  · exact lv_tableIn (tgt := 1611) (off := 1566) hx hb dL_law_45 (by decide) (by decide) rfl rfl (case_20 hl0 X A S hR R0 hX hbl hn hL3 hl J hread)
  · exact lv_tableIn (tgt := 1655) (off := 1610) hx hb dL_law_45 (by decide) (by decide) rfl rfl (case_21 hl0 X A S hR R0 hX hbl hn hL3 hl J)
  · exact lv_tableIn (tgt := 1699) (off := 1654) hx hb dL_law_45 (by decide) (by decide) rfl rfl (case_22 hl0 X A S hR R0 hX hbl hn hL3 hl J)
  · exact lv_tableIn (tgt := 1771) (off := 1726) hx hb dL_law_45 (by decide) (by decide) rfl rfl (case_23 hl0 X A S hR R0 hX hbl hn hL3 hl J)
  · exact lv_tableIn (tgt := 1815) (off := 1770) hx hb dL_law_45 (by decide) (by decide) rfl rfl (case_24 hl0 X A S hR R0 hX hbl hn hL3 hl J)
  · exact lv_tableIn (tgt := 1828) (off := 1783) hx hb dL_law_45 (by decide) (by decide) rfl rfl (case_25 hl0 X A S hR R0 hX hbl hn hL3 hl J)
  · exact lv_tableOut (tgt := 1872) hx hb dL_law_45 (by decide) rfl (W.widen (k := cells + 3) (n := slots + 18) (by omega) (by omega) (J ad σ τ f H locs ls (fun _ _ => rfl) S R0 hl))
  · exact lv_tableOut (tgt := 1872) hx hb dL_law_45 (by decide) rfl (W.widen (k := cells + 3) (n := slots + 18) (by omega) (by omega) (J ad σ τ f H locs ls (fun _ _ => rfl) S R0 hl))
  · exact lv_tableOut (tgt := 1872) hx hb dL_law_45 (by decide) rfl (W.widen (k := cells + 3) (n := slots + 18) (by omega) (by omega) (J ad σ τ f H locs ls (fun _ _ => rfl) S R0 hl))
  · exact lv_tableOut (tgt := 1872) hx hb dL_law_45 (by decide) rfl (W.widen (k := cells + 3) (n := slots + 18) (by omega) (by omega) (J ad σ τ f H locs ls (fun _ _ => rfl) S R0 hl))
  · exact lv_tableOut (tgt := 1872) hx hb dL_law_45 (by decide) rfl (W.widen (k := cells + 3) (n := slots + 18) (by omega) (by omega) (J ad σ τ f H locs ls (fun _ _ => rfl) S R0 hl))
  · exact lv_tableOut (tgt := 1872) hx hb dL_law_45 (by decide) rfl (W.widen (k := cells + 3) (n := slots + 18) (by omega) (by omega) (J ad σ τ f H locs ls (fun _ _ => rfl) S R0 hl))
theorem law_loop (hl0 : l.stackTraces = false) (hread : ∀ σ τ, RR σ τ → ∃ x r σ' r' τ', f_X9_read σ = some (x, r, σ') ∧ f_X10_read τ = some (r', τ') ∧ CR [0, 1, 2] σ' τ' x r r') (X : lwX Γ cD p s m args meth c) (hX : va_X b L xs s s.heap) (hbl : b < s.heap.size) (hL3 : L ≤ 3072)
    (hend : ∀ (H : Heap) (ls : Array Slot), W p l e room_1 s m args below meth c H [] 603072 7202922 Q (F0 m 1878 ls [])) :
    ∀ (k n : Nat) (ad : Nat → Nat) (σ τ : gSt) (f : Nat → UInt64) (H : Heap) (locs : List Loc) (ls : Array Slot), 6 * n ≤ L → L < 6 * (n + k) → lwA ad adM dA s.heap.size → lwS Γ ad adM cD dA σ τ f s H locs → RR σ τ → lv_has ls 9 (L6 b (ad 0) (adM 0) (ad 201) dA n) → W p l e room_1 s m args below meth c H locs (211 + 3 * n) (21446 + 18 * n) Q (F0 m 28 ls []) := by
  have hx := X.1
  have hb := X.2.1
  intro k
  induction k with
  | zero => intro n ad σ τ f H locs ls h1 h2; exact absurd h2 (by omega)
  | succ k ih =>
    intro n ad σ τ f H locs ls h1 h2 A S R0 hl
    have zi : ∀ z : Nat, z ≤ 3072 → (nI z).toInt = (z : Int) := fun z hz => nI_toInt (by omega)
    have z6 : (6 : Int32).toInt = 6 := rfl
    have es : (Int32.ofNat L - 6).toInt = (L : Int) - 6 := by
      show (nI L - 6).toInt = _
      rw [sub_i (by rw [zi L hL3]; omega) (by rw [z6]; omega), zi L hL3, z6]
    refine lv_iload hx hb dL_law_28 (lv_at hl 5 rfl) ?_
    refine lv_aload_n hx hb dL_law_30 rfl (lv_at hl 0 rfl) ?_
    refine va_slen hx hb hX hbl (Nat.not_le.mpr hbl) S.2.2.2 dL_law_31 ?_
    refine lv_bipush (v := 6) hx hb dL_law_32 rfl ?_
    refine lv_isub hx hb dL_law_34 ?_
    refine lv_icmp_gt (tgt := 1878) hx hb dL_law_35 rfl (fun _ => ?_) (fun hlt => ?_)
    · exact va_forget (fun q hq => S.2.2.2.2.2 q hq) (W.widen (k := 603072) (n := 7202922) (by omega) (by omega) (hend H ls))
    · have hn : 6 * n + 6 ≤ L := by
        rw [Int32.lt_iff_toInt_lt, es, zi (6 * n) (by omega)] at hlt
        omega
      refine lv_aload_n hx hb dL_law_38 rfl (lv_at hl 0 rfl) ?_
      refine lv_iload hx hb dL_law_39 (lv_at hl 5 rfl) ?_
      have e0 : nI (6 * n) = nI (6 * n) + nI 0 := by rw [nI_add]; rfl
      rw [e0]
      refine L_sld (k := 0) X S hX hbl rfl (by decide) hn hL3 dL_law_41 ?_
      refine lv_bipush (v := 31) hx hb dL_law_42 rfl ?_
      refine lv_iand hx hb dL_law_44 ?_
      obtain ⟨j, hj, ej⟩ := x31 (xs (6 * n + 0))
      rw [ej]
      refine law_switch hj hl0 X A S ⟨by decide, by decide, by show 211 + 3 * n + 3 ≤ 603072; omega, by show 21446 + 18 * n + 18 ≤ 7202922; omega⟩ R0 hX hbl hn hL3 hl (fun ad' σ' τ' f' H locs ls had S R hl => ?_) (hread σ τ R0)
      have e1 : 211 + 3 * n + 3 = 211 + 3 * (n + 1) := by omega
      have e2 : 21446 + 18 * n + 18 = 21446 + 18 * (n + 1) := by omega
      rw [e1, e2]
      refine lv_iinc (k := 5) (v := nI (6 * (n + 1))) hx hb dL_law_1872 hl rfl ?_ (by decide) rfl (fun ls hl => ?_)
      · show nI (6 * n) + nI 6 = _
        rw [nI_add]; rfl
      · refine lv_goto (tgt := 28) hx hb dL_law_1875 rfl ?_
        refine ih (n + 1) ad' σ' τ' f' H locs ls (by omega) (by omega) (A.ad' had) S R ?_
        rw [had 0 (by decide), had 201 (by decide)]
        exact lv_sub hl [1, 2, 3, 4, 5, 0] rfl
end LOOP
