/-! ===== one case of the law ===== -/
theorem CR.out {L : List Nat} {σ' τ' : gSt} {x : Nat} {r r' : Int32} (h : CR L σ' τ' x r r') (h0 : L.getD 0 99 = 0) (hn : L.length ≤ 9) : ∃ i, i < L.length ∧ L.getD i 99 = x ∧ τ' 0 10 = nI i ∧ RR (if x = 0 then up2 σ' 201 0 r else σ') τ' ∧ (nI i = 0 → (if x = 0 then up2 σ' 201 0 r else σ') 201 0 = r') := by
  obtain ⟨R, ⟨i, hi, ht, hL⟩, hr⟩ := h
  refine ⟨i, hi, hL, ht, ?_, fun h => ?_⟩
  · by_cases hx : x = 0
    · rw [if_pos hx]; exact R.c201 r
    · rw [if_neg hx]; exact R
  · have hi0 : i = 0 := by
      have h1 := nI_toInt (show i < 2 ^ 31 by omega)
      rw [h] at h1
      have z : (0 : Int32).toInt = 0 := rfl
      omega
    subst hi0
    have hx : x = 0 := hL.symm.trans h0
    rw [if_pos hx, up2_s]
    exact hr hx
abbrev L6 (b a0 m0 a201 dA n : Nat) : List (Nat × Value) := [(0, .ref b), (1, .ref a0), (2, .ref m0), (3, .ref a201), (4, .ref dA), (5, .int (nI (6 * n)))]
def lwR (R : Room) (cells slots : Nat) : Prop := 20 ≤ R.frames ∧ 10836 ≤ R.locals ∧ cells + 3 ≤ R.cells ∧ slots + 18 ≤ R.slots
theorem L_rm {R rm : Room} {cells slots c' s' n' mc ms : Nat} (h : lwR R cells slots) (h1 : rm.cells = mc ∧ rm.slots = ms) (h2 : rm.frames + 1 ≤ 20) (h3 : 8 + (n' + 11) + rm.locals ≤ 10836) (h4 : c' + mc ≤ cells + 3) (h5 : s' + ms ≤ slots + 18) : gRoom rm R n' c' s' mc ms := ⟨h1, ⟨Nat.le_trans h2 h.1, Nat.le_trans h3 h.2.1⟩, Nat.le_trans h4 h.2.2.1, Nat.le_trans h5 h.2.2.2⟩
theorem L_ini : Cond.initialized RL ∈ lwg := gq 60 (by decide +kernel) rfl
section CROWS
variable {l : Launch} {Γ : gG} {ad adM : Nat → Nat} {cD dA : Nat} {p : Program} {e : Env} {R : Room} {s : State} {m : MethodId} {args : Array Value} {below : List Frame} {meth : Method} {c : Code} {H : Heap} {locs : List Loc} {cells slots : Nat} {Q : State → Prop} {pc : Nat} {ls : Array Slot} {rest st0 : List Value} {σ τ σ' τ' : gSt} {f f' : Nat → UInt64}
theorem lv_lcmpE {cc : ByteArray} (hexec : p.tables.exec = Jvm.exec) (hb : c.code = cc) {x y : Int64} (h : x = y) (hdg : decode cc pc = .ok (.lcmp, 1))
    (k : W p l e R s m args below meth c H locs cells slots Q (F0 m (pc + 1) ls (.int 0 :: rest))) : W p l e R s m args below meth c H locs cells slots Q (F0 m pc ls (.long y :: .long x :: rest)) := by
  subst h
  have h1 : ¬ x > x := fun q => Int64.lt_irrefl q
  intro T hT X
  obtain ⟨t, a, b⟩ := k T hT X
  refine ⟨t, ?_, b⟩
  jvm_step X.here [X.here.top, hexec, hb, hdg, h1]
  exact a
theorem L_arg {b L n k q i0 i5 : Nat} {kI : Int} {xs : Nat → Int32} {lv : List (Nat × Value)} (X : lwX Γ cD p s m args meth c) (S : lwS Γ ad adM cD dA σ τ f s H locs) (hX : va_X b L xs s s.heap) (hbl : b < s.heap.size) (hn : 6 * n + 6 ≤ L) (hL : L ≤ 3072) (hl : lv_has ls 9 lv) (h0 : lv[i0]? = some (0, .ref b)) (h5 : lv[i5]? = some (5, .int (nI (6 * n)))) (hk : k < 6) (hv : Int32.ofInt kI = nI k)
    (d0 : decode cL_law pc = .ok (.aload_n 0, 1)) (d1 : decode cL_law (pc + 1) = .ok (.iload 5, 2)) (d2 : decode cL_law (pc + 1 + 2) = .ok (.iconst kI, 1)) (d3 : decode cL_law (pc + 1 + 2 + 1) = .ok (.iadd, 1)) (d4 : decode cL_law (pc + 1 + 2 + 1 + 1) = .ok (.iaload, 1)) (hq : pc + 1 + 2 + 1 + 1 + 1 = q)
    (kk : W p l e R s m args below meth c H locs cells slots Q (F0 m q ls (.int (xs (6 * n + k)) :: rest))) : W p l e R s m args below meth c H locs cells slots Q (F0 m pc ls rest) := by
  subst hq
  refine lv_aload_n X.1 X.2.1 d0 rfl (lv_at hl i0 h0) ?_
  refine lv_iload X.1 X.2.1 d1 (lv_at hl i5 h5) ?_
  refine lv_iconst X.1 X.2.1 d2 hv ?_
  refine lv_iadd X.1 X.2.1 d3 ?_
  exact L_sld X S hX hbl rfl hk hn hL d4 kk
theorem L_tail {b n i T : Nat} {oI : Int} {r : Int32} (X : lwX Γ cD p s m args meth c) (A : lwA ad adM dA s.heap.size) (S : lwS Γ ad adM cD dA σ τ f s H locs) (hR : lwR R cells slots) (ht : τ 0 10 = nI i) (hr : nI i = 0 → σ 201 0 = r) (hl : lv_has ls 9 ((6, .int (nI i)) :: L6 b (ad 0) (adM 0) (ad 201) dA n))
    {c' s' : Nat} (hc : c' ≤ cells + 3) (hs : s' ≤ slots + 18) (d0 : decode cL_law T = .ok (.istore 7, 2)) (d1 : decode cL_law (T + 2) = .ok (.aload_n 2, 1)) (d2 : decode cL_law (T + 2 + 1) = .ok (.invokevirtual 117, 3)) (d3 : decode cL_law (T + 2 + 1 + 3) = .ok (.iload 6, 2)) (d4 : decode cL_law (T + 2 + 1 + 3 + 2) = .ok (.if_icmp .eq 5, 3)) (d5 : decode cL_law (T + 13) = .ok (.iload 6, 2)) (d6 : decode cL_law (T + 13 + 2) = .ok (.ifCond .ne 15, 3)) (d7 : decode cL_law (T + 13 + 2 + 3) = .ok (.aload_n 3, 1)) (d8 : decode cL_law (T + 13 + 2 + 3 + 1) = .ok (.iconst 0, 1)) (d9 : decode cL_law (T + 13 + 2 + 3 + 1 + 1) = .ok (.laload, 1)) (d10 : decode cL_law (T + 13 + 2 + 3 + 1 + 1 + 1) = .ok (.iload 7, 2)) (d11 : decode cL_law (T + 13 + 2 + 3 + 1 + 1 + 1 + 2) = .ok (.i2l, 1)) (d12 : decode cL_law (T + 13 + 2 + 3 + 1 + 1 + 1 + 2 + 1) = .ok (.lcmp, 1)) (d13 : decode cL_law (T + 13 + 2 + 3 + 1 + 1 + 1 + 2 + 1 + 1) = .ok (.ifCond .eq 5, 3)) (d14 : decode cL_law (T + 30) = .ok (.goto oI, 3)) (ho : ((T + 30 : Nat) : Int) + oI = ((1872 : Nat) : Int))
    (J : ∀ (H : Heap) (locs : List Loc) (ls : Array Slot), lwS Γ ad adM cD dA σ τ f s H locs → lv_has ls 9 (L6 b (ad 0) (adM 0) (ad 201) dA n) → W p l e R s m args below meth c H locs (cells + 3) (slots + 18) Q (F0 m 1872 ls [])) : W p l e R s m args below meth c H locs c' s' Q (F0 m T ls [.int r]) := by
  have hx := X.1
  have hb := X.2.1
  refine lv_istore hx hb d0 hl (by decide) rfl (fun ls hl => ?_)
  refine lv_aload_n hx hb d1 rfl (lv_at hl 4 rfl) ?_
  refine L_modi X A S (As := []) (c_X10_thrown l (Nat.le_refl 8) (r := τ 0 10) rfl) cvX10_thrown mlL_117 rfl rfl rfl hl.1 (by decide) (L_rm hR ⟨rfl, rfl⟩ (by decide) (by decide) (by omega) (by omega)) d2 (fun H locs S => ?_)
  rw [ht]
  refine lv_iload hx hb d3 (lv_at hl 1 rfl) ?_
  refine lv_icmp_eq (tgt := T + 13) hx hb d4 (by push_cast; omega) (fun _ => ?_) (fun h => absurd rfl h)
  have out : W p l e R s m args below meth c H locs c' s' Q (F0 m (T + 30) _ []) := lv_goto (tgt := 1872) hx hb d14 ho (W.widen (k := cells + 3) (n := slots + 18) hc hs (J H locs _ S (lv_sub hl [2, 3, 4, 5, 6, 7] rfl)))
  refine lv_iload hx hb d5 (lv_at hl 1 rfl) ?_
  refine lv_if_ne (tgt := T + 30) hx hb d6 (by push_cast; omega) (fun _ => out) (fun h => ?_)
  refine lv_aload_n hx hb d7 rfl (lv_at hl 5 rfl) ?_
  refine lv_iconst (v := 0) hx hb d8 rfl ?_
  refine L_lald X S d9 ?_
  refine lv_iload hx hb d10 (lv_at hl 0 rfl) ?_
  refine lv_i2l hx hb d11 rfl ?_
  refine lv_lcmpE hx hb (by rw [hr h]) d12 ?_
  exact lv_if_eq (tgt := T + 30) hx hb d13 (by push_cast; omega) (fun _ => out) (fun h => absurd rfl h)
end CROWS
