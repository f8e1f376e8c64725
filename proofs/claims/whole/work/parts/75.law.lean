/-! ===== the law, from its entry ===== -/
set_option maxRecDepth 100000 in
set_option maxHeartbeats 4000000 in
theorem law_start (hread : ∀ σ τ, RR σ τ → ∃ x r σ' r' τ', f_X9_read σ = some (x, r, σ') ∧ f_X10_read τ = some (r', τ') ∧ CR [0, 1, 2] σ' τ' x r r') {p : Program} {e : Env} {s : State} {m : MethodId} {below : List Frame} {meth : Method} {c : Code} (l : Launch) (hflags : l.flags = flags0) {b L : Nat} {xs : Nat → Int32} (hL : L ≤ 3072) (C0 : lw_At p s m meth c b L xs) : W p l e room_1 s m #[Value.ref b] below meth c s.heap [] 0 0 (lw_Z below #[Value.ref b] s) (entryFrame m ([Value.ref b] : List Value).toArray 9) := by
  obtain ⟨hx, hb, hr, hml, hown, hts, hX, hbl, hlocks, hgv⟩ := C0
  have hl0 : l.stackTraces = false := by
    show (!l.flags.contains noTraceFlag) = false
    rw [hflags]
    decide +kernel
  have hw := lwg_of hts
  obtain ⟨Γ, cD, hK, hD, hDn, hO⟩ := K0 hts hw
  have hF := gF0 hts hgv
  have hN : gNC s := fun q hq => va_Nc.of (flat_of_before _ hgv _ (gNC_giv q hq))
  have X : gX celC Γ (fun q => q) 0 RL cL_law 9 ret p s m #[Value.ref b] meth c := ⟨hx, hb, hml, hown, hw, hr, hlocks, hK, fun i j hi => absurd hi (Nat.not_lt_zero i), hF.narrow (fun q hq => hq.elim (fun ⟨k, hk, _⟩ => absurd hk (Nat.not_lt_zero k)) id)⟩
  have Y : lwX Γ cD p s m #[Value.ref b] meth c := ⟨hx, hb, hml, hown, hw, hK, hF, hN, hD⟩
  have hl := lv_entry ([.ref b]) (n := 9) (Nat.le_of_ble_eq_true rfl)
  rw [lg_entry_eq]
  generalize (lg_sl ([.ref b]) ++ List.replicate (9 - (lg_sl ([.ref b])).length) Slot.unset).toArray = ls at hl ⊢
  have hl : lv_has ls 9 [(0, .ref b)] := hl
  have B : gB Γ s.heap.size 0 [] s s.heap [] := ⟨rfl, rfl, fun i e h => by simp at h, va_S.rf⟩
  refine gz_new (ci := 9) X B rfl inX9 tyX9 tyX9_ok clLn_8 ins_X9 ini_X9 (fs := [.null, .null, .null, .null, .null, .int 0, .null, .null, .null, .int 0, .int 0, .int 0]) frs_X9 (Nat.le_of_ble_eq_true rfl) (Nat.le_of_ble_eq_true rfl) rfl dL_law_0 (fun H locs B => ?_)
  refine lv_dup hx hb dL_law_3 rfl ?_
  refine gz_call1 (rest := [.ref (s.heap.size + 0)]) (pre := []) (n := 0) X hF hO B (c_X9_init l (b := s.heap.size + 0) (b0 := s.heap.size) rfl) ci_X9 mlL_107 rfl rfl hl.1 (Nat.le_of_ble_eq_true rfl) ⟨⟨rfl, rfl⟩, ⟨Nat.le_of_ble_eq_true rfl, Nat.le_of_ble_eq_true rfl⟩, Nat.le_of_ble_eq_true rfl, Nat.le_of_ble_eq_true rfl⟩ rfl dL_law_4 (fun H locs B => ?_)
  refine lv_astore_n hx hb dL_law_7 rfl hl (by decide) rfl (fun ls hl => ?_)
  refine gz_new (ci := 10) X B rfl inX10 tyX10 tyX10_ok clLn_108 ins_X10 ini_X10 (fs := [.null, .null, .null, .int 0, .null, .int 0, .null, .int 0, .int 0, .int 0, .int 0, .null, .int 0, .int 0, .int 0, .null, .int 0]) frs_X10 (Nat.le_of_ble_eq_true rfl) (Nat.le_of_ble_eq_true rfl) rfl dL_law_8 (fun H locs B => ?_)
  refine lv_dup hx hb dL_law_11 rfl ?_
  refine gz_call1 (rest := [.ref (s.heap.size + (0 + 201))]) (pre := gRes Γ s.heap.size 0 201) (n := 0 + 201) X hF hO B (c_X10_init l (b := s.heap.size + (0 + 201))) ci_X10 mlL_110 rfl rfl hl.1 (Nat.le_of_ble_eq_true rfl) ⟨⟨rfl, rfl⟩, ⟨Nat.le_of_ble_eq_true rfl, Nat.le_of_ble_eq_true rfl⟩, Nat.le_of_ble_eq_true rfl, Nat.le_of_ble_eq_true rfl⟩ rfl dL_law_12 (fun H locs B => ?_)
  refine lv_astore_n hx hb dL_law_15 rfl hl (by decide) rfl (fun ls hl => ?_)
  refine lv_iconst (v := 1) hx hb dL_law_16 rfl ?_
  refine gz_newl X B (Nat.le_of_ble_eq_true rfl) (Nat.le_of_ble_eq_true rfl) dL_law_17 (fun H locs B => ?_)
  refine lv_astore_n hx hb dL_law_19 rfl hl (by decide) rfl (fun ls hl => ?_)
  refine lv_iconst (v := 1) hx hb dL_law_20 rfl ?_
  refine gz_newd X hDn B (Nat.le_of_ble_eq_true rfl) (Nat.le_of_ble_eq_true rfl) dL_law_21 (fun H locs B => ?_)
  refine lv_astore hx hb dL_law_23 hl (by decide) rfl (fun ls hl => ?_)
  refine lv_iconst (v := 0) hx hb dL_law_25 rfl ?_
  refine lv_istore hx hb dL_law_26 hl (by decide) rfl (fun ls hl => ?_)
  have S : lwS Γ (ad0 s.heap.size) (adM0 s.heap.size) cD (s.heap.size + 210) gI0s gM0 (fun _ => 0) s H locs := lwS0 B
  refine law_loop hl0 hread Y hX hbl hL (fun H ls => ?_) (L + 1) 0 _ _ _ _ H locs ls (Nat.zero_le L) (by omega) (lwA0 s.heap.size) S RR0 (lv_sub hl [5, 4, 3, 2, 1, 0] rfl)
  refine lv_iconst (v := 1) hx hb dL_law_1878 rfl ?_
  refine W.base ?_
  exact lw_ret (Drawn.sameBut.refl s.drawn lw_cs) hx hb hr hlocks dL_law_1879
