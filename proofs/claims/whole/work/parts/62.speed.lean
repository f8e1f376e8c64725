/-! ===== speed: its doubles are no NaN ===== -/
theorem sp_round {f : FP.Core.Fmt} {s : Bool} {A B : Nat} {e : Int} : FP.Core.roundRatio f s A B e ≠ .nan := by
  unfold FP.Core.roundRatio
  split
  · exact fun h => by cases h
  · unfold FP.Core.roundAt FP.Core.settle FP.Core.bound
    split <;> split <;> exact fun h => by cases h
theorem sp_tails : FP.Core.b64.tails = 4503599627370496 := by decide
theorem sp_exps : FP.Core.b64.exps = 2048 := by decide
theorem sp_two : (2 : Nat) ^ FP.Core.b64.p = 9007199254740992 := by decide
theorem sp_n64 {r : UInt64} (h : FP.Core.val64 r ≠ .nan) : vf_n64 r := by
  unfold vf_n64
  rw [UInt64.le_iff_toNat_le, UInt64.toNat_and]
  have e1 : (0x7fffffffffffffff : UInt64).toNat = 2 ^ 63 - 1 := rfl
  have e2 : (0x7ff0000000000000 : UInt64).toNat = 9218868437227405312 := rfl
  rw [e1, e2, Nat.and_two_pow_sub_one_eq_mod]
  unfold FP.Core.val64 FP.Core.decode FP.Core.fieldE FP.Core.fieldT at h
  rw [sp_tails, sp_exps] at h
  by_cases hE : r.toNat / 4503599627370496 % 2048 = 2048 - 1
  · rw [if_pos hE] at h
    by_cases hT : r.toNat % 4503599627370496 = 0
    · omega
    · rw [if_neg hT] at h
      exact absurd rfl h
  · omega
/-- a small whole number other than 0 is itself as a double -/
theorem sp_i2d {a : Int32} (h : 0 < a.toInt) (h2 : a.toInt < 1000000) : ∃ c q, FP.Core.val64 (FP.i2d a) = .fin false c q ∧ c ≠ 0 := by
  have e : FP.Core.val64 (FP.i2d a) = FP.Core.round FP.Core.b64 (FP.Core.ofInt a.toInt) := FP.Core.val64_i2d a
  rw [e]
  obtain ⟨n, hn⟩ : ∃ n : Nat, a.toInt = (n : Int) := ⟨a.toInt.toNat, by omega⟩
  rw [hn] at h h2 ⊢
  have hof : FP.Core.ofInt (n : Int) = .fin false n 0 := by
    unfold FP.Core.ofInt
    rw [decide_eq_false (by omega)]
    rfl
  rw [hof]
  -- the power that makes the leading digit the 53rd
  have hp : ∀ k m : Nat, m ≤ n → 2 ^ k ≤ m → m < 2 ^ (k + 1) → k ≤ 20 := fun k m hm h3 _ => by
    rcases Nat.lt_or_ge 20 k with q | q
    · have : 2 ^ 21 ≤ 2 ^ k := Nat.pow_le_pow_right (by decide) q
      have e21 : (2 : Nat) ^ 21 = 2097152 := by decide
      omega
    · exact q
  have hlog1 := Nat.log2_self_le (show n ≠ 0 by omega)
  have hlog2 := Nat.lt_log2_self (n := n)
  have hk := hp _ n (Nat.le_refl _) hlog1 hlog2
  generalize n.log2 = k at *
  have e52 : 2 ^ k * 2 ^ (52 - k) = 4503599627370496 := by rw [← Nat.pow_add, show k + (52 - k) = 52 by omega]
  have e53 : 2 ^ (k + 1) * 2 ^ (52 - k) = 9007199254740992 := by rw [← Nat.pow_add, show k + 1 + (52 - k) = 53 by omega]
  have b1 : 4503599627370496 ≤ n * 2 ^ (52 - k) := by rw [← e52]; exact Nat.mul_le_mul_right _ hlog1
  have b2 : n * 2 ^ (52 - k) < 9007199254740992 := by rw [← e53]; exact Nat.mul_lt_mul_of_pos_right hlog2 (Nat.two_pow_pos _)
  have hr := FP.Core.round_inUnits (f := FP.Core.b64) false n (q := 0) (e := -((52 - k : Nat) : Int)) (by omega)
  have hu : FP.Core.inUnits n 0 (-((52 - k : Nat) : Int)) = n * 2 ^ (52 - k) := by
    unfold FP.Core.inUnits
    rw [show ((0 : Int) - -((52 - k : Nat) : Int)).toNat = 52 - k by omega]
  rw [hu] at hr
  refine ⟨n * 2 ^ (52 - k), -((52 - k : Nat) : Int), ?_, by omega⟩
  rw [← hr]
  refine FP.Core.round_of_fits FP.Core.good_b64 ⟨?_, ?_, ?_, Or.inr ?_⟩
  · rw [sp_two]; exact b2
  · have : FP.Core.b64.qmin = -1074 := by decide
    omega
  · have : FP.Core.b64.qmax = 971 := by decide
    omega
  · rw [sp_tails]; exact b1
theorem sp_i2d0 : FP.Core.val64 (FP.i2d 0) = .fin false 0 FP.Core.b64.qmin := by decide +kernel
def C25 : UInt64 := 4627730092099895296
theorem sp_25 : ∃ c q, FP.Core.val64 C25 = .fin false c q := ⟨_, _, (by decide +kernel : FP.Core.val64 C25 = .fin false 7036874417766400 (-48))⟩
def spD (ld fr : Int32) : UInt64 := FP.ddiv (FP.dmul C25 (FP.i2d ld)) (FP.i2d fr)
theorem sp_i2dn {a : Int32} (h : 0 ≤ a.toInt) (h2 : a.toInt < 1000000) : ∃ c q, FP.Core.val64 (FP.i2d a) = .fin false c q := by
  by_cases h0 : a.toInt = 0
  · have : a = 0 := Int32.toInt_inj.mp h0
    subst this
    exact ⟨_, _, sp_i2d0⟩
  · obtain ⟨c, q, e, -⟩ := sp_i2d (a := a) (by omega) h2
    exact ⟨c, q, e⟩
theorem sp_mul {ld : Int32} (h : 0 ≤ ld.toInt) (h2 : ld.toInt < 1000000) : FP.Core.val64 (FP.dmul C25 (FP.i2d ld)) ≠ .nan := by
  have e : FP.Core.val64 (FP.dmul C25 (FP.i2d ld)) = FP.Core.round FP.Core.b64 (FP.Core.exactProduct (FP.Core.val64 C25) (FP.Core.val64 (FP.i2d ld))) := FP.Core.val64_dmul _ _
  obtain ⟨c, q, e1⟩ := sp_25
  obtain ⟨c2, q2, e2⟩ := sp_i2dn h h2
  rw [e, e1, e2]
  exact sp_round
theorem sp_div {ld fr : Int32} (h : 0 ≤ ld.toInt) (h2 : ld.toInt < 1000000) (h3 : 0 < fr.toInt) (h4 : fr.toInt < 1000000) : FP.Core.val64 (spD ld fr) ≠ .nan := by
  have e : FP.Core.val64 (spD ld fr) = FP.Core.quotient FP.Core.b64 (FP.Core.val64 (FP.dmul C25 (FP.i2d ld))) (FP.Core.val64 (FP.i2d fr)) := FP.Core.val64_ddiv _ _
  have h0 := sp_mul h h2
  obtain ⟨c2, q2, e2, hc⟩ := sp_i2d h3 h4
  rw [e, e2]
  generalize FP.Core.val64 (FP.dmul C25 (FP.i2d ld)) = D at h0
  cases D with
  | nan => exact absurd rfl h0
  | inf s => exact fun h => by cases h
  | fin s c q =>
    have e3 : FP.Core.quotient FP.Core.b64 (.fin s c q) (.fin false c2 q2) = (if c2 = 0 then (if c = 0 then .nan else .inf (s != false)) else FP.Core.roundRatio FP.Core.b64 (s != false) c c2 (q - q2)) := rfl
    rw [e3, if_neg hc]
    exact sp_round
theorem sp_cmp {r : UInt64} (h : FP.Core.val64 r ≠ .nan) : FP.dcmp r r = some .eq := by
  have e : FP.dcmp r r = FP.Core.order (FP.Core.val64 r) (FP.Core.val64 r) := rfl
  rw [e]
  generalize FP.Core.val64 r = D at h
  cases D with
  | nan => exact absurd rfl h
  | inf s => simp [FP.Core.order]
  | fin s c q => simp [FP.Core.order]
/-! ===== speed: the walks ===== -/
noncomputable def f_X9_speed (σ : gSt) (a0 : Int32) : Option (Nat × UInt64 × gSt) :=
  g_x2 (f_X9_requireTrack σ a0) (fun x s => (x, (0 : UInt64), s)) fun σ1 => g_k1 (f_X3_trackOf σ1 1 a0) fun T => g_k1 (f_X8_allFrames σ1 T) fun fr =>
    if 0 < fr then g_k1 (f_X3_trackOf σ1 1 a0) fun T2 => g_k1 (f_X8_allLoad σ1 T2) fun ld => if 0 ≤ ld.toInt ∧ ld.toInt < 1000000 ∧ fr.toInt < 1000000 then some (0, spD ld fr, σ1) else none
    else some (6, 0, σ1)
abbrev gQcxd (Γ : gG) (ad : Nat → Nat) (N x : Nat) (r : UInt64) (σ : gSt) (sz : Nat) : Array Value → State → Outcome → State → Prop := va_Qd (fun r' (_ : Unit) => x = 0 ∧ r' = r) (fun _ t => gO celC Γ ad N σ t) (gA ad N sz)
def gMxd (l : Launch) (Γ : gG) (ad : Nat → Nat) (N : Nat) (y : MethodName) (b : ByteArray) (n : Nat) (rt : Option FieldType) (rm : Room) (as : List Value) (σ : gSt) (x : Nat) (r : UInt64) (σ' : gSt) (mc ms : Nat) : Prop :=
  ∀ sz, vx_Met l y (gwm y b n rt) rm (gPc celC Γ ad N σ as sz) (gQcxd Γ ad N x r σ' sz) (gXc Γ ad N x σ' sz) mc ms (gA ad N sz)
abbrev gQcd (cel : gCell) (Γ : gG) (ad : Nat → Nat) (N : Nat) (r : UInt64) (σ : gSt) (sz : Nat) : Array Value → State → Outcome → State → Prop := va_Qd (fun r' (_ : Unit) => r' = r) (fun _ t => gO cel Γ ad N σ t) (gA ad N sz)
def gMd (l : Launch) (cel : gCell) (Γ : gG) (ad : Nat → Nat) (N : Nat) (y : MethodName) (b : ByteArray) (n : Nat) (rt : Option FieldType) (rm : Room) (as : List Value) (σ : gSt) (r : UInt64) (σ' : gSt) : Prop :=
  ∀ sz, Met l y (gwm y b n rt) rm (gPc cel Γ ad N σ as sz) (gQcd cel Γ ad N r σ' sz) 0 0 (gA ad N sz)
theorem ex_6 : gExW 6 315 317 := ⟨gq 1125 (by decide +kernel) rfl, gq 84 (by decide +kernel) rfl, by decide +kernel, by decide +kernel, by decide, by decide⟩
theorem cd_318 : Cond.constantDouble RX9 318 C25 ∈ lwg := gq 1127 (by decide +kernel) rfl
theorem cd_209 : Cond.constantDouble RX10 209 C25 ∈ lwg := gq 1594 (by decide +kernel) rfl
set_option maxRecDepth 100000 in
set_option maxHeartbeats 4000000 in
theorem c_X9_speed (l : Launch) (hl0 : l.stackTraces = false) {Γ : gG} {ad : Nat → Nat} {N : Nat} (hN : 202 ≤ N) {σ : gSt} {a0 : Int32} {x : Nat} {r : UInt64} {σ' : gSt} (hf : f_X9_speed σ a0 = some (x, r, σ')) : gMxd l Γ ad N yX9_speed cX9_speed 3 (some .double) (gR 10 2 12) [.ref (ad 0), .int a0] σ x r σ' 2 12 := by
  intro sz
  refine gOfX (Qc := fun sz => gQcxd Γ ad N x r σ' sz) (XC := fun sz => gXc Γ ad N x σ' sz) RX9 (by decide) rfl (Nat.le_of_ble_eq_true rfl) (fun p e s m args below meth c H locs ls X hT S hl => ?_)
  have hl : lv_has ls 3 [(0, .ref (ad 0)), (1, .int a0)] := hl
  have hx := X.1
  have hb := X.2.1
  have hlocks := X.lk
  unfold f_X9_speed at hf
  refine lv_aload_n hx hb dX9_speed_0 rfl (lv_at hl 0 rfl) ?_
  refine lv_iload_n hx hb dX9_speed_1 rfl (lv_at hl 1 rfl) ?_
  obtain ⟨x1, σ2, hx1, hf, hfx⟩ := g_sx2 hf
  refine g_kxG S X hT (g_xrunV (rest := []) X S (c_X9_requireTrack l hl0 hN hx1 _) cvX9_requireTrack mlX9_184 (kd_N kd_s0 (by decide) hN) (ceC_9 kd_s0 _) rfl rfl rfl hl.1 (Nat.le_of_ble_eq_true rfl) ⟨⟨rfl, rfl⟩, ⟨Nat.le_of_ble_eq_true rfl, Nat.le_of_ble_eq_true rfl⟩, Nat.le_of_ble_eq_true rfl, Nat.le_of_ble_eq_true rfl⟩ dX9_speed_2) (fun h0 => by have h9 := hfx h0; cases h9; exact ⟨rfl, rfl⟩) (by decide) (by decide) (fun h0 H locs S => ?_)
  have hf := hf h0
  refine lv_aload_n hx hb dX9_speed_5 rfl (lv_at hl 0 rfl) ?_
  refine gfX9_10 X S hN kd_s0 dX9_speed_6 ?_
  refine lv_iload_n hx hb dX9_speed_9 rfl (lv_at hl 1 rfl) ?_
  obtain ⟨T, hT1, hf⟩ := g_s1 hf
  refine g_kr S (g_runV (rest := []) X S (c_X3_trackOf l hN kd_s1 hT1 _) cvX3_trackOf mlX9_138 (kd_N kd_s1 (by decide) hN) (ceC_3 kd_s1 _) rfl rfl rfl hl.1 (Nat.le_of_ble_eq_true rfl) ⟨⟨rfl, rfl⟩, ⟨Nat.le_of_ble_eq_true rfl, Nat.le_of_ble_eq_true rfl⟩, Nat.le_of_ble_eq_true rfl, Nat.le_of_ble_eq_true rfl⟩ dX9_speed_10) (fun H locs S => ?_)
  have hkT : gkd T = 8 := kr_X3_trackOf kd_s1 hT1
  obtain ⟨fr, hfr, hf⟩ := g_s1 hf
  refine g_ki S (g_runV (rest := []) X S (c_X8_allFrames l hN hkT hfr _) cvX8_allFrames mlX9_298 (kd_N hkT (by decide) hN) (ceC_8 hkT _) rfl rfl rfl hl.1 (Nat.le_of_ble_eq_true rfl) ⟨⟨rfl, rfl⟩, ⟨Nat.le_of_ble_eq_true rfl, Nat.le_of_ble_eq_true rfl⟩, Nat.le_of_ble_eq_true rfl, Nat.le_of_ble_eq_true rfl⟩ dX9_speed_13) (fun H locs S => ?_)
  refine lv_istore_n (lv' := [(2, .int fr), (0, .ref (ad 0)), (1, .int a0)]) hx hb dX9_speed_16 rfl hl (by decide) rfl (fun ls hl => ?_)
  refine lv_iload_n hx hb dX9_speed_17 rfl (lv_at hl 0 rfl) ?_
  refine lv_if_gt (tgt := 32) hx hb dX9_speed_18 (by decide) (fun c1 => ?_) (fun c1 => ?_)
  · have hf := (if_pos c1).symm.trans hf
    refine lv_ldc2d hx hb X.ow (X.w _ cd_318) dX9_speed_32 ?_
    refine lv_aload_n hx hb dX9_speed_35 rfl (lv_at hl 1 rfl) ?_
    refine gfX9_10 X S hN kd_s0 dX9_speed_36 ?_
    refine lv_iload_n hx hb dX9_speed_39 rfl (lv_at hl 2 rfl) ?_
    obtain ⟨T2, hT2, hf⟩ := g_s1 hf
    refine g_kr S (g_runV (rest := [.double C25]) X S (c_X3_trackOf l hN kd_s1 hT2 _) cvX3_trackOf mlX9_138 (kd_N kd_s1 (by decide) hN) (ceC_3 kd_s1 _) rfl rfl rfl hl.1 (Nat.le_of_ble_eq_true rfl) ⟨⟨rfl, rfl⟩, ⟨Nat.le_of_ble_eq_true rfl, Nat.le_of_ble_eq_true rfl⟩, Nat.le_of_ble_eq_true rfl, Nat.le_of_ble_eq_true rfl⟩ dX9_speed_40) (fun H locs S => ?_)
    have hkT2 : gkd T2 = 8 := kr_X3_trackOf kd_s1 hT2
    obtain ⟨ld, hld, hf⟩ := g_s1 hf
    refine g_ki S (g_runV (rest := [.double C25]) X S (c_X8_allLoad l hN hkT2 hld _) cvX8_allLoad mlX9_301 (kd_N hkT2 (by decide) hN) (ceC_8 hkT2 _) rfl rfl rfl hl.1 (Nat.le_of_ble_eq_true rfl) ⟨⟨rfl, rfl⟩, ⟨Nat.le_of_ble_eq_true rfl, Nat.le_of_ble_eq_true rfl⟩, Nat.le_of_ble_eq_true rfl, Nat.le_of_ble_eq_true rfl⟩ dX9_speed_43) (fun H locs S => ?_)
    obtain ⟨⟨q1, q2, q3⟩, hf⟩ := g_if hf
    cases hf
    refine lv_i2d hx hb dX9_speed_46 ?_
    refine lv_dmul hx hb dX9_speed_47 (sp_n64 (sp_mul q1 q2)) ?_
    refine lv_iload_n hx hb dX9_speed_48 rfl (lv_at hl 0 rfl) ?_
    refine lv_i2d hx hb dX9_speed_49 ?_
    have c1' := Int32.lt_iff_toInt_lt.mp c1
    refine lv_ddiv hx hb dX9_speed_50 (sp_n64 (sp_div q1 q2 c1' q3)) ?_
    exact W.widen (by decide) (by decide) (vx_ret (W.dret (v := spD ld fr) hx hb X.r (fun t ht _ => ⟨⟨spD ld fr, (), rfl, ⟨rfl, rfl⟩, by subst ht; exact S.1⟩, S.2.F ht⟩) S.2.2.2 dX9_speed_51 X.lk))
  · have hf := (if_neg c1).symm.trans hf
    cases hf
    exact g_throwXW hl0 X S hT hl.1 ex_6 st_313 dX9_speed_21 dX9_speed_24 dX9_speed_25 dX9_speed_28 dX9_speed_31 (by decide) (Nat.le_of_ble_eq_true rfl) (Nat.le_of_ble_eq_true rfl) (Nat.le_of_ble_eq_true rfl) (Nat.le_of_ble_eq_true rfl) (Nat.le_of_ble_eq_true rfl)
noncomputable def f_X10_speed (σ : gSt) (a0 : Int32) : Option (UInt64 × gSt) :=
  g_k1 (f_X10_isTrack σ a0) fun v => g_k1 (if v = 0 then some (1 : Int32) else g_k1 (gald σ 1 926 (28 + a0)) fun w => if w = 0 then some (2 : Int32) else some (0 : Int32)) fun κ =>
    g_k1 (gset σ 0 10 κ) fun σ1 => if σ1 0 10 ≤ 0 then g_k1 (f_X10_loads σ1 a0) fun ld => g_k1 (f_X10_frames σ1 a0) fun fr => (if 0 ≤ ld.toInt ∧ ld.toInt < 1000000 ∧ 0 < fr.toInt ∧ fr.toInt < 1000000 then some (spD ld fr, σ1) else none)
      else some (FP.dconst0, σ1)
set_option maxRecDepth 100000 in
set_option maxHeartbeats 4000000 in
theorem c_X10_speed (l : Launch) {Γ : gG} {ad : Nat → Nat} {N : Nat} (hN : 8 ≤ N) {σ : gSt} {a0 : Int32} {r : UInt64} {σ' : gSt} (hf : f_X10_speed σ a0 = some (r, σ')) : gMd l celM Γ ad N yX10_speed cX10_speed 2 (some .double) (gR 5 0 0) [.ref (ad 0), .int a0] σ r σ' := by
  intro sz
  refine gOf (Qc := fun sz => gQcd celM Γ ad N r σ' sz) RX10 (by decide) rfl (Nat.le_of_ble_eq_true rfl) (fun p e s m args below meth c H locs ls X S hl => ?_)
  have hl : lv_has ls 2 [(0, .ref (ad 0)), (1, .int a0)] := hl
  have hx := X.1
  have hb := X.2.1
  unfold f_X10_speed at hf
  refine lv_aload_n hx hb dX10_speed_0 rfl (lv_at hl 0 rfl) ?_
  refine lv_iload_n hx hb dX10_speed_1 rfl (lv_at hl 1 rfl) ?_
  obtain ⟨v, hv, hf⟩ := g_s1 hf
  refine g_ki S (g_runS (rest := [.ref (ad 0)]) X S (c_X10_isTrack l hN hv _) csX10_isTrack mlX10_52 rfl rfl hl.1 (Nat.le_of_ble_eq_true rfl) ⟨⟨rfl, rfl⟩, ⟨Nat.le_of_ble_eq_true rfl, Nat.le_of_ble_eq_true rfl⟩, Nat.le_of_ble_eq_true rfl, Nat.le_of_ble_eq_true rfl⟩ dX10_speed_2) (fun H locs S => ?_)
  obtain ⟨κ, hκ, hf⟩ := g_s1 hf
  have J : ∀ (H : Heap) (locs : List Loc), gS celM Γ ad N σ s H locs → W p l e (gR 5 0 0) s m args below meth c H locs 0 0 (MQ below (gQcd celM Γ ad N r σ' s.heap.size) args s 0 0 (gA ad N s.heap.size)) (F0 m 29 ls [.int κ, .ref (ad 0)]) := by
    intro H locs S
    obtain ⟨σ1, hσ1, hf⟩ := g_s1 hf
    refine pfX10_35 X S hN hσ1 dX10_speed_29 (fun H locs S => ?_)
    refine lv_aload_n hx hb dX10_speed_32 rfl (lv_at hl 0 rfl) ?_
    refine gfX10_35 X S hN dX10_speed_33 ?_
    refine lv_if_le (tgt := 43) hx hb dX10_speed_36 (by decide) (fun c1 => ?_) (fun c1 => ?_)
    · have hf := (if_pos c1).symm.trans hf
      refine lv_ldc2d hx hb X.ow (X.w _ cd_209) dX10_speed_43 ?_
      refine lv_aload_n hx hb dX10_speed_46 rfl (lv_at hl 0 rfl) ?_
      refine lv_iload_n hx hb dX10_speed_47 rfl (lv_at hl 1 rfl) ?_
      obtain ⟨ld, hld, hf⟩ := g_s1 hf
      refine g_ki S (g_runV (rest := [.double C25]) X S (c_X10_loads l hN hld _) cvX10_loads mlX10_200 (by omega) (ceM_10 _) rfl rfl rfl hl.1 (Nat.le_of_ble_eq_true rfl) ⟨⟨rfl, rfl⟩, ⟨Nat.le_of_ble_eq_true rfl, Nat.le_of_ble_eq_true rfl⟩, Nat.le_of_ble_eq_true rfl, Nat.le_of_ble_eq_true rfl⟩ dX10_speed_48) (fun H locs S => ?_)
      obtain ⟨fr, hfr, hf⟩ := g_s1 hf
      obtain ⟨⟨q1, q2, q3, q4⟩, hf⟩ := g_if hf
      cases hf
      refine lv_i2d hx hb dX10_speed_51 ?_
      refine lv_dmul hx hb dX10_speed_52 (sp_n64 (sp_mul q1 q2)) ?_
      refine lv_aload_n hx hb dX10_speed_53 rfl (lv_at hl 0 rfl) ?_
      refine lv_iload_n hx hb dX10_speed_54 rfl (lv_at hl 1 rfl) ?_
      refine g_ki S (g_runV (rest := [.double (FP.dmul C25 (FP.i2d ld))]) X S (c_X10_frames l hN hfr _) cvX10_frames mlX10_197 (by omega) (ceM_10 _) rfl rfl rfl hl.1 (Nat.le_of_ble_eq_true rfl) ⟨⟨rfl, rfl⟩, ⟨Nat.le_of_ble_eq_true rfl, Nat.le_of_ble_eq_true rfl⟩, Nat.le_of_ble_eq_true rfl, Nat.le_of_ble_eq_true rfl⟩ dX10_speed_55) (fun H locs S => ?_)
      refine lv_i2d hx hb dX10_speed_58 ?_
      refine lv_ddiv hx hb dX10_speed_59 (sp_n64 (sp_div q1 q2 q3 q4)) ?_
      exact W.dret (v := spD ld fr) hx hb X.r (fun t ht _ => ⟨⟨spD ld fr, (), rfl, rfl, by subst ht; exact S.1⟩, S.2.F ht⟩) S.2.2.2 dX10_speed_60 X.lk
    · have hf := (if_neg c1).symm.trans hf
      cases hf
      refine lv_dconst0 hx hb dX10_speed_39 ?_
      refine lv_goto (tgt := 60) hx hb dX10_speed_40 (by decide) ?_
      exact W.dret (v := FP.dconst0) hx hb X.r (fun t ht _ => ⟨⟨FP.dconst0, (), rfl, rfl, by subst ht; exact S.1⟩, S.2.F ht⟩) S.2.2.2 dX10_speed_60 X.lk
  refine lv_if_eq (tgt := 28) hx hb dX10_speed_5 (by decide) (fun c1 => ?_) (fun c1 => ?_)
  · have hκ := (if_pos c1).symm.trans hκ
    cases hκ
    refine lv_iconst (v := 1) hx hb dX10_speed_28 (by decide) ?_
    exact J _ _ S
  · have hκ := (if_neg c1).symm.trans hκ
    refine lv_aload_n hx hb dX10_speed_8 rfl (lv_at hl 0 rfl) ?_
    refine gfX10_7 X S hN dX10_speed_9 ?_
    refine lv_bipush (v := 28) hx hb dX10_speed_12 (by decide) ?_
    refine lv_iload_n hx hb dX10_speed_14 rfl (lv_at hl 1 rfl) ?_
    refine lv_iadd hx hb dX10_speed_15 ?_
    obtain ⟨w, hw, hκ⟩ := g_s1 hκ
    refine g_iald X S (by omega) (ceM_a (rfl : gma 1 = true)) hw dX10_speed_16 ?_
    refine lv_if_ne (tgt := 24) hx hb dX10_speed_17 (by decide) (fun c2 => ?_) (fun c2 => ?_)
    · have hκ := (if_neg c2).symm.trans hκ
      cases hκ
      refine lv_iconst (v := 0) hx hb dX10_speed_24 (by decide) ?_
      refine lv_goto (tgt := 29) hx hb dX10_speed_25 (by decide) ?_
      exact J _ _ S
    · have hκ := (if_pos c2).symm.trans hκ
      cases hκ
      refine lv_iconst (v := 2) hx hb dX10_speed_20 (by decide) ?_
      refine lv_goto (tgt := 29) hx hb dX10_speed_21 (by decide) ?_
      exact J _ _ S
