section MAKE1
variable {l : Launch} {cel : gCell} {Γ : gG} {ad : Nat → Nat} {own : String} {cc : ByteArray} {nL : Nat} {rt : Option FieldType} {p : Program} {e : Env} {R : Room} {s : State} {m : MethodId} {args : Array Value} {below : List Frame} {meth : Method} {c : Code} {H : Heap} {locs : List Loc} {cells slots : Nat} {Q : State → Prop} {pc : Nat} {ls : Array Slot} {rest st0 : List Value} {b n : Nat} {cs cs' : List va_E}
def gI01 (Γ : gG) (b : Nat) (e0 : va_E) (U : State) : Prop := U.heap.size = b + 1 ∧ va_at Γ.1 gCl (b, e0) U.heap ∧ va_K Γ.1 gCl (gT Γ) U ∧ gF (fun q => b ≤ q) U U.heap ∧ va_AO RX3 U
def gMk1 (l : Launch) (Γ : gG) (y : MethodName) (code : ByteArray) (nL : Nat) (rm : Room) (as : List Value) (b : Nat) (e0 : va_E) (n : Nat) (cs : List va_E) (mc ms : Nat) : Prop :=
  Met l y (gwm y code nL none) rm (va_Pc (.ref b :: as) (gI01 Γ b e0)) (va_Qv (fun _ : Unit => True) (fun _ t => gK0 Γ b n cs t) (fun q => b ≤ q)) mc ms (fun q => b ≤ q)
theorem gI0_blind1 {b : Nat} {e0 : va_E} {as : List Value} : FrameBlind (va_Pc as (gI01 Γ b e0)) := by
  intro a U g mk q
  obtain ⟨q0, q1, qP, qK, qF, qO⟩ := q
  exact ⟨q0, q1, qP, va_K.moved (u := U) (U := U.calling g mk a) (Vm.Alike.refl U.vm) qK, gF.warm (s := U) (U := U.calling g mk a) (State.WarmedH.refl U) qF, va_AO.moved (u := U) (U := U.calling g mk a) (Vm.Alike.refl U.vm) qO⟩
theorem gzOf1 {y : MethodName} {code : ByteArray} {rm : Room} {as : List Value} {e0 : va_E} {mc ms : Nat} (own : String) (hy : plainName y.cls = true) (hown : y.cls = own) (hnm : y.name = "<init>") (hlen : (lg_sl (.ref b :: as)).length ≤ nL)
    (body : ∀ p e s m args below meth c H locs ls, gX celC Γ (fun q => q) 0 own code nL none p s m args meth c → meth.name = "<init>" → gF (fun q => b ≤ q) s s.heap → va_AO RX3 s → gB Γ b 1 [e0] s H locs → lv_has ls nL (lv_args 0 (.ref b :: as)) →
      W p l e rm s m args below meth c H locs 0 0 (MQ below (va_Qv (fun _ : Unit => True) (fun _ t => gK0 Γ b n cs t) (fun q => b ≤ q)) args s mc ms (fun q => b ≤ q)) (F0 m 0 ls [])) :
    gMk1 l Γ y code nL rm as b e0 n cs mc ms := by
  refine Met.ofW (cc := code) (maxL := nL) (ret := none) hy rfl ?_
  intro p e s m args below meth c s₁ B hml hv
  obtain ⟨rfl, hsz, hP, hK, hF, hO⟩ := hv
  rw [lg_entry_eq]
  have hts := atoms_spec (ws := gwm y code nL none) B.pre
  refine body p e s m _ below meth c s.heap [] _ ⟨B.exec, B.bytes, hml, hown ▸ findClass_of_methodNamed B.named, fun w hw => hts w (List.mem_cons_of_mem _ hw), B.returns, B.notSynchronized, hK, fun _ _ h => by omega, hF.narrow (fun q hq => hq.elim (fun ⟨k, h, _⟩ => by omega) (fun h => by omega))⟩ ((name_of_methodNamed B.named B.method).1.trans hnm) hF hO ⟨rfl, hsz, fun i e hi => ?_, va_S.rf⟩ (lv_entry _ hlen)
  have hz : i < 1 := (List.getElem?_eq_some_iff.mp hi).1
  rw [show i = 0 by omega] at hi ⊢
  cases hi
  exact hP
/-- a constructor is called on the block's last cell, which was just made -/
theorem gz_call1 {y : MethodName} {code : ByteArray} {n' na idx mc ms k : Nat} {rm : Room} {As : List Value} {e0 : va_E} {pre res : List va_E} (X : gX cel Γ ad 0 own cc nL rt p s m args meth c) (hF : gF (fun q => b ≤ q) s s.heap) (hO : va_AO RX3 s) (B : gB Γ b (n + 1) (pre ++ [e0]) s H locs)
    (hM : gMk1 l Γ y code n' rm As (b + n) e0 k res mc ms) (hc : gCI y code n' na) (hw : Cond.methodLink own idx y ∈ lwg) (hn : As.length = na) (hst : st0 = As.reverse ++ .ref (b + n) :: rest) (hls : ls.size = nL) (hcat : (rest.map fun v => v.category).sum ≤ 8) (hR : gRoom rm R n' cells slots mc ms) (hcs : pre ++ res = cs') (hdg : decode cc pc = .ok (.invokespecial idx, 3))
    (kk : ∀ (H : Heap) (locs : List Loc), gB Γ b (n + k) cs' s H locs → W p l e R s m args below meth c H locs (cells + mc) (slots + ms) Q (F0 m (pc + 3) ls rest)) : W p l e R s m args below meth c H locs cells slots Q (F0 m pc ls st0) := by
  have hpl : pre.length = n := by have := B.1; rw [List.length_append] at this; simpa using this
  have hlast : (pre ++ [e0])[n]? = some e0 := by rw [List.getElem?_append_right (by omega), hpl, Nat.sub_self]; rfl
  have hsz : H.size = b + n + 1 := B.2.1
  have run : va_Run p l e R s m args below meth c H locs cells slots mc ms (F0 m pc ls st0) rest ((va_Qv (fun _ : Unit => True) (fun _ t => gK0 Γ (b + n) k res t) (fun q => b + n ≤ q)) (Value.ref (b + n) :: As).toArray) (fun q => b + n ≤ q) :=
    va_runI (As := As) (rest := rest) X.fix hM ⟨callB_of na X.w (gwm_in hc.2.1) rfl hR.1.1 hR.1.2 (X.w _ hc.2.2.1) (X.w _ hw) hc.1 hR.2.1, hc.2.2.2.2, X.w _ hc.2.2.2.1⟩
      ⟨gI0_blind1, fun U hU hW => ⟨rfl, by rw [hU, hsz], by rw [hU]; exact B.2.2.1 n e0 hlast, va_K.moved hW.alike X.K, by rw [hU]; exact ((hF.kept B.2.2.2.2.1).narrow (fun q hq => by omega)).warm hW, hO.moved hW.alike⟩⟩ rfl hn hls hst (lv_room (pc := pc) (ls := ls) (rest := st0) (m := m) hcat) hdg hR.2.2
  refine va_callv run B.2.2.2 (fun q _ hq => by omega) (fun q hq => by omega) (fun u t H1 locs1 ht _ _ hB hz hk hS => ?_)
  obtain ⟨b1, b2, b3⟩ := hB
  subst ht
  subst hcs
  refine kk _ _ ⟨by rw [List.length_append, hpl, b1], by omega, fun i e hi => ?_, hS⟩
  by_cases hin : i < n
  · rw [List.getElem?_append_left (by omega)] at hi
    have h1 : (pre ++ [e0])[i]? = some e := by rw [List.getElem?_append_left (by omega)]; exact hi
    exact (B.2.2.1 i e h1).kept (hk _ (by show b + i < _; omega) (by show ¬ b + n ≤ b + i; omega))
  · rw [List.getElem?_append_right (by omega), hpl] at hi
    have := b3 _ _ hi
    rw [show b + n + (i - n) = b + i by omega] at this
    exact this
end MAKE1

/-! ===== the constructors: what a new desk holds ===== -/
def gI0s : gSt := fun k j => match gkd k with
  | 3 => if j = 0 then 1000 else 0
  | 106 => va_cpy gFirst (fun _ => 0) 0 0 6 j
  | 9 => if j = 9 then -1 else 0
  | 5 => if j = 9 then 199 else 0
  | _ => 0
def cellI (Γ : gG) (b0 k : Nat) : va_E := celC Γ (fun q => b0 + q) k (gI0s k)
def gRes (Γ : gG) (b0 k n : Nat) : List va_E := (List.range n).map (fun i => cellI Γ b0 (k + i))
theorem gRes_0 (Γ : gG) (b0 k : Nat) : gRes Γ b0 k 0 = [] := rfl
theorem gRes_s (Γ : gG) (b0 k n : Nat) : gRes Γ b0 k n ++ [cellI Γ b0 (k + n)] = gRes Γ b0 k (n + 1) := by
  unfold gRes
  rw [List.range_succ, List.map_append]; rfl
theorem gRes_a (Γ : gG) (b0 k n m : Nat) : gRes Γ b0 k n ++ gRes Γ b0 (k + n) m = gRes Γ b0 k (n + m) := by
  induction m with
  | zero => rw [gRes_0, List.append_nil]; rfl
  | succ m ih => rw [← gRes_s, ← List.append_assoc, ih, Nat.add_assoc, gRes_s]; rfl
theorem gRes_c (Γ : gG) (b0 k n : Nat) : cellI Γ b0 k :: gRes Γ b0 (k + 1) n = gRes Γ b0 k (n + 1) := by
  have h := gRes_a Γ b0 k 1 n
  rw [Nat.add_comm n 1, ← h]; rfl
theorem gRes_p {Γ : gG} {b0 k n : Nat} {e : va_E} (h : cellI Γ b0 (k + n) = e) : gRes Γ b0 k n ++ [e] = gRes Γ b0 k (n + 1) := by rw [← h, gRes_s]
theorem gRes_len (Γ : gG) (b0 k n : Nat) : (gRes Γ b0 k n).length = n := by unfold gRes; rw [List.length_map, List.length_range]
theorem gRes_get {Γ : gG} {b0 k n i : Nat} (h : i < n) : (gRes Γ b0 k n)[i]? = some (cellI Γ b0 (k + i)) := by
  unfold gRes
  rw [List.getElem?_map, List.getElem?_range h]; rfl
theorem cellI_116 {Γ : gG} {b0 k : Nat} (h : gkd k = 116) : cellI Γ b0 k = .inl (Γ.2.1, 16, .inl (fun _ => 0)) := by
  unfold cellI
  rw [ceC_116 h, show gI0s k = fun _ => 0 from by funext j; simp only [gI0s, h]]
theorem cellI_120 {Γ : gG} {b0 k : Nat} (h : gkd k = 120) : cellI Γ b0 k = .inl (Γ.2.1, 20, .inl (fun _ => 0)) := by
  unfold cellI
  rw [ceC_120 h, show gI0s k = fun _ => 0 from by funext j; simp only [gI0s, h]]
theorem cellI_130 {Γ : gG} {b0 k : Nat} (h : gkd k = 130) : cellI Γ b0 k = .inl (Γ.2.1, 30, .inl (fun _ => 0)) := by
  unfold cellI
  rw [ceC_130 h, show gI0s k = fun _ => 0 from by funext j; simp only [gI0s, h]]
theorem cellI_160 {Γ : gG} {b0 k : Nat} (h : gkd k = 160) : cellI Γ b0 k = .inl (Γ.2.1, 60, .inl (fun _ => 0)) := by
  unfold cellI
  rw [ceC_160 h, show gI0s k = fun _ => 0 from by funext j; simp only [gI0s, h]]
theorem cellI_484 {Γ : gG} {b0 k : Nat} (h : gkd k = 484) : cellI Γ b0 k = .inl (Γ.2.1, 384, .inl (fun _ => 0)) := by
  unfold cellI
  rw [ceC_484 h, show gI0s k = fun _ => 0 from by funext j; simp only [gI0s, h]]
theorem cellI_106 {Γ : gG} {b0 k : Nat} (h : gkd k = 106) : cellI Γ b0 k = .inl (Γ.2.1, 6, .inl (va_cpy gFirst (fun _ => 0) 0 0 6)) := by
  unfold cellI
  rw [ceC_106 h, show gI0s k = va_cpy gFirst (fun _ => 0) 0 0 6 from by funext j; simp only [gI0s, h]]
theorem cellI_o0 {Γ : gG} {b b0 k : Nat} (h : gkd k = 0) (hb : b = b0 + k) : cellI Γ b0 k = .inr (0, [.ref (b + 1), .int 0]) := by
  subst hb
  unfold cellI
  rw [ceC_0 h]
  try simp [gI0s, h, Nat.add_assoc, (rfl : Int32.toNatClampNeg 199 = 199)]
theorem cellI_o1 {Γ : gG} {b b0 k : Nat} (h : gkd k = 1) (hb : b = b0 + k) (k0 : k = 20) : cellI Γ b0 k = .inr (1, [.ref (b0 + 1), .ref (b0 + 17), .ref (b + 1), .ref (b + 3)]) := by
  subst k0
  subst hb
  unfold cellI
  rw [ceC_1 h]
  try simp [gI0s, h, Nat.add_assoc, (rfl : Int32.toNatClampNeg 199 = 199)]
theorem cellI_o2 {Γ : gG} {b b0 k : Nat} (h : gkd k = 2) (hb : b = b0 + k) (k0 : k = 17) : cellI Γ b0 k = .inr (2, [.ref (b0 + 1), .ref (b + 1)]) := by
  subst k0
  subst hb
  unfold cellI
  rw [ceC_2 h]
  try simp [gI0s, h, Nat.add_assoc, (rfl : Int32.toNatClampNeg 199 = 199)]
theorem cellI_o3 {Γ : gG} {b b0 k : Nat} (h : gkd k = 3) (hb : b = b0 + k) : cellI Γ b0 k = .inr (3, [.int 1000, .ref (b + 1), .ref (b + 2), .ref (b + 4), .ref (b + 10)]) := by
  subst hb
  unfold cellI
  rw [ceC_3 h]
  try simp [gI0s, h, Nat.add_assoc, (rfl : Int32.toNatClampNeg 199 = 199)]
theorem cellI_o4 {Γ : gG} {b b0 k : Nat} (h : gkd k = 4) (hb : b = b0 + k) (k0 : k = 25) : cellI Γ b0 k = .inr (4, [.ref (b + 1), .int 0, .int 0]) := by
  subst k0
  subst hb
  unfold cellI
  rw [ceC_4 h]
  try simp [gI0s, h, Nat.add_assoc, (rfl : Int32.toNatClampNeg 199 = 199)]
theorem cellI_o5 {Γ : gG} {b b0 k : Nat} (h : gkd k = 5) (hb : b = b0 + k) (k0 : k = 191) : cellI Γ b0 k = .inr (5, [.ref (b + 1), .ref (b + 2), .ref (b + 3), .ref (b + 4), .ref (b + 5), .ref (b + 6), .ref (b + 7), .int 0, .int 0, .ref (b + 8)]) := by
  subst k0
  subst hb
  unfold cellI
  rw [ceC_5 h]
  try simp [gI0s, h, Nat.add_assoc, (rfl : Int32.toNatClampNeg 199 = 199)]
theorem cellI_o7 {Γ : gG} {b b0 k : Nat} (h : gkd k = 7) (hb : b = b0 + k) : cellI Γ b0 k = .inr (7, [.ref (b + 1), .int 0]) := by
  subst hb
  unfold cellI
  rw [ceC_7 h]
  try simp [gI0s, h, Nat.add_assoc, (rfl : Int32.toNatClampNeg 199 = 199)]
theorem cellI_o8 {Γ : gG} {b b0 k : Nat} (h : gkd k = 8) (hb : b = b0 + k) : cellI Γ b0 k = .inr (8, [.ref (b + 1), .ref (b + 2), .ref (b + 3), .ref (b + 4), .ref (b + 5), .int 0]) := by
  subst hb
  unfold cellI
  rw [ceC_8 h]
  try simp [gI0s, h, Nat.add_assoc, (rfl : Int32.toNatClampNeg 199 = 199)]
theorem cellI_o9 {Γ : gG} {b b0 k : Nat} (h : gkd k = 9) (hb : b = b0 + k) (k0 : k = 0) : cellI Γ b0 k = .inr (9, [.ref (b + 1), .ref (b + 17), .ref (b + 20), .ref (b + 25), .ref (b + 171), .int 0, .ref (b + 187), .ref (b + 189), .ref (b + 191), .int (-1), .int 0, .int 0]) := by
  subst k0
  subst hb
  unfold cellI
  rw [ceC_9 h]
  try simp [gI0s, h, Nat.add_assoc, (rfl : Int32.toNatClampNeg 199 = 199)]
theorem ins_X0 : Cond.instantiable RX0 2 ∈ lwg := gq 105 (by decide +kernel) rfl
theorem ini_X0 : Cond.initialized RX0 ∈ lwg := gq 64 (by decide +kernel) rfl
theorem frs_X0 : ∀ j, j < 2 → defaultValue (tyX0 j) = vp_V [.null, .int 0] j := fun j hj => by rcases (show j = 0 ∨ j = 1 by omega) with rfl | rfl <;> rfl
theorem ins_X1 : Cond.instantiable RX1 4 ∈ lwg := gq 200 (by decide +kernel) rfl
theorem ini_X1 : Cond.initialized RX1 ∈ lwg := gq 68 (by decide +kernel) rfl
theorem frs_X1 : ∀ j, j < 4 → defaultValue (tyX1 j) = vp_V [.null, .null, .null, .null] j := fun j hj => by rcases (show j = 0 ∨ j = 1 ∨ j = 2 ∨ j = 3 by omega) with rfl | rfl | rfl | rfl <;> rfl
theorem ins_X2 : Cond.instantiable RX2 2 ∈ lwg := gq 171 (by decide +kernel) rfl
theorem ini_X2 : Cond.initialized RX2 ∈ lwg := gq 66 (by decide +kernel) rfl
theorem frs_X2 : ∀ j, j < 2 → defaultValue (tyX2 j) = vp_V [.null, .null] j := fun j hj => by rcases (show j = 0 ∨ j = 1 by omega) with rfl | rfl <;> rfl
theorem ins_X3 : Cond.instantiable RX3 5 ∈ lwg := gq 94 (by decide +kernel) rfl
theorem ini_X3 : Cond.initialized RX3 ∈ lwg := gq 62 (by decide +kernel) rfl
theorem frs_X3 : ∀ j, j < 5 → defaultValue (tyX3 j) = vp_V [.int 0, .null, .null, .null, .null] j := fun j hj => by rcases (show j = 0 ∨ j = 1 ∨ j = 2 ∨ j = 3 ∨ j = 4 by omega) with rfl | rfl | rfl | rfl | rfl <;> rfl
theorem ins_X4 : Cond.instantiable RX4 3 ∈ lwg := gq 221 (by decide +kernel) rfl
theorem ini_X4 : Cond.initialized RX4 ∈ lwg := gq 69 (by decide +kernel) rfl
theorem frs_X4 : ∀ j, j < 3 → defaultValue (tyX4 j) = vp_V [.null, .int 0, .int 0] j := fun j hj => by rcases (show j = 0 ∨ j = 1 ∨ j = 2 by omega) with rfl | rfl | rfl <;> rfl
theorem ins_X5 : Cond.instantiable RX5 10 ∈ lwg := gq 243 (by decide +kernel) rfl
theorem ini_X5 : Cond.initialized RX5 ∈ lwg := gq 70 (by decide +kernel) rfl
theorem frs_X5 : ∀ j, j < 10 → defaultValue (tyX5 j) = vp_V [.null, .null, .null, .null, .null, .null, .null, .int 0, .int 0, .null] j := fun j hj => by rcases (show j = 0 ∨ j = 1 ∨ j = 2 ∨ j = 3 ∨ j = 4 ∨ j = 5 ∨ j = 6 ∨ j = 7 ∨ j = 8 ∨ j = 9 by omega) with rfl | rfl | rfl | rfl | rfl | rfl | rfl | rfl | rfl | rfl <;> rfl
theorem ins_X6 : Cond.instantiable RX6 4 ∈ lwg := gq 966 (by decide +kernel) rfl
theorem ini_X6 : Cond.initialized RX6 ∈ lwg := gq 82 (by decide +kernel) rfl
theorem frs_X6 : ∀ j, j < 4 → defaultValue (tyX6 j) = vp_V [.int 0, .int 0, .int 0, .int 0] j := fun j hj => by rcases (show j = 0 ∨ j = 1 ∨ j = 2 ∨ j = 3 by omega) with rfl | rfl | rfl | rfl <;> rfl
theorem ins_X7 : Cond.instantiable RX7 2 ∈ lwg := gq 177 (by decide +kernel) rfl
theorem ini_X7 : Cond.initialized RX7 ∈ lwg := gq 67 (by decide +kernel) rfl
theorem frs_X7 : ∀ j, j < 2 → defaultValue (tyX7 j) = vp_V [.null, .int 0] j := fun j hj => by rcases (show j = 0 ∨ j = 1 by omega) with rfl | rfl <;> rfl
theorem ins_X8 : Cond.instantiable RX8 6 ∈ lwg := gq 121 (by decide +kernel) rfl
theorem ini_X8 : Cond.initialized RX8 ∈ lwg := gq 65 (by decide +kernel) rfl
theorem frs_X8 : ∀ j, j < 6 → defaultValue (tyX8 j) = vp_V [.null, .null, .null, .null, .null, .int 0] j := fun j hj => by rcases (show j = 0 ∨ j = 1 ∨ j = 2 ∨ j = 3 ∨ j = 4 ∨ j = 5 by omega) with rfl | rfl | rfl | rfl | rfl | rfl <;> rfl
theorem ins_X9 : Cond.instantiable RX9 12 ∈ lwg := gq 86 (by decide +kernel) rfl
theorem ini_X9 : Cond.initialized RX9 ∈ lwg := gq 61 (by decide +kernel) rfl
theorem frs_X9 : ∀ j, j < 12 → defaultValue (tyX9 j) = vp_V [.null, .null, .null, .null, .null, .int 0, .null, .null, .null, .int 0, .int 0, .int 0] j := fun j hj => by rcases (show j = 0 ∨ j = 1 ∨ j = 2 ∨ j = 3 ∨ j = 4 ∨ j = 5 ∨ j = 6 ∨ j = 7 ∨ j = 8 ∨ j = 9 ∨ j = 10 ∨ j = 11 by omega) with rfl | rfl | rfl | rfl | rfl | rfl | rfl | rfl | rfl | rfl | rfl | rfl <;> rfl
theorem ins_X10 : Cond.instantiable RX10 17 ∈ lwg := gq 1269 (by decide +kernel) rfl
theorem ini_X10 : Cond.initialized RX10 ∈ lwg := gq 71 (by decide +kernel) rfl
theorem frs_X10 : ∀ j, j < 17 → defaultValue (tyX10 j) = vp_V [.null, .null, .null, .int 0, .null, .int 0, .null, .int 0, .int 0, .int 0, .int 0, .null, .int 0, .int 0, .int 0, .null, .int 0] j := fun j hj => by rcases (show j = 0 ∨ j = 1 ∨ j = 2 ∨ j = 3 ∨ j = 4 ∨ j = 5 ∨ j = 6 ∨ j = 7 ∨ j = 8 ∨ j = 9 ∨ j = 10 ∨ j = 11 ∨ j = 12 ∨ j = 13 ∨ j = 14 ∨ j = 15 ∨ j = 16 by omega) with rfl | rfl | rfl | rfl | rfl | rfl | rfl | rfl | rfl | rfl | rfl | rfl | rfl | rfl | rfl | rfl | rfl <;> rfl
theorem wac_i4 : Cond.arrayClass .int ∈ lwg := gq 119 (by decide +kernel) rfl
theorem fln_19 : Cond.fieldLinkNest RX3 19 RX9 "SETTING_AT_FIRST" "[I" "SubtitleDesk" ∈ gBad := gb 39 (by decide +kernel) rfl
theorem gz_tabN {l : Launch} {cel : gCell} {Γ : gG} {ad : Nat → Nat} {own host : String} {cc : ByteArray} {nL : Nat} {rt : Option FieldType} {p : Program} {e : Env} {R : Room} {s : State} {m : MethodId} {args : Array Value} {below : List Frame} {meth : Method} {c : Code} {H : Heap} {locs : List Loc} {cells slots : Nat} {Q : State → Prop} {pc : Nat} {ls : Array Slot} {rest : List Value} {b n : Nat} {cs : List va_E} (X : gX cel Γ ad 0 own cc nL rt p s m args meth c) (B : gB Γ b n cs s H locs) {nm : String} {f : Nat → Int32} {idx : Nat} (hT : gTab nm f (fun q => b ≤ q) s s.heap) (hlink : Cond.fieldLinkNest own idx RX9 nm "[I" host ∈ gBad) (hdg : decode cc pc = .ok (.getstatic idx, 3))
    (kk : ∀ t : Nat, va_T .int t 6 (fun j => .int (f j)) (fun q => b ≤ q) s s.heap → W p l e R s m args below meth c H locs cells slots Q (F0 m (pc + 3) ls (.ref t :: rest))) : W p l e R s m args below meth c H locs cells slots Q (F0 m pc ls rest) := by
  obtain ⟨t, h1, h2⟩ := hT
  exact va_getsN X.1 X.2.1 h1 B.2.2.2 X.ow (va_Nw.use (gBad_on hlink) (X.F.1 _ hlink)) (fun _ h => h) hdg (kk t h2)
theorem oi_i : Cond.instanceMethod Lib.objectInit ∈ lwg := gq 91 (by decide +kernel) rfl
theorem oi_c : Cond.code Lib.objectInit ⟨#[0xb1]⟩ 1 none ∈ lwg := gq 92 (by decide +kernel) rfl
theorem ci_X0 : gCI yX0_init cX0_init 1 0 := ⟨⟨by decide +kernel, by decide +kernel, by decide +kernel⟩, gq 108 (by decide +kernel) rfl, ini_X0, gq 107 (by decide +kernel) rfl, rfl⟩
theorem ci_X1 : gCI yX1_init cX1_init 3 2 := ⟨⟨by decide +kernel, by decide +kernel, by decide +kernel⟩, gq 203 (by decide +kernel) rfl, ini_X1, gq 202 (by decide +kernel) rfl, rfl⟩
theorem ci_X2 : gCI yX2_init cX2_init 2 1 := ⟨⟨by decide +kernel, by decide +kernel, by decide +kernel⟩, gq 174 (by decide +kernel) rfl, ini_X2, gq 173 (by decide +kernel) rfl, rfl⟩
theorem ci_X3 : gCI yX3_init cX3_init 1 0 := ⟨⟨by decide +kernel, by decide +kernel, by decide +kernel⟩, gq 97 (by decide +kernel) rfl, ini_X3, gq 96 (by decide +kernel) rfl, rfl⟩
theorem ci_X4 : gCI yX4_init cX4_init 2 0 := ⟨⟨by decide +kernel, by decide +kernel, by decide +kernel⟩, gq 224 (by decide +kernel) rfl, ini_X4, gq 223 (by decide +kernel) rfl, rfl⟩
theorem ci_X5 : gCI yX5_init cX5_init 1 0 := ⟨⟨by decide +kernel, by decide +kernel, by decide +kernel⟩, gq 246 (by decide +kernel) rfl, ini_X5, gq 245 (by decide +kernel) rfl, rfl⟩
theorem ci_X7 : gCI yX7_init cX7_init 1 0 := ⟨⟨by decide +kernel, by decide +kernel, by decide +kernel⟩, gq 180 (by decide +kernel) rfl, ini_X7, gq 179 (by decide +kernel) rfl, rfl⟩
theorem ci_X8 : gCI yX8_init cX8_init 1 0 := ⟨⟨by decide +kernel, by decide +kernel, by decide +kernel⟩, gq 124 (by decide +kernel) rfl, ini_X8, gq 123 (by decide +kernel) rfl, rfl⟩
theorem ci_X9 : gCI yX9_init cX9_init 1 0 := ⟨⟨by decide +kernel, by decide +kernel, by decide +kernel⟩, gq 89 (by decide +kernel) rfl, ini_X9, gq 88 (by decide +kernel) rfl, rfl⟩
theorem ci_X6 : gCI yX6_init cX6_init 5 4 := ⟨⟨by decide +kernel, by decide +kernel, by decide +kernel⟩, gq 969 (by decide +kernel) rfl, ini_X6, gq 968 (by decide +kernel) rfl, rfl⟩
theorem clX9_7 : Cond.classLink RX9 7 RX3 ∈ lwg := gq 93 (by decide +kernel) rfl
theorem clX9_16 : Cond.classLink RX9 16 RX2 ∈ lwg := gq 170 (by decide +kernel) rfl
theorem clX9_25 : Cond.classLink RX9 25 RX1 ∈ lwg := gq 199 (by decide +kernel) rfl
theorem clX9_34 : Cond.classLink RX9 34 RX4 ∈ lwg := gq 220 (by decide +kernel) rfl
theorem clX9_48 : Cond.classLink RX9 48 RX7 ∈ lwg := gq 240 (by decide +kernel) rfl
theorem clX9_58 : Cond.classLink RX9 58 RX5 ∈ lwg := gq 242 (by decide +kernel) rfl
theorem clX9_242 : Cond.classLink RX9 242 RX6 ∈ lwg := gq 965 (by decide +kernel) rfl
theorem clX1_19 : Cond.classLink RX1 19 RX7 ∈ lwg := gq 205 (by decide +kernel) rfl
theorem clX2_15 : Cond.classLink RX2 15 RX7 ∈ lwg := gq 176 (by decide +kernel) rfl
theorem clX3_28 : Cond.classLink RX3 28 RX0 ∈ lwg := gq 104 (by decide +kernel) rfl
theorem clX3_35 : Cond.classLink RX3 35 RX8 ∈ lwg := gq 120 (by decide +kernel) rfl
theorem clX4_9 : Cond.classLink RX4 9 RX3 ∈ lwg := gq 226 (by decide +kernel) rfl
theorem clX5_40 : Cond.classLink RX5 40 RX7 ∈ lwg := gq 248 (by decide +kernel) rfl
set_option maxRecDepth 100000 in
set_option maxHeartbeats 4000000 in
theorem c_X7_init (l : Launch) {Γ : gG} {b b0 k : Nat} (hk : gkd k = 7) (hbb : b = b0 + k) : gMk1 l Γ yX7_init cX7_init 1 (gR 2 1 60) [] b (.inr (7, [.null, .int 0])) 2 (gRes Γ b0 k 2) 1 60 := by
  refine gzOf1 RX7 (by decide) rfl rfl (Nat.le_of_ble_eq_true rfl) (fun p e s m args below meth c H locs ls X hin hF hO B hl => ?_)
  have hx := X.1
  have hb := X.2.1
  have hl : lv_has ls 1 [(0, .ref b)] := hl
  have B : gB Γ b 1 (.inr (7, [.null, .int 0]) :: gRes Γ b0 (k + 1) 0) s H locs := B
  refine lv_aload_n hx hb dX7_init_0 rfl (lv_at hl 0 rfl) ?_
  refine gz_obj X hl.1 mlX7_3 oi_i oi_c (Nat.le_of_ble_eq_true rfl) (Nat.le_of_ble_eq_true rfl) dX7_init_1 ?_
  refine lv_aload_n hx hb dX7_init_4 rfl (lv_at hl 0 rfl) ?_
  refine lv_bipush (v := 60) hx hb dX7_init_5 (by decide) ?_
  refine gz_newi X B wac_i4 (by decide) (N' := 60) (by decide) (by decide) (by decide) (by decide) (cs' := .inr (7, [.null, .int 0]) :: gRes Γ b0 (k + 1) 1) (congrArg (List.cons _) (gRes_p (cellI_160 (kd_7_1 hk)))) dX7_init_7 (fun H locs B => ?_)
  refine W.widen (k := 1) (n := 60) (by decide) (by decide) ?_
  refine gz_put (b := b) X B 0 rfl rfl inX7 tyX7 tyX7_ok nmX7 0 (by decide) flX7_9 (Or.inr ⟨rfl, hin, rfl⟩) rfl rfl (Nat.le_of_ble_eq_true rfl) (cs' := .inr (7, [.ref (b + 1), .int 0]) :: gRes Γ b0 (k + 1) 1) rfl dX7_init_9 (fun H locs B => ?_)
  refine lv_aload_n hx hb dX7_init_12 rfl (lv_at hl 0 rfl) ?_
  refine lv_iconst (v := 0) hx hb dX7_init_13 (by decide) ?_
  refine gz_put (b := b) X B 0 rfl rfl inX7 tyX7 tyX7_ok nmX7 1 (by decide) flX7_15 (Or.inl rfl) rfl rfl (Nat.le_of_ble_eq_true rfl) (cs' := .inr (7, [.ref (b + 1), .int 0]) :: gRes Γ b0 (k + 1) 1) rfl dX7_init_14 (fun H locs B => ?_)
  have B : gB Γ b 2 (gRes Γ b0 k 2) s H locs := by
    have h := B
    rw [← cellI_o7 hk (b := b) hbb, gRes_c] at h
    exact h
  exact gz_retv X B dX7_init_17 (by decide) (by decide)
set_option maxRecDepth 100000 in
set_option maxHeartbeats 4000000 in
theorem c_X0_init (l : Launch) {Γ : gG} {b b0 k : Nat} (hk : gkd k = 0) (hbb : b = b0 + k) : gMk1 l Γ yX0_init cX0_init 1 (gR 2 1 20) [] b (.inr (0, [.null, .int 0])) 2 (gRes Γ b0 k 2) 1 20 := by
  refine gzOf1 RX0 (by decide) rfl rfl (Nat.le_of_ble_eq_true rfl) (fun p e s m args below meth c H locs ls X hin hF hO B hl => ?_)
  have hx := X.1
  have hb := X.2.1
  have hl : lv_has ls 1 [(0, .ref b)] := hl
  have B : gB Γ b 1 (.inr (0, [.null, .int 0]) :: gRes Γ b0 (k + 1) 0) s H locs := B
  refine lv_aload_n hx hb dX0_init_0 rfl (lv_at hl 0 rfl) ?_
  refine gz_obj X hl.1 mlX0_3 oi_i oi_c (Nat.le_of_ble_eq_true rfl) (Nat.le_of_ble_eq_true rfl) dX0_init_1 ?_
  refine lv_aload_n hx hb dX0_init_4 rfl (lv_at hl 0 rfl) ?_
  refine lv_bipush (v := 20) hx hb dX0_init_5 (by decide) ?_
  refine gz_newi X B wac_i4 (by decide) (N' := 20) (by decide) (by decide) (by decide) (by decide) (cs' := .inr (0, [.null, .int 0]) :: gRes Γ b0 (k + 1) 1) (congrArg (List.cons _) (gRes_p (cellI_120 (kd_0_1 hk)))) dX0_init_7 (fun H locs B => ?_)
  refine W.widen (k := 1) (n := 20) (by decide) (by decide) ?_
  refine gz_put (b := b) X B 0 rfl rfl inX0 tyX0 tyX0_ok nmX0 0 (by decide) flX0_9 (Or.inr ⟨rfl, hin, rfl⟩) rfl rfl (Nat.le_of_ble_eq_true rfl) (cs' := .inr (0, [.ref (b + 1), .int 0]) :: gRes Γ b0 (k + 1) 1) rfl dX0_init_9 (fun H locs B => ?_)
  refine lv_aload_n hx hb dX0_init_12 rfl (lv_at hl 0 rfl) ?_
  refine lv_iconst (v := 0) hx hb dX0_init_13 (by decide) ?_
  refine gz_put (b := b) X B 0 rfl rfl inX0 tyX0 tyX0_ok nmX0 1 (by decide) flX0_15 (Or.inl rfl) rfl rfl (Nat.le_of_ble_eq_true rfl) (cs' := .inr (0, [.ref (b + 1), .int 0]) :: gRes Γ b0 (k + 1) 1) rfl dX0_init_14 (fun H locs B => ?_)
  have B : gB Γ b 2 (gRes Γ b0 k 2) s H locs := by
    have h := B
    rw [← cellI_o0 hk (b := b) hbb, gRes_c] at h
    exact h
  exact gz_retv X B dX0_init_17 (by decide) (by decide)
set_option maxRecDepth 100000 in
set_option maxHeartbeats 4000000 in
theorem c_X8_init (l : Launch) {Γ : gG} {b b0 k : Nat} (hk : gkd k = 8) (hbb : b = b0 + k) : gMk1 l Γ yX8_init cX8_init 1 (gR 2 5 448) [] b (.inr (8, [.null, .null, .null, .null, .null, .int 0])) 6 (gRes Γ b0 k 6) 5 448 := by
  refine gzOf1 RX8 (by decide) rfl rfl (Nat.le_of_ble_eq_true rfl) (fun p e s m args below meth c H locs ls X hin hF hO B hl => ?_)
  have hx := X.1
  have hb := X.2.1
  have hl : lv_has ls 1 [(0, .ref b)] := hl
  have B : gB Γ b 1 (.inr (8, [.null, .null, .null, .null, .null, .int 0]) :: gRes Γ b0 (k + 1) 0) s H locs := B
  refine lv_aload_n hx hb dX8_init_0 rfl (lv_at hl 0 rfl) ?_
  refine gz_obj X hl.1 mlX8_3 oi_i oi_c (Nat.le_of_ble_eq_true rfl) (Nat.le_of_ble_eq_true rfl) dX8_init_1 ?_
  refine lv_aload_n hx hb dX8_init_4 rfl (lv_at hl 0 rfl) ?_
  refine lv_bipush (v := 16) hx hb dX8_init_5 (by decide) ?_
  refine gz_newi X B wac_i4 (by decide) (N' := 16) (by decide) (by decide) (by decide) (by decide) (cs' := .inr (8, [.null, .null, .null, .null, .null, .int 0]) :: gRes Γ b0 (k + 1) 1) (congrArg (List.cons _) (gRes_p (cellI_116 (kd_8_1 hk)))) dX8_init_7 (fun H locs B => ?_)
  refine W.widen (k := 1) (n := 16) (by decide) (by decide) ?_
  refine gz_put (b := b) X B 0 rfl rfl inX8 tyX8 tyX8_ok nmX8 0 (by decide) flX8_9 (Or.inr ⟨rfl, hin, rfl⟩) rfl rfl (Nat.le_of_ble_eq_true rfl) (cs' := .inr (8, [.ref (b + 1), .null, .null, .null, .null, .int 0]) :: gRes Γ b0 (k + 1) 1) rfl dX8_init_9 (fun H locs B => ?_)
  refine lv_aload_n hx hb dX8_init_12 rfl (lv_at hl 0 rfl) ?_
  refine lv_bipush (v := 16) hx hb dX8_init_13 (by decide) ?_
  refine gz_newi X B wac_i4 (by decide) (N' := 16) (by decide) (by decide) (by decide) (by decide) (cs' := .inr (8, [.ref (b + 1), .null, .null, .null, .null, .int 0]) :: gRes Γ b0 (k + 1) 2) (congrArg (List.cons _) (gRes_p (cellI_116 (kd_8_2 hk)))) dX8_init_15 (fun H locs B => ?_)
  refine W.widen (k := 2) (n := 32) (by decide) (by decide) ?_
  refine gz_put (b := b) X B 0 rfl rfl inX8 tyX8 tyX8_ok nmX8 1 (by decide) flX8_15 (Or.inr ⟨rfl, hin, rfl⟩) rfl rfl (Nat.le_of_ble_eq_true rfl) (cs' := .inr (8, [.ref (b + 1), .ref (b + 2), .null, .null, .null, .int 0]) :: gRes Γ b0 (k + 1) 2) rfl dX8_init_17 (fun H locs B => ?_)
  refine lv_aload_n hx hb dX8_init_20 rfl (lv_at hl 0 rfl) ?_
  refine lv_bipush (v := 16) hx hb dX8_init_21 (by decide) ?_
  refine gz_newi X B wac_i4 (by decide) (N' := 16) (by decide) (by decide) (by decide) (by decide) (cs' := .inr (8, [.ref (b + 1), .ref (b + 2), .null, .null, .null, .int 0]) :: gRes Γ b0 (k + 1) 3) (congrArg (List.cons _) (gRes_p (cellI_116 (kd_8_3 hk)))) dX8_init_23 (fun H locs B => ?_)
  refine W.widen (k := 3) (n := 48) (by decide) (by decide) ?_
  refine gz_put (b := b) X B 0 rfl rfl inX8 tyX8 tyX8_ok nmX8 2 (by decide) flX8_18 (Or.inr ⟨rfl, hin, rfl⟩) rfl rfl (Nat.le_of_ble_eq_true rfl) (cs' := .inr (8, [.ref (b + 1), .ref (b + 2), .ref (b + 3), .null, .null, .int 0]) :: gRes Γ b0 (k + 1) 3) rfl dX8_init_25 (fun H locs B => ?_)
  refine lv_aload_n hx hb dX8_init_28 rfl (lv_at hl 0 rfl) ?_
  refine lv_bipush (v := 16) hx hb dX8_init_29 (by decide) ?_
  refine gz_newi X B wac_i4 (by decide) (N' := 16) (by decide) (by decide) (by decide) (by decide) (cs' := .inr (8, [.ref (b + 1), .ref (b + 2), .ref (b + 3), .null, .null, .int 0]) :: gRes Γ b0 (k + 1) 4) (congrArg (List.cons _) (gRes_p (cellI_116 (kd_8_4 hk)))) dX8_init_31 (fun H locs B => ?_)
  refine W.widen (k := 4) (n := 64) (by decide) (by decide) ?_
  refine gz_put (b := b) X B 0 rfl rfl inX8 tyX8 tyX8_ok nmX8 3 (by decide) flX8_21 (Or.inr ⟨rfl, hin, rfl⟩) rfl rfl (Nat.le_of_ble_eq_true rfl) (cs' := .inr (8, [.ref (b + 1), .ref (b + 2), .ref (b + 3), .ref (b + 4), .null, .int 0]) :: gRes Γ b0 (k + 1) 4) rfl dX8_init_33 (fun H locs B => ?_)
  refine lv_aload_n hx hb dX8_init_36 rfl (lv_at hl 0 rfl) ?_
  refine lv_sipush (v := 384) hx hb dX8_init_37 (by decide) ?_
  refine gz_newi X B wac_i4 (by decide) (N' := 384) (by decide) (by decide) (by decide) (by decide) (cs' := .inr (8, [.ref (b + 1), .ref (b + 2), .ref (b + 3), .ref (b + 4), .null, .int 0]) :: gRes Γ b0 (k + 1) 5) (congrArg (List.cons _) (gRes_p (cellI_484 (kd_8_5 hk)))) dX8_init_40 (fun H locs B => ?_)
  refine W.widen (k := 5) (n := 448) (by decide) (by decide) ?_
  refine gz_put (b := b) X B 0 rfl rfl inX8 tyX8 tyX8_ok nmX8 4 (by decide) flX8_24 (Or.inr ⟨rfl, hin, rfl⟩) rfl rfl (Nat.le_of_ble_eq_true rfl) (cs' := .inr (8, [.ref (b + 1), .ref (b + 2), .ref (b + 3), .ref (b + 4), .ref (b + 5), .int 0]) :: gRes Γ b0 (k + 1) 5) rfl dX8_init_42 (fun H locs B => ?_)
  refine lv_aload_n hx hb dX8_init_45 rfl (lv_at hl 0 rfl) ?_
  refine lv_iconst (v := 0) hx hb dX8_init_46 (by decide) ?_
  refine gz_put (b := b) X B 0 rfl rfl inX8 tyX8 tyX8_ok nmX8 5 (by decide) flX8_27 (Or.inl rfl) rfl rfl (Nat.le_of_ble_eq_true rfl) (cs' := .inr (8, [.ref (b + 1), .ref (b + 2), .ref (b + 3), .ref (b + 4), .ref (b + 5), .int 0]) :: gRes Γ b0 (k + 1) 5) rfl dX8_init_47 (fun H locs B => ?_)
  have B : gB Γ b 6 (gRes Γ b0 k 6) s H locs := by
    have h := B
    rw [← cellI_o8 hk (b := b) hbb, gRes_c] at h
    exact h
  exact gz_retv X B dX8_init_50 (by decide) (by decide)
set_option maxRecDepth 100000 in
set_option maxHeartbeats 4000000 in
theorem c_X3_init (l : Launch) {Γ : gG} {b b0 k : Nat} (hk : gkd k = 3) (hbb : b = b0 + k) : gMk1 l Γ yX3_init cX3_init 1 (gR 3 15 936) [] b (.inr (3, [.int 0, .null, .null, .null, .null])) 16 (gRes Γ b0 k 16) 15 936 := by
  refine gzOf1 RX3 (by decide) rfl rfl (Nat.le_of_ble_eq_true rfl) (fun p e s m args below meth c H locs ls X hin hF hO B hl => ?_)
  have hx := X.1
  have hb := X.2.1
  have hl : lv_has ls 1 [(0, .ref b)] := hl
  have B : gB Γ b 1 (.inr (3, [.int 0, .null, .null, .null, .null]) :: gRes Γ b0 (k + 1) 0) s H locs := B
  refine lv_aload_n hx hb dX3_init_0 rfl (lv_at hl 0 rfl) ?_
  refine gz_obj X hl.1 mlX3_3 oi_i oi_c (Nat.le_of_ble_eq_true rfl) (Nat.le_of_ble_eq_true rfl) dX3_init_1 ?_
  refine lv_aload_n hx hb dX3_init_4 rfl (lv_at hl 0 rfl) ?_
  refine lv_sipush (v := 1000) hx hb dX3_init_5 (by decide) ?_
  refine gz_put (b := b) X B 0 rfl rfl inX3 tyX3 tyX3_ok nmX3 0 (by decide) flX3_9 (Or.inl rfl) rfl rfl (Nat.le_of_ble_eq_true rfl) (cs' := .inr (3, [.int 1000, .null, .null, .null, .null]) :: gRes Γ b0 (k + 1) 0) rfl dX3_init_8 (fun H locs B => ?_)
  refine lv_aload_n hx hb dX3_init_11 rfl (lv_at hl 0 rfl) ?_
  refine lv_bipush (v := 6) hx hb dX3_init_12 (by decide) ?_
  refine gz_newi X B wac_i4 (by decide) (N' := 6) (by decide) (by decide) (by decide) (by decide) (cs' := .inr (3, [.int 1000, .null, .null, .null, .null]) :: (gRes Γ b0 (k + 1) 0 ++ [.inl (Γ.2.1, 6, .inl (fun _ => 0))])) rfl dX3_init_14 (fun H locs B => ?_)
  refine W.widen (k := 1) (n := 6) (by decide) (by decide) ?_
  refine gz_put (b := b) X B 0 rfl rfl inX3 tyX3 tyX3_ok nmX3 1 (by decide) flX3_15 (Or.inr ⟨rfl, hin, rfl⟩) rfl rfl (Nat.le_of_ble_eq_true rfl) (cs' := .inr (3, [.int 1000, .ref (b + 1), .null, .null, .null]) :: (gRes Γ b0 (k + 1) 0 ++ [.inl (Γ.2.1, 6, .inl (fun _ => 0))])) rfl dX3_init_16 (fun H locs B => ?_)
  refine gz_tabN X B hF.2.2.2.2.1 fln_19 dX3_init_19 (fun t ht => ?_)
  refine lv_iconst (v := 0) hx hb dX3_init_22 (by decide) ?_
  refine lv_aload_n hx hb dX3_init_23 rfl (lv_at hl 0 rfl) ?_
  refine gz_get (b := b) X B 0 rfl rfl inX3 1 (by decide) flX3_15 rfl dX3_init_24 ?_
  refine lv_iconst (v := 0) hx hb dX3_init_27 (by decide) ?_
  refine lv_bipush (v := 6) hx hb dX3_init_28 (by decide) ?_
  refine gz_copy6 X B hl.1 mlX3_22 wac_n wac_s wac_i ht 1 rfl (cs' := .inr (3, [.int 1000, .ref (b + 1), .null, .null, .null]) :: gRes Γ b0 (k + 1) 1) (congrArg (List.cons _) (gRes_p (n := 0) (cellI_106 (kd_3_1 hk)))) (by decide) (Nat.le_of_ble_eq_true rfl) dX3_init_30 (fun H locs B => ?_)
  refine lv_aload_n hx hb dX3_init_33 rfl (lv_at hl 0 rfl) ?_
  refine gz_new (ci := 0) X B rfl inX0 tyX0 tyX0_ok clX3_28 ins_X0 ini_X0 (fs := [.null, .int 0]) frs_X0 (by decide) (by decide) (cs' := .inr (3, [.int 1000, .ref (b + 1), .null, .null, .null]) :: (gRes Γ b0 (k + 1) 1 ++ [.inr (0, [.null, .int 0])])) rfl dX3_init_34 (fun H locs B => ?_)
  refine W.widen (k := 2) (n := 8) (by decide) (by decide) ?_
  refine lv_dup hx hb dX3_init_37 rfl ?_
  refine gz_call1 (rest := [.ref (b + 2), .ref b]) (pre := .inr (3, [.int 1000, .ref (b + 1), .null, .null, .null]) :: gRes Γ b0 (k + 1) 1) (n := 2) X hF hO B (c_X0_init l (b := b + 2) (b0 := b0) (kd_3_2 hk) (by omega)) ci_X0 mlX3_30 rfl rfl hl.1 (Nat.le_of_ble_eq_true rfl) ⟨⟨rfl, rfl⟩, ⟨Nat.le_of_ble_eq_true rfl, Nat.le_of_ble_eq_true rfl⟩, Nat.le_of_ble_eq_true rfl, Nat.le_of_ble_eq_true rfl⟩ (cs' := .inr (3, [.int 1000, .ref (b + 1), .null, .null, .null]) :: gRes Γ b0 (k + 1) 3) (congrArg (List.cons _) (gRes_a Γ b0 (k + 1) 1 2)) dX3_init_38 (fun H locs B => ?_)
  refine W.widen (k := 3) (n := 28) (by decide) (by decide) ?_
  refine gz_put (b := b) X B 0 rfl rfl inX3 tyX3 tyX3_ok nmX3 2 (by decide) flX3_31 (Or.inr ⟨rfl, hin, rfl⟩) rfl rfl (Nat.le_of_ble_eq_true rfl) (cs' := .inr (3, [.int 1000, .ref (b + 1), .ref (b + 2), .null, .null]) :: gRes Γ b0 (k + 1) 3) rfl dX3_init_41 (fun H locs B => ?_)
  refine lv_aload_n hx hb dX3_init_44 rfl (lv_at hl 0 rfl) ?_
  refine gz_new (ci := 8) X B rfl inX8 tyX8 tyX8_ok clX3_35 ins_X8 ini_X8 (fs := [.null, .null, .null, .null, .null, .int 0]) frs_X8 (by decide) (by decide) (cs' := .inr (3, [.int 1000, .ref (b + 1), .ref (b + 2), .null, .null]) :: (gRes Γ b0 (k + 1) 3 ++ [.inr (8, [.null, .null, .null, .null, .null, .int 0])])) rfl dX3_init_45 (fun H locs B => ?_)
  refine W.widen (k := 4) (n := 34) (by decide) (by decide) ?_
  refine lv_dup hx hb dX3_init_48 rfl ?_
  refine gz_call1 (rest := [.ref (b + 4), .ref b]) (pre := .inr (3, [.int 1000, .ref (b + 1), .ref (b + 2), .null, .null]) :: gRes Γ b0 (k + 1) 3) (n := 4) X hF hO B (c_X8_init l (b := b + 4) (b0 := b0) (kd_3_4 hk) (by omega)) ci_X8 mlX3_37 rfl rfl hl.1 (Nat.le_of_ble_eq_true rfl) ⟨⟨rfl, rfl⟩, ⟨Nat.le_of_ble_eq_true rfl, Nat.le_of_ble_eq_true rfl⟩, Nat.le_of_ble_eq_true rfl, Nat.le_of_ble_eq_true rfl⟩ (cs' := .inr (3, [.int 1000, .ref (b + 1), .ref (b + 2), .null, .null]) :: gRes Γ b0 (k + 1) 9) (congrArg (List.cons _) (gRes_a Γ b0 (k + 1) 3 6)) dX3_init_49 (fun H locs B => ?_)
  refine W.widen (k := 9) (n := 482) (by decide) (by decide) ?_
  refine gz_put (b := b) X B 0 rfl rfl inX3 tyX3 tyX3_ok nmX3 3 (by decide) flX3_38 (Or.inr ⟨rfl, hin, rfl⟩) rfl rfl (Nat.le_of_ble_eq_true rfl) (cs' := .inr (3, [.int 1000, .ref (b + 1), .ref (b + 2), .ref (b + 4), .null]) :: gRes Γ b0 (k + 1) 9) rfl dX3_init_52 (fun H locs B => ?_)
  refine lv_aload_n hx hb dX3_init_55 rfl (lv_at hl 0 rfl) ?_
  refine gz_new (ci := 8) X B rfl inX8 tyX8 tyX8_ok clX3_35 ins_X8 ini_X8 (fs := [.null, .null, .null, .null, .null, .int 0]) frs_X8 (by decide) (by decide) (cs' := .inr (3, [.int 1000, .ref (b + 1), .ref (b + 2), .ref (b + 4), .null]) :: (gRes Γ b0 (k + 1) 9 ++ [.inr (8, [.null, .null, .null, .null, .null, .int 0])])) rfl dX3_init_56 (fun H locs B => ?_)
  refine W.widen (k := 10) (n := 488) (by decide) (by decide) ?_
  refine lv_dup hx hb dX3_init_59 rfl ?_
  refine gz_call1 (rest := [.ref (b + 10), .ref b]) (pre := .inr (3, [.int 1000, .ref (b + 1), .ref (b + 2), .ref (b + 4), .null]) :: gRes Γ b0 (k + 1) 9) (n := 10) X hF hO B (c_X8_init l (b := b + 10) (b0 := b0) (kd_3_10 hk) (by omega)) ci_X8 mlX3_37 rfl rfl hl.1 (Nat.le_of_ble_eq_true rfl) ⟨⟨rfl, rfl⟩, ⟨Nat.le_of_ble_eq_true rfl, Nat.le_of_ble_eq_true rfl⟩, Nat.le_of_ble_eq_true rfl, Nat.le_of_ble_eq_true rfl⟩ (cs' := .inr (3, [.int 1000, .ref (b + 1), .ref (b + 2), .ref (b + 4), .null]) :: gRes Γ b0 (k + 1) 15) (congrArg (List.cons _) (gRes_a Γ b0 (k + 1) 9 6)) dX3_init_60 (fun H locs B => ?_)
  refine W.widen (k := 15) (n := 936) (by decide) (by decide) ?_
  refine gz_put (b := b) X B 0 rfl rfl inX3 tyX3 tyX3_ok nmX3 4 (by decide) flX3_42 (Or.inr ⟨rfl, hin, rfl⟩) rfl rfl (Nat.le_of_ble_eq_true rfl) (cs' := .inr (3, [.int 1000, .ref (b + 1), .ref (b + 2), .ref (b + 4), .ref (b + 10)]) :: gRes Γ b0 (k + 1) 15) rfl dX3_init_63 (fun H locs B => ?_)
  have B : gB Γ b 16 (gRes Γ b0 k 16) s H locs := by
    have h := B
    rw [← cellI_o3 hk (b := b) hbb, gRes_c] at h
    exact h
  exact gz_retv X B dX3_init_66 (by decide) (by decide)
set_option maxRecDepth 100000 in
set_option maxHeartbeats 4000000 in
theorem c_X2_init (l : Launch) {Γ : gG} {b b0 : Nat} (hbb : b = b0 + 17) {f1 : Nat} (hf1 : f1 = b0 + 1) : gMk1 l Γ yX2_init cX2_init 2 (gR 3 2 62) [.ref f1] b (.inr (2, [.null, .null])) 3 (gRes Γ b0 17 3) 2 62 := by
  subst hf1
  refine gzOf1 RX2 (by decide) rfl rfl (Nat.le_of_ble_eq_true rfl) (fun p e s m args below meth c H locs ls X hin hF hO B hl => ?_)
  have hx := X.1
  have hb := X.2.1
  have hl : lv_has ls 2 [(0, .ref b), (1, .ref (b0 + 1))] := hl
  have B : gB Γ b 1 (.inr (2, [.null, .null]) :: gRes Γ b0 18 0) s H locs := B
  refine lv_aload_n hx hb dX2_init_0 rfl (lv_at hl 0 rfl) ?_
  refine gz_obj X hl.1 mlX2_3 oi_i oi_c (Nat.le_of_ble_eq_true rfl) (Nat.le_of_ble_eq_true rfl) dX2_init_1 ?_
  refine lv_aload_n hx hb dX2_init_4 rfl (lv_at hl 0 rfl) ?_
  refine lv_aload_n hx hb dX2_init_5 rfl (lv_at hl 1 rfl) ?_
  refine gz_put (b := b) X B 0 rfl rfl inX2 tyX2 tyX2_ok nmX2 0 (by decide) flX2_9 (Or.inr ⟨rfl, hin, rfl⟩) rfl rfl (Nat.le_of_ble_eq_true rfl) (cs' := .inr (2, [.ref (b0 + 1), .null]) :: gRes Γ b0 18 0) rfl dX2_init_6 (fun H locs B => ?_)
  refine lv_aload_n hx hb dX2_init_9 rfl (lv_at hl 0 rfl) ?_
  refine gz_new (ci := 7) X B rfl inX7 tyX7 tyX7_ok clX2_15 ins_X7 ini_X7 (fs := [.null, .int 0]) frs_X7 (by decide) (by decide) (cs' := .inr (2, [.ref (b0 + 1), .null]) :: (gRes Γ b0 18 0 ++ [.inr (7, [.null, .int 0])])) rfl dX2_init_10 (fun H locs B => ?_)
  refine W.widen (k := 1) (n := 2) (by decide) (by decide) ?_
  refine lv_dup hx hb dX2_init_13 rfl ?_
  refine gz_call1 (rest := [.ref (b + 1), .ref b]) (pre := .inr (2, [.ref (b0 + 1), .null]) :: gRes Γ b0 18 0) (n := 1) X hF hO B (c_X7_init l (b := b + 1) (b0 := b0) (by decide +kernel : gkd 18 = 7) (by omega)) ci_X7 mlX2_17 rfl rfl hl.1 (Nat.le_of_ble_eq_true rfl) ⟨⟨rfl, rfl⟩, ⟨Nat.le_of_ble_eq_true rfl, Nat.le_of_ble_eq_true rfl⟩, Nat.le_of_ble_eq_true rfl, Nat.le_of_ble_eq_true rfl⟩ (cs' := .inr (2, [.ref (b0 + 1), .null]) :: gRes Γ b0 18 2) (congrArg (List.cons _) (gRes_a Γ b0 18 0 2)) dX2_init_14 (fun H locs B => ?_)
  refine W.widen (k := 2) (n := 62) (by decide) (by decide) ?_
  refine gz_put (b := b) X B 0 rfl rfl inX2 tyX2 tyX2_ok nmX2 1 (by decide) flX2_18 (Or.inr ⟨rfl, hin, rfl⟩) rfl rfl (Nat.le_of_ble_eq_true rfl) (cs' := .inr (2, [.ref (b0 + 1), .ref (b + 1)]) :: gRes Γ b0 18 2) rfl dX2_init_17 (fun H locs B => ?_)
  have B : gB Γ b 3 (gRes Γ b0 17 3) s H locs := by
    have h := B
    rw [← cellI_o2 (k := 17) (b0 := b0) (by decide +kernel) (b := b) hbb rfl, gRes_c] at h
    exact h
  exact gz_retv X B dX2_init_20 (by decide) (by decide)
set_option maxRecDepth 100000 in
set_option maxHeartbeats 4000000 in
theorem c_X1_init (l : Launch) {Γ : gG} {b b0 : Nat} (hbb : b = b0 + 20) {f1 : Nat} (hf1 : f1 = b0 + 1) {f17 : Nat} (hf17 : f17 = b0 + 17) : gMk1 l Γ yX1_init cX1_init 3 (gR 3 4 124) [.ref f1, .ref f17] b (.inr (1, [.null, .null, .null, .null])) 5 (gRes Γ b0 20 5) 4 124 := by
  subst hf1
  subst hf17
  refine gzOf1 RX1 (by decide) rfl rfl (Nat.le_of_ble_eq_true rfl) (fun p e s m args below meth c H locs ls X hin hF hO B hl => ?_)
  have hx := X.1
  have hb := X.2.1
  have hl : lv_has ls 3 [(0, .ref b), (1, .ref (b0 + 1)), (2, .ref (b0 + 17))] := hl
  have B : gB Γ b 1 (.inr (1, [.null, .null, .null, .null]) :: gRes Γ b0 21 0) s H locs := B
  refine lv_aload_n hx hb dX1_init_0 rfl (lv_at hl 0 rfl) ?_
  refine gz_obj X hl.1 mlX1_3 oi_i oi_c (Nat.le_of_ble_eq_true rfl) (Nat.le_of_ble_eq_true rfl) dX1_init_1 ?_
  refine lv_aload_n hx hb dX1_init_4 rfl (lv_at hl 0 rfl) ?_
  refine lv_aload_n hx hb dX1_init_5 rfl (lv_at hl 1 rfl) ?_
  refine gz_put (b := b) X B 0 rfl rfl inX1 tyX1 tyX1_ok nmX1 0 (by decide) flX1_9 (Or.inr ⟨rfl, hin, rfl⟩) rfl rfl (Nat.le_of_ble_eq_true rfl) (cs' := .inr (1, [.ref (b0 + 1), .null, .null, .null]) :: gRes Γ b0 21 0) rfl dX1_init_6 (fun H locs B => ?_)
  refine lv_aload_n hx hb dX1_init_9 rfl (lv_at hl 0 rfl) ?_
  refine lv_aload_n hx hb dX1_init_10 rfl (lv_at hl 2 rfl) ?_
  refine gz_put (b := b) X B 0 rfl rfl inX1 tyX1 tyX1_ok nmX1 1 (by decide) flX1_15 (Or.inr ⟨rfl, hin, rfl⟩) rfl rfl (Nat.le_of_ble_eq_true rfl) (cs' := .inr (1, [.ref (b0 + 1), .ref (b0 + 17), .null, .null]) :: gRes Γ b0 21 0) rfl dX1_init_11 (fun H locs B => ?_)
  refine lv_aload_n hx hb dX1_init_14 rfl (lv_at hl 0 rfl) ?_
  refine gz_new (ci := 7) X B rfl inX7 tyX7 tyX7_ok clX1_19 ins_X7 ini_X7 (fs := [.null, .int 0]) frs_X7 (by decide) (by decide) (cs' := .inr (1, [.ref (b0 + 1), .ref (b0 + 17), .null, .null]) :: (gRes Γ b0 21 0 ++ [.inr (7, [.null, .int 0])])) rfl dX1_init_15 (fun H locs B => ?_)
  refine W.widen (k := 1) (n := 2) (by decide) (by decide) ?_
  refine lv_dup hx hb dX1_init_18 rfl ?_
  refine gz_call1 (rest := [.ref (b + 1), .ref b]) (pre := .inr (1, [.ref (b0 + 1), .ref (b0 + 17), .null, .null]) :: gRes Γ b0 21 0) (n := 1) X hF hO B (c_X7_init l (b := b + 1) (b0 := b0) (by decide +kernel : gkd 21 = 7) (by omega)) ci_X7 mlX1_21 rfl rfl hl.1 (Nat.le_of_ble_eq_true rfl) ⟨⟨rfl, rfl⟩, ⟨Nat.le_of_ble_eq_true rfl, Nat.le_of_ble_eq_true rfl⟩, Nat.le_of_ble_eq_true rfl, Nat.le_of_ble_eq_true rfl⟩ (cs' := .inr (1, [.ref (b0 + 1), .ref (b0 + 17), .null, .null]) :: gRes Γ b0 21 2) (congrArg (List.cons _) (gRes_a Γ b0 21 0 2)) dX1_init_19 (fun H locs B => ?_)
  refine W.widen (k := 2) (n := 62) (by decide) (by decide) ?_
  refine gz_put (b := b) X B 0 rfl rfl inX1 tyX1 tyX1_ok nmX1 2 (by decide) flX1_22 (Or.inr ⟨rfl, hin, rfl⟩) rfl rfl (Nat.le_of_ble_eq_true rfl) (cs' := .inr (1, [.ref (b0 + 1), .ref (b0 + 17), .ref (b + 1), .null]) :: gRes Γ b0 21 2) rfl dX1_init_22 (fun H locs B => ?_)
  refine lv_aload_n hx hb dX1_init_25 rfl (lv_at hl 0 rfl) ?_
  refine gz_new (ci := 7) X B rfl inX7 tyX7 tyX7_ok clX1_19 ins_X7 ini_X7 (fs := [.null, .int 0]) frs_X7 (by decide) (by decide) (cs' := .inr (1, [.ref (b0 + 1), .ref (b0 + 17), .ref (b + 1), .null]) :: (gRes Γ b0 21 2 ++ [.inr (7, [.null, .int 0])])) rfl dX1_init_26 (fun H locs B => ?_)
  refine W.widen (k := 3) (n := 64) (by decide) (by decide) ?_
  refine lv_dup hx hb dX1_init_29 rfl ?_
  refine gz_call1 (rest := [.ref (b + 3), .ref b]) (pre := .inr (1, [.ref (b0 + 1), .ref (b0 + 17), .ref (b + 1), .null]) :: gRes Γ b0 21 2) (n := 3) X hF hO B (c_X7_init l (b := b + 3) (b0 := b0) (by decide +kernel : gkd 23 = 7) (by omega)) ci_X7 mlX1_21 rfl rfl hl.1 (Nat.le_of_ble_eq_true rfl) ⟨⟨rfl, rfl⟩, ⟨Nat.le_of_ble_eq_true rfl, Nat.le_of_ble_eq_true rfl⟩, Nat.le_of_ble_eq_true rfl, Nat.le_of_ble_eq_true rfl⟩ (cs' := .inr (1, [.ref (b0 + 1), .ref (b0 + 17), .ref (b + 1), .null]) :: gRes Γ b0 21 4) (congrArg (List.cons _) (gRes_a Γ b0 21 2 2)) dX1_init_30 (fun H locs B => ?_)
  refine W.widen (k := 4) (n := 124) (by decide) (by decide) ?_
  refine gz_put (b := b) X B 0 rfl rfl inX1 tyX1 tyX1_ok nmX1 3 (by decide) flX1_26 (Or.inr ⟨rfl, hin, rfl⟩) rfl rfl (Nat.le_of_ble_eq_true rfl) (cs' := .inr (1, [.ref (b0 + 1), .ref (b0 + 17), .ref (b + 1), .ref (b + 3)]) :: gRes Γ b0 21 4) rfl dX1_init_33 (fun H locs B => ?_)
  have B : gB Γ b 5 (gRes Γ b0 20 5) s H locs := by
    have h := B
    rw [← cellI_o1 (k := 20) (b0 := b0) (by decide +kernel) (b := b) hbb rfl, gRes_c] at h
    exact h
  exact gz_retv X B dX1_init_36 (by decide) (by decide)
def gHr (b0 i : Nat) : Nat → Option Nat := fun j => if j < i then some (b0 + gFx j) else none
theorem gHr_up {b b0 i : Nat} (hbb : b = b0 + 25) : va_up (gHr b0 i) i (some (b + (2 + 16 * i))) = gHr b0 (i + 1) := by
  funext j
  unfold va_up gHr gFx
  by_cases h : j = i
  · subst h
    rw [if_pos rfl, if_pos (by omega)]
    congr 1; omega
  · rw [if_neg h]
    by_cases h2 : j < i
    · rw [if_pos h2, if_pos (by omega)]
    · rw [if_neg h2, if_neg (by omega)]
theorem gHr_0 (b0 : Nat) : gHr b0 0 = fun _ => none := by funext j; unfold gHr; rw [if_neg (by omega)]
theorem nI_1' (i : Nat) : nI i + 1 = nI (i + 1) := by rw [nI_succ]
theorem cellI_26 {Γ : gG} {b0 : Nat} : cellI Γ b0 26 = .inl (Γ.2.2.1, 9, .inr (.inr (.inr (.inr (fun j => some (b0 + gFx j)))))) := by
  unfold cellI
  rw [ceC_209 kd_s26]
theorem gHr_9 {Γ : gG} {b n : Nat} {pre suf : List va_E} {b0 : Nat} {s : State} {H : Heap} {locs : List Loc} (hp : pre.length = 1) (B : gB Γ b n (pre ++ .inl (Γ.2.2.1, 9, .inr (.inr (.inr (.inr (gHr b0 9))))) :: suf) s H locs) : gB Γ b n (pre ++ cellI Γ b0 26 :: suf) s H locs := by
  obtain ⟨h1, h2, h3, h4⟩ := B
  refine ⟨by rw [List.length_append] at h1 ⊢; exact h1, h2, fun i e hi => ?_, h4⟩
  by_cases h : i = 1
  · subst h
    have h5 := h3 1 (.inl (Γ.2.2.1, 9, .inr (.inr (.inr (.inr (gHr b0 9)))))) (by rw [List.getElem?_append_right (by omega), hp]; rfl)
    rw [List.getElem?_append_right (by omega), hp] at hi
    have he : e = cellI Γ b0 26 := (Option.some.inj hi).symm
    rw [he, cellI_26]
    have h6 : H[b + 1]? = some (vp_cell Γ.2.2.1 (9, .inr (.inr (.inr (.inr (gHr b0 9)))))) := h5
    show H[b + 1]? = some (vp_cell Γ.2.2.1 (9, .inr (.inr (.inr (.inr (fun j => some (b0 + gFx j)))))))
    rw [h6, vp_cell_q, vp_cell_q]
    congr 1
  · refine h3 i e ?_
    by_cases h0 : i < 1
    · rw [List.getElem?_append_left (by omega)] at hi ⊢; exact hi
    · rw [List.getElem?_append_right (by omega), hp] at hi ⊢
      rw [show i - 1 = (i - 2) + 1 by omega] at hi ⊢
      exact hi
set_option maxRecDepth 100000 in
set_option maxHeartbeats 4000000 in
theorem w_X4_init_l {l : Launch} {Γ : gG} {ad : Nat → Nat} {b b0 : Nat} (hbb : b = b0 + 25) {p : Program} {e : Env} {s : State} {m : MethodId} {args : Array Value} {below : List Frame} {meth : Method} {c : Code} {Q : State → Prop} (X : gX celC Γ ad 0 RX4 cX4_init 2 none p s m args meth c) (hF : gF (fun q => b ≤ q) s s.heap) (hO : va_AO RX3 s)
    (J : ∀ (H : Heap) (locs : List Loc) (ls : Array Slot), gB Γ b 146 (.inr (4, [.ref (b + 1), .int 0, .int 0]) :: .inl (Γ.2.2.1, 9, .inr (.inr (.inr (.inr (gHr b0 9))))) :: gRes Γ b0 27 144) s H locs → lv_has ls 2 [(1, .int 9), (0, .ref b)] → W p l e (gR 4 145 8478) s m args below meth c H locs 145 8478 Q (F0 m 43 ls [])) :
    ∀ (d i : Nat), i + d = 9 → ∀ (H : Heap) (locs : List Loc) (ls : Array Slot), gB Γ b (2 + 16 * i) (.inr (4, [.ref (b + 1), .int 0, .int 0]) :: .inl (Γ.2.2.1, 9, .inr (.inr (.inr (.inr (gHr b0 i))))) :: gRes Γ b0 27 (16 * i)) s H locs → lv_has ls 2 [(1, .int (nI i)), (0, .ref b)] → W p l e (gR 4 145 8478) s m args below meth c H locs (1 + 16 * i) (9 + 941 * i) Q (F0 m 15 ls []) := by
  have hx := X.1
  have hb := X.2.1
  intro d
  induction d with
  | zero =>
    intro i hi H locs ls B hl
    obtain rfl : i = 9 := by omega
    refine lv_iload_n hx hb dX4_init_15 rfl (lv_at hl 0 rfl) ?_
    refine lv_aload_n hx hb dX4_init_16 rfl (lv_at hl 1 rfl) ?_
    refine gz_get (b := b) X B 0 rfl rfl inX4 0 (by decide) flX4_11 rfl dX4_init_17 ?_
    refine gz_alenq X B 1 rfl rfl (v := 9) (by decide) dX4_init_20 ?_
    refine lv_icmp_ge (tgt := 43) hx hb dX4_init_21 (by decide) (fun c => ?_) (fun c => ?_)
    · exact J _ _ _ B hl
    · exact absurd (by decide : (9 : Int32) ≤ nI 9) c
  | succ d ih =>
    intro i hi H locs ls B hl
    have h9 : i < 9 := by omega
    refine lv_iload_n hx hb dX4_init_15 rfl (lv_at hl 0 rfl) ?_
    refine lv_aload_n hx hb dX4_init_16 rfl (lv_at hl 1 rfl) ?_
    refine gz_get (b := b) X B 0 rfl rfl inX4 0 (by decide) flX4_11 rfl dX4_init_17 ?_
    refine gz_alenq X B 1 rfl rfl (v := 9) (by decide) dX4_init_20 ?_
    refine lv_icmp_ge (tgt := 43) hx hb dX4_init_21 (by decide) (fun c => absurd c (nI_ge (b := 9) (a := i) h9 (by omega))) (fun c => ?_)
    refine lv_aload_n hx hb dX4_init_24 rfl (lv_at hl 1 rfl) ?_
    refine gz_get (b := b) X B 0 rfl rfl inX4 0 (by decide) flX4_11 rfl dX4_init_25 ?_
    refine lv_iload_n hx hb dX4_init_28 rfl (lv_at hl 0 rfl) ?_
    refine gz_new (ci := 3) X B rfl inX3 tyX3 tyX3_ok clX4_9 ins_X3 ini_X3 (fs := [.int 0, .null, .null, .null, .null]) frs_X3 (by show 1 + 16 * i + 1 ≤ 145; omega) (by show 9 + 941 * i + 5 ≤ 8478; omega) (cs' := (.inr (4, [.ref (b + 1), .int 0, .int 0]) :: .inl (Γ.2.2.1, 9, .inr (.inr (.inr (.inr (gHr b0 i))))) :: gRes Γ b0 27 (16 * i)) ++ [.inr (3, [.int 0, .null, .null, .null, .null])]) rfl dX4_init_29 (fun H locs B => ?_)
    refine lv_dup hx hb dX4_init_32 rfl ?_
    refine gz_call1 (rest := [.ref (b + (2 + 16 * i)), .int (nI i), .ref (b + 1)]) (pre := .inr (4, [.ref (b + 1), .int 0, .int 0]) :: .inl (Γ.2.2.1, 9, .inr (.inr (.inr (.inr (gHr b0 i))))) :: gRes Γ b0 27 (16 * i)) (n := 2 + 16 * i) X hF hO B (c_X3_init l (b := b + (2 + 16 * i)) (b0 := b0) (k := 27 + 16 * i) (kd_fx h9) (by omega)) ci_X3 mlX4_17 rfl rfl hl.1 (Nat.le_of_ble_eq_true rfl) ⟨⟨rfl, rfl⟩, ⟨Nat.le_of_ble_eq_true rfl, Nat.le_of_ble_eq_true rfl⟩, by show 1 + 16 * i + 1 + 15 ≤ 145; omega, by show 9 + 941 * i + 5 + 936 ≤ 8478; omega⟩ (cs' := .inr (4, [.ref (b + 1), .int 0, .int 0]) :: .inl (Γ.2.2.1, 9, .inr (.inr (.inr (.inr (gHr b0 i))))) :: gRes Γ b0 27 (16 * i + 16)) (congrArg (List.cons _) (congrArg (List.cons _) (gRes_a Γ b0 27 (16 * i) 16))) dX4_init_33 (fun H locs B => ?_)
    have hov : (gRes Γ b0 27 (16 * i + 16))[16 * i]? = some (.inr (3, [.int 1000, .ref (b + (2 + 16 * i) + 1), .ref (b + (2 + 16 * i) + 2), .ref (b + (2 + 16 * i) + 4), .ref (b + (2 + 16 * i) + 10)])) := by
      rw [gRes_get (by omega), cellI_o3 (k := 27 + 16 * i) (b0 := b0) (b := b + (2 + 16 * i)) (kd_fx h9) (by omega)]
    refine gz_aast (b := b) (v := b + (2 + 16 * i)) X B 1 (16 * i + 2) rfl rfl (by rw [show 16 * i + 2 = (16 * i + 1) + 1 from rfl, List.getElem?_cons_succ, List.getElem?_cons_succ]; exact hov) (by omega) rfl (k := nI i) (vp_in_nI h9 (by omega)) (cs' := .inr (4, [.ref (b + 1), .int 0, .int 0]) :: .inl (Γ.2.2.1, 9, .inr (.inr (.inr (.inr (gHr b0 (i + 1)))))) :: gRes Γ b0 27 (16 * (i + 1))) (by
      rw [nI_clamp (by omega), gHr_up hbb]; rfl) dX4_init_36 (fun H locs B => ?_)
    refine lv_iinc (v := nI i + 1) (lv' := [(1, .int (nI i + 1)), (0, .ref b)]) hx hb dX4_init_37 hl (k := 0) rfl rfl (by decide) rfl (fun ls hl => ?_)
    refine lv_goto (tgt := 15) hx hb dX4_init_40 (by decide) ?_
    rw [nI_1' i] at hl
    refine W.widen (k := 1 + 16 * (i + 1)) (n := 9 + 941 * (i + 1)) (by omega) (by omega) ?_
    exact ih (i + 1) (by omega) _ _ _ B hl

set_option maxRecDepth 100000 in
set_option maxHeartbeats 4000000 in
theorem c_X4_init (l : Launch) {Γ : gG} {b b0 : Nat} (hbb : b = b0 + 25) : gMk1 l Γ yX4_init cX4_init 2 (gR 4 145 8478) [] b (.inr (4, [.null, .int 0, .int 0])) 146 (gRes Γ b0 25 146) 145 8478 := by
  refine gzOf1 RX4 (by decide) rfl rfl (Nat.le_of_ble_eq_true rfl) (fun p e s m args below meth c H locs ls X hin hF hO B hl => ?_)
  have hx := X.1
  have hb := X.2.1
  have hl : lv_has ls 2 [(0, .ref b)] := hl
  have B : gB Γ b 1 ([.inr (4, [.null, .int 0, .int 0])]) s H locs := B
  refine lv_aload_n hx hb dX4_init_0 rfl (lv_at hl 0 rfl) ?_
  refine gz_obj X hl.1 mlX4_3 oi_i oi_c (Nat.le_of_ble_eq_true rfl) (Nat.le_of_ble_eq_true rfl) dX4_init_1 ?_
  refine lv_aload_n hx hb dX4_init_4 rfl (lv_at hl 0 rfl) ?_
  refine lv_bipush (v := 9) hx hb dX4_init_5 (by decide) ?_
  refine gz_newq X B clX4_9 (va_AO.use hO) rfl (by decide) (N' := 9) (by decide) (by decide) (by decide) (by decide) (cs' := [.inr (4, [.null, .int 0, .int 0]), .inl (Γ.2.2.1, 9, .inr (.inr (.inr (.inr (fun _ => none)))))]) rfl dX4_init_7 (fun H locs B => ?_)
  refine gz_put (b := b) X B 0 rfl rfl inX4 tyX4 tyX4_ok nmX4 0 (by decide) flX4_11 (Or.inr ⟨rfl, hin, rfl⟩) rfl rfl (Nat.le_of_ble_eq_true rfl) (cs' := [.inr (4, [.ref (b + 1), .int 0, .int 0]), .inl (Γ.2.2.1, 9, .inr (.inr (.inr (.inr (fun _ => none)))))]) rfl dX4_init_10 (fun H locs B => ?_)
  refine lv_iconst (v := 0) hx hb dX4_init_13 (by decide) ?_
  refine lv_istore_n (lv' := [(1, .int 0), (0, .ref b)]) hx hb dX4_init_14 rfl hl (by decide) rfl (fun ls hl => ?_)
  refine w_X4_init_l hbb X hF hO (fun H locs ls B hl => ?_) 9 0 rfl _ _ _ (by rw [gHr_0]; exact B) hl
  refine lv_aload_n hx hb dX4_init_43 rfl (lv_at hl 1 rfl) ?_
  refine lv_iconst (v := 0) hx hb dX4_init_44 (by decide) ?_
  refine gz_put (b := b) X B 0 rfl rfl inX4 tyX4 tyX4_ok nmX4 1 (by decide) flX4_18 (Or.inl rfl) rfl rfl (Nat.le_of_ble_eq_true rfl) (cs' := .inr (4, [.ref (b + 1), .int 0, .int 0]) :: .inl (Γ.2.2.1, 9, .inr (.inr (.inr (.inr (gHr b0 9))))) :: gRes Γ b0 27 144) rfl dX4_init_45 (fun H locs B => ?_)
  refine lv_aload_n hx hb dX4_init_48 rfl (lv_at hl 1 rfl) ?_
  refine lv_iconst (v := 0) hx hb dX4_init_49 (by decide) ?_
  refine gz_put (b := b) X B 0 rfl rfl inX4 tyX4 tyX4_ok nmX4 2 (by decide) flX4_22 (Or.inl rfl) rfl rfl (Nat.le_of_ble_eq_true rfl) (cs' := .inr (4, [.ref (b + 1), .int 0, .int 0]) :: .inl (Γ.2.2.1, 9, .inr (.inr (.inr (.inr (gHr b0 9))))) :: gRes Γ b0 27 144) rfl dX4_init_50 (fun H locs B => ?_)
  have B : gB Γ b 146 (gRes Γ b0 25 146) s H locs := by
    have h := gHr_9 (pre := [.inr (4, [.ref (b + 1), .int 0, .int 0])]) rfl B
    rw [List.singleton_append, gRes_c Γ b0 26 144, ← cellI_o4 (k := 25) (b0 := b0) (b := b) (by decide +kernel) hbb rfl, gRes_c] at h
    exact h
  exact gz_retv X B dX4_init_53 (by decide) (by decide)
set_option maxRecDepth 100000 in
set_option maxHeartbeats 4000000 in
theorem c_X5_init (l : Launch) {Γ : gG} {b b0 : Nat} (hbb : b = b0 + 191) : gMk1 l Γ yX5_init cX5_init 1 (gR 3 9 272) [] b (.inr (5, [.null, .null, .null, .null, .null, .null, .null, .int 0, .int 0, .null])) 10 (gRes Γ b0 191 10) 9 272 := by
  refine gzOf1 RX5 (by decide) rfl rfl (Nat.le_of_ble_eq_true rfl) (fun p e s m args below meth c H locs ls X hin hF hO B hl => ?_)
  have hx := X.1
  have hb := X.2.1
  have hl : lv_has ls 1 [(0, .ref b)] := hl
  have B : gB Γ b 1 (.inr (5, [.null, .null, .null, .null, .null, .null, .null, .int 0, .int 0, .null]) :: gRes Γ b0 192 0) s H locs := B
  refine lv_aload_n hx hb dX5_init_0 rfl (lv_at hl 0 rfl) ?_
  refine gz_obj X hl.1 mlX5_3 oi_i oi_c (Nat.le_of_ble_eq_true rfl) (Nat.le_of_ble_eq_true rfl) dX5_init_1 ?_
  refine lv_aload_n hx hb dX5_init_4 rfl (lv_at hl 0 rfl) ?_
  refine lv_bipush (v := 30) hx hb dX5_init_5 (by decide) ?_
  refine gz_newi X B wac_i4 (by decide) (N' := 30) (by decide) (by decide) (by decide) (by decide) (cs' := .inr (5, [.null, .null, .null, .null, .null, .null, .null, .int 0, .int 0, .null]) :: gRes Γ b0 192 1) (congrArg (List.cons _) (gRes_p (cellI_130 (by decide +kernel : gkd 192 = 130)))) dX5_init_7 (fun H locs B => ?_)
  refine W.widen (k := 1) (n := 30) (by decide) (by decide) ?_
  refine gz_put (b := b) X B 0 rfl rfl inX5 tyX5 tyX5_ok nmX5 0 (by decide) flX5_9 (Or.inr ⟨rfl, hin, rfl⟩) rfl rfl (Nat.le_of_ble_eq_true rfl) (cs' := .inr (5, [.ref (b + 1), .null, .null, .null, .null, .null, .null, .int 0, .int 0, .null]) :: gRes Γ b0 192 1) rfl dX5_init_9 (fun H locs B => ?_)
  refine lv_aload_n hx hb dX5_init_12 rfl (lv_at hl 0 rfl) ?_
  refine lv_bipush (v := 30) hx hb dX5_init_13 (by decide) ?_
  refine gz_newi X B wac_i4 (by decide) (N' := 30) (by decide) (by decide) (by decide) (by decide) (cs' := .inr (5, [.ref (b + 1), .null, .null, .null, .null, .null, .null, .int 0, .int 0, .null]) :: gRes Γ b0 192 2) (congrArg (List.cons _) (gRes_p (cellI_130 (by decide +kernel : gkd 193 = 130)))) dX5_init_15 (fun H locs B => ?_)
  refine W.widen (k := 2) (n := 60) (by decide) (by decide) ?_
  refine gz_put (b := b) X B 0 rfl rfl inX5 tyX5 tyX5_ok nmX5 1 (by decide) flX5_15 (Or.inr ⟨rfl, hin, rfl⟩) rfl rfl (Nat.le_of_ble_eq_true rfl) (cs' := .inr (5, [.ref (b + 1), .ref (b + 2), .null, .null, .null, .null, .null, .int 0, .int 0, .null]) :: gRes Γ b0 192 2) rfl dX5_init_17 (fun H locs B => ?_)
  refine lv_aload_n hx hb dX5_init_20 rfl (lv_at hl 0 rfl) ?_
  refine lv_bipush (v := 30) hx hb dX5_init_21 (by decide) ?_
  refine gz_newi X B wac_i4 (by decide) (N' := 30) (by decide) (by decide) (by decide) (by decide) (cs' := .inr (5, [.ref (b + 1), .ref (b + 2), .null, .null, .null, .null, .null, .int 0, .int 0, .null]) :: gRes Γ b0 192 3) (congrArg (List.cons _) (gRes_p (cellI_130 (by decide +kernel : gkd 194 = 130)))) dX5_init_23 (fun H locs B => ?_)
  refine W.widen (k := 3) (n := 90) (by decide) (by decide) ?_
  refine gz_put (b := b) X B 0 rfl rfl inX5 tyX5 tyX5_ok nmX5 2 (by decide) flX5_18 (Or.inr ⟨rfl, hin, rfl⟩) rfl rfl (Nat.le_of_ble_eq_true rfl) (cs' := .inr (5, [.ref (b + 1), .ref (b + 2), .ref (b + 3), .null, .null, .null, .null, .int 0, .int 0, .null]) :: gRes Γ b0 192 3) rfl dX5_init_25 (fun H locs B => ?_)
  refine lv_aload_n hx hb dX5_init_28 rfl (lv_at hl 0 rfl) ?_
  refine lv_bipush (v := 30) hx hb dX5_init_29 (by decide) ?_
  refine gz_newi X B wac_i4 (by decide) (N' := 30) (by decide) (by decide) (by decide) (by decide) (cs' := .inr (5, [.ref (b + 1), .ref (b + 2), .ref (b + 3), .null, .null, .null, .null, .int 0, .int 0, .null]) :: gRes Γ b0 192 4) (congrArg (List.cons _) (gRes_p (cellI_130 (by decide +kernel : gkd 195 = 130)))) dX5_init_31 (fun H locs B => ?_)
  refine W.widen (k := 4) (n := 120) (by decide) (by decide) ?_
  refine gz_put (b := b) X B 0 rfl rfl inX5 tyX5 tyX5_ok nmX5 3 (by decide) flX5_21 (Or.inr ⟨rfl, hin, rfl⟩) rfl rfl (Nat.le_of_ble_eq_true rfl) (cs' := .inr (5, [.ref (b + 1), .ref (b + 2), .ref (b + 3), .ref (b + 4), .null, .null, .null, .int 0, .int 0, .null]) :: gRes Γ b0 192 4) rfl dX5_init_33 (fun H locs B => ?_)
  refine lv_aload_n hx hb dX5_init_36 rfl (lv_at hl 0 rfl) ?_
  refine lv_bipush (v := 30) hx hb dX5_init_37 (by decide) ?_
  refine gz_newi X B wac_i4 (by decide) (N' := 30) (by decide) (by decide) (by decide) (by decide) (cs' := .inr (5, [.ref (b + 1), .ref (b + 2), .ref (b + 3), .ref (b + 4), .null, .null, .null, .int 0, .int 0, .null]) :: gRes Γ b0 192 5) (congrArg (List.cons _) (gRes_p (cellI_130 (by decide +kernel : gkd 196 = 130)))) dX5_init_39 (fun H locs B => ?_)
  refine W.widen (k := 5) (n := 150) (by decide) (by decide) ?_
  refine gz_put (b := b) X B 0 rfl rfl inX5 tyX5 tyX5_ok nmX5 4 (by decide) flX5_24 (Or.inr ⟨rfl, hin, rfl⟩) rfl rfl (Nat.le_of_ble_eq_true rfl) (cs' := .inr (5, [.ref (b + 1), .ref (b + 2), .ref (b + 3), .ref (b + 4), .ref (b + 5), .null, .null, .int 0, .int 0, .null]) :: gRes Γ b0 192 5) rfl dX5_init_41 (fun H locs B => ?_)
  refine lv_aload_n hx hb dX5_init_44 rfl (lv_at hl 0 rfl) ?_
  refine lv_bipush (v := 30) hx hb dX5_init_45 (by decide) ?_
  refine gz_newi X B wac_i4 (by decide) (N' := 30) (by decide) (by decide) (by decide) (by decide) (cs' := .inr (5, [.ref (b + 1), .ref (b + 2), .ref (b + 3), .ref (b + 4), .ref (b + 5), .null, .null, .int 0, .int 0, .null]) :: gRes Γ b0 192 6) (congrArg (List.cons _) (gRes_p (cellI_130 (by decide +kernel : gkd 197 = 130)))) dX5_init_47 (fun H locs B => ?_)
  refine W.widen (k := 6) (n := 180) (by decide) (by decide) ?_
  refine gz_put (b := b) X B 0 rfl rfl inX5 tyX5 tyX5_ok nmX5 5 (by decide) flX5_27 (Or.inr ⟨rfl, hin, rfl⟩) rfl rfl (Nat.le_of_ble_eq_true rfl) (cs' := .inr (5, [.ref (b + 1), .ref (b + 2), .ref (b + 3), .ref (b + 4), .ref (b + 5), .ref (b + 6), .null, .int 0, .int 0, .null]) :: gRes Γ b0 192 6) rfl dX5_init_49 (fun H locs B => ?_)
  refine lv_aload_n hx hb dX5_init_52 rfl (lv_at hl 0 rfl) ?_
  refine lv_bipush (v := 30) hx hb dX5_init_53 (by decide) ?_
  refine gz_newi X B wac_i4 (by decide) (N' := 30) (by decide) (by decide) (by decide) (by decide) (cs' := .inr (5, [.ref (b + 1), .ref (b + 2), .ref (b + 3), .ref (b + 4), .ref (b + 5), .ref (b + 6), .null, .int 0, .int 0, .null]) :: gRes Γ b0 192 7) (congrArg (List.cons _) (gRes_p (cellI_130 (by decide +kernel : gkd 198 = 130)))) dX5_init_55 (fun H locs B => ?_)
  refine W.widen (k := 7) (n := 210) (by decide) (by decide) ?_
  refine gz_put (b := b) X B 0 rfl rfl inX5 tyX5 tyX5_ok nmX5 6 (by decide) flX5_30 (Or.inr ⟨rfl, hin, rfl⟩) rfl rfl (Nat.le_of_ble_eq_true rfl) (cs' := .inr (5, [.ref (b + 1), .ref (b + 2), .ref (b + 3), .ref (b + 4), .ref (b + 5), .ref (b + 6), .ref (b + 7), .int 0, .int 0, .null]) :: gRes Γ b0 192 7) rfl dX5_init_57 (fun H locs B => ?_)
  refine lv_aload_n hx hb dX5_init_60 rfl (lv_at hl 0 rfl) ?_
  refine lv_iconst (v := 0) hx hb dX5_init_61 (by decide) ?_
  refine gz_put (b := b) X B 0 rfl rfl inX5 tyX5 tyX5_ok nmX5 7 (by decide) flX5_33 (Or.inl rfl) rfl rfl (Nat.le_of_ble_eq_true rfl) (cs' := .inr (5, [.ref (b + 1), .ref (b + 2), .ref (b + 3), .ref (b + 4), .ref (b + 5), .ref (b + 6), .ref (b + 7), .int 0, .int 0, .null]) :: gRes Γ b0 192 7) rfl dX5_init_62 (fun H locs B => ?_)
  refine lv_aload_n hx hb dX5_init_65 rfl (lv_at hl 0 rfl) ?_
  refine lv_iconst (v := 0) hx hb dX5_init_66 (by decide) ?_
  refine gz_put (b := b) X B 0 rfl rfl inX5 tyX5 tyX5_ok nmX5 8 (by decide) flX5_37 (Or.inl rfl) rfl rfl (Nat.le_of_ble_eq_true rfl) (cs' := .inr (5, [.ref (b + 1), .ref (b + 2), .ref (b + 3), .ref (b + 4), .ref (b + 5), .ref (b + 6), .ref (b + 7), .int 0, .int 0, .null]) :: gRes Γ b0 192 7) rfl dX5_init_67 (fun H locs B => ?_)
  refine lv_aload_n hx hb dX5_init_70 rfl (lv_at hl 0 rfl) ?_
  refine gz_new (ci := 7) X B rfl inX7 tyX7 tyX7_ok clX5_40 ins_X7 ini_X7 (fs := [.null, .int 0]) frs_X7 (by decide) (by decide) (cs' := .inr (5, [.ref (b + 1), .ref (b + 2), .ref (b + 3), .ref (b + 4), .ref (b + 5), .ref (b + 6), .ref (b + 7), .int 0, .int 0, .null]) :: (gRes Γ b0 192 7 ++ [.inr (7, [.null, .int 0])])) rfl dX5_init_71 (fun H locs B => ?_)
  refine W.widen (k := 8) (n := 212) (by decide) (by decide) ?_
  refine lv_dup hx hb dX5_init_74 rfl ?_
  refine gz_call1 (rest := [.ref (b + 8), .ref b]) (pre := .inr (5, [.ref (b + 1), .ref (b + 2), .ref (b + 3), .ref (b + 4), .ref (b + 5), .ref (b + 6), .ref (b + 7), .int 0, .int 0, .null]) :: gRes Γ b0 192 7) (n := 8) X hF hO B (c_X7_init l (b := b + 8) (b0 := b0) (by decide +kernel : gkd 199 = 7) (by omega)) ci_X7 mlX5_42 rfl rfl hl.1 (Nat.le_of_ble_eq_true rfl) ⟨⟨rfl, rfl⟩, ⟨Nat.le_of_ble_eq_true rfl, Nat.le_of_ble_eq_true rfl⟩, Nat.le_of_ble_eq_true rfl, Nat.le_of_ble_eq_true rfl⟩ (cs' := .inr (5, [.ref (b + 1), .ref (b + 2), .ref (b + 3), .ref (b + 4), .ref (b + 5), .ref (b + 6), .ref (b + 7), .int 0, .int 0, .null]) :: gRes Γ b0 192 9) (congrArg (List.cons _) (gRes_a Γ b0 192 7 2)) dX5_init_75 (fun H locs B => ?_)
  refine W.widen (k := 9) (n := 272) (by decide) (by decide) ?_
  refine gz_put (b := b) X B 0 rfl rfl inX5 tyX5 tyX5_ok nmX5 9 (by decide) flX5_43 (Or.inl rfl) rfl rfl (Nat.le_of_ble_eq_true rfl) (cs' := .inr (5, [.ref (b + 1), .ref (b + 2), .ref (b + 3), .ref (b + 4), .ref (b + 5), .ref (b + 6), .ref (b + 7), .int 0, .int 0, .ref (b + 8)]) :: gRes Γ b0 192 9) rfl dX5_init_78 (fun H locs B => ?_)
  have B : gB Γ b 10 (gRes Γ b0 191 10) s H locs := by
    have h := B
    rw [← cellI_o5 (k := 191) (b0 := b0) (by decide +kernel) (b := b) hbb rfl, gRes_c] at h
    exact h
  exact gz_retv X B dX5_init_81 (by decide) (by decide)
set_option maxRecDepth 100000 in
set_option maxHeartbeats 4000000 in
theorem c_X9_init (l : Launch) {Γ : gG} {b b0 : Nat} (hbb : b = b0 + 0) : gMk1 l Γ yX9_init cX9_init 1 (gR 5 200 10961) [] b (.inr (9, [.null, .null, .null, .null, .null, .int 0, .null, .null, .null, .int 0, .int 0, .int 0])) 201 (gRes Γ b0 0 201) 200 10961 := by
  refine gzOf1 RX9 (by decide) rfl rfl (Nat.le_of_ble_eq_true rfl) (fun p e s m args below meth c H locs ls X hin hF hO B hl => ?_)
  have hx := X.1
  have hb := X.2.1
  have hl : lv_has ls 1 [(0, .ref b)] := hl
  have B : gB Γ b 1 (.inr (9, [.null, .null, .null, .null, .null, .int 0, .null, .null, .null, .int 0, .int 0, .int 0]) :: gRes Γ b0 1 0) s H locs := B
  refine lv_aload_n hx hb dX9_init_0 rfl (lv_at hl 0 rfl) ?_
  refine gz_obj X hl.1 mlX9_1 oi_i oi_c (Nat.le_of_ble_eq_true rfl) (Nat.le_of_ble_eq_true rfl) dX9_init_1 ?_
  refine lv_aload_n hx hb dX9_init_4 rfl (lv_at hl 0 rfl) ?_
  refine gz_new (ci := 3) X B rfl inX3 tyX3 tyX3_ok clX9_7 ins_X3 ini_X3 (fs := [.int 0, .null, .null, .null, .null]) frs_X3 (by decide) (by decide) (cs' := .inr (9, [.null, .null, .null, .null, .null, .int 0, .null, .null, .null, .int 0, .int 0, .int 0]) :: (gRes Γ b0 1 0 ++ [.inr (3, [.int 0, .null, .null, .null, .null])])) rfl dX9_init_5 (fun H locs B => ?_)
  refine W.widen (k := 1) (n := 5) (by decide) (by decide) ?_
  refine lv_dup hx hb dX9_init_8 rfl ?_
  refine gz_call1 (rest := [.ref (b + 1), .ref b]) (pre := .inr (9, [.null, .null, .null, .null, .null, .int 0, .null, .null, .null, .int 0, .int 0, .int 0]) :: gRes Γ b0 1 0) (n := 1) X hF hO B (c_X3_init l (b := b + 1) (b0 := b0) (by decide +kernel : gkd 1 = 3) (by omega)) ci_X3 mlX9_9 rfl rfl hl.1 (Nat.le_of_ble_eq_true rfl) ⟨⟨rfl, rfl⟩, ⟨Nat.le_of_ble_eq_true rfl, Nat.le_of_ble_eq_true rfl⟩, Nat.le_of_ble_eq_true rfl, Nat.le_of_ble_eq_true rfl⟩ (cs' := .inr (9, [.null, .null, .null, .null, .null, .int 0, .null, .null, .null, .int 0, .int 0, .int 0]) :: gRes Γ b0 1 16) (congrArg (List.cons _) (gRes_a Γ b0 1 0 16)) dX9_init_9 (fun H locs B => ?_)
  refine W.widen (k := 16) (n := 941) (by decide) (by decide) ?_
  refine gz_put (b := b) X B 0 rfl rfl inX9 tyX9 tyX9_ok nmX9 0 (by decide) flX9_10 (Or.inr ⟨rfl, hin, rfl⟩) rfl rfl (Nat.le_of_ble_eq_true rfl) (cs' := .inr (9, [.ref (b + 1), .null, .null, .null, .null, .int 0, .null, .null, .null, .int 0, .int 0, .int 0]) :: gRes Γ b0 1 16) rfl dX9_init_12 (fun H locs B => ?_)
  refine lv_aload_n hx hb dX9_init_15 rfl (lv_at hl 0 rfl) ?_
  refine gz_new (ci := 2) X B rfl inX2 tyX2 tyX2_ok clX9_16 ins_X2 ini_X2 (fs := [.null, .null]) frs_X2 (by decide) (by decide) (cs' := .inr (9, [.ref (b + 1), .null, .null, .null, .null, .int 0, .null, .null, .null, .int 0, .int 0, .int 0]) :: (gRes Γ b0 1 16 ++ [.inr (2, [.null, .null])])) rfl dX9_init_16 (fun H locs B => ?_)
  refine W.widen (k := 17) (n := 943) (by decide) (by decide) ?_
  refine lv_dup hx hb dX9_init_19 rfl ?_
  refine lv_aload_n hx hb dX9_init_20 rfl (lv_at hl 0 rfl) ?_
  refine gz_get (b := b) X B 0 rfl rfl inX9 0 (by decide) flX9_10 rfl dX9_init_21 ?_
  refine gz_call1 (rest := [.ref (b + 17), .ref b]) (pre := .inr (9, [.ref (b + 1), .null, .null, .null, .null, .int 0, .null, .null, .null, .int 0, .int 0, .int 0]) :: gRes Γ b0 1 16) (n := 17) X hF hO B (c_X2_init l (b := b + 17) (b0 := b0) (by omega) (f1 := b + 1) (by omega)) ci_X2 mlX9_18 rfl rfl hl.1 (Nat.le_of_ble_eq_true rfl) ⟨⟨rfl, rfl⟩, ⟨Nat.le_of_ble_eq_true rfl, Nat.le_of_ble_eq_true rfl⟩, Nat.le_of_ble_eq_true rfl, Nat.le_of_ble_eq_true rfl⟩ (cs' := .inr (9, [.ref (b + 1), .null, .null, .null, .null, .int 0, .null, .null, .null, .int 0, .int 0, .int 0]) :: gRes Γ b0 1 19) (congrArg (List.cons _) (gRes_a Γ b0 1 16 3)) dX9_init_24 (fun H locs B => ?_)
  refine W.widen (k := 19) (n := 1005) (by decide) (by decide) ?_
  refine gz_put (b := b) X B 0 rfl rfl inX9 tyX9 tyX9_ok nmX9 1 (by decide) flX9_21 (Or.inr ⟨rfl, hin, rfl⟩) rfl rfl (Nat.le_of_ble_eq_true rfl) (cs' := .inr (9, [.ref (b + 1), .ref (b + 17), .null, .null, .null, .int 0, .null, .null, .null, .int 0, .int 0, .int 0]) :: gRes Γ b0 1 19) rfl dX9_init_27 (fun H locs B => ?_)
  refine lv_aload_n hx hb dX9_init_30 rfl (lv_at hl 0 rfl) ?_
  refine gz_new (ci := 1) X B rfl inX1 tyX1 tyX1_ok clX9_25 ins_X1 ini_X1 (fs := [.null, .null, .null, .null]) frs_X1 (by decide) (by decide) (cs' := .inr (9, [.ref (b + 1), .ref (b + 17), .null, .null, .null, .int 0, .null, .null, .null, .int 0, .int 0, .int 0]) :: (gRes Γ b0 1 19 ++ [.inr (1, [.null, .null, .null, .null])])) rfl dX9_init_31 (fun H locs B => ?_)
  refine W.widen (k := 20) (n := 1009) (by decide) (by decide) ?_
  refine lv_dup hx hb dX9_init_34 rfl ?_
  refine lv_aload_n hx hb dX9_init_35 rfl (lv_at hl 0 rfl) ?_
  refine gz_get (b := b) X B 0 rfl rfl inX9 0 (by decide) flX9_10 rfl dX9_init_36 ?_
  refine lv_aload_n hx hb dX9_init_39 rfl (lv_at hl 0 rfl) ?_
  refine gz_get (b := b) X B 0 rfl rfl inX9 1 (by decide) flX9_21 rfl dX9_init_40 ?_
  refine gz_call1 (rest := [.ref (b + 20), .ref b]) (pre := .inr (9, [.ref (b + 1), .ref (b + 17), .null, .null, .null, .int 0, .null, .null, .null, .int 0, .int 0, .int 0]) :: gRes Γ b0 1 19) (n := 20) X hF hO B (c_X1_init l (b := b + 20) (b0 := b0) (by omega) (f1 := b + 1) (by omega) (f17 := b + 17) (by omega)) ci_X1 mlX9_27 rfl rfl hl.1 (Nat.le_of_ble_eq_true rfl) ⟨⟨rfl, rfl⟩, ⟨Nat.le_of_ble_eq_true rfl, Nat.le_of_ble_eq_true rfl⟩, Nat.le_of_ble_eq_true rfl, Nat.le_of_ble_eq_true rfl⟩ (cs' := .inr (9, [.ref (b + 1), .ref (b + 17), .null, .null, .null, .int 0, .null, .null, .null, .int 0, .int 0, .int 0]) :: gRes Γ b0 1 24) (congrArg (List.cons _) (gRes_a Γ b0 1 19 5)) dX9_init_43 (fun H locs B => ?_)
  refine W.widen (k := 24) (n := 1133) (by decide) (by decide) ?_
  refine gz_put (b := b) X B 0 rfl rfl inX9 tyX9 tyX9_ok nmX9 2 (by decide) flX9_30 (Or.inr ⟨rfl, hin, rfl⟩) rfl rfl (Nat.le_of_ble_eq_true rfl) (cs' := .inr (9, [.ref (b + 1), .ref (b + 17), .ref (b + 20), .null, .null, .int 0, .null, .null, .null, .int 0, .int 0, .int 0]) :: gRes Γ b0 1 24) rfl dX9_init_46 (fun H locs B => ?_)
  refine lv_aload_n hx hb dX9_init_49 rfl (lv_at hl 0 rfl) ?_
  refine gz_new (ci := 4) X B rfl inX4 tyX4 tyX4_ok clX9_34 ins_X4 ini_X4 (fs := [.null, .int 0, .int 0]) frs_X4 (by decide) (by decide) (cs' := .inr (9, [.ref (b + 1), .ref (b + 17), .ref (b + 20), .null, .null, .int 0, .null, .null, .null, .int 0, .int 0, .int 0]) :: (gRes Γ b0 1 24 ++ [.inr (4, [.null, .int 0, .int 0])])) rfl dX9_init_50 (fun H locs B => ?_)
  refine W.widen (k := 25) (n := 1136) (by decide) (by decide) ?_
  refine lv_dup hx hb dX9_init_53 rfl ?_
  refine gz_call1 (rest := [.ref (b + 25), .ref b]) (pre := .inr (9, [.ref (b + 1), .ref (b + 17), .ref (b + 20), .null, .null, .int 0, .null, .null, .null, .int 0, .int 0, .int 0]) :: gRes Γ b0 1 24) (n := 25) X hF hO B (c_X4_init l (b := b + 25) (b0 := b0) (by omega)) ci_X4 mlX9_36 rfl rfl hl.1 (Nat.le_of_ble_eq_true rfl) ⟨⟨rfl, rfl⟩, ⟨Nat.le_of_ble_eq_true rfl, Nat.le_of_ble_eq_true rfl⟩, Nat.le_of_ble_eq_true rfl, Nat.le_of_ble_eq_true rfl⟩ (cs' := .inr (9, [.ref (b + 1), .ref (b + 17), .ref (b + 20), .null, .null, .int 0, .null, .null, .null, .int 0, .int 0, .int 0]) :: gRes Γ b0 1 170) (congrArg (List.cons _) (gRes_a Γ b0 1 24 146)) dX9_init_54 (fun H locs B => ?_)
  refine W.widen (k := 170) (n := 9614) (by decide) (by decide) ?_
  refine gz_put (b := b) X B 0 rfl rfl inX9 tyX9 tyX9_ok nmX9 3 (by decide) flX9_37 (Or.inr ⟨rfl, hin, rfl⟩) rfl rfl (Nat.le_of_ble_eq_true rfl) (cs' := .inr (9, [.ref (b + 1), .ref (b + 17), .ref (b + 20), .ref (b + 25), .null, .int 0, .null, .null, .null, .int 0, .int 0, .int 0]) :: gRes Γ b0 1 170) rfl dX9_init_57 (fun H locs B => ?_)
  refine lv_aload_n hx hb dX9_init_60 rfl (lv_at hl 0 rfl) ?_
  refine gz_new (ci := 3) X B rfl inX3 tyX3 tyX3_ok clX9_7 ins_X3 ini_X3 (fs := [.int 0, .null, .null, .null, .null]) frs_X3 (by decide) (by decide) (cs' := .inr (9, [.ref (b + 1), .ref (b + 17), .ref (b + 20), .ref (b + 25), .null, .int 0, .null, .null, .null, .int 0, .int 0, .int 0]) :: (gRes Γ b0 1 170 ++ [.inr (3, [.int 0, .null, .null, .null, .null])])) rfl dX9_init_61 (fun H locs B => ?_)
  refine W.widen (k := 171) (n := 9619) (by decide) (by decide) ?_
  refine lv_dup hx hb dX9_init_64 rfl ?_
  refine gz_call1 (rest := [.ref (b + 171), .ref b]) (pre := .inr (9, [.ref (b + 1), .ref (b + 17), .ref (b + 20), .ref (b + 25), .null, .int 0, .null, .null, .null, .int 0, .int 0, .int 0]) :: gRes Γ b0 1 170) (n := 171) X hF hO B (c_X3_init l (b := b + 171) (b0 := b0) (by decide +kernel : gkd 171 = 3) (by omega)) ci_X3 mlX9_9 rfl rfl hl.1 (Nat.le_of_ble_eq_true rfl) ⟨⟨rfl, rfl⟩, ⟨Nat.le_of_ble_eq_true rfl, Nat.le_of_ble_eq_true rfl⟩, Nat.le_of_ble_eq_true rfl, Nat.le_of_ble_eq_true rfl⟩ (cs' := .inr (9, [.ref (b + 1), .ref (b + 17), .ref (b + 20), .ref (b + 25), .null, .int 0, .null, .null, .null, .int 0, .int 0, .int 0]) :: gRes Γ b0 1 186) (congrArg (List.cons _) (gRes_a Γ b0 1 170 16)) dX9_init_65 (fun H locs B => ?_)
  refine W.widen (k := 186) (n := 10555) (by decide) (by decide) ?_
  refine gz_put (b := b) X B 0 rfl rfl inX9 tyX9 tyX9_ok nmX9 4 (by decide) flX9_41 (Or.inr ⟨rfl, hin, rfl⟩) rfl rfl (Nat.le_of_ble_eq_true rfl) (cs' := .inr (9, [.ref (b + 1), .ref (b + 17), .ref (b + 20), .ref (b + 25), .ref (b + 171), .int 0, .null, .null, .null, .int 0, .int 0, .int 0]) :: gRes Γ b0 1 186) rfl dX9_init_68 (fun H locs B => ?_)
  refine lv_aload_n hx hb dX9_init_71 rfl (lv_at hl 0 rfl) ?_
  refine lv_iconst (v := 0) hx hb dX9_init_72 (by decide) ?_
  refine gz_put (b := b) X B 0 rfl rfl inX9 tyX9 tyX9_ok nmX9 5 (by decide) flX9_44 (Or.inl rfl) (by decide +kernel) (by decide +kernel) (Nat.le_of_ble_eq_true rfl) (cs' := .inr (9, [.ref (b + 1), .ref (b + 17), .ref (b + 20), .ref (b + 25), .ref (b + 171), .int 0, .null, .null, .null, .int 0, .int 0, .int 0]) :: gRes Γ b0 1 186) rfl dX9_init_73 (fun H locs B => ?_)
  refine lv_aload_n hx hb dX9_init_76 rfl (lv_at hl 0 rfl) ?_
  refine gz_new (ci := 7) X B rfl inX7 tyX7 tyX7_ok clX9_48 ins_X7 ini_X7 (fs := [.null, .int 0]) frs_X7 (by decide) (by decide) (cs' := .inr (9, [.ref (b + 1), .ref (b + 17), .ref (b + 20), .ref (b + 25), .ref (b + 171), .int 0, .null, .null, .null, .int 0, .int 0, .int 0]) :: (gRes Γ b0 1 186 ++ [.inr (7, [.null, .int 0])])) rfl dX9_init_77 (fun H locs B => ?_)
  refine W.widen (k := 187) (n := 10557) (by decide) (by decide) ?_
  refine lv_dup hx hb dX9_init_80 rfl ?_
  refine gz_call1 (rest := [.ref (b + 187), .ref b]) (pre := .inr (9, [.ref (b + 1), .ref (b + 17), .ref (b + 20), .ref (b + 25), .ref (b + 171), .int 0, .null, .null, .null, .int 0, .int 0, .int 0]) :: gRes Γ b0 1 186) (n := 187) X hF hO B (c_X7_init l (b := b + 187) (b0 := b0) (by decide +kernel : gkd 187 = 7) (by omega)) ci_X7 mlX9_50 rfl rfl hl.1 (Nat.le_of_ble_eq_true rfl) ⟨⟨rfl, rfl⟩, ⟨Nat.le_of_ble_eq_true rfl, Nat.le_of_ble_eq_true rfl⟩, Nat.le_of_ble_eq_true rfl, Nat.le_of_ble_eq_true rfl⟩ (cs' := .inr (9, [.ref (b + 1), .ref (b + 17), .ref (b + 20), .ref (b + 25), .ref (b + 171), .int 0, .null, .null, .null, .int 0, .int 0, .int 0]) :: gRes Γ b0 1 188) (congrArg (List.cons _) (gRes_a Γ b0 1 186 2)) dX9_init_81 (fun H locs B => ?_)
  refine W.widen (k := 188) (n := 10617) (by decide) (by decide) ?_
  refine gz_put (b := b) X B 0 rfl rfl inX9 tyX9 tyX9_ok nmX9 6 (by decide) flX9_51 (Or.inr ⟨rfl, hin, rfl⟩) rfl rfl (Nat.le_of_ble_eq_true rfl) (cs' := .inr (9, [.ref (b + 1), .ref (b + 17), .ref (b + 20), .ref (b + 25), .ref (b + 171), .int 0, .ref (b + 187), .null, .null, .int 0, .int 0, .int 0]) :: gRes Γ b0 1 188) rfl dX9_init_84 (fun H locs B => ?_)
  refine lv_aload_n hx hb dX9_init_87 rfl (lv_at hl 0 rfl) ?_
  refine gz_new (ci := 7) X B rfl inX7 tyX7 tyX7_ok clX9_48 ins_X7 ini_X7 (fs := [.null, .int 0]) frs_X7 (by decide) (by decide) (cs' := .inr (9, [.ref (b + 1), .ref (b + 17), .ref (b + 20), .ref (b + 25), .ref (b + 171), .int 0, .ref (b + 187), .null, .null, .int 0, .int 0, .int 0]) :: (gRes Γ b0 1 188 ++ [.inr (7, [.null, .int 0])])) rfl dX9_init_88 (fun H locs B => ?_)
  refine W.widen (k := 189) (n := 10619) (by decide) (by decide) ?_
  refine lv_dup hx hb dX9_init_91 rfl ?_
  refine gz_call1 (rest := [.ref (b + 189), .ref b]) (pre := .inr (9, [.ref (b + 1), .ref (b + 17), .ref (b + 20), .ref (b + 25), .ref (b + 171), .int 0, .ref (b + 187), .null, .null, .int 0, .int 0, .int 0]) :: gRes Γ b0 1 188) (n := 189) X hF hO B (c_X7_init l (b := b + 189) (b0 := b0) (by decide +kernel : gkd 189 = 7) (by omega)) ci_X7 mlX9_50 rfl rfl hl.1 (Nat.le_of_ble_eq_true rfl) ⟨⟨rfl, rfl⟩, ⟨Nat.le_of_ble_eq_true rfl, Nat.le_of_ble_eq_true rfl⟩, Nat.le_of_ble_eq_true rfl, Nat.le_of_ble_eq_true rfl⟩ (cs' := .inr (9, [.ref (b + 1), .ref (b + 17), .ref (b + 20), .ref (b + 25), .ref (b + 171), .int 0, .ref (b + 187), .null, .null, .int 0, .int 0, .int 0]) :: gRes Γ b0 1 190) (congrArg (List.cons _) (gRes_a Γ b0 1 188 2)) dX9_init_92 (fun H locs B => ?_)
  refine W.widen (k := 190) (n := 10679) (by decide) (by decide) ?_
  refine gz_put (b := b) X B 0 rfl rfl inX9 tyX9 tyX9_ok nmX9 7 (by decide) flX9_55 (Or.inr ⟨rfl, hin, rfl⟩) rfl rfl (Nat.le_of_ble_eq_true rfl) (cs' := .inr (9, [.ref (b + 1), .ref (b + 17), .ref (b + 20), .ref (b + 25), .ref (b + 171), .int 0, .ref (b + 187), .ref (b + 189), .null, .int 0, .int 0, .int 0]) :: gRes Γ b0 1 190) rfl dX9_init_95 (fun H locs B => ?_)
  refine lv_aload_n hx hb dX9_init_98 rfl (lv_at hl 0 rfl) ?_
  refine gz_new (ci := 5) X B rfl inX5 tyX5 tyX5_ok clX9_58 ins_X5 ini_X5 (fs := [.null, .null, .null, .null, .null, .null, .null, .int 0, .int 0, .null]) frs_X5 (by decide) (by decide) (cs' := .inr (9, [.ref (b + 1), .ref (b + 17), .ref (b + 20), .ref (b + 25), .ref (b + 171), .int 0, .ref (b + 187), .ref (b + 189), .null, .int 0, .int 0, .int 0]) :: (gRes Γ b0 1 190 ++ [.inr (5, [.null, .null, .null, .null, .null, .null, .null, .int 0, .int 0, .null])])) rfl dX9_init_99 (fun H locs B => ?_)
  refine W.widen (k := 191) (n := 10689) (by decide) (by decide) ?_
  refine lv_dup hx hb dX9_init_102 rfl ?_
  refine gz_call1 (rest := [.ref (b + 191), .ref b]) (pre := .inr (9, [.ref (b + 1), .ref (b + 17), .ref (b + 20), .ref (b + 25), .ref (b + 171), .int 0, .ref (b + 187), .ref (b + 189), .null, .int 0, .int 0, .int 0]) :: gRes Γ b0 1 190) (n := 191) X hF hO B (c_X5_init l (b := b + 191) (b0 := b0) (by omega)) ci_X5 mlX9_60 rfl rfl hl.1 (Nat.le_of_ble_eq_true rfl) ⟨⟨rfl, rfl⟩, ⟨Nat.le_of_ble_eq_true rfl, Nat.le_of_ble_eq_true rfl⟩, Nat.le_of_ble_eq_true rfl, Nat.le_of_ble_eq_true rfl⟩ (cs' := .inr (9, [.ref (b + 1), .ref (b + 17), .ref (b + 20), .ref (b + 25), .ref (b + 171), .int 0, .ref (b + 187), .ref (b + 189), .null, .int 0, .int 0, .int 0]) :: gRes Γ b0 1 200) (congrArg (List.cons _) (gRes_a Γ b0 1 190 10)) dX9_init_103 (fun H locs B => ?_)
  refine W.widen (k := 200) (n := 10961) (by decide) (by decide) ?_
  refine gz_put (b := b) X B 0 rfl rfl inX9 tyX9 tyX9_ok nmX9 8 (by decide) flX9_61 (Or.inr ⟨rfl, hin, rfl⟩) rfl rfl (Nat.le_of_ble_eq_true rfl) (cs' := .inr (9, [.ref (b + 1), .ref (b + 17), .ref (b + 20), .ref (b + 25), .ref (b + 171), .int 0, .ref (b + 187), .ref (b + 189), .ref (b + 191), .int 0, .int 0, .int 0]) :: gRes Γ b0 1 200) rfl dX9_init_106 (fun H locs B => ?_)
  refine lv_aload_n hx hb dX9_init_109 rfl (lv_at hl 0 rfl) ?_
  refine lv_iconst (v := (-1)) hx hb dX9_init_110 (by decide) ?_
  refine gz_put (b := b) X B 0 rfl rfl inX9 tyX9 tyX9_ok nmX9 9 (by decide) flX9_65 (Or.inl rfl) rfl rfl (Nat.le_of_ble_eq_true rfl) (cs' := .inr (9, [.ref (b + 1), .ref (b + 17), .ref (b + 20), .ref (b + 25), .ref (b + 171), .int 0, .ref (b + 187), .ref (b + 189), .ref (b + 191), .int (-1), .int 0, .int 0]) :: gRes Γ b0 1 200) rfl dX9_init_111 (fun H locs B => ?_)
  refine lv_aload_n hx hb dX9_init_114 rfl (lv_at hl 0 rfl) ?_
  refine lv_iconst (v := 0) hx hb dX9_init_115 (by decide) ?_
  refine gz_put (b := b) X B 0 rfl rfl inX9 tyX9 tyX9_ok nmX9 10 (by decide) flX9_69 (Or.inl rfl) rfl rfl (Nat.le_of_ble_eq_true rfl) (cs' := .inr (9, [.ref (b + 1), .ref (b + 17), .ref (b + 20), .ref (b + 25), .ref (b + 171), .int 0, .ref (b + 187), .ref (b + 189), .ref (b + 191), .int (-1), .int 0, .int 0]) :: gRes Γ b0 1 200) rfl dX9_init_116 (fun H locs B => ?_)
  refine lv_aload_n hx hb dX9_init_119 rfl (lv_at hl 0 rfl) ?_
  refine lv_iconst (v := 0) hx hb dX9_init_120 (by decide) ?_
  refine gz_put (b := b) X B 0 rfl rfl inX9 tyX9 tyX9_ok nmX9 11 (by decide) flX9_72 (Or.inl rfl) rfl rfl (Nat.le_of_ble_eq_true rfl) (cs' := .inr (9, [.ref (b + 1), .ref (b + 17), .ref (b + 20), .ref (b + 25), .ref (b + 171), .int 0, .ref (b + 187), .ref (b + 189), .ref (b + 191), .int (-1), .int 0, .int 0]) :: gRes Γ b0 1 200) rfl dX9_init_121 (fun H locs B => ?_)
  have B : gB Γ b 201 (gRes Γ b0 0 201) s H locs := by
    have h := B
    rw [← cellI_o9 (k := 0) (b0 := b0) (by decide +kernel) (b := b) hbb rfl, gRes_c] at h
    exact h
  exact gz_retv X B dX9_init_124 (by decide) (by decide)
