/-! ===== small rows for the walks ===== -/
theorem g_if {α : Type} {c : Prop} [Decidable c] {A : Option α} {r : α} (h : (if c then A else none) = some r) : c ∧ A = some r := by
  by_cases hc : c
  · exact ⟨hc, by rwa [if_pos hc] at h⟩
  · rw [if_neg hc] at h; cases h
theorem g_swout0 {x : Int32} {lo : Int} {n : Nat} (h : ∀ j : Nat, j < n → ¬ x.toInt = lo + j) : x.toInt < lo ∨ lo + n - 1 < x.toInt := by
  by_cases q : x.toInt < lo
  · exact Or.inl q
  · right
    by_cases q2 : lo + n - 1 < x.toInt
    · exact q2
    · exact absurd (show x.toInt = lo + ((x.toInt - lo).toNat : Nat) by omega) (h (x.toInt - lo).toNat (by omega))
/-! ===== methods that may throw: code x (0: none), answer, state ===== -/
def gEx (x : Nat) : String := match x with
  | 1 => "java/lang/IllegalArgumentException"
  | 2 => "java/lang/UnsupportedOperationException"
  | 3 => "java/lang/IndexOutOfBoundsException"
  | 4 => "java/lang/IllegalStateException"
  | 5 => "java/util/NoSuchElementException"
  | _ => "java/lang/ArithmeticException"
def gNms : List String := ["java/lang/RuntimeException", "java/lang/Exception"]
def gExW (x ik ic : Nat) : Prop := Cond.classLink RX9 ik (gEx x) ∈ lwg ∧ Cond.initialized (gEx x) ∈ lwg ∧ (∀ w ∈ vx_atS RX9 ic (gEx x) gNms, w ∈ lwg ∨ w ∈ gBad) ∧ (∀ w ∈ Cond.classLink RX9 ik (gEx x) :: Cond.initialized (gEx x) :: vx_atS RX9 ic (gEx x) gNms, vx_ot w = true) ∧ Bundle.fit (gEx x) = true ∧ ¬ x = 0
abbrev gQcxi (Γ : gG) (ad : Nat → Nat) (N x : Nat) (r : Int32) (σ : gSt) (sz : Nat) : Array Value → State → Outcome → State → Prop := va_Qi (fun r' (_ : Unit) => x = 0 ∧ r' = r) (fun _ t => gO celC Γ ad N σ t) (gA ad N sz)
abbrev gQcxv (Γ : gG) (ad : Nat → Nat) (N x : Nat) (σ : gSt) (sz : Nat) : Array Value → State → Outcome → State → Prop := va_Qv (fun (_ : Unit) => x = 0) (fun _ t => gO celC Γ ad N σ t) (gA ad N sz)
abbrev gXc (Γ : gG) (ad : Nat → Nat) (N x : Nat) (σ : gSt) (sz : Nat) : String → State → State → Prop := vx_X (fun (_ : Unit) => ¬ x = 0) (fun E _ t => E = gEx x ∧ gO celC Γ ad N σ t) (gA ad N sz)
def gMxi (l : Launch) (Γ : gG) (ad : Nat → Nat) (N : Nat) (y : MethodName) (b : ByteArray) (n : Nat) (rt : Option FieldType) (rm : Room) (as : List Value) (σ : gSt) (x : Nat) (r : Int32) (σ' : gSt) (mc ms : Nat) : Prop :=
  ∀ sz, vx_Met l y (gwm y b n rt) rm (gPc celC Γ ad N σ as sz) (gQcxi Γ ad N x r σ' sz) (gXc Γ ad N x σ' sz) mc ms (gA ad N sz)
def gMxv (l : Launch) (Γ : gG) (ad : Nat → Nat) (N : Nat) (y : MethodName) (b : ByteArray) (n : Nat) (rt : Option FieldType) (rm : Room) (as : List Value) (σ : gSt) (x : Nat) (σ' : gSt) (mc ms : Nat) : Prop :=
  ∀ sz, vx_Met l y (gwm y b n rt) rm (gPc celC Γ ad N σ as sz) (gQcxv Γ ad N x σ' sz) (gXc Γ ad N x σ' sz) mc ms (gA ad N sz)
abbrev gQxi (Γ : gG) (ad : Nat → Nat) (N x : Nat) (r : Int32) (σ : gSt) (mc ms : Nat) (below : List Frame) (args : Array Value) (s : State) : State → Prop := vx_MQ below (gQcxi Γ ad N x r σ s.heap.size) (gXc Γ ad N x σ s.heap.size) args s mc ms (gA ad N s.heap.size)
abbrev gQxv (Γ : gG) (ad : Nat → Nat) (N x : Nat) (σ : gSt) (mc ms : Nat) (below : List Frame) (args : Array Value) (s : State) : State → Prop := vx_MQ below (gQcxv Γ ad N x σ s.heap.size) (gXc Γ ad N x σ s.heap.size) args s mc ms (gA ad N s.heap.size)
theorem gBad_on {w : Cond} (h : w ∈ gBad) : w.onTables = true := by
  have h1 := (List.mem_filter.mp h).2
  cases w <;> first | rfl | (simp [gBadOk] at h1; done)
section GX
variable {l : Launch} {cel : gCell} {Γ : gG} {ad : Nat → Nat} {N : Nat} {own : String} {cc : ByteArray} {nL : Nat} {rt : Option FieldType} {p : Program} {e : Env} {R : Room} {s : State} {m : MethodId} {args : Array Value} {below : List Frame} {meth : Method} {c : Code} {H : Heap} {locs : List Loc} {cells slots : Nat} {Q : State → Prop} {pc : Nat} {ls : Array Slot} {rest st0 : List Value} {σ σ' σ1 : gSt}
theorem gOfX {Qc : Nat → Array Value → State → Outcome → State → Prop} {XC : Nat → String → State → State → Prop} {y : MethodName} {b : ByteArray} {n mc ms sz : Nat} {rm : Room} {as : List Value} (own : String) (hy : plainName y.cls = true) (hown : y.cls = own) (hlen : (lg_sl as).length ≤ n)
    (body : ∀ p e s m args below meth c H locs ls, gX cel Γ ad N own b n rt p s m args meth c → (∀ x ∈ c.exceptionTable.toList, False) → gS cel Γ ad N σ s H locs → lv_has ls n (lv_args 0 as) →
      W p l e rm s m args below meth c H locs 0 0 (vx_MQ below (Qc s.heap.size) (XC s.heap.size) args s mc ms (gA ad N s.heap.size)) (F0 m 0 ls [])) :
    vx_Met l y (gwm y b n rt) rm (gPc cel Γ ad N σ as sz) (Qc sz) (XC sz) mc ms (gA ad N sz) := by
  refine vx_ofW (cc := b) (maxL := n) (ret := rt) hy rfl ?_
  intro p e s m args below meth c s₁ B hml hT hv
  obtain ⟨rfl, rfl, hP, hK, hI, hF⟩ := hv
  rw [lg_entry_eq]
  have hts := atoms_spec (ws := gwm y b n rt) B.pre
  exact body p e s m _ below meth c s.heap [] _ ⟨B.exec, B.bytes, hml, hown ▸ findClass_of_methodNamed B.named, fun w hw => hts w (List.mem_cons_of_mem _ hw), B.returns, B.notSynchronized, hK, hI, hF⟩ hT ⟨hP, va_S.rf⟩ (lv_entry as hlen)
theorem g_xreti {ty : FieldType} {r : Int32} {mc ms : Nat} (X : gX celC Γ ad N own cc nL (some ty) p s m args meth c) (S : gS celC Γ ad N σ s H locs) (hn : narrow ty (.int r) = .int r) (hdg : decode cc pc = .ok (.ireturn, 1)) (hc : cells ≤ mc) (hs : slots ≤ ms) : W p l e R s m args below meth c H locs cells slots (gQxi Γ ad N 0 r σ mc ms below args s) (F0 m pc ls [.int r]) :=
  W.widen hc hs (vx_ret (W.zret (v := r) X.1 X.2.1 X.r hn (fun t ht _ => ⟨⟨r, (), rfl, ⟨rfl, rfl⟩, by subst ht; exact S.1⟩, S.2.F ht⟩) S.2.2.2 hdg X.lk))
theorem g_xretv {mc ms : Nat} (X : gX celC Γ ad N own cc nL none p s m args meth c) (S : gS celC Γ ad N σ s H locs) (hdg : decode cc pc = .ok (.return_, 1)) (hc : cells ≤ mc) (hs : slots ≤ ms) : W p l e R s m args below meth c H locs cells slots (gQxv Γ ad N 0 σ mc ms below args s) (F0 m pc ls []) :=
  W.widen hc hs (vx_ret (W.vret X.1 X.2.1 X.r (fun t ht _ => ⟨⟨(), rfl, rfl, by subst ht; exact S.1⟩, S.2.F ht⟩) S.2.2.2 hdg X.lk))
theorem g_throwX {Qc : Array Value → State → Outcome → State → Prop} {x ik ic is mc ms : Nat} {text : String} (hl0 : l.stackTraces = false) (X : gX celC Γ ad N RX9 cc nL rt p s m args meth c) (S : gS celC Γ ad N σ s H locs) (hT : ∀ x ∈ c.exceptionTable.toList, False) (hls : ls.size = nL) (E : gExW x ik ic) (hst : (RX9, is, text) ∈ gStr)
    (d0 : decode cc pc = .ok (.new ik, 3)) (d3 : decode cc (pc + 3) = .ok (.dup, 1)) (d4 : decode cc (pc + 4) = .ok (.ldc is, 2)) (d6 : decode cc (pc + 6) = .ok (.invokespecial ic, 3)) (d9 : decode cc (pc + 9) = .ok (.athrow, 1))
    (hRf : gNms.length + 3 < R.frames) (hRl : (rest.map fun v => v.category).sum + (13 * (gNms.length + 1) + 43) ≤ R.locals) (hRc : cells + 1 ≤ R.cells) (hRs : slots + 6 ≤ R.slots) (hc : cells + 1 ≤ mc) (hs : slots + 6 ≤ ms) :
    W p l e R s m args below meth c H locs cells slots (vx_MQ below Qc (gXc Γ ad N x σ s.heap.size) args s mc ms (gA ad N s.heap.size)) (F0 m pc ls rest) := by
  obtain ⟨sa, hsa⟩ := X.F.2.2.2.1 _ hst
  obtain ⟨e1, e2, e3, e4, e5, e6⟩ := E
  refine vx_throwS (sa := sa) (names := gNms) X.1 X.2.1 hl0 X.ow e5 (by decide) (X.w _ e1) (X.w _ e2) hsa (fun w hw => (e3 w hw).elim (X.w w) (fun h => va_Nw.use (gBad_on h) (X.F.1 w h))) e4 X.F.2.1 X.F.2.2.1 S.2 (hls.trans X.ml.symm) d0 d3 d4 d6 d9 (fun z hz => (hT z hz).elim) hRf hRl hRc hRs X.lk (fun t _ hz hq => ⟨(), e6, ⟨rfl, ?_⟩, ?_⟩) S.2.2.2 hc hs
  · exact S.1.kept (fun k q hk => hq _ (S.1 k q hk).lt)
  · exact ⟨Nat.le_trans S.2.1 hz, fun q h1 h2 => (hq q (Nat.lt_of_lt_of_le h1 S.2.1)).trans (S.2.2.1 q h1 h2)⟩
theorem g_throwXW {Qc : Array Value → State → Outcome → State → Prop} {x ik ic is mc ms : Nat} {text : String} (hl0 : l.stackTraces = false) (X : gX celC Γ ad N RX9 cc nL rt p s m args meth c) (S : gS celC Γ ad N σ s H locs) (hT : ∀ x ∈ c.exceptionTable.toList, False) (hls : ls.size = nL) (E : gExW x ik ic) (hst : (RX9, is, text) ∈ gStr)
    (d0 : decode cc pc = .ok (.new ik, 3)) (d3 : decode cc (pc + 3) = .ok (.dup, 1)) (d4 : decode cc (pc + 4) = .ok (.ldc_w is, 3)) (d6 : decode cc (pc + 7) = .ok (.invokespecial ic, 3)) (d9 : decode cc (pc + 10) = .ok (.athrow, 1))
    (hRf : gNms.length + 3 < R.frames) (hRl : (rest.map fun v => v.category).sum + (13 * (gNms.length + 1) + 43) ≤ R.locals) (hRc : cells + 1 ≤ R.cells) (hRs : slots + 6 ≤ R.slots) (hc : cells + 1 ≤ mc) (hs : slots + 6 ≤ ms) :
    W p l e R s m args below meth c H locs cells slots (vx_MQ below Qc (gXc Γ ad N x σ s.heap.size) args s mc ms (gA ad N s.heap.size)) (F0 m pc ls rest) := by
  obtain ⟨sa, hsa⟩ := X.F.2.2.2.1 _ hst
  obtain ⟨e1, e2, e3, e4, e5, e6⟩ := E
  refine vx_throwSW (sa := sa) (names := gNms) X.1 X.2.1 hl0 X.ow e5 (by decide) (X.w _ e1) (X.w _ e2) hsa (fun w hw => (e3 w hw).elim (X.w w) (fun h => va_Nw.use (gBad_on h) (X.F.1 w h))) e4 X.F.2.1 X.F.2.2.1 S.2 (hls.trans X.ml.symm) d0 d3 d4 d6 d9 (fun z hz => (hT z hz).elim) hRf hRl hRc hRs X.lk (fun t _ hz hq => ⟨(), e6, ⟨rfl, ?_⟩, ?_⟩) S.2.2.2 hc hs
  · exact S.1.kept (fun k q hk => hq _ (S.1 k q hk).lt)
  · exact ⟨Nat.le_trans S.2.1 hz, fun q h1 h2 => (hq q (Nat.lt_of_lt_of_le h1 S.2.1)).trans (S.2.2.1 q h1 h2)⟩
variable {y : MethodName} {b' : ByteArray} {n' na idx mc ms mc1 ms1 : Nat} {rt' : Option FieldType} {rm : Room} {As : List Value} {Qc : Array Value → State → Outcome → State → Prop} {XC : String → State → State → Prop}
theorem g_xrunV (X : gX cel Γ ad N own cc nL rt p s m args meth c) (S : gS cel Γ ad N σ s H locs) {k : Nat} (hM : vx_Met l y (gwm y b' n' rt') rm (gPc cel Γ ad N σ (.ref (ad k) :: As) H.size) Qc XC mc ms (gA ad N H.size)) (hc : gCV y b' n' rt' na) (hw : Cond.methodLink own idx y ∈ lwg)
    (hk : k < N) {ci nn : Nat} {T : u_T} {fs : List Value} (he : cel Γ ad k (σ k) = .inr (ci, fs)) (hcl : gCl[ci]? = some (y.cls, T, nn)) (hn : As.length = na) (hst : st0 = As.reverse ++ .ref (ad k) :: rest) (hls : ls.size = nL) (hcat : (rest.map fun v => v.category).sum ≤ 8) (hR : gRoom rm R n' cells slots mc ms) (hdg : decode cc pc = .ok (.invokevirtual idx, 3)) :
    vx_Run p l e R s m args below meth c H locs cells slots mc ms (F0 m pc ls st0) rest (Qc (Value.ref (ad k) :: As).toArray) XC (gA ad N H.size) :=
  vx_runV (As := As) (rest := rest) X.fix hM ⟨callB_of na X.w (gwm_in hc.2.1) rfl hR.1.1 hR.1.2 (X.w _ hc.2.2.1) (X.w _ hw) hc.1 hR.2.1, X.w _ hc.2.2.2.1, X.w _ hc.2.2.2.2⟩
    ⟨(gPre X S _).1, va_recv X.K S.1 hcl (gws_e hk he), (gPre X S _).2⟩ rfl hn hls hst (lv_room (pc := pc) (ls := ls) (rest := st0) (m := m) hcat) hdg hR.2.2
theorem g_kxG {x x1 : Nat} {a : Array Value} (S : gS celC Γ ad N σ s H locs) (X : gX celC Γ ad N own cc nL rt p s m args meth c) (hT : ∀ x ∈ c.exceptionTable.toList, False) (run : vx_Run p l e R s m args below meth c H locs cells slots mc1 ms1 (F0 m pc ls st0) rest (gQcxv Γ ad N x1 σ1 H.size a) (gXc Γ ad N x1 σ1 H.size) (gA ad N H.size)) (he : ¬ x1 = 0 → x = x1 ∧ σ' = σ1) (hc : cells + mc1 ≤ mc) (hs : slots + ms1 ≤ ms)
    (kk : x1 = 0 → ∀ (H : Heap) (locs : List Loc), gS celC Γ ad N σ1 s H locs → W p l e R s m args below meth c H locs (cells + mc1) (slots + ms1) (vx_MQ below Qc (gXc Γ ad N x σ' s.heap.size) args s mc ms (gA ad N s.heap.size)) (F0 m (pc + 3) ls rest)) : W p l e R s m args below meth c H locs cells slots (vx_MQ below Qc (gXc Γ ad N x σ' s.heap.size) args s mc ms (gA ad N s.heap.size)) (F0 m pc ls st0) := by
  refine vx_callv run S.2 (fun q _ hq => gA_le S.2.1 q hq) (gA_le S.2.1) (fun q _ hq => gA_le S.2.1 q hq) ?_ ?_
  · intro E ce q9 u t H1 locs1 ht hvm hpx hB hz hk hS hce hcv hcl
    obtain ⟨rfl, rfl⟩ := he hpx
    obtain ⟨rfl, hB⟩ := hB
    subst ht
    exact vx_out (fun z hz => (hT z hz).elim) X.lk hce hcv hcl (fun t2 ht2 _ => ⟨(), hpx, ⟨rfl, by unfold gO; rw [ht2]; exact hB⟩, hS.F ht2⟩) hS.2.2 hc hs
  · intro u t H1 locs1 ht hvm hw hB hz hk hS
    subst ht
    exact kk hw _ _ ⟨hB, hS⟩
end GX
/-! ===== the films of the history; the reader's text ===== -/
def gidx (i : Int32) (n : Nat) : Option Nat := if 0 ≤ i.toInt ∧ i.toInt < (n : Int) then some i.toNatClampNeg else none
theorem gidx_some {i : Int32} {n v : Nat} (h : gidx i n = some v) : v < n ∧ vp_in i n ∧ i.toNatClampNeg = v := by
  unfold gidx at h
  split at h
  · rename_i h1
    have h2 := Option.some.inj h
    have h3 := g_clamp h1.1
    exact ⟨by omega, vp_in_iff.mpr h1, h2⟩
  · cases h
section GH
variable {l : Launch} {Γ : gG} {ad : Nat → Nat} {N : Nat} {own : String} {cc : ByteArray} {nL : Nat} {rt : Option FieldType} {p : Program} {e : Env} {R : Room} {s : State} {m : MethodId} {args : Array Value} {below : List Frame} {meth : Method} {c : Code} {H : Heap} {locs : List Loc} {cells slots : Nat} {Q : State → Prop} {pc : Nat} {ls : Array Slot} {rest st0 : List Value} {σ σ' σ1 : gSt}
theorem g_aald {i : Int32} {v : Nat} (X : gX celC Γ ad N own cc nL rt p s m args meth c) (S : gS celC Γ ad N σ s H locs) (hN : 202 ≤ N) (h : gidx i 9 = some v) (hdg : decode cc pc = .ok (.aaload, 1))
    (kk : W p l e R s m args below meth c H locs cells slots Q (F0 m (pc + 1) ls (.ref (ad (gFx v)) :: rest))) : W p l e R s m args below meth c H locs cells slots Q (F0 m pc ls (.int i :: .ref (ad 26) :: rest)) := by
  obtain ⟨-, h1, rfl⟩ := gidx_some h
  exact va_aldq (D := Γ.1) (tys := gT Γ) X.1 X.2.1 X.K S.1 26 1 (gws_e (by omega) (ceC_209 kd_s26 _)) rfl h1 hdg kk
theorem g_alenq (X : gX celC Γ ad N own cc nL rt p s m args meth c) (S : gS celC Γ ad N σ s H locs) (hN : 202 ≤ N) (hdg : decode cc pc = .ok (.arraylength, 1))
    (kk : W p l e R s m args below meth c H locs cells slots Q (F0 m (pc + 1) ls (.int (9 : Int32) :: rest))) : W p l e R s m args below meth c H locs cells slots Q (F0 m pc ls (.ref (ad 26) :: rest)) :=
  va_alen (D := Γ.1) (tys := gT Γ) (ty := .object RX3) X.1 X.2.1 X.K S.1 26 1 (gws_e (by omega) (ceC_209 kd_s26 _)) rfl rfl hdg kk
theorem g_retq {C : String} {r : Option Nat} (X : gX celC Γ ad N own cc nL (some (.object C)) p s m args meth c) (S : gS celC Γ ad N σ s H locs) (hdg : decode cc pc = .ok (.areturn, 1)) : W p l e R s m args below meth c H locs 0 0 (gQr celC Γ ad N r σ below args s) (F0 m pc ls [va_re ad r]) := by
  cases r with
  | none => exact g_retn X S hdg
  | some r => exact g_retr X S hdg
theorem pfX5_text {k : Nat} (X : gX celC Γ ad N RX5 cc nL rt p s m args meth c) (S : gS celC Γ ad N σ s H locs) (hN : 202 ≤ N) (hk : gkd k = 7) (h : gset σ 191 9 (nI k) = some σ1) (hdg : decode cc pc = .ok (.putfield 43, 3)) (kk : ∀ (H : Heap) (locs : List Loc), gS celC Γ ad N σ1 s H locs → W p l e R s m args below meth c H locs cells slots Q (F0 m (pc + 3) ls rest)) : W p l e R s m args below meth c H locs cells slots Q (F0 m pc ls (.ref (ad k) :: .ref (ad 191) :: rest)) := by
  have h1 := kd_lt hk (by decide)
  have h2 : (nI k).toNatClampNeg = k := nI_clamp (by omega)
  exact g_put X S (kd_N kd_s191 (by decide) hN) (ceC_5 kd_s191 _) rfl inX5 tyX5 tyX5_ok nmX5 9 (by decide) flX5_43 rfl (row := upd (σ 191) 9 (nI k)) rfl rfl (by decide : 9 < 10) (by rw [ceC_5 kd_s191]; simp [upd, h2]) (Option.some.inj h) hdg kk
end GH
/-! ===== a method of java.lang.Math that runs as bytecode ===== -/
theorem gMet_ofF {l : Launch} {y : MethodName} {ws ws' : List Cond} {rm : Room} {Pc : Array Value → State → Prop} {Qc : Array Value → State → Outcome → State → Prop} {mc ms : Nat} {free : Addr → Prop} {cc : ByteArray} {maxL : Nat} {ret : Option FieldType}
    (hy : plainFor y = true) (hw : ws = Cond.code y cc maxL ret :: ws')
    (body : ∀ p e s m args below meth c s₁, BodyLoose p l y (headSpec ws rm) cc maxL ret e s m args below meth c s₁ → c.maxLocals = maxL → Pc args s →
      W p l e (headSpec ws rm).room s m args below meth c s.heap [] 0 0 (MQ below Qc args s mc ms free) (entryFrame m args maxL)) : Met l y ws rm Pc Qc mc ms free := by
  refine MetFree.of_bodySF (code := cc) (maxLocals := maxL) (ret := ret) hy ?_ ?_
  · intro args s m h hn
    obtain ⟨meth, c, h1, h2, h3, h4, h5, h6, -, -⟩ := Cond.code_spec hn (atoms_spec (ws := ws) h _ (by rw [hw]; exact List.mem_cons_self))
    exact ⟨meth, c, h1, h2, h3, h4, h5, h6⟩
  · intro p e s m args below meth c s₁ B hml hP _
    have hh0 : s₁.heap = s.heap := by rw [B.state]; rfl
    obtain ⟨t, a1, o, b1, b2, b3⟩ := body p e s m args below meth c s₁ B hml hP s₁ hh0 (Stand.of_body B)
    exact ⟨t, o, a1, b1, b2, ⟨b3.1, b3.2⟩⟩
theorem gOfJ {l : Launch} {cel : gCell} {Γ : gG} {ad : Nat → Nat} {N : Nat} {y : MethodName} {b : ByteArray} {n : Nat} {rt : Option FieldType} {rm : Room} {as : List Value} {σ : gSt} {Qc : Nat → Array Value → State → Outcome → State → Prop} {sz : Nat} (own : String) (hy : plainFor y = true) (hown : y.cls = own) (hlen : (lg_sl as).length ≤ n)
    (body : ∀ p e s m args below meth c H locs ls, gX cel Γ ad N own b n rt p s m args meth c → gS cel Γ ad N σ s H locs → lv_has ls n (lv_args 0 as) →
      W p l e rm s m args below meth c H locs 0 0 (MQ below (Qc s.heap.size) args s 0 0 (gA ad N s.heap.size)) (F0 m 0 ls [])) :
    Met l y (gwm y b n rt) rm (gPc cel Γ ad N σ as sz) (Qc sz) 0 0 (gA ad N sz) := by
  refine gMet_ofF (cc := b) (maxL := n) (ret := rt) hy rfl ?_
  intro p e s m args below meth c s₁ B hml hv
  obtain ⟨rfl, rfl, hP, hK, hI, hF⟩ := hv
  rw [lg_entry_eq]
  have hts := atoms_spec (ws := gwm y b n rt) B.pre
  exact body p e s m _ below meth c s.heap [] _ ⟨B.exec, B.bytes, hml, hown ▸ findClass_of_methodNamed B.named, fun w hw => hts w (List.mem_cons_of_mem _ hw), B.returns, B.notSynchronized, hK, hI, hF⟩ ⟨hP, va_S.rf⟩ (lv_entry as hlen)
