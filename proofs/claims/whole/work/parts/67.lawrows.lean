/-! ===== the law: two desks, the row for the class's answers, the row for its doubles, in one heap ===== -/
def lwX (Γ : gG) (cD : Nat) (p : Program) (s : State) (m : MethodId) (args : Array Value) (meth : Method) (c : Code) : Prop :=
  p.tables.exec = Jvm.exec ∧ c.code = cL_law ∧ c.maxLocals = 9 ∧ s.vm.findClass RL = some m.cls ∧ (∀ w ∈ lwg, w.before args s = true) ∧ va_K Γ.1 gCl (gT Γ) s ∧ gF (fun q => s.heap.size ≤ q) s s.heap ∧ gNC s ∧ ArrOfT s cD .double
def lwA (ad adM : Nat → Nat) (dA sz : Nat) : Prop :=
  gInj ad 202 ∧ gInj adM 8 ∧ (∀ k, k < 202 → sz ≤ ad k ∧ ad k ≠ dA ∧ ∀ j, j < 8 → ad k ≠ adM j) ∧ (∀ j, j < 8 → sz ≤ adM j ∧ adM j ≠ dA) ∧ sz ≤ dA
def lwS (Γ : gG) (ad adM : Nat → Nat) (cD dA : Nat) (σ τ : gSt) (f : Nat → UInt64) (s : State) (H : Heap) (locs : List Loc) : Prop :=
  va_P Γ.1 gCl (gws celC Γ ad 202 σ) H ∧ va_P Γ.1 gCl (gws celM Γ adM 8 τ) H ∧ H[dA]? = some (vp_cell cD (1, .inr (.inr (.inr (.inl f))))) ∧ va_S (fun q => s.heap.size ≤ q) s.heap H locs
section LROWS
variable {l : Launch} {Γ : gG} {ad adM : Nat → Nat} {cD dA : Nat} {p : Program} {e : Env} {R : Room} {s : State} {m : MethodId} {args : Array Value} {below : List Frame} {meth : Method} {c : Code} {H : Heap} {locs : List Loc} {cells slots : Nat} {Q : State → Prop} {pc : Nat} {ls : Array Slot} {rest st0 : List Value} {σ τ σ' τ' : gSt} {f f' : Nat → UInt64}
theorem lwX.fix (X : lwX Γ cD p s m args meth c) : CallFix p m c cL_law 9 s args lwg RL := ⟨X.1, X.2.1, X.2.2.1, X.2.2.2.1, X.2.2.2.2.1⟩
theorem lwX.w (X : lwX Γ cD p s m args meth c) : ∀ w ∈ lwg, w.before args s = true := X.2.2.2.2.1
theorem lwX.K (X : lwX Γ cD p s m args meth c) : va_K Γ.1 gCl (gT Γ) s := X.2.2.2.2.2.1
theorem lwX.F (X : lwX Γ cD p s m args meth c) : gF (fun q => s.heap.size ≤ q) s s.heap := X.2.2.2.2.2.2.1
theorem lwX.N (X : lwX Γ cD p s m args meth c) : gNC s := X.2.2.2.2.2.2.2.1
theorem lwX.D (X : lwX Γ cD p s m args meth c) : ArrOfT s cD .double := X.2.2.2.2.2.2.2.2
theorem lwA.cle (A : lwA ad adM dA s.heap.size) (S : lwS Γ ad adM cD dA σ τ f s H locs) : ∀ q, gA ad 202 H.size q → s.heap.size ≤ q := fun q h => h.elim (fun ⟨k, hk, e⟩ => e ▸ (A.2.2.1 k hk).1) (fun h => Nat.le_trans S.2.2.2.1 h)
theorem lwA.mle (A : lwA ad adM dA s.heap.size) (S : lwS Γ ad adM cD dA σ τ f s H locs) : ∀ q, gA adM 8 H.size q → s.heap.size ≤ q := fun q h => h.elim (fun ⟨k, hk, e⟩ => e ▸ (A.2.2.2.1 k hk).1) (fun h => Nat.le_trans S.2.2.2.1 h)
theorem lwS.dlt (S : lwS Γ ad adM cD dA σ τ f s H locs) : dA < H.size := (Array.getElem?_eq_some_iff.mp S.2.2.1).1
theorem lwS.clt (S : lwS Γ ad adM cD dA σ τ f s H locs) {k : Nat} (hk : k < 202) : ad k < H.size := (S.1 k _ (gws_get hk)).lt
theorem lwS.mlt (S : lwS Γ ad adM cD dA σ τ f s H locs) {k : Nat} (hk : k < 8) : adM k < H.size := (S.2.1 k _ (gws_get hk)).lt
theorem L_pre (X : lwX Γ cD p s m args meth c) (A : lwA ad adM dA s.heap.size) (S : lwS Γ ad adM cD dA σ τ f s H locs) {U : State} (hU : U.heap = H) (hW : s.WarmedH U.vm) : gI celC Γ ad 202 H.size σ U :=
  ⟨by rw [hU], by rw [hU]; exact S.1, va_K.moved hW.alike X.K, A.1, by rw [hU]; exact ((X.F.kept S.2.2.2.2.1).narrow (A.cle S)).warm hW⟩
theorem L_preM (X : lwX Γ cD p s m args meth c) (A : lwA ad adM dA s.heap.size) (S : lwS Γ ad adM cD dA σ τ f s H locs) {U : State} (hU : U.heap = H) (hW : s.WarmedH U.vm) : gI celM Γ adM 8 H.size τ U :=
  ⟨by rw [hU], by rw [hU]; exact S.2.1, va_K.moved hW.alike X.K, A.2.1, by rw [hU]; exact ((X.F.kept S.2.2.2.2.1).narrow (A.mle S)).warm hW⟩
variable {y : MethodName} {b' : ByteArray} {n' na idx mc ms : Nat} {rt' : Option FieldType} {rm : Room} {As : List Value} {hh : List (Nat × Nat × Nat × Nat)}
def gCH (y : MethodName) (b : ByteArray) (n : Nat) (rt : Option FieldType) (hh : List (Nat × Nat × Nat × Nat)) (na : Nat) : Prop :=
  (y.cls ≠ "java/lang/invoke/MethodHandle" ∧ y.cls ≠ "java/lang/invoke/VarHandle" ∧ (parseMethodDescriptor y.desc).map (fun d => d.parameters.length) = some na) ∧ Cond.codeWith y b n rt hh ∈ lwg ∧ Cond.initialized y.cls ∈ lwg ∧ Cond.static y ∈ lwg
theorem L_csw (X : lwX Γ cD p s m args meth c) (hc : gCH y b' n' rt' hh na) (hw : Cond.methodLink RL idx y ∈ lwg) (hR : (rm.cells = mc ∧ rm.slots = ms) ∧ (rm.frames + 1 ≤ R.frames ∧ 8 + (n' + 11) + rm.locals ≤ R.locals)) : vx_CSW R s args RL idx y b' n' rt' hh (gwmH y b' n' rt' hh) rm mc ms na := by
  refine ⟨⟨hR.1.1, hR.1.2, hR.2.1, hR.2.2, pay_in X.w (gwmH_in hc.2.1), List.mem_cons_self⟩, X.w _ hc.2.1, X.w _ hc.2.2.1, ⟨hc.1.1, hc.1.2.1⟩, fun sig h => ?_, X.w _ hw, X.w _ hc.2.2.2⟩
  have h2 := hc.1.2.2
  rw [h] at h2
  exact (Option.some.inj h2).symm
theorem hPcE_blind {E : State → Prop} (hE : ∀ (U : State) (g : JFrame) (mk : MethodId) (a : Array Value), E U → E (U.calling g mk a)) {as : List Value} {sz : Nat} : FrameBlind (fun a U => hPc Γ ad σ as sz a U ∧ E U) := fun a U g mk q => ⟨hPc_blind a U g mk q.1, hE U g mk a q.2⟩
theorem L_helper {i : Nat} (X : lwX Γ cD p s m args meth c) (A : lwA ad adM dA s.heap.size) (S : lwS Γ ad adM cD dA σ τ f s H locs) (hM : Met l y (gwmH y b' n' rt' hh) rm (fun a U => hPc Γ ad σ As H.size a U ∧ True) (gQci celC Γ ad 202 (nI i) σ' H.size) mc ms (gA ad 202 H.size)) (hc : gCH y b' n' rt' hh na) (hw : Cond.methodLink RL idx y ∈ lwg)
    (hn : As.length = na) (hst : st0 = As.reverse ++ rest) (hls : ls.size = 9) (hcat : (rest.map fun v => v.category).sum ≤ 8) (hR : gRoom rm R n' cells slots mc ms) (hdg : decode cL_law pc = .ok (.invokestatic idx, 3))
    (kk : ∀ (H : Heap) (locs : List Loc), lwS Γ ad adM cD dA σ' τ f s H locs → W p l e R s m args below meth c H locs (cells + mc) (slots + ms) Q (F0 m (pc + 3) ls (.int (nI i) :: rest))) : W p l e R s m args below meth c H locs cells slots Q (F0 m pc ls st0) := by
  have run := vx_runSW (p := p) (e := e) (meth := meth) (below := below) (H := H) (locs := locs) (cells := cells) (slots := slots) (As := As) (rest := rest) (g := F0 m pc ls st0) X.fix hM (L_csw (R := R) (na := na) X hc hw ⟨hR.1, hR.2.1⟩) ⟨hPcE_blind (fun _ _ _ _ h => h), fun U hU hW => ⟨⟨rfl, L_pre X A S hU hW, gNC.moved hW.alike X.N⟩, trivial⟩⟩ rfl hn hls hst (lv_room (pc := pc) (ls := ls) (rest := st0) (m := m) hcat) hdg hR.2.2
  refine va_calli run S.2.2.2 (fun q _ hq => A.cle S q hq) (A.cle S) (fun r' u t H1 locs1 ht _ hw hB _ hk hS => ?_)
  subst hw; subst ht
  have out : ∀ q, q < H.size → (∀ k, k < 202 → ad k ≠ q) → t.heap[q]? = H[q]? := fun q h1 h2 => hk q h1 (fun z => z.elim (fun ⟨k, h3, h4⟩ => h2 k h3 h4.symm) (fun h => by omega))
  refine kk _ _ ⟨hB, fun k x hkx => ?_, ?_, hS⟩
  · have h1 := S.2.1 k x hkx
    obtain ⟨g1, rfl⟩ := gws_inv hkx
    exact h1.kept (out _ h1.lt (fun j hj => (A.2.2.1 j hj).2.2 k g1))
  · rw [out dA S.dlt (fun j hj => (A.2.2.1 j hj).2.1)]; exact S.2.2.1
theorem L_speed {i : Nat} (X : lwX Γ cD p s m args meth c) (A : lwA ad adM dA s.heap.size) (S : lwS Γ ad adM cD dA σ τ f s H locs) (hM : Met l y (gwmH y b' n' rt' hh) rm (fun a U => hPc Γ ad σ As H.size a U ∧ hE Γ ad cD dA f U) (hQs Γ ad cD dA σ' f' i H.size) mc ms (fun q => gA ad 202 H.size q ∨ q = dA)) (hc : gCH y b' n' rt' hh na) (hw : Cond.methodLink RL idx y ∈ lwg)
    (hn : As.length = na) (hst : st0 = As.reverse ++ rest) (hls : ls.size = 9) (hcat : (rest.map fun v => v.category).sum ≤ 8) (hR : gRoom rm R n' cells slots mc ms) (hdg : decode cL_law pc = .ok (.invokestatic idx, 3))
    (kk : ∀ (H : Heap) (locs : List Loc), lwS Γ ad adM cD dA σ' τ f' s H locs → W p l e R s m args below meth c H locs (cells + mc) (slots + ms) Q (F0 m (pc + 3) ls (.int (nI i) :: rest))) : W p l e R s m args below meth c H locs cells slots Q (F0 m pc ls st0) := by
  have run := vx_runSW (p := p) (e := e) (meth := meth) (below := below) (H := H) (locs := locs) (cells := cells) (slots := slots) (As := As) (rest := rest) (g := F0 m pc ls st0) X.fix hM (L_csw (R := R) (na := na) X hc hw ⟨hR.1, hR.2.1⟩) ⟨hPcE_blind (fun U g mk a h => ⟨h.1, arrOfT_moved (u := U) (E := U.calling g mk a) (Vm.Alike.refl U.vm) h.2.1, h.2.2⟩), fun U hU hW => ⟨⟨rfl, L_pre X A S hU hW, gNC.moved hW.alike X.N⟩, by rw [hU]; exact S.2.2.1, arrOfT_moved hW.alike X.D, fun k hk => (A.2.2.1 k hk).2.1, by rw [hU]; exact S.dlt⟩⟩ rfl hn hls hst (lv_room (pc := pc) (ls := ls) (rest := st0) (m := m) hcat) hdg hR.2.2
  have hle : ∀ q, (gA ad 202 H.size q ∨ q = dA) → s.heap.size ≤ q := fun q h => h.elim (A.cle S q) (fun h => h ▸ A.2.2.2.2)
  refine va_calli run S.2.2.2 (fun q _ hq => hle q hq) hle (fun r' u t H1 locs1 ht _ hw hB _ hk hS => ?_)
  subst hw; subst ht
  refine kk _ _ ⟨hB.1, fun k x hkx => ?_, hB.2, hS⟩
  have h1 := S.2.1 k x hkx
  obtain ⟨g1, rfl⟩ := gws_inv hkx
  exact h1.kept (hk _ h1.lt (fun z => z.elim (fun z => z.elim (fun ⟨j, h3, h4⟩ => (A.2.2.1 j h3).2.2 k g1 h4.symm) (fun h => by have := h1.lt; omega)) (fun h => (A.2.2.2.1 k g1).2 h)))
/-- a call of the reference -/
theorem L_modelR (X : lwX Γ cD p s m args meth c) (A : lwA ad adM dA s.heap.size) (S : lwS Γ ad adM cD dA σ τ f s H locs) {Qc : Array Value → State → Outcome → State → Prop} (hM : Met l y (gwm y b' n' rt') rm (gPc celM Γ adM 8 τ (.ref (adM 0) :: As) H.size) Qc 0 0 (gA adM 8 H.size)) (hc : gCV y b' n' rt' na) (hw : Cond.methodLink RL idx y ∈ lwg) (hy : y.cls = RX10)
    (hn : As.length = na) (hst : st0 = As.reverse ++ .ref (adM 0) :: rest) (hls : ls.size = 9) (hcat : (rest.map fun v => v.category).sum ≤ 8) (hR : gRoom rm R n' cells slots 0 0) (hdg : decode cL_law pc = .ok (.invokevirtual idx, 3)) :
    va_Run p l e R s m args below meth c H locs cells slots 0 0 (F0 m pc ls st0) rest (Qc (Value.ref (adM 0) :: As).toArray) (gA adM 8 H.size) :=
  va_runV (As := As) (rest := rest) X.fix hM ⟨callB_of na X.w (gwm_in hc.2.1) rfl hR.1.1 hR.1.2 (X.w _ hc.2.2.1) (X.w _ hw) hc.1 hR.2.1, X.w _ hc.2.2.2.1, X.w _ hc.2.2.2.2⟩
    ⟨gI_blind, va_recv X.K S.2.1 (ci := 10) (q := (y.cls, TX10, 17)) (by rw [hy]; rfl) (gws_e (by decide) (ceM_10 _)), fun U hU hW => ⟨rfl, L_preM X A S hU hW⟩⟩ rfl hn hls hst (lv_room (pc := pc) (ls := ls) (rest := st0) (m := m) hcat) hdg hR.2.2
theorem L_keepM (A : lwA ad adM dA s.heap.size) (S : lwS Γ ad adM cD dA σ τ f s H locs) {t : State} {locs1 : List Loc} (hB : gO celM Γ adM 8 τ' t) (hk : ∀ q : Nat, q < H.size → ¬ gA adM 8 H.size q → t.heap[q]? = H[q]?) (hS : va_S (fun q => s.heap.size ≤ q) s.heap t.heap locs1) : lwS Γ ad adM cD dA σ τ' f s t.heap locs1 := by
  have out : ∀ q, q < H.size → (∀ k, k < 8 → adM k ≠ q) → t.heap[q]? = H[q]? := fun q h1 h2 => hk q h1 (fun z => z.elim (fun ⟨k, h3, h4⟩ => h2 k h3 h4.symm) (fun h => by omega))
  refine ⟨fun k x hkx => ?_, hB, ?_, hS⟩
  · have h1 := S.1 k x hkx
    obtain ⟨g1, rfl⟩ := gws_inv hkx
    exact h1.kept (out _ h1.lt (fun j hj e => (A.2.2.1 k g1).2.2 j hj e.symm))
  · rw [out dA S.dlt (fun j hj => (A.2.2.2.1 j hj).2)]; exact S.2.2.1
theorem L_modi {r : Int32} (X : lwX Γ cD p s m args meth c) (A : lwA ad adM dA s.heap.size) (S : lwS Γ ad adM cD dA σ τ f s H locs) (hM : gMi l celM Γ adM 8 y b' n' rt' rm (.ref (adM 0) :: As) τ r τ') (hc : gCV y b' n' rt' na) (hw : Cond.methodLink RL idx y ∈ lwg) (hy : y.cls = RX10)
    (hn : As.length = na) (hst : st0 = As.reverse ++ .ref (adM 0) :: rest) (hls : ls.size = 9) (hcat : (rest.map fun v => v.category).sum ≤ 8) (hR : gRoom rm R n' cells slots 0 0) (hdg : decode cL_law pc = .ok (.invokevirtual idx, 3))
    (kk : ∀ (H : Heap) (locs : List Loc), lwS Γ ad adM cD dA σ τ' f s H locs → W p l e R s m args below meth c H locs cells slots Q (F0 m (pc + 3) ls (.int r :: rest))) : W p l e R s m args below meth c H locs cells slots Q (F0 m pc ls st0) := by
  refine va_calli (L_modelR X A S (hM H.size) hc hw hy hn hst hls hcat hR hdg) S.2.2.2 (fun q _ hq => A.mle S q hq) (A.mle S) (fun r' u t H1 locs1 ht _ hw hB _ hk hS => ?_)
  subst hw; subst ht
  exact kk _ _ (L_keepM A S hB hk hS)
theorem L_modd {r : UInt64} (X : lwX Γ cD p s m args meth c) (A : lwA ad adM dA s.heap.size) (S : lwS Γ ad adM cD dA σ τ f s H locs) (hM : gMd l celM Γ adM 8 y b' n' rt' rm (.ref (adM 0) :: As) τ r τ') (hc : gCV y b' n' rt' na) (hw : Cond.methodLink RL idx y ∈ lwg) (hy : y.cls = RX10)
    (hn : As.length = na) (hst : st0 = As.reverse ++ .ref (adM 0) :: rest) (hls : ls.size = 9) (hcat : (rest.map fun v => v.category).sum ≤ 8) (hR : gRoom rm R n' cells slots 0 0) (hdg : decode cL_law pc = .ok (.invokevirtual idx, 3))
    (kk : ∀ (H : Heap) (locs : List Loc), lwS Γ ad adM cD dA σ τ' f s H locs → W p l e R s m args below meth c H locs cells slots Q (F0 m (pc + 3) ls (.double r :: rest))) : W p l e R s m args below meth c H locs cells slots Q (F0 m pc ls st0) := by
  refine va_calld (L_modelR X A S (hM H.size) hc hw hy hn hst hls hcat hR hdg) S.2.2.2 (fun q _ hq => A.mle S q hq) (A.mle S) (fun r' u t H1 locs1 ht _ hw hB _ hk hS => ?_)
  subst hw; subst ht
  exact kk _ _ (L_keepM A S hB hk hS)
/-- a call of the class that never throws -/
theorem L_clsi {r : Int32} (X : lwX Γ cD p s m args meth c) (A : lwA ad adM dA s.heap.size) (S : lwS Γ ad adM cD dA σ τ f s H locs) (hM : gMi l celC Γ ad 202 y b' n' rt' rm (.ref (ad 0) :: As) σ r σ') (hc : gCV y b' n' rt' na) (hw : Cond.methodLink RL idx y ∈ lwg) (hy : y.cls = RX9)
    (hn : As.length = na) (hst : st0 = As.reverse ++ .ref (ad 0) :: rest) (hls : ls.size = 9) (hcat : (rest.map fun v => v.category).sum ≤ 8) (hR : gRoom rm R n' cells slots 0 0) (hdg : decode cL_law pc = .ok (.invokevirtual idx, 3))
    (kk : ∀ (H : Heap) (locs : List Loc), lwS Γ ad adM cD dA σ' τ f s H locs → W p l e R s m args below meth c H locs cells slots Q (F0 m (pc + 3) ls (.int r :: rest))) : W p l e R s m args below meth c H locs cells slots Q (F0 m pc ls st0) := by
  have run : va_Run p l e R s m args below meth c H locs cells slots 0 0 (F0 m pc ls st0) rest (gQci celC Γ ad 202 r σ' H.size (Value.ref (ad 0) :: As).toArray) (gA ad 202 H.size) :=
    va_runV (As := As) (rest := rest) X.fix (hM H.size) ⟨callB_of na X.w (gwm_in hc.2.1) rfl hR.1.1 hR.1.2 (X.w _ hc.2.2.1) (X.w _ hw) hc.1 hR.2.1, X.w _ hc.2.2.2.1, X.w _ hc.2.2.2.2⟩
      ⟨gI_blind, va_recv X.K S.1 (ci := 9) (q := (y.cls, TX9, 12)) (by rw [hy]; rfl) (gws_e (by decide) (ceC_9 kd_s0 _)), fun U hU hW => ⟨rfl, L_pre X A S hU hW⟩⟩ rfl hn hls hst (lv_room (pc := pc) (ls := ls) (rest := st0) (m := m) hcat) hdg hR.2.2
  refine va_calli run S.2.2.2 (fun q _ hq => A.cle S q hq) (A.cle S) (fun r' u t H1 locs1 ht _ hw hB _ hk hS => ?_)
  subst hw; subst ht
  have out : ∀ q, q < H.size → (∀ k, k < 202 → ad k ≠ q) → t.heap[q]? = H[q]? := fun q h1 h2 => hk q h1 (fun z => z.elim (fun ⟨k, h3, h4⟩ => h2 k h3 h4.symm) (fun h => by omega))
  refine kk _ _ ⟨hB, fun k x hkx => ?_, ?_, hS⟩
  · have h1 := S.2.1 k x hkx
    obtain ⟨g1, rfl⟩ := gws_inv hkx
    exact h1.kept (out _ h1.lt (fun j hj => (A.2.2.1 j hj).2.2 k g1))
  · rw [out dA S.dlt (fun j hj => (A.2.2.1 j hj).2.1)]; exact S.2.2.1
theorem L_sld {b L n k : Nat} {xs : Nat → Int32} {x : Int32} (X : lwX Γ cD p s m args meth c) (S : lwS Γ ad adM cD dA σ τ f s H locs) (hX : va_X b L xs s s.heap) (hbl : b < s.heap.size) (hx : x = nI k) (hk : k < 6) (hn : 6 * n + 6 ≤ L) (hL : L ≤ 3072) (hdg : decode cL_law pc = .ok (.iaload, 1))
    (kk : W p l e R s m args below meth c H locs cells slots Q (F0 m (pc + 1) ls (.int (xs (6 * n + k)) :: rest))) : W p l e R s m args below meth c H locs cells slots Q (F0 m pc ls (.int (nI (6 * n) + x) :: .ref b :: rest)) := by
  subst hx
  rw [nI_add]
  have h := va_sld X.1 X.2.1 hX hbl (by show ¬ s.heap.size ≤ b; omega) S.2.2.2 (vp_in_nI (show 6 * n + k < L by omega) (by omega)) hdg (kk := (by rw [nI_clamp (by omega)]; exact kk))
  exact h
theorem L_lald (X : lwX Γ cD p s m args meth c) (S : lwS Γ ad adM cD dA σ τ f s H locs) (hdg : decode cL_law pc = .ok (.laload, 1))
    (kk : W p l e R s m args below meth c H locs cells slots Q (F0 m (pc + 1) ls (.long (σ 201 0).toInt64 :: rest))) : W p l e R s m args below meth c H locs cells slots Q (F0 m pc ls (.int 0 :: .ref (ad 201) :: rest)) :=
  va_lald (D := Γ.1) (tys := gT Γ) X.1 X.2.1 X.K S.1 201 2 (gws_e (by decide) (ceC_30 kd_s201 _)) rfl (by rintro (h | h) <;> revert h <;> decide) hdg kk
theorem L_dald (X : lwX Γ cD p s m args meth c) (S : lwS Γ ad adM cD dA σ τ f s H locs) (hdg : decode cL_law pc = .ok (.daload, 1))
    (kk : W p l e R s m args below meth c H locs cells slots Q (F0 m (pc + 1) ls (.double (f 0) :: rest))) : W p l e R s m args below meth c H locs cells slots Q (F0 m pc ls (.int 0 :: .ref dA :: rest)) :=
  W.dald (v := .double (f 0)) X.1 X.2.1 S.2.2.1 (X.D 1 (fun j => .double (f j))) (fun q => by cases q) (by show ¬ ((0 : Int32) < 0 ∨ (arrV _ _ _).slots.size ≤ _); rw [arrV_size]; show ¬ ((0 : Int32) < 0 ∨ 1 ≤ (0 : Int32).toNatClampNeg); decide) (by show (arrV cD 1 (fun j => .double (f j))).slots[(0 : Nat)]? = _; rw [arrV_read _ _ (by decide)]) rfl rfl hdg kk
end LROWS
/-! ===== the reader's text may be named anew: only what lies below 202 counts ===== -/
theorem celC_a3 {Γ : gG} {ad ad' : Nat → Nat} {k : Nat} {r : Nat → Int32} (hk : k < 203) (hj : ∀ j, j ≠ 204 → ad' j = ad j) (h9 : gkd k = 5 → ad' (r 9).toNatClampNeg = ad (r 9).toNatClampNeg) : celC Γ ad' k r = celC Γ ad k r := by
  have lt : ∀ {i c : Nat}, gkd i = c → c ≠ 99 → ad' i = ad i := fun h hc => hj _ (fun e => by have := kd_lt h hc; omega)
  rcases kd_all k hk with h | h | h | h | h | h | h | h | h | h | h | h | h | h | h | h | h | h
  · rw [ceC_0 h, ceC_0 h, lt (kd_0_1 h) (by decide)]
  · rw [ceC_1 h, ceC_1 h, hj 1 (by decide), hj 17 (by decide), hj 21 (by decide), hj 23 (by decide)]
  · rw [ceC_2 h, ceC_2 h, hj 1 (by decide), hj 18 (by decide)]
  · rw [ceC_3 h, ceC_3 h, lt (kd_3_1 h) (by decide), lt (kd_3_2 h) (by decide), lt (kd_3_4 h) (by decide), lt (kd_3_10 h) (by decide)]
  · rw [ceC_4 h, ceC_4 h, hj 26 (by decide)]
  · rw [ceC_5 h, ceC_5 h, hj 192 (by decide), hj 193 (by decide), hj 194 (by decide), hj 195 (by decide), hj 196 (by decide), hj 197 (by decide), hj 198 (by decide), h9 h]
  · rw [ceC_6 h, ceC_6 h]
  · rw [ceC_7 h, ceC_7 h, lt (kd_7_1 h) (by decide)]
  · rw [ceC_8 h, ceC_8 h, lt (kd_8_1 h) (by decide), lt (kd_8_2 h) (by decide), lt (kd_8_3 h) (by decide), lt (kd_8_4 h) (by decide), lt (kd_8_5 h) (by decide)]
  · rw [ceC_9 h, ceC_9 h, hj 1 (by decide), hj 17 (by decide), hj 20 (by decide), hj 25 (by decide), hj 171 (by decide), hj 187 (by decide), hj 189 (by decide), hj 191 (by decide)]
  · rw [ceC_30 h, ceC_30 h]
  · rw [ceC_106 h, ceC_106 h]
  · rw [ceC_116 h, ceC_116 h]
  · rw [ceC_120 h, ceC_120 h]
  · rw [ceC_130 h, ceC_130 h]
  · rw [ceC_160 h, ceC_160 h]
  · rw [ceC_484 h, ceC_484 h]
  · rw [ceC_209 h, ceC_209 h]
    have e : (fun j => some (ad' (gFx j))) = fun j => some (ad (gFx j)) := funext fun j => by rw [hj _ (by unfold gFx; omega)]
    rw [e]
theorem lwS.norm {Γ : gG} {ad adM : Nat → Nat} {cD dA : Nat} {s : State} {H : Heap} {locs : List Loc} {σ τ : gSt} {f : Nat → UInt64} (S : lwS Γ ad adM cD dA σ τ f s H locs) : ∃ ad' σ', (∀ k, k < 202 → ad' k = ad k) ∧ r9 σ' ∧ (∀ c, c ≠ 191 → σ' c = σ c) ∧ lwS Γ ad' adM cD dA σ' τ f s H locs := by
  by_cases h9 : r9 σ
  · exact ⟨ad, σ, fun _ _ => rfl, h9, fun _ _ => rfl, S⟩
  · refine ⟨fun k => if k = 204 then ad (σ 191 9).toNatClampNeg else ad k, up2 σ 191 9 (nI 204), fun k hk => if_neg (by omega), ?_, fun c hc => up2_k hc, ⟨fun k x hk => ?_, S.2⟩⟩
    · unfold r9
      rw [up2_s, nI_clamp (by omega)]
      decide
    · obtain ⟨h1, rfl⟩ := gws_inv hk
      have h2 := S.1 k _ (gws_get h1)
      have hn : ∀ j, j ≠ 204 → (fun k => if k = 204 then ad (σ 191 9).toNatClampNeg else ad k) j = ad j := fun j hj => if_neg hj
      by_cases hk : k = 191
      · subst hk
        have e : celC Γ (fun k => if k = 204 then ad (σ 191 9).toNatClampNeg else ad k) 191 (up2 σ 191 9 (nI 204) 191) = celC Γ ad 191 (σ 191) := by
          have u : ∀ j, j ≠ 9 → up2 σ 191 9 (nI 204) 191 j = σ 191 j := fun j hj => up2_j hj
          rw [ceC_5 kd_s191, ceC_5 kd_s191, u 7 (by decide), u 8 (by decide), up2_s, nI_clamp (show 204 < 2 ^ 31 by decide)]
          rfl
        show va_at Γ.1 gCl (_, celC Γ _ 191 _) H
        rw [e]
        exact h2
      · show va_at Γ.1 gCl (_, celC Γ _ k _) H
        rw [up2_k hk, celC_a3 (ad := ad) (by omega) hn (fun h => absurd (kd5_191 k (by omega) h) hk)]
        have e : (if k = 204 then ad (σ 191 9).toNatClampNeg else ad k) = ad k := if_neg (by omega)
        rw [e]
        exact h2
theorem lwA.ad' {ad ad' adM : Nat → Nat} {dA sz : Nat} (A : lwA ad adM dA sz) (h : ∀ k, k < 202 → ad' k = ad k) : lwA ad' adM dA sz := by
  obtain ⟨a, b, d, e, g⟩ := A
  refine ⟨fun i j hi hj hij => a i j hi hj (by rw [← h i hi, ← h j hj]; exact hij), b, fun k hk => ?_, e, g⟩
  rw [h k hk]
  exact d k hk
theorem RR.c201 {σ τ : gSt} (R : RR σ τ) (r : Int32) : RR (up2 σ 201 0 r) τ := R.fr (fun c hc => up2_k (by omega)) (fun _ _ _ _ _ => rfl) (fun _ _ _ _ _ => rfl)
theorem RR.c191 {σ σ' τ : gSt} (R : RR σ τ) (h : ∀ c, c ≠ 191 → σ' c = σ c) : RR σ' τ := R.fr (fun c hc => h c (by omega)) (fun _ _ _ _ _ => rfl) (fun _ _ _ _ _ => rfl)
