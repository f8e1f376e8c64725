/-! ===== one list of words for every method ===== -/
def lwg : List Cond := lw_tbl.filter goodWord
theorem gq {w : Cond} (i : Nat) (h : lw_tbl[i]? = some w) (hg : goodWord w = true) : w ∈ lwg := List.mem_filter.mpr ⟨List.mem_of_getElem? h, hg⟩
theorem lwg_good : GoodIn lwg lwg := fun w h => ⟨h, good_of_word (List.mem_filter.mp h).2⟩
theorem lwg_of {args : Array Value} {s : State} (h : ∀ w ∈ lw_tbl, w.before args s = true) : ∀ w ∈ lwg, w.before args s = true := fun w hw => h w (List.mem_filter.mp hw).1
abbrev gwm (y : MethodName) (b : ByteArray) (n : Nat) (rt : Option FieldType) : List Cond := .code y b n rt :: lwg
theorem gwm_in {y : MethodName} {b : ByteArray} {n : Nat} {rt : Option FieldType} (h : Cond.code y b n rt ∈ lwg) : GoodIn lwg (gwm y b n rt) := fun w hw => (List.mem_cons.mp hw).elim (fun e => lwg_good w (e ▸ h)) (lwg_good w)
/-- the words that a warmer machine keeps by laws of their own -/
def gBadOk : Cond → Bool
  | .methodLinkNest .. => true
  | .fieldLinkNest .. => true
  | .castable .. => true
  | .declares .. => true
  | _ => false
def gBad : List Cond := tables_1.filter gBadOk
theorem gb {w : Cond} (i : Nat) (h : tables_1[i]? = some w) (hg : gBadOk w = true) : w ∈ gBad := List.mem_filter.mpr ⟨List.mem_of_getElem? h, hg⟩
theorem gNw_warm {s U : State} (hW : s.WarmedH U.vm) {w : Cond} (h : gBadOk w = true) (hw : va_Nw w s) : va_Nw w U := by
  cases w <;> first | exact va_Nw.warmM hW hw | exact va_Nw.warmF hW hw | exact va_Nw.warmC hW hw | exact va_Nw.warmD hW hw | (simp [gBadOk] at h; done)
/-! ===== worlds: cells by number, at addresses by number, each holding a row of numbers ===== -/
abbrev gSt : Type := Nat → Nat → Int32
abbrev gG : Type := va_G × ClassId × ClassId × ClassId
abbrev gCell : Type := gG → (Nat → Nat) → Nat → (Nat → Int32) → va_E
def gCl : List vw_C := [(RX0, TX0, 2), (RX1, TX1, 4), (RX2, TX2, 2), (RX3, TX3, 5), (RX4, TX4, 3), (RX5, TX5, 10), (RX6, TX6, 4), (RX7, TX7, 2), (RX8, TX8, 6), (RX9, TX9, 12), (RX10, TX10, 17)]
def gT (Γ : gG) : List (ClassId × FieldType) := [(Γ.2.1, .int), (Γ.2.2.1, .object RX3), (Γ.2.2.2, .long)]
def gws (cel : gCell) (Γ : gG) (ad : Nat → Nat) (N : Nat) (σ : gSt) : va_W := (List.range N).map (fun k => (ad k, cel Γ ad k (σ k)))
theorem gws_get {cel : gCell} {Γ : gG} {ad : Nat → Nat} {N : Nat} {σ : gSt} {k : Nat} (h : k < N) : (gws cel Γ ad N σ)[k]? = some (ad k, cel Γ ad k (σ k)) := by
  rw [gws, List.getElem?_map, List.getElem?_range h]; rfl
theorem gws_e {cel : gCell} {Γ : gG} {ad : Nat → Nat} {N : Nat} {σ : gSt} {k : Nat} {e : va_E} (h : k < N) (he : cel Γ ad k (σ k) = e) : (gws cel Γ ad N σ)[k]? = some (ad k, e) := by
  rw [gws_get h, he]
theorem gws_inv {cel : gCell} {Γ : gG} {ad : Nat → Nat} {N : Nat} {σ : gSt} {k : Nat} {q : Nat × va_E} (h : (gws cel Γ ad N σ)[k]? = some q) : k < N ∧ q = (ad k, cel Γ ad k (σ k)) := by
  by_cases hk : k < N
  · rw [gws_get hk] at h
    exact ⟨hk, (Option.some.inj h).symm⟩
  · have : (gws cel Γ ad N σ)[k]? = none := by
      rw [List.getElem?_eq_none_iff]; simp [gws]; omega
    rw [this] at h; cases h
theorem gws_set {cel : gCell} {Γ : gG} {ad : Nat → Nat} {N : Nat} {σ : gSt} {k : Nat} (h : k < N) (r : Nat → Int32) {e : va_E} (he : cel Γ ad k r = e) : (gws cel Γ ad N σ).set k (ad k, e) = gws cel Γ ad N (va_up σ k r) := by
  apply List.ext_getElem?
  intro i
  by_cases hi : i = k
  · subst hi
    rw [List.getElem?_set_self (by simp [gws]; exact h), gws_get h, ← he]
    simp [va_up]
  · rw [List.getElem?_set_ne (Ne.symm hi)]
    by_cases hN : i < N
    · rw [gws_get hN, gws_get hN]; simp [va_up, hi]
    · have h1 : ∀ τ : gSt, (gws cel Γ ad N τ)[i]? = none := fun τ => by
        rw [List.getElem?_eq_none_iff]; simp [gws]; omega
      rw [h1, h1]
def gInj (ad : Nat → Nat) (N : Nat) : Prop := ∀ i j, i < N → j < N → ad i = ad j → i = j
def gA (ad : Nat → Nat) (N sz : Nat) : Nat → Prop := fun q => (∃ k, k < N ∧ q = ad k) ∨ sz ≤ q
theorem gA_le {ad : Nat → Nat} {N a b : Nat} (h : a ≤ b) : ∀ q, gA ad N b q → gA ad N a q := fun _ hq => hq.elim Or.inl (fun h1 => Or.inr (Nat.le_trans h h1))
theorem gD_of {cel : gCell} {Γ : gG} {ad : Nat → Nat} {N sz : Nat} {σ : gSt} (h : gInj ad N) : va_D (gA ad N sz) (gws cel Γ ad N σ) := by
  refine ⟨fun i j p q hp hq e => ?_, fun k q hk => ?_⟩
  · obtain ⟨h1, rfl⟩ := gws_inv hp
    obtain ⟨h2, rfl⟩ := gws_inv hq
    exact h i j h1 h2 e
  · obtain ⟨h1, rfl⟩ := gws_inv hk
    exact Or.inl ⟨k, h1, rfl⟩
/-- what the run finds made: links of nest mates, Throwable's two statics, the texts of exceptions, the three tables of settings -/
def gStr : List (String × Nat × String) := (tables_1.filterMap fun w => match w with | .stringRef C k t => some (C, k, t) | _ => none)
def gFrom : Nat → Int32 := fun j => if j = 0 then 5 else if j = 5 then 5 else 0
def gTo : Nat → Int32 := fun j => if j = 0 then 30 else if j = 1 then 12 else if j = 2 then 9 else if j = 3 then 25 else if j = 4 then 25 else 24
def gFirst : Nat → Int32 := fun j => if j = 0 then 15 else if j = 1 then 3 else if j = 2 then 2 else if j = 3 then 5 else if j = 4 then 5 else 16
def gTab (n : String) (f : Nat → Int32) (A : Nat → Prop) (U : State) (H : Heap) : Prop := ∃ t, va_Z RX9 n "[I" (.ref t) A U H ∧ va_T .int t 6 (fun j => .int (f j)) A U H
def gF (A : Nat → Prop) (U : State) (H : Heap) : Prop :=
  (∀ w ∈ gBad, va_Nw w U) ∧ vx_Zq Bundle.tN "UNASSIGNED_STACK" Bundle.steD A U H ∧ vx_Zq Bundle.tN "SUPPRESSED_SENTINEL" Bundle.listD A U H ∧ (∀ q ∈ gStr, ∃ sa, vk_R q.1 q.2.1 q.2.2 sa U) ∧
  gTab "SETTING_AT_FIRST" gFirst A U H ∧ gTab "SETTING_FROM" gFrom A U H ∧ gTab "SETTING_TO" gTo A U H
theorem gTab.warm {n : String} {f : Nat → Int32} {A : Nat → Prop} {s U : State} {H : Heap} (hW : s.WarmedH U.vm) (h : gTab n f A s H) : gTab n f A U H := by
  obtain ⟨t, h1, h2⟩ := h
  exact ⟨t, h1.moved hW.alike, h2.moved hW.alike⟩
theorem gTab.kept {n : String} {f : Nat → Int32} {A : Nat → Prop} {s : State} {H H1 : Heap} (h : gTab n f A s H) (hq : ∀ a : Nat, a < H.size → ¬ A a → H1[a]? = H[a]?) : gTab n f A s H1 := by
  obtain ⟨t, h1, h2⟩ := h
  exact ⟨t, h1.kept hq, h2.kept hq⟩
theorem gTab.narrow {n : String} {f : Nat → Int32} {A B : Nat → Prop} {s : State} {H : Heap} (h : gTab n f A s H) (hAB : ∀ q, B q → A q) : gTab n f B s H := by
  obtain ⟨t, h1, h2⟩ := h
  exact ⟨t, h1.narrow hAB, h2.narrow hAB⟩
theorem gF.warm {A : Nat → Prop} {s U : State} {H : Heap} (hW : s.WarmedH U.vm) (h : gF A s H) : gF A U H := by
  obtain ⟨h1, h2, h3, h4, h5, h6, h7⟩ := h
  refine ⟨fun w hw => gNw_warm hW (List.mem_filter.mp hw).2 (h1 w hw), h2.moved hW.alike, h3.moved hW.alike, fun q hq => ?_, h5.warm hW, h6.warm hW, h7.warm hW⟩
  obtain ⟨sa, h⟩ := h4 q hq
  exact ⟨sa, h.warm hW⟩
theorem gF.kept {A : Nat → Prop} {s : State} {H H1 : Heap} (h : gF A s H) (hq : ∀ a : Nat, a < H.size → ¬ A a → H1[a]? = H[a]?) : gF A s H1 := by
  obtain ⟨h1, h2, h3, h4, h5, h6, h7⟩ := h
  exact ⟨h1, h2.kept hq, h3.kept hq, h4, h5.kept hq, h6.kept hq, h7.kept hq⟩
theorem gF.narrow {A B : Nat → Prop} {s : State} {H : Heap} (h : gF A s H) (hAB : ∀ q, B q → A q) : gF B s H := by
  obtain ⟨h1, h2, h3, h4, h5, h6, h7⟩ := h
  exact ⟨h1, h2.narrow hAB, h3.narrow hAB, h4, h5.narrow hAB, h6.narrow hAB, h7.narrow hAB⟩
/-! ===== a method's frame, its world as it walks, its contract ===== -/
def gX (cel : gCell) (Γ : gG) (ad : Nat → Nat) (N : Nat) (own : String) (cc : ByteArray) (nL : Nat) (rt : Option FieldType) (p : Program) (s : State) (m : MethodId) (args : Array Value) (meth : Method) (c : Code) : Prop :=
  p.tables.exec = Jvm.exec ∧ c.code = cc ∧ c.maxLocals = nL ∧ s.vm.findClass own = some m.cls ∧ (∀ w ∈ lwg, w.before args s = true) ∧ meth.sig.returnType = rt ∧ meth.locks = false ∧ va_K Γ.1 gCl (gT Γ) s ∧ gInj ad N ∧ gF (gA ad N s.heap.size) s s.heap
def gS (cel : gCell) (Γ : gG) (ad : Nat → Nat) (N : Nat) (σ : gSt) (s : State) (H : Heap) (locs : List Loc) : Prop :=
  va_P Γ.1 gCl (gws cel Γ ad N σ) H ∧ va_S (gA ad N s.heap.size) s.heap H locs
def gI (cel : gCell) (Γ : gG) (ad : Nat → Nat) (N sz : Nat) (σ : gSt) (U : State) : Prop :=
  U.heap.size = sz ∧ va_P Γ.1 gCl (gws cel Γ ad N σ) U.heap ∧ va_K Γ.1 gCl (gT Γ) U ∧ gInj ad N ∧ gF (gA ad N sz) U U.heap
def gO (cel : gCell) (Γ : gG) (ad : Nat → Nat) (N : Nat) (σ : gSt) (t : State) : Prop := va_P Γ.1 gCl (gws cel Γ ad N σ) t.heap
abbrev gPc (cel : gCell) (Γ : gG) (ad : Nat → Nat) (N : Nat) (σ : gSt) (as : List Value) (sz : Nat) : Array Value → State → Prop := va_Pc as (gI cel Γ ad N sz σ)
abbrev gQci (cel : gCell) (Γ : gG) (ad : Nat → Nat) (N : Nat) (r : Int32) (σ : gSt) (sz : Nat) : Array Value → State → Outcome → State → Prop := va_Qi (fun r' (_ : Unit) => r' = r) (fun _ t => gO cel Γ ad N σ t) (gA ad N sz)
abbrev gQcv (cel : gCell) (Γ : gG) (ad : Nat → Nat) (N : Nat) (σ : gSt) (sz : Nat) : Array Value → State → Outcome → State → Prop := va_Qv (fun (_ : Unit) => True) (fun _ t => gO cel Γ ad N σ t) (gA ad N sz)
abbrev gQcr (cel : gCell) (Γ : gG) (ad : Nat → Nat) (N : Nat) (r : Option Nat) (σ : gSt) (sz : Nat) : Array Value → State → Outcome → State → Prop := va_Qe ad (fun r' (_ : Unit) => r' = r) (fun _ t => gO cel Γ ad N σ t) (gA ad N sz)
def gMi (l : Launch) (cel : gCell) (Γ : gG) (ad : Nat → Nat) (N : Nat) (y : MethodName) (b : ByteArray) (n : Nat) (rt : Option FieldType) (rm : Room) (as : List Value) (σ : gSt) (r : Int32) (σ' : gSt) : Prop :=
  ∀ sz, Met l y (gwm y b n rt) rm (gPc cel Γ ad N σ as sz) (gQci cel Γ ad N r σ' sz) 0 0 (gA ad N sz)
def gMv (l : Launch) (cel : gCell) (Γ : gG) (ad : Nat → Nat) (N : Nat) (y : MethodName) (b : ByteArray) (n : Nat) (rt : Option FieldType) (rm : Room) (as : List Value) (σ σ' : gSt) : Prop :=
  ∀ sz, Met l y (gwm y b n rt) rm (gPc cel Γ ad N σ as sz) (gQcv cel Γ ad N σ' sz) 0 0 (gA ad N sz)
def gMr (l : Launch) (cel : gCell) (Γ : gG) (ad : Nat → Nat) (N : Nat) (y : MethodName) (b : ByteArray) (n : Nat) (rt : Option FieldType) (rm : Room) (as : List Value) (σ : gSt) (r : Option Nat) (σ' : gSt) : Prop :=
  ∀ sz, Met l y (gwm y b n rt) rm (gPc cel Γ ad N σ as sz) (gQcr cel Γ ad N r σ' sz) 0 0 (gA ad N sz)
abbrev gQi (cel : gCell) (Γ : gG) (ad : Nat → Nat) (N : Nat) (r : Int32) (σ : gSt) (below : List Frame) (args : Array Value) (s : State) : State → Prop := MQ below (gQci cel Γ ad N r σ s.heap.size) args s 0 0 (gA ad N s.heap.size)
abbrev gQv (cel : gCell) (Γ : gG) (ad : Nat → Nat) (N : Nat) (σ : gSt) (below : List Frame) (args : Array Value) (s : State) : State → Prop := MQ below (gQcv cel Γ ad N σ s.heap.size) args s 0 0 (gA ad N s.heap.size)
abbrev gQr (cel : gCell) (Γ : gG) (ad : Nat → Nat) (N : Nat) (r : Option Nat) (σ : gSt) (below : List Frame) (args : Array Value) (s : State) : State → Prop := MQ below (gQcr cel Γ ad N r σ s.heap.size) args s 0 0 (gA ad N s.heap.size)
abbrev gR (h mc ms : Nat) : Room := { frames := h, cells := mc, slots := ms, locals := 60 * h }
section GOF
variable {l : Launch} {cel : gCell} {Γ : gG} {ad : Nat → Nat} {N : Nat} {y : MethodName} {b : ByteArray} {n : Nat} {rt : Option FieldType} {rm : Room} {as : List Value} {σ σ' : gSt}
theorem gI_blind {sz : Nat} : FrameBlind (gPc cel Γ ad N σ as sz) := by
  intro a U g mk q
  obtain ⟨q0, q1, qP, qK, qI, qF⟩ := q
  exact ⟨q0, q1, qP, va_K.moved (u := U) (U := U.calling g mk a) (Vm.Alike.refl U.vm) qK, qI, gF.warm (s := U) (U := U.calling g mk a) (State.WarmedH.refl U) qF⟩
theorem gOf {Qc : Nat → Array Value → State → Outcome → State → Prop} {sz : Nat} (own : String) (hy : plainName y.cls = true) (hown : y.cls = own) (hlen : (lg_sl as).length ≤ n)
    (body : ∀ p e s m args below meth c H locs ls, gX cel Γ ad N own b n rt p s m args meth c → gS cel Γ ad N σ s H locs → lv_has ls n (lv_args 0 as) →
      W p l e rm s m args below meth c H locs 0 0 (MQ below (Qc s.heap.size) args s 0 0 (gA ad N s.heap.size)) (F0 m 0 ls [])) :
    Met l y (gwm y b n rt) rm (gPc cel Γ ad N σ as sz) (Qc sz) 0 0 (gA ad N sz) := by
  refine Met.ofW (cc := b) (maxL := n) (ret := rt) hy rfl ?_
  intro p e s m args below meth c s₁ B hml hv
  obtain ⟨rfl, rfl, hP, hK, hI, hF⟩ := hv
  rw [lg_entry_eq]
  have hts := atoms_spec (ws := gwm y b n rt) B.pre
  exact body p e s m _ below meth c s.heap [] _ ⟨B.exec, B.bytes, hml, hown ▸ findClass_of_methodNamed B.named, fun w hw => hts w (List.mem_cons_of_mem _ hw), B.returns, B.notSynchronized, hK, hI, hF⟩ ⟨hP, va_S.rf⟩ (lv_entry as hlen)
end GOF
