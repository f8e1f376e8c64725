/-! ===== partial operations over a world's numbers, and what they say ===== -/
def up2 (σ : gSt) (k j : Nat) (v : Int32) : gSt := va_up σ k (upd (σ k) j v)
def gald (σ : gSt) (k len : Nat) (i : Int32) : Option Int32 := if 0 ≤ i.toInt ∧ i.toInt < (len : Int) then some (σ k i.toNatClampNeg) else none
def gast (σ : gSt) (k len : Nat) (i x : Int32) : Option gSt := if 0 ≤ i.toInt ∧ i.toInt < (len : Int) then some (up2 σ k i.toNatClampNeg x) else none
def gset (σ : gSt) (k j : Nat) (x : Int32) : Option gSt := some (up2 σ k j x)
def gtl (f : Nat → Int32) (n : Nat) (i : Int32) : Option Int32 := if 0 ≤ i.toInt ∧ i.toInt < (n : Int) then some (f i.toNatClampNeg) else none
def gdiv (x y : Int32) : Option Int32 := if y = 0 then none else some (x / y)
def grem (x y : Int32) : Option Int32 := if y = 0 then none else some (x - x / y * y)
def gcpy (σ : gSt) (k0 l0 k1 l1 : Nat) (sp dp n : Int32) : Option gSt := if 0 ≤ sp.toInt ∧ 0 ≤ dp.toInt ∧ 0 ≤ n.toInt ∧ sp.toInt + n.toInt ≤ (l0 : Int) ∧ dp.toInt + n.toInt ≤ (l1 : Int) then some (va_up σ k1 (va_cpy (σ k0) (σ k1) sp.toNatClampNeg dp.toNatClampNeg n.toNatClampNeg)) else none
def gzb (x : Int32) : Option Int32 := if x = 0 ∨ x = 1 then some x else none
def g_k1 {α β : Type} (o : Option α) (k : α → Option β) : Option β := match o with
  | none => none
  | some a => k a
def g_k2 {α1 α2 β : Type} (o : Option (α1 × α2)) (k : α1 → α2 → Option β) : Option β := match o with
  | none => none
  | some (a, b) => k a b
def g_k3 {α1 α2 α3 β : Type} (o : Option (α1 × α2 × α3)) (k : α1 → α2 → α3 → Option β) : Option β := match o with
  | none => none
  | some (a, b, c) => k a b c
def g_k4 {α1 α2 α3 α4 β : Type} (o : Option (α1 × α2 × α3 × α4)) (k : α1 → α2 → α3 → α4 → Option β) : Option β := match o with
  | none => none
  | some (a, b, c, d) => k a b c d
theorem g_s1 {α β : Type} {o : Option α} {k : α → Option β} {r : β} (h : g_k1 o k = some r) : ∃ a, o = some a ∧ k a = some r := by
  cases o with
  | none => cases h
  | some a => exact ⟨a, rfl, h⟩
theorem g_s2 {α1 α2 β : Type} {o : Option (α1 × α2)} {k : α1 → α2 → Option β} {r : β} (h : g_k2 o k = some r) : ∃ a b, o = some (a, b) ∧ k a b = some r := by
  cases o with
  | none => cases h
  | some a => exact ⟨a.1, a.2, rfl, h⟩
theorem g_s3 {α1 α2 α3 β : Type} {o : Option (α1 × α2 × α3)} {k : α1 → α2 → α3 → Option β} {r : β} (h : g_k3 o k = some r) : ∃ a b c, o = some (a, b, c) ∧ k a b c = some r := by
  cases o with
  | none => cases h
  | some a => exact ⟨a.1, a.2.1, a.2.2, rfl, h⟩
theorem g_s4 {α1 α2 α3 α4 β : Type} {o : Option (α1 × α2 × α3 × α4)} {k : α1 → α2 → α3 → α4 → Option β} {r : β} (h : g_k4 o k = some r) : ∃ a b c d, o = some (a, b, c, d) ∧ k a b c d = some r := by
  cases o with
  | none => cases h
  | some a => exact ⟨a.1, a.2.1, a.2.2.1, a.2.2.2, rfl, h⟩
/-- a call that may throw: its code (0: none), its answer, the state; behind a throw nothing more is done -/
def g_x2 {β : Type} (o : Option (Nat × gSt)) (th : Nat → gSt → β) (k : gSt → Option β) : Option β := match o with
  | none => none
  | some (x, s) => if x = 0 then k s else some (th x s)
theorem g_sx2 {β : Type} {o : Option (Nat × gSt)} {th : Nat → gSt → β} {k : gSt → Option β} {r : β} (h : g_x2 o th k = some r) : ∃ x s, o = some (x, s) ∧ (x = 0 → k s = some r) ∧ (¬ x = 0 → th x s = r) := by
  cases o with
  | none => cases h
  | some a =>
    obtain ⟨x, s⟩ := a
    refine ⟨x, s, rfl, fun h0 => ?_, fun h0 => ?_⟩
    · simpa [g_x2, h0] using h
    · simpa [g_x2, h0] using h
noncomputable def FU : Nat := Classical.choose (⟨100000, Nat.le_refl _⟩ : ∃ n : Nat, 100000 ≤ n)
theorem FU_ge : 100000 ≤ FU := Classical.choose_spec (⟨100000, Nat.le_refl _⟩ : ∃ n : Nat, 100000 ≤ n)
theorem gald_some {σ : gSt} {k len : Nat} {i v : Int32} (h : gald σ k len i = some v) : vp_in i len ∧ σ k i.toNatClampNeg = v := by
  unfold gald at h
  split at h
  · rename_i h1
    exact ⟨vp_in_iff.mpr h1, Option.some.inj h⟩
  · cases h
theorem gast_some {σ σ' : gSt} {k len : Nat} {i x : Int32} (h : gast σ k len i x = some σ') : vp_in i len ∧ up2 σ k i.toNatClampNeg x = σ' := by
  unfold gast at h
  split at h
  · rename_i h1
    exact ⟨vp_in_iff.mpr h1, Option.some.inj h⟩
  · cases h
theorem gtl_some {f : Nat → Int32} {n : Nat} {i v : Int32} (h : gtl f n i = some v) : vp_in i n ∧ f i.toNatClampNeg = v := by
  unfold gtl at h
  split at h
  · rename_i h1
    exact ⟨vp_in_iff.mpr h1, Option.some.inj h⟩
  · cases h
theorem gdiv_some {x y v : Int32} (h : gdiv x y = some v) : ¬ y = 0 ∧ x / y = v := by
  unfold gdiv at h
  split at h
  · cases h
  · rename_i h1
    exact ⟨h1, Option.some.inj h⟩
theorem grem_some {x y v : Int32} (h : grem x y = some v) : ¬ y = 0 ∧ x - x / y * y = v := by
  unfold grem at h
  split at h
  · cases h
  · rename_i h1
    exact ⟨h1, Option.some.inj h⟩
theorem gzb_some {x v : Int32} (h : gzb x = some v) : narrow .boolean (.int v) = .int v ∧ x = v := by
  unfold gzb at h
  split at h
  · rename_i h1
    cases h
    rcases h1 with rfl | rfl
    · exact ⟨by decide +kernel, rfl⟩
    · exact ⟨by decide +kernel, rfl⟩
  · cases h
theorem g_toInt0 {x : Int32} : ¬ x < 0 ↔ 0 ≤ x.toInt := by rw [Int32.not_lt]; exact Int32.le_iff_toInt_le
theorem g_clamp {x : Int32} (h : 0 ≤ x.toInt) : (x.toNatClampNeg : Int) = x.toInt := by
  show ((x.toInt.toNat : Nat) : Int) = x.toInt
  omega
theorem gcpy_some {σ σ' : gSt} {k0 l0 k1 l1 : Nat} {sp dp n : Int32} (h : gcpy σ k0 l0 k1 l1 sp dp n = some σ') : (¬ sp < 0 ∧ ¬ dp < 0 ∧ ¬ n < 0 ∧ sp.toNatClampNeg + n.toNatClampNeg ≤ l0 ∧ dp.toNatClampNeg + n.toNatClampNeg ≤ l1) ∧ va_up σ k1 (va_cpy (σ k0) (σ k1) sp.toNatClampNeg dp.toNatClampNeg n.toNatClampNeg) = σ' := by
  unfold gcpy at h
  split at h
  · rename_i h1
    obtain ⟨a, b, c, d, e⟩ := h1
    have a' := g_clamp a
    have b' := g_clamp b
    have c' := g_clamp c
    exact ⟨⟨g_toInt0.mpr a, g_toInt0.mpr b, g_toInt0.mpr c, by omega, by omega⟩, Option.some.inj h⟩
  · cases h
/-! ===== rows over a world ===== -/
section GROWS
variable {l : Launch} {cel : gCell} {Γ : gG} {ad : Nat → Nat} {N : Nat} {own : String} {cc : ByteArray} {nL : Nat} {rt : Option FieldType} {p : Program} {e : Env} {R : Room} {s : State} {m : MethodId} {args : Array Value} {below : List Frame} {meth : Method} {c : Code} {H : Heap} {locs : List Loc} {cells slots : Nat} {Q : State → Prop} {pc : Nat} {ls : Array Slot} {rest st0 : List Value} {σ σ' σ1 : gSt}
theorem gX.w (X : gX cel Γ ad N own cc nL rt p s m args meth c) : ∀ w ∈ lwg, w.before args s = true := X.2.2.2.2.1
theorem gX.ow (X : gX cel Γ ad N own cc nL rt p s m args meth c) : s.vm.findClass own = some m.cls := X.2.2.2.1
theorem gX.ml (X : gX cel Γ ad N own cc nL rt p s m args meth c) : c.maxLocals = nL := X.2.2.1
theorem gX.r (X : gX cel Γ ad N own cc nL rt p s m args meth c) : meth.sig.returnType = rt := X.2.2.2.2.2.1
theorem gX.lk (X : gX cel Γ ad N own cc nL rt p s m args meth c) : meth.locks = false := X.2.2.2.2.2.2.1
theorem gX.K (X : gX cel Γ ad N own cc nL rt p s m args meth c) : va_K Γ.1 gCl (gT Γ) s := X.2.2.2.2.2.2.2.1
theorem gX.I (X : gX cel Γ ad N own cc nL rt p s m args meth c) : gInj ad N := X.2.2.2.2.2.2.2.2.1
theorem gX.F (X : gX cel Γ ad N own cc nL rt p s m args meth c) : gF (gA ad N s.heap.size) s s.heap := X.2.2.2.2.2.2.2.2.2
theorem gX.fix (X : gX cel Γ ad N own cc nL rt p s m args meth c) : CallFix p m c cc nL s args lwg own := ⟨X.1, X.2.1, X.ml, X.ow, X.w⟩
theorem g_get (X : gX cel Γ ad N own cc nL rt p s m args meth c) (S : gS cel Γ ad N σ s H locs) {C : String} {T : u_T} {n ci index k : Nat} {fs : List Value} (hk : k < N) (he : cel Γ ad k (σ k) = .inr (ci, fs)) (hc : gCl[ci]? = some (C, T, n)) (hin : ∀ w ∈ u_ws C T n, w ∈ lwg) (j : Nat) (hj : j < n) (hlink : Cond.fieldLink own index (T j).1 (T j).2.1 (T j).2.2.1 ∈ lwg) {v : Value} (hv : fs[j]? = some v) (hdg : decode cc pc = .ok (.getfield index, 3))
    (kk : W p l e R s m args below meth c H locs cells slots Q (F0 m (pc + 3) ls (v :: rest))) : W p l e R s m args below meth c H locs cells slots Q (F0 m pc ls (.ref (ad k) :: rest)) :=
  va_get (D := Γ.1) (tys := gT Γ) X.1 X.2.1 X.w hin X.ow X.K S.1 k (gws_e hk he) hc j hj (X.w _ hlink) (fun _ h => h) hv hdg kk
theorem g_put (X : gX cel Γ ad N own cc nL rt p s m args meth c) (S : gS cel Γ ad N σ s H locs) {C : String} {T : u_T} {n ci index k : Nat} {fs : List Value} (hk : k < N) (he : cel Γ ad k (σ k) = .inr (ci, fs)) (hc : gCl[ci]? = some (C, T, n)) (hin : ∀ w ∈ u_ws C T n, w ∈ lwg) (ty0 : Nat → FieldType) (hty : ∀ k, k < n → parseFieldDescriptor (T k).2.2.1 = some (ty0 k)) (hnm : ∀ a, a < n → ∀ b, b < n → a ≠ b → (T a).2.1 ≠ (T b).2.1)
    (j : Nat) (hj : j < n) (hlink : Cond.fieldLink own index (T j).1 (T j).2.1 (T j).2.2.1 ∈ lwg) (hfin : (T j).2.2.2 = false) {v : Value} {row : Nat → Int32} (hn : narrow (ty0 j) v = v) (hfit : fits (ty0 j) v = true) (hl : j < fs.length) (he2 : cel Γ ad k row = .inr (ci, fs.set j v)) (hσ : va_up σ k row = σ1) (hdg : decode cc pc = .ok (.putfield index, 3))
    (kk : ∀ (H : Heap) (locs : List Loc), gS cel Γ ad N σ1 s H locs → W p l e R s m args below meth c H locs cells slots Q (F0 m (pc + 3) ls rest)) : W p l e R s m args below meth c H locs cells slots Q (F0 m pc ls (v :: .ref (ad k) :: rest)) := by
  refine va_put (D := Γ.1) (tys := gT Γ) X.1 X.2.1 X.w hin ty0 hty hnm X.ow X.K S.1 (gD_of X.I) S.2 k (gws_e hk he) hc j hj (X.w _ hlink) (fun _ h => h) hfin (hty j hj) hn hfit hl hdg (fun H1 locs1 hP _ hS => kk H1 locs1 ⟨?_, hS⟩)
  rw [gws_set hk row he2, hσ] at hP
  exact hP
theorem g_iald (X : gX cel Γ ad N own cc nL rt p s m args meth c) (S : gS cel Γ ad N σ s H locs) {k len : Nat} {i v : Int32} (hk : k < N) (he : ∀ r : Nat → Int32, cel Γ ad k r = .inl (Γ.2.1, len, .inl r)) (h : gald σ k len i = some v) (hdg : decode cc pc = .ok (.iaload, 1))
    (kk : W p l e R s m args below meth c H locs cells slots Q (F0 m (pc + 1) ls (.int v :: rest))) : W p l e R s m args below meth c H locs cells slots Q (F0 m pc ls (.int i :: .ref (ad k) :: rest)) := by
  obtain ⟨hin, rfl⟩ := gald_some h
  exact va_iald (D := Γ.1) (tys := gT Γ) X.1 X.2.1 X.K S.1 k 0 (gws_e hk (he _)) rfl hin hdg kk
theorem g_ialdC (X : gX cel Γ ad N own cc nL rt p s m args meth c) (S : gS cel Γ ad N σ s H locs) {k len : Nat} {i : Int32} (hk : k < N) (he : ∀ r : Nat → Int32, cel Γ ad k r = .inl (Γ.2.1, len, .inl r)) (j : Nat) (hi : i.toInt = (j : Int)) (hj : j < len) (hdg : decode cc pc = .ok (.iaload, 1))
    (kk : W p l e R s m args below meth c H locs cells slots Q (F0 m (pc + 1) ls (.int (σ k j) :: rest))) : W p l e R s m args below meth c H locs cells slots Q (F0 m pc ls (.int i :: .ref (ad k) :: rest)) := by
  have h1 : i.toNatClampNeg = j := by show i.toInt.toNat = j; omega
  refine g_iald X S hk he (v := σ k j) ?_ hdg kk
  unfold gald
  rw [if_pos (by omega), h1]
theorem g_iast (X : gX cel Γ ad N own cc nL rt p s m args meth c) (S : gS cel Γ ad N σ s H locs) {k len : Nat} {i x : Int32} (hk : k < N) (he : ∀ r : Nat → Int32, cel Γ ad k r = .inl (Γ.2.1, len, .inl r)) (h : gast σ k len i x = some σ1) (hdg : decode cc pc = .ok (.iastore, 1))
    (kk : ∀ (H : Heap) (locs : List Loc), gS cel Γ ad N σ1 s H locs → W p l e R s m args below meth c H locs cells slots Q (F0 m (pc + 1) ls rest)) : W p l e R s m args below meth c H locs cells slots Q (F0 m pc ls (.int x :: .int i :: .ref (ad k) :: rest)) := by
  obtain ⟨hin, h1⟩ := gast_some h
  refine va_iast (D := Γ.1) (tys := gT Γ) X.1 X.2.1 X.K S.1 (gD_of X.I) S.2 k 0 (gws_e hk (he _)) rfl hin hdg (fun H1 locs1 hP _ hS => kk H1 locs1 ⟨?_, hS⟩)
  rw [gws_set hk _ (he _)] at hP
  rw [← h1]
  exact hP
theorem g_iastC (X : gX cel Γ ad N own cc nL rt p s m args meth c) (S : gS cel Γ ad N σ s H locs) {k len : Nat} {i x : Int32} (hk : k < N) (he : ∀ r : Nat → Int32, cel Γ ad k r = .inl (Γ.2.1, len, .inl r)) (j : Nat) (hi : i.toInt = (j : Int)) (hj : j < len) (h : gset σ k j x = some σ1) (hdg : decode cc pc = .ok (.iastore, 1))
    (kk : ∀ (H : Heap) (locs : List Loc), gS cel Γ ad N σ1 s H locs → W p l e R s m args below meth c H locs cells slots Q (F0 m (pc + 1) ls rest)) : W p l e R s m args below meth c H locs cells slots Q (F0 m pc ls (.int x :: .int i :: .ref (ad k) :: rest)) := by
  have h1 : i.toNatClampNeg = j := by show i.toInt.toNat = j; omega
  refine g_iast X S hk he (σ1 := σ1) ?_ hdg kk
  unfold gast
  rw [if_pos (by omega), h1]
  exact h
theorem g_alen (X : gX cel Γ ad N own cc nL rt p s m args meth c) (S : gS cel Γ ad N σ s H locs) {k len : Nat} {v : Int32} (hk : k < N) (he : ∀ r : Nat → Int32, cel Γ ad k r = .inl (Γ.2.1, len, .inl r)) (hv : Int32.ofNat len = v) (hdg : decode cc pc = .ok (.arraylength, 1))
    (kk : W p l e R s m args below meth c H locs cells slots Q (F0 m (pc + 1) ls (.int v :: rest))) : W p l e R s m args below meth c H locs cells slots Q (F0 m pc ls (.ref (ad k) :: rest)) :=
  va_alen (D := Γ.1) (tys := gT Γ) (ty := .int) X.1 X.2.1 X.K S.1 k 0 (gws_e hk (he _)) rfl hv hdg kk
theorem g_copy (X : gX cel Γ ad N own cc nL rt p s m args meth c) (S : gS cel Γ ad N σ s H locs) {idx k0 k1 l0 l1 : Nat} {sp dp n : Int32} (hls : ls.size = nL) (hlink : Cond.methodLink own idx arraycopyName ∈ lwg) (hnat : Cond.native arraycopyName ∈ lwg) (hstat : Cond.static arraycopyName ∈ lwg) (hini : Cond.initialized "java/lang/System" ∈ lwg) (hk0 : k0 < N) (hk1 : k1 < N)
    (he0 : ∀ r : Nat → Int32, cel Γ ad k0 r = .inl (Γ.2.1, l0, .inl r)) (he1 : ∀ r : Nat → Int32, cel Γ ad k1 r = .inl (Γ.2.1, l1, .inl r)) (h : gcpy σ k0 l0 k1 l1 sp dp n = some σ1) (hframes : 1 ≤ R.frames) (hlocals : (rest.map fun v => v.category).sum + (nativeFrameWords "java/lang/System" "arraycopy" 5 + 11) ≤ R.locals) (hdg : decode cc pc = .ok (.invokestatic idx, 3))
    (kk : ∀ (H : Heap) (locs : List Loc), gS cel Γ ad N σ1 s H locs → W p l e R s m args below meth c H locs cells slots Q (F0 m (pc + 3) ls rest)) : W p l e R s m args below meth c H locs cells slots Q (F0 m pc ls (.int n :: .int dp :: .ref (ad k1) :: .int sp :: .ref (ad k0) :: rest)) := by
  obtain ⟨⟨h1, h2, h3, h4, h5⟩, h6⟩ := gcpy_some h
  refine va_copyi (D := Γ.1) (tys := gT Γ) (ty := .int) X.1 X.2.1 (X.ml.trans hls.symm) X.ow (X.w _ hlink) (X.w _ hnat) (X.w _ hstat) (X.w _ hini) X.K S.1 (gD_of X.I) S.2 k0 k1 0 0 (gws_e hk0 (he0 _)) (gws_e hk1 (he1 _)) rfl rfl rfl h1 h2 h3 h4 h5 (fun i _ => rfl) hframes hlocals hdg (fun H1 locs1 hP _ hS => kk H1 locs1 ⟨?_, hS⟩)
  rw [gws_set hk1 _ (he1 _), h6] at hP
  exact hP
theorem g_max (X : gX cel Γ ad N own cc nL rt p s m args meth c) {idx : Nat} (hls : ls.size = nL) (hw : Cond.methodLink own idx Lib.Math.max.name ∈ lwg ∧ Cond.static Lib.Math.max.name ∈ lwg ∧ Cond.initialized "java/lang/Math" ∈ lwg ∧ Cond.code Lib.Math.max.name Lib.Math.max.code 2 (some .int) ∈ lwg) (hR : (1 ≤ R.frames ∧ (rest.map fun v => v.category).sum + 13 ≤ R.locals) ∧ cells ≤ R.cells ∧ slots ≤ R.slots) {x y : Int32} (hdg : decode cc pc = .ok (.invokestatic idx, 3))
    (kk : W p l e R s m args below meth c H locs cells slots Q (F0 m (pc + 3) ls (.int (if x < y then y else x) :: rest))) : W p l e R s m args below meth c H locs cells slots Q (F0 m pc ls (.int y :: .int x :: rest)) :=
  va_mmax X.1 X.2.1 (X.ml.trans hls.symm) X.ow (X.w _ hw.1) (X.w _ hw.2.1) (X.w _ hw.2.2.1) (X.w _ hw.2.2.2) hR.1.1 hR.1.2 hR.2.1 hR.2.2 hdg kk
theorem g_min (X : gX cel Γ ad N own cc nL rt p s m args meth c) {idx : Nat} (hls : ls.size = nL) (hw : Cond.methodLink own idx Lib.Math.min.name ∈ lwg ∧ Cond.static Lib.Math.min.name ∈ lwg ∧ Cond.initialized "java/lang/Math" ∈ lwg ∧ Cond.code Lib.Math.min.name Lib.Math.min.code 2 (some .int) ∈ lwg) (hR : (1 ≤ R.frames ∧ (rest.map fun v => v.category).sum + 13 ≤ R.locals) ∧ cells ≤ R.cells ∧ slots ≤ R.slots) {x y : Int32} (hdg : decode cc pc = .ok (.invokestatic idx, 3))
    (kk : W p l e R s m args below meth c H locs cells slots Q (F0 m (pc + 3) ls (.int (if y < x then y else x) :: rest))) : W p l e R s m args below meth c H locs cells slots Q (F0 m pc ls (.int y :: .int x :: rest)) :=
  va_mmin X.1 X.2.1 (X.ml.trans hls.symm) X.ow (X.w _ hw.1) (X.w _ hw.2.1) (X.w _ hw.2.2.1) (X.w _ hw.2.2.2) hR.1.1 hR.1.2 hR.2.1 hR.2.2 hdg kk
theorem g_abs (X : gX cel Γ ad N own cc nL rt p s m args meth c) {idx : Nat} (hls : ls.size = nL) (hw : Cond.methodLink own idx Lib.Math.abs.name ∈ lwg ∧ Cond.static Lib.Math.abs.name ∈ lwg ∧ Cond.initialized "java/lang/Math" ∈ lwg ∧ Cond.code Lib.Math.abs.name Lib.Math.abs.code 1 (some .int) ∈ lwg) (hR : (1 ≤ R.frames ∧ (rest.map fun v => v.category).sum + 13 ≤ R.locals) ∧ cells ≤ R.cells ∧ slots ≤ R.slots) {x : Int32} (hdg : decode cc pc = .ok (.invokestatic idx, 3))
    (kk : W p l e R s m args below meth c H locs cells slots Q (F0 m (pc + 3) ls (.int (if 0 ≤ x then x else 0 - x) :: rest))) : W p l e R s m args below meth c H locs cells slots Q (F0 m pc ls (.int x :: rest)) :=
  va_mabs X.1 X.2.1 (X.ml.trans hls.symm) X.ow (X.w _ hw.1) (X.w _ hw.2.1) (X.w _ hw.2.2.1) (X.w _ hw.2.2.2) hR.1.1 hR.1.2 hR.2.1 hR.2.2 hdg kk
/-- a static table of numbers that nobody writes -/
theorem g_tab (X : gX cel Γ ad N own cc nL rt p s m args meth c) (S : gS cel Γ ad N σ s H locs) {n : String} {f : Nat → Int32} {idx : Nat} (hT : gTab n f (gA ad N s.heap.size) s s.heap) (hlink : Cond.fieldLink own idx RX9 n "[I" ∈ lwg) (hdg : decode cc pc = .ok (.getstatic idx, 3))
    (kk : ∀ t : Nat, va_T .int t 6 (fun j => .int (f j)) (gA ad N s.heap.size) s s.heap → W p l e R s m args below meth c H locs cells slots Q (F0 m (pc + 3) ls (.ref t :: rest))) : W p l e R s m args below meth c H locs cells slots Q (F0 m pc ls rest) := by
  obtain ⟨t, h1, h2⟩ := hT
  exact va_gets X.1 X.2.1 h1 S.2 X.ow (X.w _ hlink) (fun _ h => h) hdg (kk t h2)
theorem g_tald (X : gX cel Γ ad N own cc nL rt p s m args meth c) (S : gS cel Γ ad N σ s H locs) {t : Nat} {f : Nat → Int32} (hT : va_T .int t 6 (fun j => .int (f j)) (gA ad N s.heap.size) s s.heap) {i v : Int32} (h : gtl f 6 i = some v) (hdg : decode cc pc = .ok (.iaload, 1))
    (kk : W p l e R s m args below meth c H locs cells slots Q (F0 m (pc + 1) ls (.int v :: rest))) : W p l e R s m args below meth c H locs cells slots Q (F0 m pc ls (.int i :: .ref t :: rest)) := by
  obtain ⟨h1, rfl⟩ := gtl_some h
  exact va_ti X.1 X.2.1 hT S.2 h1 rfl hdg kk
/-! ===== ends ===== -/
theorem g_reti {ty : FieldType} {r : Int32} (X : gX cel Γ ad N own cc nL (some ty) p s m args meth c) (S : gS cel Γ ad N σ s H locs) (hn : narrow ty (.int r) = .int r) (hdg : decode cc pc = .ok (.ireturn, 1)) : W p l e R s m args below meth c H locs 0 0 (gQi cel Γ ad N r σ below args s) (F0 m pc ls [.int r]) :=
  W.zret (v := r) X.1 X.2.1 X.r hn (fun t ht _ => ⟨⟨r, (), rfl, rfl, by subst ht; exact S.1⟩, S.2.F ht⟩) S.2.2.2 hdg X.lk
theorem g_retv (X : gX cel Γ ad N own cc nL none p s m args meth c) (S : gS cel Γ ad N σ s H locs) (hdg : decode cc pc = .ok (.return_, 1)) : W p l e R s m args below meth c H locs 0 0 (gQv cel Γ ad N σ below args s) (F0 m pc ls []) :=
  W.vret X.1 X.2.1 X.r (fun t ht _ => ⟨⟨(), rfl, trivial, by subst ht; exact S.1⟩, S.2.F ht⟩) S.2.2.2 hdg X.lk
theorem g_retr {C : String} {r : Nat} (X : gX cel Γ ad N own cc nL (some (.object C)) p s m args meth c) (S : gS cel Γ ad N σ s H locs) (hdg : decode cc pc = .ok (.areturn, 1)) : W p l e R s m args below meth c H locs 0 0 (gQr cel Γ ad N (some r) σ below args s) (F0 m pc ls [.ref (ad r)]) :=
  W.aret (v := .ref (ad r)) X.1 X.2.1 X.r (Or.inl ⟨_, rfl⟩) (Or.inr ⟨_, rfl⟩) (fun t ht _ => ⟨⟨some r, (), rfl, rfl, by subst ht; exact S.1⟩, S.2.F ht⟩) S.2.2.2 hdg X.lk
theorem g_retn {C : String} (X : gX cel Γ ad N own cc nL (some (.object C)) p s m args meth c) (S : gS cel Γ ad N σ s H locs) (hdg : decode cc pc = .ok (.areturn, 1)) : W p l e R s m args below meth c H locs 0 0 (gQr cel Γ ad N none σ below args s) (F0 m pc ls [.null]) :=
  W.aret (v := .null) X.1 X.2.1 X.r (Or.inl ⟨_, rfl⟩) (Or.inl rfl) (fun t ht _ => ⟨⟨none, (), rfl, rfl, by subst ht; exact S.1⟩, S.2.F ht⟩) S.2.2.2 hdg X.lk
/-! ===== calls ===== -/
def gCV (y : MethodName) (b : ByteArray) (n : Nat) (rt : Option FieldType) (na : Nat) : Prop :=
  (y.cls ≠ "java/lang/invoke/MethodHandle" ∧ y.cls ≠ "java/lang/invoke/VarHandle" ∧ (parseMethodDescriptor y.desc).map (fun d => d.parameters.length) = some na) ∧ Cond.code y b n rt ∈ lwg ∧ Cond.initialized y.cls ∈ lwg ∧ Cond.instanceMethod y ∈ lwg ∧ Cond.selects y.cls y y ∈ lwg
def gCS (y : MethodName) (b : ByteArray) (n : Nat) (rt : Option FieldType) (na : Nat) : Prop :=
  (y.cls ≠ "java/lang/invoke/MethodHandle" ∧ y.cls ≠ "java/lang/invoke/VarHandle" ∧ (parseMethodDescriptor y.desc).map (fun d => d.parameters.length) = some na) ∧ Cond.code y b n rt ∈ lwg ∧ Cond.initialized y.cls ∈ lwg ∧ Cond.static y ∈ lwg
theorem gPre (X : gX cel Γ ad N own cc nL rt p s m args meth c) (S : gS cel Γ ad N σ s H locs) (As : List Value) : PreS s H (gPc cel Γ ad N σ As H.size) As :=
  ⟨gI_blind, fun U hU hW => ⟨rfl, by rw [hU], by rw [hU]; exact S.1, va_K.moved hW.alike X.K, X.I, by rw [hU]; exact ((X.F.kept S.2.2.1).narrow (gA_le S.2.1)).warm hW⟩⟩
variable {y : MethodName} {b' : ByteArray} {n' na idx mc ms : Nat} {rt' : Option FieldType} {rm : Room} {As : List Value} {Qc : Array Value → State → Outcome → State → Prop}
abbrev gRoom (rm R : Room) (n' cells slots mc ms : Nat) : Prop := (rm.cells = mc ∧ rm.slots = ms) ∧ (rm.frames + 1 ≤ R.frames ∧ 8 + (n' + 11) + rm.locals ≤ R.locals) ∧ (cells + mc ≤ R.cells ∧ slots + ms ≤ R.slots)
theorem g_runV (X : gX cel Γ ad N own cc nL rt p s m args meth c) (S : gS cel Γ ad N σ s H locs) {k : Nat} (hM : Met l y (gwm y b' n' rt') rm (gPc cel Γ ad N σ (.ref (ad k) :: As) H.size) Qc mc ms (gA ad N H.size)) (hc : gCV y b' n' rt' na) (hw : Cond.methodLink own idx y ∈ lwg)
    (hk : k < N) {ci nn : Nat} {T : u_T} {fs : List Value} (he : cel Γ ad k (σ k) = .inr (ci, fs)) (hcl : gCl[ci]? = some (y.cls, T, nn)) (hn : As.length = na) (hst : st0 = As.reverse ++ .ref (ad k) :: rest) (hls : ls.size = nL) (hcat : (rest.map fun v => v.category).sum ≤ 8) (hR : gRoom rm R n' cells slots mc ms) (hdg : decode cc pc = .ok (.invokevirtual idx, 3)) :
    va_Run p l e R s m args below meth c H locs cells slots mc ms (F0 m pc ls st0) rest (Qc (Value.ref (ad k) :: As).toArray) (gA ad N H.size) :=
  va_runV (As := As) (rest := rest) X.fix hM ⟨callB_of na X.w (gwm_in hc.2.1) rfl hR.1.1 hR.1.2 (X.w _ hc.2.2.1) (X.w _ hw) hc.1 hR.2.1, X.w _ hc.2.2.2.1, X.w _ hc.2.2.2.2⟩
    ⟨(gPre X S _).1, va_recv X.K S.1 hcl (gws_e hk he), (gPre X S _).2⟩ rfl hn hls hst (lv_room (pc := pc) (ls := ls) (rest := st0) (m := m) hcat) hdg hR.2.2
theorem g_runS (X : gX cel Γ ad N own cc nL rt p s m args meth c) (S : gS cel Γ ad N σ s H locs) (hM : Met l y (gwm y b' n' rt') rm (gPc cel Γ ad N σ As H.size) Qc mc ms (gA ad N H.size)) (hc : gCS y b' n' rt' na) (hw : Cond.methodLink own idx y ∈ lwg)
    (hn : As.length = na) (hst : st0 = As.reverse ++ rest) (hls : ls.size = nL) (hcat : (rest.map fun v => v.category).sum ≤ 8) (hR : gRoom rm R n' cells slots mc ms) (hdg : decode cc pc = .ok (.invokestatic idx, 3)) :
    va_Run p l e R s m args below meth c H locs cells slots mc ms (F0 m pc ls st0) rest (Qc As.toArray) (gA ad N H.size) :=
  va_runS (As := As) (rest := rest) X.fix hM ⟨callB_of na X.w (gwm_in hc.2.1) rfl hR.1.1 hR.1.2 (X.w _ hc.2.2.1) (X.w _ hw) hc.1 hR.2.1, X.w _ hc.2.2.2⟩
    (gPre X S _) rfl hn hls hst (lv_room (pc := pc) (ls := ls) (rest := st0) (m := m) hcat) hdg hR.2.2
theorem g_runN (X : gX cel Γ ad N own cc nL rt p s m args meth c) (S : gS cel Γ ad N σ s H locs) {host : String} (hM : Met l y (gwm y b' n' rt') rm (gPc cel Γ ad N σ As H.size) Qc mc ms (gA ad N H.size)) (hc : gCS y b' n' rt' na) (hw : Cond.methodLinkNest own idx y host ∈ gBad)
    (hn : As.length = na) (hst : st0 = As.reverse ++ rest) (hls : ls.size = nL) (hcat : (rest.map fun v => v.category).sum ≤ 8) (hR : gRoom rm R n' cells slots mc ms) (hdg : decode cc pc = .ok (.invokestatic idx, 3)) :
    va_Run p l e R s m args below meth c H locs cells slots mc ms (F0 m pc ls st0) rest (Qc As.toArray) (gA ad N H.size) :=
  va_runSN (As := As) (rest := rest) X.fix hM ⟨va_cnB na X.w (gwm_in hc.2.1) rfl hR.1.1 hR.1.2 (X.F.1 _ hw) (X.w _ hc.2.2.1) hc.1 hR.2.1, X.w _ hc.2.2.2, trivial⟩
    (gPre X S _) rfl hn hls hst (lv_room (pc := pc) (ls := ls) (rest := st0) (m := m) hcat) hdg hR.2.2
theorem g_ki {r : Int32} {a : Array Value} (S : gS cel Γ ad N σ s H locs) (h : va_Run p l e R s m args below meth c H locs cells slots 0 0 (F0 m pc ls st0) rest (gQci cel Γ ad N r σ' H.size a) (gA ad N H.size))
    (kk : ∀ (H : Heap) (locs : List Loc), gS cel Γ ad N σ' s H locs → W p l e R s m args below meth c H locs cells slots Q (F0 m (pc + 3) ls (.int r :: rest))) : W p l e R s m args below meth c H locs cells slots Q (F0 m pc ls st0) :=
  va_calli h S.2 (fun q _ hq => gA_le S.2.1 q hq) (gA_le S.2.1) (fun r' u t H1 locs1 ht _ hw hB _ _ hS => by
    subst hw; subst ht
    exact kk _ _ ⟨hB, hS⟩)
theorem g_kv {a : Array Value} (S : gS cel Γ ad N σ s H locs) (h : va_Run p l e R s m args below meth c H locs cells slots 0 0 (F0 m pc ls st0) rest (gQcv cel Γ ad N σ' H.size a) (gA ad N H.size))
    (kk : ∀ (H : Heap) (locs : List Loc), gS cel Γ ad N σ' s H locs → W p l e R s m args below meth c H locs cells slots Q (F0 m (pc + 3) ls rest)) : W p l e R s m args below meth c H locs cells slots Q (F0 m pc ls st0) :=
  va_callv h S.2 (fun q _ hq => gA_le S.2.1 q hq) (gA_le S.2.1) (fun u t H1 locs1 ht _ _ hB _ _ hS => by
    subst ht
    exact kk _ _ ⟨hB, hS⟩)
theorem g_kr {r : Option Nat} {a : Array Value} (S : gS cel Γ ad N σ s H locs) (h : va_Run p l e R s m args below meth c H locs cells slots 0 0 (F0 m pc ls st0) rest (gQcr cel Γ ad N r σ' H.size a) (gA ad N H.size))
    (kk : ∀ (H : Heap) (locs : List Loc), gS cel Γ ad N σ' s H locs → W p l e R s m args below meth c H locs cells slots Q (F0 m (pc + 3) ls (va_re ad r :: rest))) : W p l e R s m args below meth c H locs cells slots Q (F0 m pc ls st0) :=
  va_calle h S.2 (fun q _ hq => gA_le S.2.1 q hq) (gA_le S.2.1) (fun r' u t H1 locs1 ht _ hw hB _ _ hS => by
    subst hw; subst ht
    exact kk _ _ ⟨hB, hS⟩)
end GROWS
