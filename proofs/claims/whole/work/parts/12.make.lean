/-! ===== making: a block of cells at the heap's end, at addresses that are known ===== -/
def gB (Γ : gG) (b n : Nat) (cs : List va_E) (s : State) (H : Heap) (locs : List Loc) : Prop :=
  cs.length = n ∧ H.size = b + n ∧ (∀ i e, cs[i]? = some e → va_at Γ.1 gCl (b + i, e) H) ∧ va_S (fun q => b ≤ q) s.heap H locs
theorem gB.set {Γ : gG} {b n i : Nat} {cs cs' : List va_E} {s : State} {H H' : Heap} {locs locs' : List Loc} {e' : va_E} (B : gB Γ b n cs s H locs) (hi : i < cs.length) (hcs : cs.set i e' = cs') (z : H'.size = H.size) (hn : va_at Γ.1 gCl (b + i, e') H') (ho : ∀ q, q ≠ b + i → H'[q]? = H[q]?) (hl : ∀ l ∈ locs', l ∈ locs ∨ l.base = b + i) : gB Γ b n cs' s H' locs' := by
  obtain ⟨h1, h2, h3, h4⟩ := B
  subst hcs
  refine ⟨by rw [List.length_set]; exact h1, z.trans h2, fun j e hj => ?_, by rw [z]; exact h4.1, fun q hq hb => ?_, fun l hl' => ?_⟩
  · by_cases hij : j = i
    · subst hij
      rw [List.getElem?_set_self hi] at hj
      cases hj
      exact hn
    · rw [List.getElem?_set_ne (Ne.symm hij)] at hj
      exact (h3 j e hj).kept (ho _ (by show b + j ≠ b + i; omega))
  · rw [ho q (by show q ≠ b + i; omega)]; exact h4.2.1 q hq hb
  · rcases hl l hl' with h | h
    · exact h4.2.2 l h
    · show b ≤ l.base
      rw [h]; exact Nat.le_add_right _ _
theorem gB.push {Γ : gG} {b n : Nat} {cs cs' : List va_E} {s : State} {H H' : Heap} {locs : List Loc} {e : va_E} (B : gB Γ b n cs s H locs) (hcs : cs ++ [e] = cs') (z : H'.size = H.size + 1) (hn : va_at Γ.1 gCl (b + n, e) H') (ho : ∀ q, q < H.size → H'[q]? = H[q]?) : gB Γ b (n + 1) cs' s H' locs := by
  obtain ⟨h1, h2, h3, h4⟩ := B
  subst hcs
  refine ⟨by rw [List.length_append, h1]; rfl, by omega, fun j e' hj => ?_, by have := h4.1; omega, fun q hq hb => ?_, h4.2.2⟩
  · by_cases hij : j < cs.length
    · rw [List.getElem?_append_left hij] at hj
      exact (h3 j e' hj).kept (ho _ (by show b + j < _; omega))
    · rw [List.getElem?_append_right (by omega)] at hj
      have hz : j - cs.length < 1 := (List.getElem?_eq_some_iff.mp hj).1
      rw [show j - cs.length = 0 by omega] at hj
      cases hj
      rw [show j = n by omega]
      exact hn
  · rw [ho q (Nat.lt_of_lt_of_le hq h4.1)]; exact h4.2.1 q hq hb
theorem gB.one {Γ : gG} {b n i : Nat} {cs : List va_E} {s : State} {H : Heap} {locs : List Loc} {e : va_E} (B : gB Γ b n cs s H locs) (hi : cs[i]? = some e) : va_P Γ.1 gCl [(b + i, e)] H := by
  intro k q hk
  have hz : k < 1 := (List.getElem?_eq_some_iff.mp hk).1
  rw [show k = 0 by omega] at hk
  cases hk
  exact B.2.2.1 i e hi
section MAKE
variable {l : Launch} {cel : gCell} {Γ : gG} {ad : Nat → Nat} {own : String} {cc : ByteArray} {nL : Nat} {rt : Option FieldType} {p : Program} {e : Env} {R : Room} {s : State} {m : MethodId} {args : Array Value} {below : List Frame} {meth : Method} {c : Code} {H : Heap} {locs : List Loc} {cells slots : Nat} {Q : State → Prop} {pc : Nat} {ls : Array Slot} {rest st0 : List Value} {b n : Nat} {cs cs' : List va_E}
theorem gz_get (X : gX cel Γ ad 0 own cc nL rt p s m args meth c) (B : gB Γ b n cs s H locs) {C : String} {T : u_T} {N ci index : Nat} {fs : List Value} (i : Nat) (hi : cs[i]? = some (.inr (ci, fs))) (hc : gCl[ci]? = some (C, T, N)) (hin : ∀ w ∈ u_ws C T N, w ∈ lwg) (j : Nat) (hj : j < N) (hlink : Cond.fieldLink own index (T j).1 (T j).2.1 (T j).2.2.1 ∈ lwg) {v : Value} (hv : fs[j]? = some v) (hdg : decode cc pc = .ok (.getfield index, 3))
    (kk : W p l e R s m args below meth c H locs cells slots Q (F0 m (pc + 3) ls (v :: rest))) : W p l e R s m args below meth c H locs cells slots Q (F0 m pc ls (.ref (b + i) :: rest)) :=
  va_get (D := Γ.1) (tys := gT Γ) X.1 X.2.1 X.w hin X.ow X.K (B.one hi) 0 rfl hc j hj (X.w _ hlink) (fun _ h => h) hv hdg kk
theorem gz_put (X : gX cel Γ ad 0 own cc nL rt p s m args meth c) (B : gB Γ b n cs s H locs) {C : String} {T : u_T} {N ci index : Nat} {fs : List Value} (i : Nat) (hi : cs[i]? = some (.inr (ci, fs))) (hc : gCl[ci]? = some (C, T, N)) (hin : ∀ w ∈ u_ws C T N, w ∈ lwg) (ty0 : Nat → FieldType) (hty : ∀ k, k < N → parseFieldDescriptor (T k).2.2.1 = some (ty0 k)) (hnm : ∀ a, a < N → ∀ b, b < N → a ≠ b → (T a).2.1 ≠ (T b).2.1) (j : Nat) (hj : j < N) (hlink : Cond.fieldLink own index (T j).1 (T j).2.1 (T j).2.2.1 ∈ lwg) (hfin : (T j).2.2.2 = false ∨ ((T j).2.2.2 = true ∧ meth.name = "<init>" ∧ (T j).1 = own)) {v : Value} (hn : narrow (ty0 j) v = v) (hfit : fits (ty0 j) v = true) (hl : j < fs.length) (hcs : cs.set i (.inr (ci, fs.set j v)) = cs') (hdg : decode cc pc = .ok (.putfield index, 3))
    (kk : ∀ (H : Heap) (locs : List Loc), gB Γ b n cs' s H locs → W p l e R s m args below meth c H locs cells slots Q (F0 m (pc + 3) ls rest)) : W p l e R s m args below meth c H locs cells slots Q (F0 m pc ls (v :: .ref (b + i) :: rest)) := by
  have hap := va_apart (own := own) X.w hin ty0 hty hnm X.K hc
  obtain ⟨r, h1, cell, q1, q2, q3, q4⟩ := B.2.2.1 i _ hi
  have hr : r = (C, T, N) := Option.some.inj (h1.symm.trans hc)
  subst hr
  obtain ⟨hS, hfc, kC, hkC, hkind⟩ := X.K.1 ci _ hc
  obtain ⟨cf, kf, fi, f, hf, hsl⟩ := hS j hj
  have hst := (u_facts hfc hkC (u_lays X.w hin hj) hf).1
  have hil : i < cs.length := (List.getElem?_eq_some_iff.mp hi).1
  have fin : ∀ (H' : Heap), H'[b + i]? = some (cell.setSlot f.slot v) → H'.size = H.size → (∀ q, q ≠ b + i → H'[q]? = H[q]?) → W p l e R s m args below meth c H' (locs ++ [⟨b + i, f.slot⟩]) cells slots Q (F0 m (pc + 3) ls rest) := fun H' e1 e2 e3 => by
    rw [hsl] at e1
    refine kk H' _ (B.set hil hcs e2 ⟨_, hc, t_OB.to (V := updV (vp_V fs) j v) ⟨_, e1, q2, q3, t_set q4 hap hj v⟩ (fun k _ => vp_updV_set hl v k)⟩ e3 (fun z hz => ?_))
    rcases List.mem_append.mp hz with h | h
    · exact Or.inl h
    · right; rw [List.mem_singleton.mp h]
  rcases hfin with hfin | ⟨hfin, hname, hdecl⟩
  · have hlay := X.w _ (hin _ (u_in_lay hj))
    unfold u_lay at hlay
    rw [if_neg (by rw [hfin]; decide)] at hlay
    have h6 := u_store hfc hkC hkind hlay hf (hty j hj) hn hfit
    exact W.putK X.1 X.2.1 (f := f) ⟨X.ow, X.w _ hlink, ⟨_, _, _, hf⟩, hst⟩ (by rw [q2]; exact h6) q1 q3 (by rw [hsl]; exact k2_hasslot (q4 j hj)) rfl rfl hdg fin
  · have hlay := X.w _ (hin _ (u_in_lay hj))
    unfold u_lay at hlay
    rw [if_pos hfin] at hlay
    have hcf : m.cls = cf := by
      obtain ⟨_, _, c', _, _, _, -, -, hf', -, -, -, hown2, -⟩ := Cond.laysFinal_spec hlay
      have e1 : c' = cf := by have := hf.symm.trans hf'; simp at this; exact this.1.symm
      rw [hdecl] at hown2
      rw [← e1]; exact Option.some.inj (X.ow.symm.trans hown2)
    have h6 := u_fits hfc hkC hkind (Or.inr hlay) hf (hty j hj) hn hfit
    exact W.putFinK X.1 X.2.1 X.ow (X.w _ hlink) hf hst hcf hname (by rw [q2]; exact h6) q1 q3 (by rw [hsl]; exact k2_hasslot (q4 j hj)) rfl rfl hdg fin
theorem gz_newi (X : gX cel Γ ad 0 own cc nL rt p s m args meth c) (B : gB Γ b n cs s H locs) {x : Int32} {N' : Nat} (harr : Cond.arrayClass .int ∈ lwg) (hx : ¬ x < 0) (hN : x.toNatClampNeg = N') (hbytes : N' * 4 ≤ 536870912) (hcells : cells + 1 ≤ R.cells) (hslots : slots + N' ≤ R.slots) (hcs : cs ++ [.inl (Γ.2.1, N', .inl (fun _ => 0))] = cs') (hdg : decode cc pc = .ok (.newarray .int, 2))
    (kk : ∀ (H : Heap) (locs : List Loc), gB Γ b (n + 1) cs' s H locs → W p l e R s m args below meth c H locs (cells + 1) (slots + N') Q (F0 m (pc + 2) ls (.ref (b + n) :: rest))) : W p l e R s m args below meth c H locs cells slots Q (F0 m pc ls (.int x :: rest)) := by
  refine va_newaK (atype := .int) X.1 X.2.1 (X.w _ harr) rfl hdg rfl hx hN hbytes hcells hslots (h := b + n) B.2.1 fun H1 cA e1 z1 o1 hAr hNm => ?_
  have hcA : cA = Γ.2.1 := Option.some.inj (hNm.symm.trans ((X.K.2 0 _ rfl).2))
  subst hcA
  refine kk H1 locs (B.push hcs (by rw [z1, B.2.1]) ?_ (fun q hq => o1 q (by rw [← B.2.1]; exact hq)))
  exact e1
theorem gz_new (X : gX cel Γ ad 0 own cc nL rt p s m args meth c) (B : gB Γ b n cs s H locs) {C : String} {T : u_T} {N ci index : Nat} (hc : gCl[ci]? = some (C, T, N)) (hin : ∀ w ∈ u_ws C T N, w ∈ lwg) (ty : Nat → FieldType) (hty : ∀ k, k < N → parseFieldDescriptor (T k).2.2.1 = some (ty k)) (hcl : Cond.classLink own index C ∈ lwg) (hinst : Cond.instantiable C N ∈ lwg) (hini : Cond.initialized C ∈ lwg) {fs : List Value} (hfs : ∀ j, j < N → defaultValue (ty j) = vp_V fs j) (hcells : cells + 1 ≤ R.cells) (hslots : slots + N ≤ R.slots) (hcs : cs ++ [.inr (ci, fs)] = cs') (hdg : decode cc pc = .ok (.new index, 3))
    (kk : ∀ (H : Heap) (locs : List Loc), gB Γ b (n + 1) cs' s H locs → W p l e R s m args below meth c H locs (cells + 1) (slots + N) Q (F0 m (pc + 3) ls (.ref (b + n) :: rest))) : W p l e R s m args below meth c H locs cells slots Q (F0 m pc ls rest) := by
  have hKn := X.K.1 ci _ hc
  refine W.newcK X.1 X.2.1 X.ow (X.w _ hcl) (X.w _ hinst) (X.w _ hini) rfl hdg hcells hslots hKn.2.1 (h := b + n) B.2.1 fun H1 kC hkC e1 z1 o1 => ?_
  exact kk H1 locs (B.push hcs (by rw [z1, B.2.1]) ⟨_, hc, (u_born ty X.w hin hKn hkC e1 hty).to hfs⟩ (fun q hq => o1 q (by rw [← B.2.1]; exact hq)))
theorem gz_newq (X : gX cel Γ ad 0 own cc nL rt p s m args meth c) (B : gB Γ b n cs s H locs) {C : String} {index : Nat} {x : Int32} {N' : Nat} (hcl : Cond.classLink own index C ∈ lwg) (hover : (Cond.arrayOver (.object C)).before args s = true) (hty : (gT Γ)[1]? = some (Γ.2.2.1, .object C)) (hx : ¬ x < 0) (hN : x.toNatClampNeg = N') (hbytes : N' * 4 ≤ 536870912) (hcells : cells + 1 ≤ R.cells) (hslots : slots + N' ≤ R.slots) (hcs : cs ++ [.inl (Γ.2.2.1, N', .inr (.inr (.inr (.inr (fun _ => none)))))] = cs') (hdg : decode cc pc = .ok (.anewarray index, 3))
    (kk : ∀ (H : Heap) (locs : List Loc), gB Γ b (n + 1) cs' s H locs → W p l e R s m args below meth c H locs (cells + 1) (slots + N') Q (F0 m (pc + 3) ls (.ref (b + n) :: rest))) : W p l e R s m args below meth c H locs cells slots Q (F0 m pc ls (.int x :: rest)) := by
  subst hN
  refine W.anew X.1 X.2.1 X.ow (X.w _ hcl) hover rfl hdg rfl hx hbytes hcells hslots fun cA kA comp f1 f2 f3 f4 => ?_
  have hcA : cA = Γ.2.2.1 := by
    obtain ⟨kA', comp', -, -, -, g4⟩ := (X.K.2 1 _ hty).2
    exact Option.some.inj (f1.symm.trans g4)
  subst hcA
  have hsz : H.size = b + n := B.2.1
  generalize hH1 : H.push ({ cls := Γ.2.2.1, slots := Array.replicate x.toNatClampNeg .null, vm := .none } : Cell) = H1
  have z1 : H1.size = H.size + 1 := by rw [← hH1, Array.size_push]
  have e1 : H1[H.size]? = some (arrV Γ.2.2.1 x.toNatClampNeg (fun _ => .null)) := by rw [← hH1, Array.getElem?_push_size, ← arrV_new]
  have o1 : ∀ q : Nat, q < H.size → H1[q]? = H[q]? := fun q hq => by rw [← hH1, Array.getElem?_push, if_neg (Nat.ne_of_lt hq)]
  rw [hsz]
  refine kk H1 locs (B.push hcs z1 ?_ o1)
  show H1[b + n]? = some (vp_cell _ _)
  rw [vp_cell_q, ← hsz]
  exact e1
theorem gz_iast (X : gX cel Γ ad 0 own cc nL rt p s m args meth c) (B : gB Γ b n cs s H locs) {N' : Nat} {f : Nat → Int32} (i : Nat) (hi : cs[i]? = some (.inl (Γ.2.1, N', .inl f))) {k x : Int32} (hin : vp_in k N') (hcs : cs.set i (.inl (Γ.2.1, N', .inl (upd f k.toNatClampNeg x))) = cs') (hdg : decode cc pc = .ok (.iastore, 1))
    (kk : ∀ (H : Heap) (locs : List Loc), gB Γ b n cs' s H locs → W p l e R s m args below meth c H locs cells slots Q (F0 m (pc + 1) ls rest)) : W p l e R s m args below meth c H locs cells slots Q (F0 m pc ls (.int x :: .int k :: .ref (b + i) :: rest)) := by
  have hil : i < cs.length := (List.getElem?_eq_some_iff.mp hi).1
  refine W.iast X.1 X.2.1 (B.2.2.1 i _ hi) ((X.K.2 0 _ rfl).1 N' (fun j => .int (f j))) (fun q => by cases q) (by show ¬ (k < 0 ∨ (arrV _ _ _).slots.size ≤ _); rw [arrV_size]; exact hin) rfl rfl hdg fun H1 e z oq => ?_
  refine kk H1 _ (B.set hil hcs z ?_ oq (fun y hy => ?_))
  · show H1[b + i]? = some (vp_cell _ _)
    rw [e]
    rw [vp_cell_i, vp_cell_i, arrV_store]
    congr 2
    funext q
    by_cases hq : q = k.toNatClampNeg
    · subst hq
      simp [updV, upd]
    · simp [updV, upd, hq]
  · rcases List.mem_append.mp hy with h | h
    · exact Or.inl h
    · right; rw [List.mem_singleton.mp h]
theorem gz_aast (X : gX cel Γ ad 0 own cc nL rt p s m args meth c) (B : gB Γ b n cs s H locs) {N' ci v : Nat} {r : vw_C} {vs : List Value} {f : Nat → Option Nat} (i iv : Nat) (hi : cs[i]? = some (.inl (Γ.2.2.1, N', .inr (.inr (.inr (.inr f)))))) (hty : (gT Γ)[1]? = some (Γ.2.2.1, .object r.1)) (hv : cs[iv]? = some (.inr (ci, vs))) (hva : b + iv = v) (hc : gCl[ci]? = some r) {k : Int32} (hin : vp_in k N') (hcs : cs.set i (.inl (Γ.2.2.1, N', .inr (.inr (.inr (.inr (va_up f k.toNatClampNeg (some v))))))) = cs') (hdg : decode cc pc = .ok (.aastore, 1))
    (kk : ∀ (H : Heap) (locs : List Loc), gB Γ b n cs' s H locs → W p l e R s m args below meth c H locs cells slots Q (F0 m (pc + 1) ls rest)) : W p l e R s m args below meth c H locs cells slots Q (F0 m pc ls (.ref v :: .int k :: .ref (b + i) :: rest)) := by
  subst hva
  have hil : i < cs.length := (List.getElem?_eq_some_iff.mp hi).1
  have hlt : k.toNatClampNeg < N' := Nat.not_le.mp fun q => hin (Or.inr q)
  have h0 : ¬ k < 0 := fun q => hin (Or.inl q)
  obtain ⟨r', hr', cellV, g1, g2, g3, -⟩ := B.2.2.1 iv _ hv
  have hcls := (X.K.1 ci r hc).2
  obtain ⟨kA, comp, k1, k2, k3, -⟩ := (X.K.2 1 _ hty).2
  have hcomp : comp = Γ.1.1 ci := Option.some.inj (k3.symm.trans hcls.1)
  subst hcomp
  obtain ⟨kC, hkC, -⟩ := hcls.2
  refine W.aast X.1 X.2.1 (B.2.2.1 i _ hi) (fun q h => by cases h) (fun h => by cases h) k1 k2 rfl hkC ⟨h0, by show _ < (arrV _ _ _).slots.size; rw [arrV_size]; exact hlt⟩ g1 (fun q h => by rw [g3] at h; cases h) (by rw [g2]; exact hkC) (by rw [g2]; exact va_assign hcls) rfl rfl hdg fun H1 e z oq => ?_
  refine kk H1 _ (B.set hil hcs z ?_ oq (fun y hy => ?_))
  · show H1[b + i]? = some (vp_cell _ _)
    rw [e]
    rw [vp_cell_q, vp_cell_q, arrV_store]
    congr 2
    funext q
    by_cases hq : q = k.toNatClampNeg
    · subst hq
      simp [updV, va_up, va_rf]
    · simp [updV, va_up, hq]
  · rcases List.mem_append.mp hy with h | h
    · exact Or.inl h
    · right; rw [List.mem_singleton.mp h]
theorem gz_alenq (X : gX cel Γ ad 0 own cc nL rt p s m args meth c) (B : gB Γ b n cs s H locs) {N' : Nat} {f : Nat → Option Nat} {C : String} (i : Nat) (hi : cs[i]? = some (.inl (Γ.2.2.1, N', .inr (.inr (.inr (.inr f)))))) (hty : (gT Γ)[1]? = some (Γ.2.2.1, .object C)) {v : Int32} (hv : Int32.ofNat N' = v) (hdg : decode cc pc = .ok (.arraylength, 1))
    (kk : W p l e R s m args below meth c H locs cells slots Q (F0 m (pc + 1) ls (.int v :: rest))) : W p l e R s m args below meth c H locs cells slots Q (F0 m pc ls (.ref (b + i) :: rest)) :=
  va_alen (D := Γ.1) (tys := gT Γ) (ty := .object C) X.1 X.2.1 X.K (B.one hi) 0 1 rfl hty hv hdg kk
/-- a static table's six numbers, copied whole into a row of six -/
theorem gz_copy6 (X : gX cel Γ ad 0 own cc nL rt p s m args meth c) (B : gB Γ b n cs s H locs) {idx t : Nat} {f : Nat → Int32} (hls : ls.size = nL) (hlink : Cond.methodLink own idx arraycopyName ∈ lwg) (hnat : Cond.native arraycopyName ∈ lwg) (hstat : Cond.static arraycopyName ∈ lwg) (hini : Cond.initialized "java/lang/System" ∈ lwg) (hT : va_T .int t 6 (fun j => .int (f j)) (fun q => b ≤ q) s s.heap)
    (i : Nat) {g : Nat → Int32} (hi : cs[i]? = some (.inl (Γ.2.1, 6, .inl g))) (hcs : cs.set i (.inl (Γ.2.1, 6, .inl (va_cpy f g 0 0 6))) = cs') (hframes : 1 ≤ R.frames) (hlocals : (rest.map fun v => v.category).sum + (nativeFrameWords "java/lang/System" "arraycopy" 5 + 11) ≤ R.locals) (hdg : decode cc pc = .ok (.invokestatic idx, 3))
    (kk : ∀ (H : Heap) (locs : List Loc), gB Γ b n cs' s H locs → W p l e R s m args below meth c H locs cells slots Q (F0 m (pc + 3) ls rest)) : W p l e R s m args below meth c H locs cells slots Q (F0 m pc ls (.int 6 :: .int 0 :: .ref (b + i) :: .int 0 :: .ref t :: rest)) := by
  intro T hT2 X2
  have hil : i < cs.length := (List.getElem?_eq_some_iff.mp hi).1
  obtain ⟨scr, hs1, hs2, hs3, hs4, hs4', hs5, hs8⟩ := hT
  have hc0 : H[t]? = some scr := by rw [B.2.2.2.2.1 t (Array.getElem?_eq_some_iff.mp hs1).1 hs8]; exact hs1
  have hc1 : H[b + i]? = some (vp_cell Γ.2.1 (6, .inl g)) := B.2.2.1 i _ hi
  obtain ⟨hs6, k0, hk0, cm0, hkk0⟩ := hs2
  obtain ⟨-, k1, hk1, cm1, hkk1⟩ := (X.K.2 0 _ rfl).1 6 (fun j => .int (g j))
  have e6 : (6 : Int32).toInt = 6 := rfl
  have e0 : (0 : Int32).toInt = 0 := rfl
  have n6 : (6 : Int32).toNatClampNeg = 6 := rfl
  have n0 : (0 : Int32).toNatClampNeg = 0 := rfl
  obtain ⟨vm', X', step⟩ := X2.arraycopy X.1 X.ow (X.w _ hlink) (X.w _ hnat) (X.w _ hstat) (X.w _ hini) (src := t) (dst := b + i) (cs := scr) (cd := vp_cell Γ.2.1 (6, .inl g)) (srcPos := 0) (destPos := 0) (n := 6) (by rw [hT2]; exact hc0) (by rw [hT2]; exact hc1)
    hs6 (fun _ h => by cases h) hs3 (fun h => by cases h) hk0 hk1 hkk0 hkk1 (by simp [refKind]) (by decide) (by decide) (by decide)
    (by rw [e0, e6]; omega)
    (by rw [e0, e6]; show ¬ _ > ((arrV Γ.2.1 6 (fun j => .int (g j))).slots.size : Int); rw [arrV_size]; omega)
    (fun vm₁ _ i hi => by
      rw [n6] at hi
      have e : scr.slots.getD ((0 : Int32).toNatClampNeg + i) .null = .int (f i) := by
        rw [Array.getD_eq_getD_getElem?, n0, Nat.zero_add, hs5 _ hi]
        rfl
      refine ⟨?_, ?_⟩
      · rw [e]
        rfl
      · rw [e]
        exact trivial)
    (g := F0 m pc ls (.int 6 :: .int 0 :: .ref (b + i) :: .int 0 :: .ref t :: rest)) rfl (by rw [X.ml]; exact hls) (rest := rest) rfl (by rw [X.2.1]; exact hdg) hframes (by show 2 * 0 + _ + _ ≤ _; omega)
  have e1 : copied scr (vp_cell Γ.2.1 (6, .inl g)) 0 0 6 = vp_cell Γ.2.1 (6, .inl (va_cpy f g 0 0 6)) := va_copiedX (fun z => .int z) scr Γ.2.1 f g hs5 (by decide)
  rw [e1] at X' step
  have hl : b + i < H.size := (Array.getElem?_eq_some_iff.mp hc1).1
  have hheap : ((T.setVm vm').setCell (b + i) (vp_cell Γ.2.1 (6, .inl (va_cpy f g 0 0 6)))).heap = H.setIfInBounds (b + i) (vp_cell Γ.2.1 (6, .inl (va_cpy f g 0 0 6))) := by rw [← hT2]; rfl
  obtain ⟨t2, a1, b1⟩ := kk _ _ (B.set hil hcs (H' := H.setIfInBounds (b + i) (vp_cell Γ.2.1 (6, .inl (va_cpy f g 0 0 6)))) (by simp) (show (H.setIfInBounds (b + i) _)[b + i]? = some _ by simp [Array.getElem?_setIfInBounds, hl]) (fun q hq => by simp [Array.getElem?_setIfInBounds, Ne.symm hq]) (fun y hy => by
      rcases List.mem_append.mp hy with h | h
      · exact Or.inl h
      · obtain ⟨z, -, hz⟩ := List.mem_map.mp h
        right; rw [← hz])) _ hheap X'
  exact ⟨t2, step t2 a1, b1⟩
theorem gz_tab (X : gX cel Γ ad 0 own cc nL rt p s m args meth c) (B : gB Γ b n cs s H locs) {nm : String} {f : Nat → Int32} {idx : Nat} (hT : gTab nm f (fun q => b ≤ q) s s.heap) (hlink : Cond.fieldLink own idx RX9 nm "[I" ∈ lwg) (hdg : decode cc pc = .ok (.getstatic idx, 3))
    (kk : ∀ t : Nat, va_T .int t 6 (fun j => .int (f j)) (fun q => b ≤ q) s s.heap → W p l e R s m args below meth c H locs cells slots Q (F0 m (pc + 3) ls (.ref t :: rest))) : W p l e R s m args below meth c H locs cells slots Q (F0 m pc ls rest) := by
  obtain ⟨t, h1, h2⟩ := hT
  exact va_gets X.1 X.2.1 h1 B.2.2.2 X.ow (X.w _ hlink) (fun _ h => h) hdg (kk t h2)
/-! ===== calls of constructors ===== -/
def gI0 (Γ : gG) (b : Nat) (e0 : va_E) (U : State) : Prop := U.heap.size = b + 1 ∧ va_at Γ.1 gCl (b, e0) U.heap ∧ va_K Γ.1 gCl (gT Γ) U ∧ gF (fun q => b ≤ q) U U.heap
def gK0 (Γ : gG) (b n : Nat) (cs : List va_E) (t : State) : Prop := cs.length = n ∧ t.heap.size = b + n ∧ ∀ i e, cs[i]? = some e → va_at Γ.1 gCl (b + i, e) t.heap
def gMk (l : Launch) (Γ : gG) (y : MethodName) (code : ByteArray) (nL : Nat) (rm : Room) (as : List Value) (b : Nat) (e0 : va_E) (n : Nat) (cs : List va_E) (mc ms : Nat) : Prop :=
  Met l y (gwm y code nL none) rm (va_Pc (.ref b :: as) (gI0 Γ b e0)) (va_Qv (fun _ : Unit => True) (fun _ t => gK0 Γ b n cs t) (fun q => b ≤ q)) mc ms (fun q => b ≤ q)
def gCI (y : MethodName) (code : ByteArray) (nL na : Nat) : Prop :=
  (y.cls ≠ "java/lang/invoke/MethodHandle" ∧ y.cls ≠ "java/lang/invoke/VarHandle" ∧ (parseMethodDescriptor y.desc).map (fun d => d.parameters.length) = some na) ∧ Cond.code y code nL none ∈ lwg ∧ Cond.initialized y.cls ∈ lwg ∧ Cond.instanceMethod y ∈ lwg ∧ y.name = "<init>"
theorem gI0_blind {b : Nat} {e0 : va_E} {as : List Value} : FrameBlind (va_Pc as (gI0 Γ b e0)) := by
  intro a U g mk q
  obtain ⟨q0, q1, qP, qK, qF⟩ := q
  exact ⟨q0, q1, qP, va_K.moved (u := U) (U := U.calling g mk a) (Vm.Alike.refl U.vm) qK, gF.warm (s := U) (U := U.calling g mk a) (State.WarmedH.refl U) qF⟩
theorem gzOf {y : MethodName} {code : ByteArray} {rm : Room} {as : List Value} {e0 : va_E} {mc ms : Nat} (own : String) (hy : plainName y.cls = true) (hown : y.cls = own) (hnm : y.name = "<init>") (hlen : (lg_sl (.ref b :: as)).length ≤ nL)
    (body : ∀ p e s m args below meth c H locs ls, gX celC Γ (fun q => q) 0 own code nL none p s m args meth c → meth.name = "<init>" → gF (fun q => b ≤ q) s s.heap → gB Γ b 1 [e0] s H locs → lv_has ls nL (lv_args 0 (.ref b :: as)) →
      W p l e rm s m args below meth c H locs 0 0 (MQ below (va_Qv (fun _ : Unit => True) (fun _ t => gK0 Γ b n cs t) (fun q => b ≤ q)) args s mc ms (fun q => b ≤ q)) (F0 m 0 ls [])) :
    gMk l Γ y code nL rm as b e0 n cs mc ms := by
  refine Met.ofW (cc := code) (maxL := nL) (ret := none) hy rfl ?_
  intro p e s m args below meth c s₁ B hml hv
  obtain ⟨rfl, hsz, hP, hK, hF⟩ := hv
  rw [lg_entry_eq]
  have hts := atoms_spec (ws := gwm y code nL none) B.pre
  refine body p e s m _ below meth c s.heap [] _ ⟨B.exec, B.bytes, hml, hown ▸ findClass_of_methodNamed B.named, fun w hw => hts w (List.mem_cons_of_mem _ hw), B.returns, B.notSynchronized, hK, fun _ _ h => by omega, hF.narrow (fun q hq => hq.elim (fun ⟨k, h, _⟩ => by omega) (fun h => by omega))⟩ ((name_of_methodNamed B.named B.method).1.trans hnm) hF ⟨rfl, hsz, fun i e hi => ?_, va_S.rf⟩ (lv_entry _ hlen)
  have hz : i < 1 := (List.getElem?_eq_some_iff.mp hi).1
  rw [show i = 0 by omega] at hi ⊢
  cases hi
  exact hP
theorem gz_retv {mc ms : Nat} (X : gX cel Γ ad 0 own cc nL none p s m args meth c) (B : gB Γ b n cs s H locs) (hdg : decode cc pc = .ok (.return_, 1)) (hc : cells ≤ mc) (hs : slots ≤ ms) : W p l e R s m args below meth c H locs cells slots (MQ below (va_Qv (fun _ : Unit => True) (fun _ t => gK0 Γ b n cs t) (fun q => b ≤ q)) args s mc ms (fun q => b ≤ q)) (F0 m pc ls []) :=
  W.widen hc hs (W.vret X.1 X.2.1 X.r (fun t ht _ => ⟨⟨(), rfl, trivial, B.1, by rw [ht]; exact B.2.1, by rw [ht]; exact B.2.2.1⟩, B.2.2.2.F ht⟩) B.2.2.2.2.2 hdg X.lk)
theorem gz_obj (X : gX cel Γ ad 0 own cc nL rt p s m args meth c) {idx : Nat} {a : Nat} (hls : ls.size = nL) (hlink : Cond.methodLink own idx Lib.objectInit ∈ lwg) (hinst : Cond.instanceMethod Lib.objectInit ∈ lwg) (hcode : Cond.code Lib.objectInit ⟨#[0xb1]⟩ 1 none ∈ lwg) (hframes : 1 ≤ R.frames) (hlocals : (rest.map fun v => v.category).sum + 12 ≤ R.locals) (hdg : decode cc pc = .ok (.invokespecial idx, 3))
    (kk : W p l e R s m args below meth c H locs cells slots Q (F0 m (pc + 3) ls rest)) : W p l e R s m args below meth c H locs cells slots Q (F0 m pc ls (.ref a :: rest)) :=
  W.objInit X.1 X.2.1 X.ow (X.w _ hlink) (X.w _ hinst) (X.w _ hcode) rfl (hls.trans X.ml.symm) rfl hdg hframes (by show 2 * 0 + _ + 12 ≤ _; omega) kk
/-- a constructor is called on the block's last cell, which was just made -/
theorem gz_call {y : MethodName} {code : ByteArray} {n' na idx mc ms k : Nat} {rm : Room} {As : List Value} {e0 : va_E} {pre res : List va_E} (X : gX cel Γ ad 0 own cc nL rt p s m args meth c) (hF : gF (fun q => b ≤ q) s s.heap) (B : gB Γ b (n + 1) (pre ++ [e0]) s H locs)
    (hM : gMk l Γ y code n' rm As (b + n) e0 k res mc ms) (hc : gCI y code n' na) (hw : Cond.methodLink own idx y ∈ lwg) (hn : As.length = na) (hst : st0 = As.reverse ++ .ref (b + n) :: rest) (hls : ls.size = nL) (hcat : (rest.map fun v => v.category).sum ≤ 8) (hR : gRoom rm R n' cells slots mc ms) (hcs : pre ++ res = cs') (hdg : decode cc pc = .ok (.invokespecial idx, 3))
    (kk : ∀ (H : Heap) (locs : List Loc), gB Γ b (n + k) cs' s H locs → W p l e R s m args below meth c H locs (cells + mc) (slots + ms) Q (F0 m (pc + 3) ls rest)) : W p l e R s m args below meth c H locs cells slots Q (F0 m pc ls st0) := by
  have hpl : pre.length = n := by have := B.1; rw [List.length_append] at this; simpa using this
  have hlast : (pre ++ [e0])[n]? = some e0 := by rw [List.getElem?_append_right (by omega), hpl, Nat.sub_self]; rfl
  have hsz : H.size = b + n + 1 := B.2.1
  have run : va_Run p l e R s m args below meth c H locs cells slots mc ms (F0 m pc ls st0) rest ((va_Qv (fun _ : Unit => True) (fun _ t => gK0 Γ (b + n) k res t) (fun q => b + n ≤ q)) (Value.ref (b + n) :: As).toArray) (fun q => b + n ≤ q) :=
    va_runI (As := As) (rest := rest) X.fix hM ⟨callB_of na X.w (gwm_in hc.2.1) rfl hR.1.1 hR.1.2 (X.w _ hc.2.2.1) (X.w _ hw) hc.1 hR.2.1, hc.2.2.2.2, X.w _ hc.2.2.2.1⟩
      ⟨gI0_blind, fun U hU hW => ⟨rfl, by rw [hU, hsz], by rw [hU]; exact B.2.2.1 n e0 hlast, va_K.moved hW.alike X.K, by rw [hU]; exact ((hF.kept B.2.2.2.2.1).narrow (fun q hq => by omega)).warm hW⟩⟩ rfl hn hls hst (lv_room (pc := pc) (ls := ls) (rest := st0) (m := m) hcat) hdg hR.2.2
  refine va_callv run B.2.2.2 (fun q _ hq => by omega) (fun q hq => by omega) (fun u t H1 locs1 ht _ _ hB hz hk hS => ?_)
  obtain ⟨b1, b2, b3⟩ := hB
  subst ht
  subst hcs
  refine kk _ _ ⟨by rw [List.length_append, hpl, b1], by omega, fun i e hi => ?_, hS⟩
  by_cases hin : i < n
  · rw [List.getElem?_append_left (by omega)] at hi
    have h1 : (pre ++ [e0])[i]? = some e := by rw [List.getElem?_append_left (by omega)]; exact hi
    exact (B.2.2.1 i e h1).kept (hk _ (by show b + i < _; omega) (by show ¬ b + n ≤ b + i; omega))
  · rw [List.getElem?_append_right (by omega), hpl] at hi
    have := b3 _ _ hi
    rw [show b + n + (i - n) = b + i by omega] at this
    exact this
end MAKE
