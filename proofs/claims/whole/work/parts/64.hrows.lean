/-! ===== the law's helpers: a call of the class, its throws caught ===== -/
def gNcL : List (String × String) := [("java/lang/ArithmeticException", "java/lang/IndexOutOfBoundsException"), ("java/lang/IllegalArgumentException", "java/lang/IndexOutOfBoundsException"), ("java/lang/IllegalStateException", "java/lang/IndexOutOfBoundsException"), ("java/lang/UnsupportedOperationException", "java/lang/IllegalArgumentException"), ("java/lang/UnsupportedOperationException", "java/lang/IndexOutOfBoundsException"), ("java/util/NoSuchElementException", "java/lang/IndexOutOfBoundsException")]
def gNC (U : State) : Prop := ∀ q ∈ gNcL, va_Nc q.1 q.2 U
theorem gNC.moved {u U : State} (hvm : u.vm.Alike U.vm) (h : gNC u) : gNC U := fun q hq => va_Nc.moved hvm (h q hq)
theorem gNC_giv : ∀ q ∈ gNcL, Cond.not (.castable q.1 q.2) ∈ flatC (Jvm.Cond.and given_1 narrow_1) := by decide +kernel
def hPc (Γ : gG) (ad : Nat → Nat) (σ : gSt) (as : List Value) (sz : Nat) : Array Value → State → Prop := va_Pc as (fun U => gI celC Γ ad 202 sz σ U ∧ gNC U)
abbrev gwmH (y : MethodName) (b : ByteArray) (n : Nat) (rt : Option FieldType) (hh : List (Nat × Nat × Nat × Nat)) : List Cond := .codeWith y b n rt hh :: lwg
theorem gwmH_in {y : MethodName} {b : ByteArray} {n : Nat} {rt : Option FieldType} {hh : List (Nat × Nat × Nat × Nat)} (h : Cond.codeWith y b n rt hh ∈ lwg) : GoodIn lwg (gwmH y b n rt hh) := fun w hw => (List.mem_cons.mp hw).elim (fun e => lwg_good w (e ▸ h)) (lwg_good w)
theorem hPc_blind {Γ : gG} {ad : Nat → Nat} {σ : gSt} {as : List Value} {sz : Nat} : FrameBlind (hPc Γ ad σ as sz) := by
  intro a U g mk q
  obtain ⟨q0, ⟨q1, qP, qK, qI, qF⟩, qN⟩ := q
  exact ⟨q0, ⟨q1, qP, va_K.moved (u := U) (U := U.calling g mk a) (Vm.Alike.refl U.vm) qK, qI, gF.warm (s := U) (U := U.calling g mk a) (State.WarmedH.refl U) qF⟩, gNC.moved (u := U) (U := U.calling g mk a) (Vm.Alike.refl U.vm) qN⟩
theorem gOfH {l : Launch} {Γ : gG} {ad : Nat → Nat} {y : MethodName} {b : ByteArray} {n : Nat} {rt : Option FieldType} {rm : Room} {as : List Value} {σ : gSt} {Qc : Nat → Array Value → State → Outcome → State → Prop} {sz mc ms : Nat} {hh : List (Nat × Nat × Nat × Nat)} {fr : Nat → Nat → Prop} {E : Nat → State → Prop} (own : String) (hy : plainName y.cls = true) (hown : y.cls = own) (hlen : (lg_sl as).length ≤ n)
    (body : ∀ p e s m args below meth c H locs ls, gX celC Γ ad 202 own b n rt p s m args meth c → gNC s → c.exceptionTable.toList = tableOf hh → gS celC Γ ad 202 σ s H locs → H = s.heap → locs = [] → E s.heap.size s → lv_has ls n (lv_args 0 as) →
      W p l e rm s m args below meth c H locs 0 0 (MQ below (Qc s.heap.size) args s mc ms (fr s.heap.size)) (F0 m 0 ls [])) :
    Met l y (gwmH y b n rt hh) rm (fun a U => hPc Γ ad σ as sz a U ∧ E sz U) (Qc sz) mc ms (fr sz) := by
  refine MetFree.of_bodyS (code := b) (maxLocals := n) (ret := rt) hy ?_ ?_
  · intro args s m h hn
    obtain ⟨m9, meth, c, hn9, h1, h2, h3, h4, -, h5, h6, -⟩ := Cond.codeWith_spec (atoms_spec (ws := gwmH y b n rt hh) h _ List.mem_cons_self)
    cases hn.symm.trans hn9
    exact ⟨meth, c, h1, h2, h3, h4, h5, h6⟩
  · intro p e s m args below meth c s₁ B hml hP _
    obtain ⟨⟨rfl, ⟨rfl, hP, hK, hI, hF⟩, hN⟩, hE⟩ := hP
    have hh0 : s₁.heap = s.heap := by rw [B.state]; rfl
    have hts := atoms_spec (ws := gwmH y b n rt hh) B.pre
    have key := body p e s m _ below meth c s.heap [] _ ⟨B.exec, B.bytes, hml, hown ▸ findClass_of_methodNamed B.named, fun w hw => hts w (List.mem_cons_of_mem _ hw), B.returns, B.notSynchronized, hK, hI, hF⟩ hN (vx_table (x := y) B (hts _ List.mem_cons_self)) ⟨hP, va_S.rf⟩ rfl rfl hE (lv_entry as hlen)
    rw [← lg_entry_eq] at key
    obtain ⟨t, a1, o, b1, b2, b3⟩ := key s₁ hh0 (Stand.of_body B)
    exact ⟨t, o, a1, b1, b2, ⟨b3.1, b3.2⟩⟩
section HROWS
variable {l : Launch} {Γ : gG} {ad : Nat → Nat} {own : String} {cc : ByteArray} {nL : Nat} {rt : Option FieldType} {p : Program} {e : Env} {R : Room} {s : State} {m : MethodId} {args : Array Value} {below : List Frame} {meth : Method} {c : Code} {H : Heap} {locs : List Loc} {cells slots : Nat} {Q : State → Prop} {pc : Nat} {ls : Array Slot} {rest st0 : List Value} {σ : gSt}
theorem h_last (X : gX celC Γ ad 202 own cc nL rt p s m args meth c) (S : gS celC Γ ad 202 σ s H locs) {x : Int32} (hdg : decode cc pc = .ok (.lastore, 1))
    (kk : ∀ (H : Heap) (locs : List Loc), gS celC Γ ad 202 (up2 σ 201 0 x) s H locs → W p l e R s m args below meth c H locs cells slots Q (F0 m (pc + 1) ls rest)) : W p l e R s m args below meth c H locs cells slots Q (F0 m pc ls (.long x.toInt64 :: .int 0 :: .ref (ad 201) :: rest)) := by
  refine va_last (D := Γ.1) (tys := gT Γ) X.1 X.2.1 X.K S.1 (gD_of X.I) S.2 201 2 (gws_e (by decide) (ceC_30 kd_s201 _)) rfl (by rintro (h | h) <;> revert h <;> decide) hdg (fun H1 locs1 hP _ hS => kk H1 locs1 ⟨?_, hS⟩)
  rw [gws_set (by decide) (upd (σ 201) 0 x) ?_] at hP
  · exact hP
  · rw [ceC_30 kd_s201]
    have e : (fun j => (upd (σ 201) 0 x j).toInt64) = vp_updL (fun j => (σ 201 j).toInt64) ((0 : Int32).toNatClampNeg) x.toInt64 := funext fun j => by
      have n0 : (0 : Int32).toNatClampNeg = 0 := rfl
      by_cases h : j = 0
      · subst h; rfl
      · simp [vp_updL, upd, h, n0]
    rw [e]
theorem h_reti {ty : FieldType} {r : Int32} {mc ms : Nat} (X : gX celC Γ ad 202 own cc nL (some ty) p s m args meth c) (S : gS celC Γ ad 202 σ s H locs) (hn : narrow ty (.int r) = .int r) (hdg : decode cc pc = .ok (.ireturn, 1)) (hc : cells ≤ mc) (hs : slots ≤ ms) : W p l e R s m args below meth c H locs cells slots (MQ below (gQci celC Γ ad 202 r σ s.heap.size) args s mc ms (gA ad 202 s.heap.size)) (F0 m pc ls [.int r]) :=
  W.widen hc hs (W.zret (v := r) X.1 X.2.1 X.r hn (fun t ht _ => ⟨⟨r, (), rfl, rfl, by subst ht; exact S.1⟩, S.2.F ht⟩) S.2.2.2 hdg X.lk)
theorem h_catch (X : gX celC Γ ad 202 own cc nL rt p s m args meth c) (hN : gNC s) {name E : String} {ce : Cell} {q : Addr} (pre : List ExceptionTableEntry) (x : ExceptionTableEntry) (suf : List ExceptionTableEntry) (hsplit : c.exceptionTable.toList = pre ++ x :: suf)
    (hpass : ∀ z ∈ pre, covers z pc = false ∨ (z.catchType ≠ 0 ∧ ∃ nm : String, Cond.classLink own z.catchType nm ∈ lwg ∧ (E, nm) ∈ gNcL)) (hx : covers x pc = true) (h0 : x.catchType ≠ 0) (hlink : Cond.classLink own x.catchType name ∈ lwg) (hcast : Cond.castable E name ∈ gBad) (hcell : H[q]? = some ce) (hv : ce.vm = .none) (hcl : s.vm.findClass E = some ce.cls)
    (kk : W p l e R s m args below meth c H locs cells slots Q (F0 m x.handlerPc ls [.ref q])) : vx_W p l e R s m args below meth c H locs cells slots Q (F0 m pc ls rest) q :=
  vx_catch X.ow pre x suf hsplit (fun z hz => (hpass z hz).elim Or.inl (fun ⟨h1, nm, h2, h3⟩ => Or.inr ⟨h1, nm, X.w _ h2, hN _ h3⟩)) hx h0 (X.w _ hlink) (va_Nw.use (gBad_on hcast) (X.F.1 _ hcast)) hcell hv hcl kk
end HROWS

theorem clL_13 : Cond.classLink RL 13 "java/lang/IllegalArgumentException" ∈ lwg := gq 345 (by decide +kernel) rfl
theorem clL_15 : Cond.classLink RL 15 "java/lang/UnsupportedOperationException" ∈ lwg := gq 346 (by decide +kernel) rfl
theorem clL_25 : Cond.classLink RL 25 "java/lang/IndexOutOfBoundsException" ∈ lwg := gq 517 (by decide +kernel) rfl
theorem clL_27 : Cond.classLink RL 27 "java/lang/IllegalStateException" ∈ lwg := gq 541 (by decide +kernel) rfl
theorem clL_73 : Cond.classLink RL 73 "java/util/NoSuchElementException" ∈ lwg := gq 1032 (by decide +kernel) rfl
theorem clL_88 : Cond.classLink RL 88 "java/lang/ArithmeticException" ∈ lwg := gq 1107 (by decide +kernel) rfl
theorem cst_6 : Cond.castable "java/lang/ArithmeticException" "java/lang/ArithmeticException" ∈ gBad := gb 1059 (by decide +kernel) rfl
theorem cst_1 : Cond.castable "java/lang/IllegalArgumentException" "java/lang/IllegalArgumentException" ∈ gBad := gb 293 (by decide +kernel) rfl
theorem cst_4 : Cond.castable "java/lang/IllegalStateException" "java/lang/IllegalStateException" ∈ gBad := gb 517 (by decide +kernel) rfl
theorem cst_3 : Cond.castable "java/lang/IndexOutOfBoundsException" "java/lang/IndexOutOfBoundsException" ∈ gBad := gb 492 (by decide +kernel) rfl
theorem cst_2 : Cond.castable "java/lang/UnsupportedOperationException" "java/lang/UnsupportedOperationException" ∈ gBad := gb 393 (by decide +kernel) rfl
theorem cst_5 : Cond.castable "java/util/NoSuchElementException" "java/util/NoSuchElementException" ∈ gBad := gb 980 (by decide +kernel) rfl
