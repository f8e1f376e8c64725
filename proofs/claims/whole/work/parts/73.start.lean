/-! ===== the law's start ===== -/
theorem gStr_ok : ∀ q ∈ gStr, Cond.stringRef q.1 q.2.1 q.2.2 ∈ lw_tbl ∧ Cond.exactly (.string q.1 q.2.1) "java/lang/String" ∈ flatC (Jvm.Cond.and given_1 narrow_1) := by decide +kernel
theorem gBad_tb {w : Cond} (h : gBadOk w = true) : w.onTables = true := by
  cases w <;> first | rfl | (simp [gBadOk] at h; done)
theorem tab_el : ∀ j, j < 6 → Cond.eq (.elem (.static RX9 "SETTING_AT_FIRST" "[I") (.int (Int32.ofNat j))) (.int (gFirst j)) ∈ flatC (Jvm.Cond.and given_1 narrow_1) ∧ Cond.eq (.elem (.static RX9 "SETTING_FROM" "[I") (.int (Int32.ofNat j))) (.int (gFrom j)) ∈ flatC (Jvm.Cond.and given_1 narrow_1) ∧ Cond.eq (.elem (.static RX9 "SETTING_TO" "[I") (.int (Int32.ofNat j))) (.int (gTo j)) ∈ flatC (Jvm.Cond.and given_1 narrow_1) := by decide +kernel
theorem tab_mk {n : String} {f : Nat → Int32} {b : Nat} {s : State} (hgv : ∀ c ∈ flatC (Jvm.Cond.and given_1 narrow_1), c.before #[Value.ref b] s = true) (hls : (Cond.laysStatic RX9 n "[I").before #[Value.ref b] s = true) (hini : (Cond.initialized RX9).before #[Value.ref b] s = true) (ha : Cond.arrayOf (.static RX9 n "[I") .int ∈ flatC (Jvm.Cond.and given_1 narrow_1)) (hn : Cond.eq (.length (.static RX9 n "[I")) (.int (Int32.ofNat 6)) ∈ flatC (Jvm.Cond.and given_1 narrow_1)) (he : ∀ j, j < 6 → Cond.eq (.elem (.static RX9 n "[I") (.int (Int32.ofNat j))) (.int (f j)) ∈ flatC (Jvm.Cond.and given_1 narrow_1)) : gTab n f (fun q => s.heap.size ≤ q) s s.heap := by
  have hA : ∀ a : Nat, a < s.heap.size → ¬ (fun q => s.heap.size ≤ q) a := fun a ha => Nat.not_le.mpr ha
  obtain ⟨t, ht, hT⟩ := va_Tof (f := fun j => .int (f j)) (A := fun q => s.heap.size ≤ q) (N := 6) (by decide) (hgv _ ha) (va_eqt (hgv _ hn)) (fun j hj => va_eqt (hgv _ (he j hj))) hA
  exact ⟨t, va_Zof hls hini ht hA, hT⟩
theorem gF0 {b : Nat} {s : State} (hts : ∀ w ∈ lw_tbl, w.before #[Value.ref b] s = true) (hgv : (Jvm.Cond.and given_1 narrow_1).before #[Value.ref b] s = true) : gF (fun q => s.heap.size ≤ q) s s.heap := by
  have hg := flat_of_before _ hgv
  have hA : ∀ a : Nat, a < s.heap.size → ¬ (fun q => s.heap.size ≤ q) a := fun a ha => Nat.not_le.mpr ha
  have tb : ∀ w ∈ tables_1, w.before #[Value.ref b] s = true := fun w h => hts w (List.mem_append_right _ h)
  have at_ : ∀ (i : Nat) (w : Cond), lw_tbl[i]? = some w → w.before #[Value.ref b] s = true := fun i w h => hts w (List.mem_of_getElem? h)
  refine ⟨fun w hw => va_Nw.of (gBad_tb (List.mem_filter.mp hw).2) (tb w (List.mem_filter.mp hw).1), vx_Zqof (at_ 378 _ (by decide +kernel)) (at_ 72 _ (by decide +kernel)) (hg _ (by decide +kernel)) hA, vx_Zqof (at_ 380 _ (by decide +kernel)) (at_ 72 _ (by decide +kernel)) (hg _ (by decide +kernel)) hA, fun q hq => ?_,
    tab_mk hg (at_ 100 _ (by decide +kernel)) (at_ 61 _ (by decide +kernel)) (by decide +kernel) (by decide +kernel) (fun j hj => (tab_el j hj).1), tab_mk hg (at_ 501 _ (by decide +kernel)) (at_ 61 _ (by decide +kernel)) (by decide +kernel) (by decide +kernel) (fun j hj => (tab_el j hj).2.1), tab_mk hg (at_ 503 _ (by decide +kernel)) (at_ 61 _ (by decide +kernel)) (by decide +kernel) (by decide +kernel) (fun j hj => (tab_el j hj).2.2)⟩
  obtain ⟨h1, h2⟩ := gStr_ok q hq
  obtain ⟨a, c, cA, kA, q1, -⟩ := Cond.exactly_spec (args := #[Value.ref b]) (first := s) (o := none) (s := s) (idx := []) (hg _ h2)
  exact ⟨a, vk_R.of (hts _ h1) q1⟩
theorem K0 {b : Nat} {s : State} (hts : ∀ w ∈ lw_tbl, w.before #[Value.ref b] s = true) (hw : ∀ w ∈ lwg, w.before #[Value.ref b] s = true) : ∃ (Γ : gG) (cD : Nat), va_K Γ.1 gCl (gT Γ) s ∧ ArrOfT s cD .double ∧ s.vm.findClass ("[" ++ FieldType.double.toString) = some cD ∧ va_AO RX3 s := by
  obtain ⟨c0, i0, h0⟩ := u_known hw inX0 (hw _ ins_X0)
  obtain ⟨c1, i1, h1⟩ := u_known hw inX1 (hw _ ins_X1)
  obtain ⟨c2, i2, h2⟩ := u_known hw inX2 (hw _ ins_X2)
  obtain ⟨c3, i3, h3⟩ := u_known hw inX3 (hw _ ins_X3)
  obtain ⟨c4, i4, h4⟩ := u_known hw inX4 (hw _ ins_X4)
  obtain ⟨c5, i5, h5⟩ := u_known hw inX5 (hw _ ins_X5)
  obtain ⟨c6, i6, h6⟩ := u_known hw inX6 (hw _ ins_X6)
  obtain ⟨c7, i7, h7⟩ := u_known hw inX7 (hw _ ins_X7)
  obtain ⟨c8, i8, h8⟩ := u_known hw inX8 (hw _ ins_X8)
  obtain ⟨c9, i9, h9⟩ := u_known hw inX9 (hw _ ins_X9)
  obtain ⟨c10, i10, h10⟩ := u_known hw inX10 (hw _ ins_X10)
  obtain ⟨dC, dI, hKc⟩ : ∃ (dC : Nat → ClassId) (dI : Nat → Nat → Nat), ∀ (k : Nat) (q : vw_C), gCl[k]? = some q → u_Kn s q.1 q.2.1 q.2.2 (dC k) (dI k) := by
    refine ⟨fun k => match k with | 0 => c0 | 1 => c1 | 2 => c2 | 3 => c3 | 4 => c4 | 5 => c5 | 6 => c6 | 7 => c7 | 8 => c8 | 9 => c9 | _ => c10, fun k => match k with | 0 => i0 | 1 => i1 | 2 => i2 | 3 => i3 | 4 => i4 | 5 => i5 | 6 => i6 | 7 => i7 | 8 => i8 | 9 => i9 | _ => i10, ?_⟩
    intro k q hq
    match k, hq with
    | 0, hq => cases hq; exact h0
    | 1, hq => cases hq; exact h1
    | 2, hq => cases hq; exact h2
    | 3, hq => cases hq; exact h3
    | 4, hq => cases hq; exact h4
    | 5, hq => cases hq; exact h5
    | 6, hq => cases hq; exact h6
    | 7, hq => cases hq; exact h7
    | 8, hq => cases hq; exact h8
    | 9, hq => cases hq; exact h9
    | 10, hq => cases hq; exact h10
    | k + 11, hq => simp [gCl] at hq
  obtain ⟨cI, kI, pI, a1, a2, a3⟩ := Cond.arrayClass_spec (args := #[Value.ref b]) (first := s) (o := none) (s := s) (idx := []) (hw (.arrayClass .int) (gq 119 (by decide +kernel) rfl))
  obtain ⟨cL, kL, pL, b1, b2, b3⟩ := Cond.arrayClass_spec (args := #[Value.ref b]) (first := s) (o := none) (s := s) (idx := []) (hw (.arrayClass .long) (gq 1635 (by decide +kernel) rfl))
  obtain ⟨cD, kD, pD, d1, d2, d3⟩ := Cond.arrayClass_spec (args := #[Value.ref b]) (first := s) (o := none) (s := s) (idx := []) (hw (.arrayClass .double) (gq 1636 (by decide +kernel) rfl))
  have hO := hts (.arrayOver (.object RX3)) (List.mem_of_getElem? (i := 227) (by decide +kernel))
  obtain ⟨pF, cF, kF, e1, -, e3, e4, e5⟩ := Cond.arrayOver_spec (args := #[Value.ref b]) (first := s) (o := none) (s := s) (idx := []) hO
  refine ⟨((dC, dI), cI, cF, cL), cD, ⟨hKc, fun k q hk => ?_⟩, fun n z => ⟨fun k h => (by cases h), kD, d2, pD, d3⟩, d1, va_AO.of hO⟩
  match k, hk with
  | 0, hk => cases hk; exact ⟨fun n z => ⟨fun k h => (by cases h), kI, a2, pI, a3⟩, a1⟩
  | 1, hk => cases hk; exact ⟨fun n z => ⟨fun k h => (by cases h), kF, e3, pF, e4⟩, kF, pF, e3, e4, e1, e5⟩
  | 2, hk => cases hk; exact ⟨fun n z => ⟨fun k h => (by cases h), kL, b2, pL, b3⟩, b1⟩
  | k + 3, hk => simp [gT] at hk
theorem clLn_8 : Cond.classLink RL 8 RX9 ∈ lwg := gq 85 (by decide +kernel) rfl
theorem clLn_108 : Cond.classLink RL 108 RX10 ∈ lwg := gq 1268 (by decide +kernel) rfl
theorem wac_l : Cond.arrayClass .long ∈ lwg := gq 1635 (by decide +kernel) rfl
theorem wac_d : Cond.arrayClass .double ∈ lwg := gq 1636 (by decide +kernel) rfl
section START
variable {l : Launch} {cel : gCell} {Γ : gG} {ad : Nat → Nat} {own : String} {cc : ByteArray} {nL : Nat} {rt : Option FieldType} {p : Program} {e : Env} {R : Room} {s : State} {m : MethodId} {args : Array Value} {below : List Frame} {meth : Method} {c : Code} {H : Heap} {locs : List Loc} {cells slots : Nat} {Q : State → Prop} {pc : Nat} {ls : Array Slot} {rest st0 : List Value} {b n : Nat} {cs cs' : List va_E}
theorem gz_newl (X : gX cel Γ ad 0 own cc nL rt p s m args meth c) (B : gB Γ b n cs s H locs) (hcells : cells + 1 ≤ R.cells) (hslots : slots + 1 ≤ R.slots) (hdg : decode cc pc = .ok (.newarray .long, 2))
    (kk : ∀ (H : Heap) (locs : List Loc), gB Γ b (n + 1) (cs ++ [.inl (Γ.2.2.2, 1, .inr (.inl (fun _ => 0)))]) s H locs → W p l e R s m args below meth c H locs (cells + 1) (slots + 1) Q (F0 m (pc + 2) ls (.ref (b + n) :: rest))) : W p l e R s m args below meth c H locs cells slots Q (F0 m pc ls (.int 1 :: rest)) := by
  refine va_newaK (atype := .long) (N := 1) X.1 X.2.1 (X.w _ wac_l) rfl hdg rfl (by decide) rfl (by decide) hcells hslots (h := b + n) B.2.1 fun H1 cA e1 z1 o1 hAr hNm => ?_
  have hcA : cA = Γ.2.2.2 := Option.some.inj (hNm.symm.trans ((X.K.2 2 _ rfl).2))
  subst hcA
  refine kk H1 locs (B.push rfl (by rw [z1, B.2.1]) ?_ (fun q hq => o1 q (by rw [← B.2.1]; exact hq)))
  exact e1
theorem gz_newd {cD : Nat} (X : gX cel Γ ad 0 own cc nL rt p s m args meth c) (hD : s.vm.findClass ("[" ++ FieldType.double.toString) = some cD) (B : gB Γ b n cs s H locs) (hcells : cells + 1 ≤ R.cells) (hslots : slots + 1 ≤ R.slots) (hdg : decode cc pc = .ok (.newarray .double, 2))
    (kk : ∀ (H : Heap) (locs : List Loc), gB Γ b (n + 1) (cs ++ [.inl (cD, 1, .inr (.inr (.inr (.inl (fun _ => 0)))))]) s H locs → W p l e R s m args below meth c H locs (cells + 1) (slots + 1) Q (F0 m (pc + 2) ls (.ref (b + n) :: rest))) : W p l e R s m args below meth c H locs cells slots Q (F0 m pc ls (.int 1 :: rest)) := by
  refine va_newaK (atype := .double) (N := 1) X.1 X.2.1 (X.w _ wac_d) rfl hdg rfl (by decide) rfl (by decide) hcells hslots (h := b + n) B.2.1 fun H1 cA e1 z1 o1 hAr hNm => ?_
  have hcA : cA = cD := Option.some.inj (hNm.symm.trans hD)
  subst hcA
  refine kk H1 locs (B.push rfl (by rw [z1, B.2.1]) ?_ (fun q hq => o1 q (by rw [← B.2.1]; exact hq)))
  exact e1
end START
